section
-- ===== PART A: goes FIRST, ahead of the names: the tables' words, and 'selects' of the private methods out of them =====
/-- a private method of a class that the tables say can be made, by its rows of tables_1 -/
def lw_okq (q : MethodName × Nat) : Prop := (q.1.cls ≠ "java/lang/invoke/MethodHandle" ∧ q.1.cls ≠ "java/lang/invoke/VarHandle") ∧ Cond.instantiable q.1.cls q.2 ∈ tables_1 ∧ Cond.privateMethod q.1 ∈ tables_1 ∧ Cond.instanceMethod q.1 ∈ tables_1
theorem lw_p0 : lw_okq (⟨"StoneWall$Search", "begin", "()V"⟩, 8) := ⟨⟨by decide +kernel, by decide +kernel⟩, List.mem_of_getElem? (i := 176) (by decide +kernel), List.mem_of_getElem? (i := 320) (by decide +kernel), List.mem_of_getElem? (i := 321) (by decide +kernel)⟩
theorem lw_p1 : lw_okq (⟨"StoneWall$Search", "nextToTry", "(I)I"⟩, 8) := ⟨⟨by decide +kernel, by decide +kernel⟩, List.mem_of_getElem? (i := 176) (by decide +kernel), List.mem_of_getElem? (i := 332) (by decide +kernel), List.mem_of_getElem? (i := 333) (by decide +kernel)⟩
theorem lw_p2 : lw_okq (⟨"StoneWall$Search", "endsWell", "(I)Z"⟩, 8) := ⟨⟨by decide +kernel, by decide +kernel⟩, List.mem_of_getElem? (i := 176) (by decide +kernel), List.mem_of_getElem? (i := 343) (by decide +kernel), List.mem_of_getElem? (i := 344) (by decide +kernel)⟩
theorem lw_p3 : lw_okq (⟨"StoneWall$Search", "takeUp", "()I"⟩, 8) := ⟨⟨by decide +kernel, by decide +kernel⟩, List.mem_of_getElem? (i := 176) (by decide +kernel), List.mem_of_getElem? (i := 348) (by decide +kernel), List.mem_of_getElem? (i := 349) (by decide +kernel)⟩
theorem lw_p4 : lw_okq (⟨"StoneWall$Search", "jointAt", "(I)I"⟩, 8) := ⟨⟨by decide +kernel, by decide +kernel⟩, List.mem_of_getElem? (i := 176) (by decide +kernel), List.mem_of_getElem? (i := 356) (by decide +kernel), List.mem_of_getElem? (i := 357) (by decide +kernel)⟩
theorem lw_p5 : lw_okq (⟨"StoneWall$Search", "lay", "(I)V"⟩, 8) := ⟨⟨by decide +kernel, by decide +kernel⟩, List.mem_of_getElem? (i := 176) (by decide +kernel), List.mem_of_getElem? (i := 360) (by decide +kernel), List.mem_of_getElem? (i := 361) (by decide +kernel)⟩
theorem lw_p6 : lw_okq (⟨"StoneWall$Search", "hasThroughsAsked", "()Z"⟩, 8) := ⟨⟨by decide +kernel, by decide +kernel⟩, List.mem_of_getElem? (i := 176) (by decide +kernel), List.mem_of_getElem? (i := 368) (by decide +kernel), List.mem_of_getElem? (i := 369) (by decide +kernel)⟩
theorem lw_p7 : lw_okq (⟨"StoneWall$Carrying", "weight", "(I)J"⟩, 10) := ⟨⟨by decide +kernel, by decide +kernel⟩, List.mem_of_getElem? (i := 208) (by decide +kernel), List.mem_of_getElem? (i := 402) (by decide +kernel), List.mem_of_getElem? (i := 403) (by decide +kernel)⟩
theorem lw_p8 : lw_okq (⟨"StoneWall$Carrying", "leastWays", "(II)J"⟩, 10) := ⟨⟨by decide +kernel, by decide +kernel⟩, List.mem_of_getElem? (i := 208) (by decide +kernel), List.mem_of_getElem? (i := 406) (by decide +kernel), List.mem_of_getElem? (i := 407) (by decide +kernel)⟩
theorem lw_p9 : lw_okq (⟨"StoneWall$Carrying", "supply", "(I)I"⟩, 10) := ⟨⟨by decide +kernel, by decide +kernel⟩, List.mem_of_getElem? (i := 208) (by decide +kernel), List.mem_of_getElem? (i := 411) (by decide +kernel), List.mem_of_getElem? (i := 412) (by decide +kernel)⟩
theorem lw_p10 : lw_okq (⟨"StoneWall$Carrying", "findSwaps", "()V"⟩, 10) := ⟨⟨by decide +kernel, by decide +kernel⟩, List.mem_of_getElem? (i := 208) (by decide +kernel), List.mem_of_getElem? (i := 415) (by decide +kernel), List.mem_of_getElem? (i := 416) (by decide +kernel)⟩
theorem lw_p11 : lw_okq (⟨"StoneWall$Carrying", "weighSwaps", "(II)V"⟩, 10) := ⟨⟨by decide +kernel, by decide +kernel⟩, List.mem_of_getElem? (i := 208) (by decide +kernel), List.mem_of_getElem? (i := 419) (by decide +kernel), List.mem_of_getElem? (i := 420) (by decide +kernel)⟩
theorem lw_p12 : lw_okq (⟨"StoneWall$Carrying", "way", "(II)I"⟩, 10) := ⟨⟨by decide +kernel, by decide +kernel⟩, List.mem_of_getElem? (i := 208) (by decide +kernel), List.mem_of_getElem? (i := 423) (by decide +kernel), List.mem_of_getElem? (i := 424) (by decide +kernel)⟩
theorem lw_p13 : lw_okq (⟨"StoneWall$Carrying", "findChains", "(I)V"⟩, 10) := ⟨⟨by decide +kernel, by decide +kernel⟩, List.mem_of_getElem? (i := 208) (by decide +kernel), List.mem_of_getElem? (i := 430) (by decide +kernel), List.mem_of_getElem? (i := 431) (by decide +kernel)⟩
theorem lw_p14 : lw_okq (⟨"StoneWall$Carrying", "lengthenChains", "(I)V"⟩, 10) := ⟨⟨by decide +kernel, by decide +kernel⟩, List.mem_of_getElem? (i := 208) (by decide +kernel), List.mem_of_getElem? (i := 434) (by decide +kernel), List.mem_of_getElem? (i := 435) (by decide +kernel)⟩
theorem lw_p15 : lw_okq (⟨"StoneWall$Carrying", "cheapestGiver", "()I"⟩, 10) := ⟨⟨by decide +kernel, by decide +kernel⟩, List.mem_of_getElem? (i := 208) (by decide +kernel), List.mem_of_getElem? (i := 438) (by decide +kernel), List.mem_of_getElem? (i := 439) (by decide +kernel)⟩
def lw_privs_1 : List (MethodName × Nat) := [(⟨"StoneWall$Search", "begin", "()V"⟩, 8), (⟨"StoneWall$Search", "nextToTry", "(I)I"⟩, 8), (⟨"StoneWall$Search", "endsWell", "(I)Z"⟩, 8), (⟨"StoneWall$Search", "takeUp", "()I"⟩, 8), (⟨"StoneWall$Search", "jointAt", "(I)I"⟩, 8), (⟨"StoneWall$Search", "lay", "(I)V"⟩, 8), (⟨"StoneWall$Search", "hasThroughsAsked", "()Z"⟩, 8), (⟨"StoneWall$Carrying", "weight", "(I)J"⟩, 10), (⟨"StoneWall$Carrying", "leastWays", "(II)J"⟩, 10), (⟨"StoneWall$Carrying", "supply", "(I)I"⟩, 10), (⟨"StoneWall$Carrying", "findSwaps", "()V"⟩, 10), (⟨"StoneWall$Carrying", "weighSwaps", "(II)V"⟩, 10), (⟨"StoneWall$Carrying", "way", "(II)I"⟩, 10), (⟨"StoneWall$Carrying", "findChains", "(I)V"⟩, 10), (⟨"StoneWall$Carrying", "lengthenChains", "(I)V"⟩, 10), (⟨"StoneWall$Carrying", "cheapestGiver", "()I"⟩, 10)]
theorem lw_r1 : ∀ q ∈ lw_privs_1, lw_okq q := List.forall_mem_cons.mpr ⟨lw_p0, List.forall_mem_cons.mpr ⟨lw_p1, List.forall_mem_cons.mpr ⟨lw_p2, List.forall_mem_cons.mpr ⟨lw_p3, List.forall_mem_cons.mpr ⟨lw_p4, List.forall_mem_cons.mpr ⟨lw_p5, List.forall_mem_cons.mpr ⟨lw_p6, List.forall_mem_cons.mpr ⟨lw_p7, List.forall_mem_cons.mpr ⟨lw_p8, List.forall_mem_cons.mpr ⟨lw_p9, List.forall_mem_cons.mpr ⟨lw_p10, List.forall_mem_cons.mpr ⟨lw_p11, List.forall_mem_cons.mpr ⟨lw_p12, List.forall_mem_cons.mpr ⟨lw_p13, List.forall_mem_cons.mpr ⟨lw_p14, List.forall_mem_cons.mpr ⟨lw_p15, fun _ h => absurd h List.not_mem_nil⟩⟩⟩⟩⟩⟩⟩⟩⟩⟩⟩⟩⟩⟩⟩⟩
theorem lw_p16 : lw_okq (⟨"StoneWall$Carrying", "followChain", "(II)V"⟩, 10) := ⟨⟨by decide +kernel, by decide +kernel⟩, List.mem_of_getElem? (i := 208) (by decide +kernel), List.mem_of_getElem? (i := 442) (by decide +kernel), List.mem_of_getElem? (i := 443) (by decide +kernel)⟩
theorem lw_p17 : lw_okq (⟨"StoneWall$Carrying", "nearestWith", "(II)I"⟩, 10) := ⟨⟨by decide +kernel, by decide +kernel⟩, List.mem_of_getElem? (i := 208) (by decide +kernel), List.mem_of_getElem? (i := 462) (by decide +kernel), List.mem_of_getElem? (i := 463) (by decide +kernel)⟩
theorem lw_p18 : lw_okq (⟨"StoneWall$Masonry", "standsBeside", "(II)Z"⟩, 12) := ⟨⟨by decide +kernel, by decide +kernel⟩, List.mem_of_getElem? (i := 116) (by decide +kernel), List.mem_of_getElem? (i := 482) (by decide +kernel), List.mem_of_getElem? (i := 483) (by decide +kernel)⟩
theorem lw_p19 : lw_okq (⟨"StoneWall$Masonry", "isBorne", "(I)Z"⟩, 12) := ⟨⟨by decide +kernel, by decide +kernel⟩, List.mem_of_getElem? (i := 116) (by decide +kernel), List.mem_of_getElem? (i := 492) (by decide +kernel), List.mem_of_getElem? (i := 493) (by decide +kernel)⟩
theorem lw_p20 : lw_okq (⟨"StoneWall$Masonry", "placesOf", "(I)I"⟩, 12) := ⟨⟨by decide +kernel, by decide +kernel⟩, List.mem_of_getElem? (i := 116) (by decide +kernel), List.mem_of_getElem? (i := 496) (by decide +kernel), List.mem_of_getElem? (i := 497) (by decide +kernel)⟩
theorem lw_p21 : lw_okq (⟨"java/lang/Throwable", "fillInStackTrace", "(I)Ljava/lang/Throwable;"⟩, 6) := ⟨⟨by decide +kernel, by decide +kernel⟩, List.mem_of_getElem? (i := 602) (by decide +kernel), List.mem_of_getElem? (i := 600) (by decide +kernel), List.mem_of_getElem? (i := 601) (by decide +kernel)⟩
theorem lw_p22 : lw_okq (⟨"StoneWallModel", "noPlan", "()V"⟩, 37) := ⟨⟨by decide +kernel, by decide +kernel⟩, List.mem_of_getElem? (i := 651) (by decide +kernel), List.mem_of_getElem? (i := 778) (by decide +kernel), List.mem_of_getElem? (i := 779) (by decide +kernel)⟩
theorem lw_p23 : lw_okq (⟨"StoneWallModel", "can", "(IIII)Z"⟩, 37) := ⟨⟨by decide +kernel, by decide +kernel⟩, List.mem_of_getElem? (i := 651) (by decide +kernel), List.mem_of_getElem? (i := 805) (by decide +kernel), List.mem_of_getElem? (i := 806) (by decide +kernel)⟩
theorem lw_p24 : lw_okq (⟨"StoneWallModel", "width", "(I)I"⟩, 37) := ⟨⟨by decide +kernel, by decide +kernel⟩, List.mem_of_getElem? (i := 651) (by decide +kernel), List.mem_of_getElem? (i := 809) (by decide +kernel), List.mem_of_getElem? (i := 810) (by decide +kernel)⟩
theorem lw_p25 : lw_okq (⟨"StoneWallModel", "inHeaps", "(I)I"⟩, 37) := ⟨⟨by decide +kernel, by decide +kernel⟩, List.mem_of_getElem? (i := 651) (by decide +kernel), List.mem_of_getElem? (i := 813) (by decide +kernel), List.mem_of_getElem? (i := 814) (by decide +kernel)⟩
theorem lw_p26 : lw_okq (⟨"StoneWallModel", "isFull", "(II)Z"⟩, 37) := ⟨⟨by decide +kernel, by decide +kernel⟩, List.mem_of_getElem? (i := 651) (by decide +kernel), List.mem_of_getElem? (i := 817) (by decide +kernel), List.mem_of_getElem? (i := 818) (by decide +kernel)⟩
theorem lw_p27 : lw_okq (⟨"StoneWallModel", "fails", "(I)I"⟩, 37) := ⟨⟨by decide +kernel, by decide +kernel⟩, List.mem_of_getElem? (i := 651) (by decide +kernel), List.mem_of_getElem? (i := 825) (by decide +kernel), List.mem_of_getElem? (i := 826) (by decide +kernel)⟩
theorem lw_p28 : lw_okq (⟨"StoneWallModel", "hearting", "(I)I"⟩, 37) := ⟨⟨by decide +kernel, by decide +kernel⟩, List.mem_of_getElem? (i := 651) (by decide +kernel), List.mem_of_getElem? (i := 829) (by decide +kernel), List.mem_of_getElem? (i := 830) (by decide +kernel)⟩
theorem lw_p29 : lw_okq (⟨"StoneWallModel", "leastAll", "()J"⟩, 37) := ⟨⟨by decide +kernel, by decide +kernel⟩, List.mem_of_getElem? (i := 651) (by decide +kernel), List.mem_of_getElem? (i := 841) (by decide +kernel), List.mem_of_getElem? (i := 842) (by decide +kernel)⟩
theorem lw_p30 : lw_okq (⟨"StoneWallModel", "leastOf", "(III)J"⟩, 37) := ⟨⟨by decide +kernel, by decide +kernel⟩, List.mem_of_getElem? (i := 651) (by decide +kernel), List.mem_of_getElem? (i := 845) (by decide +kernel), List.mem_of_getElem? (i := 846) (by decide +kernel)⟩
theorem lw_p31 : lw_okq (⟨"StoneWallModel", "add", "(II)J"⟩, 37) := ⟨⟨by decide +kernel, by decide +kernel⟩, List.mem_of_getElem? (i := 651) (by decide +kernel), List.mem_of_getElem? (i := 849) (by decide +kernel), List.mem_of_getElem? (i := 850) (by decide +kernel)⟩
def lw_privs_2 : List (MethodName × Nat) := [(⟨"StoneWall$Carrying", "followChain", "(II)V"⟩, 10), (⟨"StoneWall$Carrying", "nearestWith", "(II)I"⟩, 10), (⟨"StoneWall$Masonry", "standsBeside", "(II)Z"⟩, 12), (⟨"StoneWall$Masonry", "isBorne", "(I)Z"⟩, 12), (⟨"StoneWall$Masonry", "placesOf", "(I)I"⟩, 12), (⟨"java/lang/Throwable", "fillInStackTrace", "(I)Ljava/lang/Throwable;"⟩, 6), (⟨"StoneWallModel", "noPlan", "()V"⟩, 37), (⟨"StoneWallModel", "can", "(IIII)Z"⟩, 37), (⟨"StoneWallModel", "width", "(I)I"⟩, 37), (⟨"StoneWallModel", "inHeaps", "(I)I"⟩, 37), (⟨"StoneWallModel", "isFull", "(II)Z"⟩, 37), (⟨"StoneWallModel", "fails", "(I)I"⟩, 37), (⟨"StoneWallModel", "hearting", "(I)I"⟩, 37), (⟨"StoneWallModel", "leastAll", "()J"⟩, 37), (⟨"StoneWallModel", "leastOf", "(III)J"⟩, 37), (⟨"StoneWallModel", "add", "(II)J"⟩, 37)]
theorem lw_r2 : ∀ q ∈ lw_privs_2, lw_okq q := List.forall_mem_cons.mpr ⟨lw_p16, List.forall_mem_cons.mpr ⟨lw_p17, List.forall_mem_cons.mpr ⟨lw_p18, List.forall_mem_cons.mpr ⟨lw_p19, List.forall_mem_cons.mpr ⟨lw_p20, List.forall_mem_cons.mpr ⟨lw_p21, List.forall_mem_cons.mpr ⟨lw_p22, List.forall_mem_cons.mpr ⟨lw_p23, List.forall_mem_cons.mpr ⟨lw_p24, List.forall_mem_cons.mpr ⟨lw_p25, List.forall_mem_cons.mpr ⟨lw_p26, List.forall_mem_cons.mpr ⟨lw_p27, List.forall_mem_cons.mpr ⟨lw_p28, List.forall_mem_cons.mpr ⟨lw_p29, List.forall_mem_cons.mpr ⟨lw_p30, List.forall_mem_cons.mpr ⟨lw_p31, fun _ h => absurd h List.not_mem_nil⟩⟩⟩⟩⟩⟩⟩⟩⟩⟩⟩⟩⟩⟩⟩⟩
theorem lw_p32 : lw_okq (⟨"StoneWallModel", "toil", "(II)J"⟩, 37) := ⟨⟨by decide +kernel, by decide +kernel⟩, List.mem_of_getElem? (i := 651) (by decide +kernel), List.mem_of_getElem? (i := 853) (by decide +kernel), List.mem_of_getElem? (i := 854) (by decide +kernel)⟩
theorem lw_p33 : lw_okq (⟨"StoneWallModel", "beside", "(IZ)Z"⟩, 37) := ⟨⟨by decide +kernel, by decide +kernel⟩, List.mem_of_getElem? (i := 651) (by decide +kernel), List.mem_of_getElem? (i := 873) (by decide +kernel), List.mem_of_getElem? (i := 874) (by decide +kernel)⟩
theorem lw_p34 : lw_okq (⟨"StoneWallModel", "lies", "(I)I"⟩, 37) := ⟨⟨by decide +kernel, by decide +kernel⟩, List.mem_of_getElem? (i := 651) (by decide +kernel), List.mem_of_getElem? (i := 877) (by decide +kernel), List.mem_of_getElem? (i := 878) (by decide +kernel)⟩
theorem lw_p35 : lw_okq (⟨"StoneWallModel", "there", "(IZ)I"⟩, 37) := ⟨⟨by decide +kernel, by decide +kernel⟩, List.mem_of_getElem? (i := 651) (by decide +kernel), List.mem_of_getElem? (i := 893) (by decide +kernel), List.mem_of_getElem? (i := 894) (by decide +kernel)⟩
def lw_privs_3 : List (MethodName × Nat) := [(⟨"StoneWallModel", "toil", "(II)J"⟩, 37), (⟨"StoneWallModel", "beside", "(IZ)Z"⟩, 37), (⟨"StoneWallModel", "lies", "(I)I"⟩, 37), (⟨"StoneWallModel", "there", "(IZ)I"⟩, 37)]
theorem lw_r3 : ∀ q ∈ lw_privs_3, lw_okq q := List.forall_mem_cons.mpr ⟨lw_p32, List.forall_mem_cons.mpr ⟨lw_p33, List.forall_mem_cons.mpr ⟨lw_p34, List.forall_mem_cons.mpr ⟨lw_p35, fun _ h => absurd h List.not_mem_nil⟩⟩⟩⟩
def lw_privs : List (MethodName × Nat) := lw_privs_1 ++ (lw_privs_2 ++ (lw_privs_3))
def lw_tbl : List Cond := k2_sels lw_privs ++ tables_1
theorem lw_privs_ok : ∀ q ∈ lw_privs, lw_okq q := by
  show ∀ q ∈ lw_privs_1 ++ (lw_privs_2 ++ (lw_privs_3)), lw_okq q
  exact List.forall_mem_append.mpr ⟨lw_r1, List.forall_mem_append.mpr ⟨lw_r2, lw_r3⟩⟩
end
section
/-! ===== BEGIN words of one list among another's, by their places ===== -/
theorem goodIn_r {big : List Cond} (ws : List Cond) (ps : List Nat) (hp : ws = ps.filterMap (fun i => big[i]?)) (h : ws.all goodWord = true) : GoodIn big ws := by
  intro w hw
  have h1 := List.all_eq_true.mp h w hw
  rw [hp] at hw
  obtain ⟨i, -, hi⟩ := List.mem_filterMap.mp hw
  have hm : w ∈ big := by first | exact List.mem_of_getElem? hi | exact List.getElem?_mem hi
  exact ⟨hm, good_of_word h1⟩
theorem goodIn_app {big a b : List Cond} (ha : GoodIn big a) (hb : GoodIn big b) : GoodIn big (a ++ b) := fun w h => (List.mem_append.mp h).elim (ha w) (hb w)
theorem goodIn_ca {big a b : List Cond} {c : Cond} (ha : GoodIn big (c :: a)) (hb : GoodIn big b) : GoodIn big (c :: (a ++ b)) := fun w h => (List.mem_cons.mp h).elim (fun e => ha w (List.mem_cons.mpr (Or.inl e))) (fun h => (List.mem_append.mp h).elim (fun h => ha w (List.mem_cons.mpr (Or.inr h))) (hb w))
theorem goodIn_sub {big ws : List Cond} (hm : ∀ w ∈ ws, w ∈ big) (h : ws.all goodWord = true) : GoodIn big ws := fun w hw => ⟨hm w hw, good_of_word (List.all_eq_true.mp h w hw)⟩
/-! ===== END ===== -/


/-! ===== BEGIN exceptions that leave a method, and their catching by the caller (launches without stack traces) ===== -/
section VXA
/-! The laws vx_back, vx_callV, vx_callS, vx_callSW, vx_throw0, vx_throwS follow proofs of the library, with one case more: JvmDerived/Free/Laws.lean (Back.of_free), Shelf42/LK1.lean (callV, callS), Shelf/KitTraced.lean (throwNew0V, throwNewS). -/
/-- where a method has thrown q: the class by its name, the cell, what was written, the world -/
def vx_T (XC : String → State → State → Prop) (st : State) (q : Addr) (t : State) (mc ms : Nat) (free : Addr → Prop) : Prop :=
  ∃ (E : String) (ce : Cell) (L : List Loc), XC E st t ∧ t.heap[q]? = some ce ∧ ce.vm = .none ∧ st.vm.findClass E = some ce.cls ∧ st.WarmedH t.vm ∧ st.sameButNew ({ t with vm := st.vm } : State) L mc ms ∧ ∀ z ∈ L, free z.base
def vx_Q (Qc : Array Value → State → Outcome → State → Prop) (XC : String → State → State → Prop) (mc ms : Nat) (free : Addr → Prop) : Array Value → State → Outcome → State → Prop := fun a st o t =>
  (Qc a st o t ∧ ∃ L, FrameEnd st o t L mc ms ∧ ∀ q ∈ L, free q.base) ∨ ∃ q, o = .threw q ∧ vx_T XC st q t mc ms free
/-- a callee that returns or throws -/
def vx_Met (l : Launch) (y : MethodName) (ws : List Cond) (rm : Room) (Pc : Array Value → State → Prop) (Qc : Array Value → State → Outcome → State → Prop) (XC : String → State → State → Prop) (mc ms : Nat) (free : Addr → Prop) : Prop :=
  MetFree l y (headSpec ws rm) Pc (fun _ _ _ _ _ => True) (vx_Q Qc XC mc ms free)
def vx_Post (XC : String → State → State → Prop) (mc ms : Nat) (free : Addr → Prop) : Pt → Array Value → Addr → Pt → Prop := fun A a q B =>
  ∃ (g : JFrame) (mk : MethodId) (t : State) (L : List Loc) (E : String) (ce : Cell), B.U.heap = t.heap ∧ B.U.vm = t.vm ∧ XC E (A.U.calling g mk a) t ∧ t.heap[q]? = some ce ∧ ce.vm = .none ∧ A.U.vm.findClass E = some ce.cls ∧ B.locs = A.locs ++ L ∧ (∀ z ∈ L, free z.base) ∧ B.cells = A.cells + mc ∧ B.slots = A.slots + ms
def vx_Back (l : Launch) (R : Room) (p : Program) (e : Env) (below : List Frame) (s : State) (sargs : Array Value) (y : MethodName) (len W9 : Nat)
    (Pre : Pt → Array Value → Prop) (Post : Pt → Array Value → Option Value → Pt → Prop) (PostX : Pt → Array Value → Addr → Pt → Prop) : Prop :=
  ∀ (m : MethodId) (meth : Method) (c : Code) (A : Pt) (g : JFrame) (ig : Instr) (mk : MethodId) (a : Array Value),
    Stand p l e R s m sargs below meth c A.U A.locs A.cells A.slots → g.method = m → g.locals.size = c.maxLocals → decode c.code g.pc = .ok (ig, len) →
    2 * g.monitorRoom + (g.stack.map fun v => v.category).sum ≤ W9 → A.U.methodNamed? y = some mk → Pre A a →
    (∃ (v : Option Value) (B : Pt), Stand p l e R s m sargs below meth c B.U B.locs B.cells B.slots ∧ Post A a v B ∧
      Steps p.tables e below (doInvoke e (A.U.setTop g) [] mk a).1 (B.U.setTop { g with pc := g.pc + len, stack := v.toList ++ g.stack })) ∨
    (∃ (q : Addr) (B : Pt), Stand p l e R s m sargs below meth c B.U B.locs B.cells B.slots ∧ PostX A a q B ∧
      Steps p.tables e below (doInvoke e (A.U.setTop g) [] mk a).1 ((B.U.setTop g).pushFrame (.throwing q)))
section Payer
variable {l : Launch} {R : Room} {p : Program} {e : Env} {below : List Frame} {s : State} {sargs : Array Value} {y : MethodName} {len W9 : Nat}
theorem vx_back {ws : List Cond} {rm : Room} {Pc : Array Value → State → Prop} {Qc : Array Value → State → Outcome → State → Prop} {XC : String → State → State → Prop} {mc ms : Nat} {free : Addr → Prop} {bytes : ByteArray} {maxL : Nat} {ret : Option FieldType}
    (hM : vx_Met l y ws rm Pc Qc XC mc ms free) (hblind : FrameBlind Pc) (hrc : rm.cells = mc) (hrs : rm.slots = ms)
    (hframes : rm.frames + 1 ≤ R.frames) (hlocals : W9 + (maxL + 11) + rm.locals ≤ R.locals)
    (hws : ∀ w ∈ ws, ∀ a' U, s.WarmedH U.vm → w.before a' U = true) (hcode : Cond.code y bytes maxL ret ∈ ws) (hinit : ∀ a' U, s.WarmedH U.vm → (Cond.initialized y.cls).before a' U = true) :
    vx_Back l R p e below s sargs y len W9 (PreOf R mc ms Pc) (PostOf Qc mc ms free) (vx_Post XC mc ms free) := by
  intro m meth c A g ig mk a X hg hsize hdg hW hn hp
  have h1 : (headSpec ws rm).pre.before a A.U = true := atoms_intro fun w hw => hws w hw _ _ X.warmed
  have h2 : (Cond.code y bytes maxL ret).before a A.U = true := hws _ hcode _ _ X.warmed
  have h3 : (Cond.initialized y.cls).before a A.U = true := hinit _ _ X.warmed
  have h4 : A.cells + (headSpec ws rm).room.cells ≤ R.cells := by rw [show (headSpec ws rm).room.cells = mc from hrc]; exact hp.1
  have h5 : A.slots + (headSpec ws rm).room.slots ≤ R.slots := by rw [show (headSpec ws rm).room.slots = ms from hrs]; exact hp.2.1
  have hPc : Pc a (A.U.calling g mk a) := hblind _ _ _ _ hp.2.2
  obtain ⟨U, Ls, c0, s0⟩ := A
  dsimp only [Pt.U, Pt.locs, Pt.cells, Pt.slots] at h1 h2 h3 h4 h5 X hn hPc ⊢
  obtain ⟨methY, cY, hmY, hcY, -, hlY, -, -, -, -⟩ := Cond.code_spec hn h2
  obtain ⟨kY, hkY, -⟩ := className_of_methodNamed hn
  have hinitY : kY.init = .initialized := Cond.initialized_spec (findClass_of_methodNamed hn) hkY h3
  have h : At U g.method c below := by rw [hg]; exact X.here
  have hlocals9 : W9 + (maxL + 11) + (headSpec ws rm).room.locals ≤ R.locals := hlocals
  have happ : (headSpec ws rm).appliesLoose y e.platform (U.calling g mk a) = true :=
    Spec.appliesLoose_calling (g := g) h hdg hn hkY hinitY
      (X.room_calling (g := g) (R' := (headSpec ws rm).room) hsize hmY hcY hframes (by rw [hlY]; omega) h4 h5) h1
  obtain ⟨mid, hmid⟩ := h.above
  have hfr : (U.setTop g).frames = (.java g :: mid) ++ below := by rw [State.frames_setTop' g h.top, hmid]; rfl
  obtain ⟨o, s₂, hsteps, -, hend, hq⟩ := Steps.callFree hM p X.admits X.cas X.clock (acts := []) hfr happ hPc trivial
  have hq' : vx_Q Qc XC mc ms free a (U.calling g mk a) o s₂ := hq
  rw [State.frames_setTop' g h.top] at hend
  obtain ⟨g₀, hg0⟩ := Option.isSome_iff_exists.mp h.top
  obtain ⟨r, hr⟩ := State.topJava?_eq_some.mp hg0
  have hr' : (({ U with heap := s₂.heap, slotsUsed := s₂.slotsUsed } : State).setVm s₂.vm).frames = .java g₀ :: r := hr
  rcases hq' with ⟨hqc, L, hfe, hL⟩ | ⟨q, rfl, E, ce, L, hx, hce, hcv, hcl, hW₂, hsm, hL⟩
  · obtain ⟨⟨v, rfl⟩, hW₂, e2, q2, q3, q4, q5, q6⟩ := id hfe
    have e3 : s₂ = ({ (U.calling g mk a).setFrames s₂.frames with heap := s₂.heap, slotsUsed := s₂.slotsUsed } : State).setVm s₂.vm := by
      have : s₂ = ({ s₂ with vm := (U.calling g mk a).vm } : State).setVm s₂.vm := rfl
      rw [e2] at this
      exact this
    obtain ⟨c₂, i₂, len₂, hc₂, hd₂, hf₂⟩ := hend
    have hW' : U.WarmedH s₂.vm := hW₂
    have hcc : c₂ = c := by
      have h1 : s₂.code? g.method = U.code? g.method := by
        rw [State.code?_eq, State.code?_eq, hW'.alike.method?]
      exact Option.some.inj (hc₂.symm.trans (h1.trans h.code))
    subst hcc
    have hlen : len₂ = len := by rw [hdg] at hd₂; cases hd₂; rfl
    subst hlen
    have hs₂ : s₂ = (({ U with heap := s₂.heap, slotsUsed := s₂.slotsUsed } : State).setVm s₂.vm).setTop { g with pc := g.pc + len₂, stack := v.toList ++ g.stack } := by
      refine e3.trans ?_
      rw [hf₂, State.calling_eq h.top, State.setFrames_setFrames, State.setTop_of_frames _ hr', hr]
      rfl
    have hsame : U.sameButNew ({ U with heap := s₂.heap, slotsUsed := s₂.slotsUsed } : State) L mc ms := by
      refine ⟨?_, q2, q3, q4, q5, q6⟩
      obtain ⟨t, ht, -⟩ := State.frames_cons hr
      show ({ U with heap := s₂.heap, slotsUsed := s₂.slotsUsed } : State) = { U.setFrames U.frames with heap := s₂.heap, slotsUsed := s₂.slotsUsed }
      rw [State.setFrames_self ht]
    subst hg
    refine Or.inl ⟨v, ⟨(({ U with heap := s₂.heap, slotsUsed := s₂.slotsUsed } : State).setVm s₂.vm), Ls ++ L, c0 + mc, s0 + ms⟩,
      ⟨X.admits, X.cas, X.clock, X.frames, X.room, X.hears, X.method, X.code, (X.here.setHeapUsed s₂.heap s₂.slotsUsed).setVm hW'.alike, X.tail, State.WarmedH.trans X.warmed hW', X.limits, X.bytes, X.same.trans (hsame.setVm s.vm)⟩,
      ⟨g, mk, s₂, L, rfl, rfl, hqc, rfl, hL, rfl, rfl⟩, ?_⟩
    show Steps p.tables e below _ ((({ U with heap := s₂.heap, slotsUsed := s₂.slotsUsed } : State).setVm s₂.vm).setTop { g with pc := g.pc + len₂, stack := v.toList ++ g.stack })
    rw [← hs₂]
    exact hsteps
  · obtain ⟨e2, q2, q3, q4, q5, q6⟩ := id hsm
    have e3 : s₂ = ({ (U.calling g mk a).setFrames s₂.frames with heap := s₂.heap, slotsUsed := s₂.slotsUsed } : State).setVm s₂.vm := by
      have : s₂ = ({ s₂ with vm := (U.calling g mk a).vm } : State).setVm s₂.vm := rfl
      rw [e2] at this
      exact this
    have hf₂ : s₂.frames = .throwing q :: .java g :: U.frames.tail := hend
    have hW' : U.WarmedH s₂.vm := hW₂
    have hs₂ : s₂ = ((({ U with heap := s₂.heap, slotsUsed := s₂.slotsUsed } : State).setVm s₂.vm).setTop g).pushFrame (.throwing q) := by
      refine e3.trans ?_
      rw [hf₂, State.calling_eq h.top, State.setFrames_setFrames, State.pushFrame, State.frames_setTop _ hr', State.setTop_of_frames _ hr', State.setFrames_setFrames, hr]
      rfl
    have hsame : U.sameButNew ({ U with heap := s₂.heap, slotsUsed := s₂.slotsUsed } : State) L mc ms := by
      refine ⟨?_, q2, q3, q4, q5, q6⟩
      obtain ⟨t, ht, -⟩ := State.frames_cons hr
      show ({ U with heap := s₂.heap, slotsUsed := s₂.slotsUsed } : State) = { U.setFrames U.frames with heap := s₂.heap, slotsUsed := s₂.slotsUsed }
      rw [State.setFrames_self ht]
    subst hg
    refine Or.inr ⟨q, ⟨(({ U with heap := s₂.heap, slotsUsed := s₂.slotsUsed } : State).setVm s₂.vm), Ls ++ L, c0 + mc, s0 + ms⟩,
      ⟨X.admits, X.cas, X.clock, X.frames, X.room, X.hears, X.method, X.code, (X.here.setHeapUsed s₂.heap s₂.slotsUsed).setVm hW'.alike, X.tail, State.WarmedH.trans X.warmed hW', X.limits, X.bytes, X.same.trans (hsame.setVm s.vm)⟩,
      ⟨g, mk, s₂, L, E, ce, rfl, rfl, hx, hce, hcv, hcl, rfl, hL, rfl, rfl⟩, ?_⟩
    show Steps p.tables e below _ (((({ U with heap := s₂.heap, slotsUsed := s₂.slotsUsed } : State).setVm s₂.vm).setTop g).pushFrame (.throwing q))
    rw [← hs₂]
    exact hsteps
end Payer
section Calls
variable {p : Program} {l : Launch} {e : Env} {R : Room} {s : State} {m : MethodId} {args : Array Value} {below : List Frame} {meth : Method} {c : Code} {T : State} {locs : List Loc} {cells slots : Nat}
theorem vx_callV (X : Stand p l e R s m args below meth c T locs cells slots) (hexec : p.tables.exec = Jvm.exec) {own C : String} {index : Nat} {y : MethodName} {bytes : ByteArray} {maxL : Nat} {ret : Option FieldType}
    (hown : s.vm.findClass own = some m.cls) (hlink : (Cond.methodLink own index y).before args s = true) (hinst : (Cond.instanceMethod y).before args s = true) (hsel : (Cond.selects C y y).before args s = true)
    (hcode : (Cond.code y bytes maxL ret).before args s = true) (hy : y.cls ≠ "java/lang/invoke/MethodHandle" ∧ y.cls ≠ "java/lang/invoke/VarHandle")
    {W9 : Nat} {Pre : Pt → Array Value → Prop} {Post : Pt → Array Value → Option Value → Pt → Prop} {PostX : Pt → Array Value → Addr → Pt → Prop} (hK : vx_Back l R p e below s args y 3 W9 Pre Post PostX)
    {b : Addr} {cellB : Cell} (hcell : T.heap[b]? = some cellB) (hobj : cellB.vm.isStatics = false) (hcls : s.vm.findClass C = some cellB.cls)
    {g : JFrame} (hg : g.method = m) (hsize : g.locals.size = c.maxLocals) {argsL rest : List Value} (hlen : ∀ sig, parseMethodDescriptor y.desc = some sig → argsL.length = sig.parameters.length)
    (hstack : g.stack = argsL.reverse ++ .ref b :: rest) (hW : 2 * g.monitorRoom + (rest.map fun v => v.category).sum ≤ W9) (hdg : decode c.code g.pc = .ok (.invokevirtual index, 3))
    (hpre : ∀ vm₁, s.WarmedH vm₁ → Pre ⟨T.setVm vm₁, locs, cells, slots⟩ (Value.ref b :: argsL).toArray) :
    (∃ (v : Option Value) (vm₁ : Vm) (B : Pt), s.WarmedH vm₁ ∧ Stand p l e R s m args below meth c B.U B.locs B.cells B.slots ∧ Post ⟨T.setVm vm₁, locs, cells, slots⟩ (Value.ref b :: argsL).toArray v B ∧
      ∀ target, Steps p.tables e below (B.U.setTop { g with pc := g.pc + 3, stack := v.toList ++ rest }) target → Steps p.tables e below (T.setTop g) target) ∨
    (∃ (q : Addr) (vm₁ : Vm) (B : Pt), s.WarmedH vm₁ ∧ Stand p l e R s m args below meth c B.U B.locs B.cells B.slots ∧ PostX ⟨T.setVm vm₁, locs, cells, slots⟩ (Value.ref b :: argsL).toArray q B ∧
      Steps p.tables e below (T.setTop g) ((B.U.setTop { g with stack := rest }).pushFrame (.throwing q))) := by
  obtain ⟨mk, methM, hnamed, hmethM, hstM, habM⟩ := Cond.instanceMethod_spec hinst
  obtain ⟨methM', cM, hmethM', -, -, -, -, -, -, hsigM⟩ := Cond.code_spec hnamed hcode
  cases hmethM.symm.trans hmethM'
  obtain ⟨c2, r2, m2, q1, q2, q3, q4, kP, hkP, hkPi⟩ := Cond.selects_spec hsel
  cases hcls.symm.trans q1
  cases (State.methodFound?_of_named hnamed hy).symm.trans q2
  cases hnamed.symm.trans q3
  have hselP : selectMethod e.platform s.vm cellB.cls mk = .method mk := by rw [Launch.admits_selectMethod X.admits]; exact q4
  obtain ⟨vm₁, X₁, hstep₁⟩ := X.invokevirtual hexec hown hlink hnamed hmethM hstM hkP hkPi hy (a := b) (cell := cellB) hcell
    (fun z h => by rw [h] at hobj; cases hobj) hselP hmethM habM hkP hkPi (g := g) hg (argsL := argsL) (rest := rest) (hlen _ hsigM) hstack hdg
  rcases hK m meth c ⟨T.setVm vm₁, locs, cells, slots⟩ { g with stack := rest } (.invokevirtual index) mk (Value.ref b :: argsL).toArray X₁ hg hsize hdg hW (X₁.named hnamed) (hpre vm₁ X₁.warmed) with ⟨v, B, X', hpost, hsteps⟩ | ⟨q, B, X', hpost, hsteps⟩
  · exact Or.inl ⟨v, vm₁, B, X₁.warmed, X', hpost, fun target h => hstep₁ _ fun acts => by rw [doInvoke_state]; exact hsteps.trans h⟩
  · exact Or.inr ⟨q, vm₁, B, X₁.warmed, X', hpost, hstep₁ _ fun acts => by rw [doInvoke_state]; exact hsteps⟩
theorem vx_callS (X : Stand p l e R s m args below meth c T locs cells slots) (hexec : p.tables.exec = Jvm.exec) {own : String} {index : Nat} {y : MethodName} {bytes : ByteArray} {maxL : Nat} {ret : Option FieldType}
    (hown : s.vm.findClass own = some m.cls) (hlink : (Cond.methodLink own index y).before args s = true) (hstat : (Cond.static y).before args s = true) (hinit : (Cond.initialized y.cls).before args s = true)
    (hcode : (Cond.code y bytes maxL ret).before args s = true) (hy : y.cls ≠ "java/lang/invoke/MethodHandle" ∧ y.cls ≠ "java/lang/invoke/VarHandle")
    {W9 : Nat} {Pre : Pt → Array Value → Prop} {Post : Pt → Array Value → Option Value → Pt → Prop} {PostX : Pt → Array Value → Addr → Pt → Prop} (hK : vx_Back l R p e below s args y 3 W9 Pre Post PostX)
    {g : JFrame} (hg : g.method = m) (hsize : g.locals.size = c.maxLocals) {argsL rest : List Value} (hlen : ∀ sig, parseMethodDescriptor y.desc = some sig → argsL.length = sig.parameters.length)
    (hstack : g.stack = argsL.reverse ++ rest) (hW : 2 * g.monitorRoom + (rest.map fun v => v.category).sum ≤ W9) (hdg : decode c.code g.pc = .ok (.invokestatic index, 3))
    (hpre : ∀ vm₁, s.WarmedH vm₁ → Pre ⟨T.setVm vm₁, locs, cells, slots⟩ argsL.toArray) :
    (∃ (v : Option Value) (vm₁ : Vm) (B : Pt), s.WarmedH vm₁ ∧ Stand p l e R s m args below meth c B.U B.locs B.cells B.slots ∧ Post ⟨T.setVm vm₁, locs, cells, slots⟩ argsL.toArray v B ∧
      ∀ target, Steps p.tables e below (B.U.setTop { g with pc := g.pc + 3, stack := v.toList ++ rest }) target → Steps p.tables e below (T.setTop g) target) ∨
    (∃ (q : Addr) (vm₁ : Vm) (B : Pt), s.WarmedH vm₁ ∧ Stand p l e R s m args below meth c B.U B.locs B.cells B.slots ∧ PostX ⟨T.setVm vm₁, locs, cells, slots⟩ argsL.toArray q B ∧
      Steps p.tables e below (T.setTop g) ((B.U.setTop { g with stack := rest }).pushFrame (.throwing q))) := by
  obtain ⟨mk, hnamed⟩ := Cond.code_named hcode
  obtain ⟨methM, cM, hmethM, -, -, -, -, -, -, hsigM⟩ := Cond.code_spec hnamed hcode
  have hstatic : methM.isStatic = true := Cond.static_spec hnamed hmethM hstat
  obtain ⟨kP, hkP, -⟩ := className_of_methodNamed hnamed
  have hinitP : kP.init = .initialized := Cond.initialized_spec (findClass_of_methodNamed hnamed) hkP hinit
  obtain ⟨vm₁, X₁, hstep₁⟩ := X.invokestatic hexec hown hlink hnamed hmethM hstatic hkP hinitP hy (g := g) hg (argsL := argsL) (rest := rest) (hlen _ hsigM) hstack hdg
  rcases hK m meth c ⟨T.setVm vm₁, locs, cells, slots⟩ { g with stack := rest } (.invokestatic index) mk argsL.toArray X₁ hg hsize hdg hW (X₁.named hnamed) (hpre vm₁ X₁.warmed) with ⟨v, B, X', hpost, hsteps⟩ | ⟨q, B, X', hpost, hsteps⟩
  · exact Or.inl ⟨v, vm₁, B, X₁.warmed, X', hpost, fun target h => hstep₁ _ fun acts => by rw [doInvoke_state]; exact hsteps.trans h⟩
  · exact Or.inr ⟨q, vm₁, B, X₁.warmed, X', hpost, hstep₁ _ fun acts => by rw [doInvoke_state]; exact hsteps⟩
end Calls
theorem vx_cls {s : State} {T : State} {vm₁ : Vm} {E : String} {k : ClassId} (hW : s.WarmedH vm₁) (h : (T.setVm vm₁).vm.findClass E = some k) : s.vm.findClass E = some k := by
  have h1 : vm₁.findClass E = some k := h
  rw [hW.alike.findClass] at h1
  exact h1
/-- the method's frame g, with q thrown over it -/
def vx_W (p : Program) (l : Launch) (e : Env) (R : Room) (s : State) (m : MethodId) (args : Array Value) (below : List Frame) (meth : Method) (c : Code) (H : Heap) (locs : List Loc) (cells slots : Nat) (Q : State → Prop) (g : JFrame) (q : Addr) : Prop :=
  ∀ T : State, T.heap = H → Stand p l e R s m args below meth c T locs cells slots → ∃ t, Steps p.tables e below ((T.setTop g).pushFrame (.throwing q)) t ∧ Q t
def vx_Run (p : Program) (l : Launch) (e : Env) (R : Room) (s : State) (m : MethodId) (args : Array Value) (below : List Frame) (meth : Method) (c : Code) (H : Heap) (locs : List Loc) (cells slots mc ms : Nat) (g : JFrame) (rest : List Value) (Qa : State → Outcome → State → Prop) (XC : String → State → State → Prop) (free : Addr → Prop) : Prop :=
  ∀ T : State, T.heap = H → Stand p l e R s m args below meth c T locs cells slots →
    (∃ (v : Option Value) (st₀ t T' : State) (L : List Loc), st₀.heap = H ∧ Stand p l e R s m args below meth c T' (locs ++ L) (cells + mc) (slots + ms) ∧ (∀ q ∈ L, free q.base) ∧ T'.heap = t.heap ∧ T'.vm = t.vm ∧ Qa st₀ (.returned v) t ∧
      Goes p e below T g T' { g with pc := g.pc + 3, stack := v.toList ++ rest }) ∨
    (∃ (q : Addr) (st₀ t T' : State) (L : List Loc) (E : String) (ce : Cell), st₀.heap = H ∧ Stand p l e R s m args below meth c T' (locs ++ L) (cells + mc) (slots + ms) ∧ (∀ z ∈ L, free z.base) ∧ T'.heap = t.heap ∧ T'.vm = t.vm ∧ XC E st₀ t ∧ t.heap[q]? = some ce ∧ ce.vm = .none ∧ s.vm.findClass E = some ce.cls ∧
      Steps p.tables e below (T.setTop g) ((T'.setTop { g with stack := rest }).pushFrame (.throwing q)))
def vx_X {S : Type} (px : S → Prop) (B : String → S → State → Prop) (A : Nat → Prop) : String → State → State → Prop := fun E st t => ∃ u : S, px u ∧ B E u t ∧ va_F A st t
section Runs
variable {p : Program} {l : Launch} {e : Env} {R : Room} {s : State} {m : MethodId} {args : Array Value} {below : List Frame} {meth : Method} {c : Code} {H : Heap} {locs : List Loc} {cells slots : Nat}
variable {y : MethodName} {bytes cc : ByteArray} {maxL nL mc ms n index : Nat} {ret : Option FieldType} {ws : List Cond} {rm : Room} {Pc : Array Value → State → Prop} {Qc : Array Value → State → Outcome → State → Prop} {XC : String → State → State → Prop} {free : Addr → Prop} {Ts : List Cond} {own C : String} {b : Addr} {As rest : List Value} {g : JFrame}
theorem vx_callBack (cb : CallB R s args own index y bytes maxL ret ws rm mc ms n) (hM : vx_Met l y ws rm Pc Qc XC mc ms free) (hbl : FrameBlind Pc) : vx_Back l R p e below s args y 3 8 (PreOf R mc ms Pc) (PostOf Qc mc ms free) (vx_Post XC mc ms free) := by
  obtain ⟨hrc, hrs, hfr, hlo, hws, hcw, -, hini, -⟩ := cb
  exact vx_back (bytes := bytes) (maxL := maxL) (ret := ret) hM hbl hrc hrs hfr hlo hws hcw (fun a' U hW => word_at hW (Or.inl (by first | rfl | simp [Cond.onTables, Cond.keeps, Cond.steady])) hini)
theorem vx_runV (S : CallFix p m c cc nL s args Ts own) (hM : vx_Met l y ws rm Pc Qc XC mc ms free) (cw : CallW R s args own C index y bytes maxL ret ws rm mc ms n) (hp : PreV s H C b Pc As)
    (hg : g.method = m) (hn : As.length = n) (hsize : g.locals.size = nL) (hstack : g.stack = As.reverse ++ .ref b :: rest) (hW : 2 * g.monitorRoom + (rest.map fun v => v.category).sum ≤ 8) (hdg : decode cc g.pc = .ok (.invokevirtual index, 3)) (hf : cells + mc ≤ R.cells ∧ slots + ms ≤ R.slots) :
    vx_Run p l e R s m args below meth c H locs cells slots mc ms g rest (Qc (Value.ref b :: As).toArray) XC free := by
  have hK : vx_Back l R p e below s args y 3 8 (PreOf R mc ms Pc) (PostOf Qc mc ms free) (vx_Post XC mc ms free) := vx_callBack cw.1 hM hp.1
  obtain ⟨⟨-, -, -, -, -, -, hcode, -, hy, hlen, hl⟩, hin, hse⟩ := cw
  obtain ⟨hx, hb, hml, ho, -⟩ := S
  obtain ⟨-, ⟨cellB, hcB, hoB, hclB⟩, hPc⟩ := hp
  intro T hT X
  rcases vx_callV X hx (C := C) (bytes := bytes) (maxL := maxL) (ret := ret) ho hl hin hse hcode hy hK (by rw [hT]; exact hcB) hoB hclB hg (hsize.trans hml.symm) (argsL := As) (rest := rest) (fun sig h => hn.trans (hlen sig h)) hstack hW (by rw [hb]; exact hdg)
    (fun vm₁ hW₁ => ⟨hf.1, hf.2, hPc (T.setVm vm₁) hT hW₁⟩) with ⟨v, vm₁, ⟨U', l2, c2, s2⟩, hW₁, X', ⟨g', mk, t, L, e1, e2, hq, h1, hL, h2, h3⟩, st⟩ | ⟨q, vm₁, ⟨U', l2, c2, s2⟩, hW₁, X', ⟨g', mk, t, L, E, ce, e1, e2, hq, hce, hcv, hcl, h1, hL, h2, h3⟩, st⟩
  · dsimp only [Pt.U, Pt.locs, Pt.cells, Pt.slots] at X' e1 e2 h1 h2 h3 st
    subst h1; subst h2; subst h3
    exact Or.inl ⟨v, (T.setVm vm₁).calling g' mk (Value.ref b :: As).toArray, t, U', L, hT, X', hL, e1, e2, hq, st⟩
  · dsimp only [Pt.U, Pt.locs, Pt.cells, Pt.slots] at X' e1 e2 h1 h2 h3 st hcl
    subst h1; subst h2; subst h3
    exact Or.inr ⟨q, (T.setVm vm₁).calling g' mk (Value.ref b :: As).toArray, t, U', L, E, ce, hT, X', hL, e1, e2, hq, hce, hcv, vx_cls hW₁ hcl, st⟩
theorem vx_runS (S : CallFix p m c cc nL s args Ts own) (hM : vx_Met l y ws rm Pc Qc XC mc ms free) (cw : CallB R s args own index y bytes maxL ret ws rm mc ms n ∧ (Cond.static y).before args s = true) (hp : PreS s H Pc As)
    (hg : g.method = m) (hn : As.length = n) (hsize : g.locals.size = nL) (hstack : g.stack = As.reverse ++ rest) (hW : 2 * g.monitorRoom + (rest.map fun v => v.category).sum ≤ 8) (hdg : decode cc g.pc = .ok (.invokestatic index, 3)) (hf : cells + mc ≤ R.cells ∧ slots + ms ≤ R.slots) :
    vx_Run p l e R s m args below meth c H locs cells slots mc ms g rest (Qc As.toArray) XC free := by
  have hK : vx_Back l R p e below s args y 3 8 (PreOf R mc ms Pc) (PostOf Qc mc ms free) (vx_Post XC mc ms free) := vx_callBack cw.1 hM hp.1
  obtain ⟨⟨-, -, -, -, -, -, hcode, hini, hy, hlen, hl⟩, hstt⟩ := cw
  obtain ⟨hx, hb, hml, ho, -⟩ := S
  intro T hT X
  rcases vx_callS X hx (bytes := bytes) (maxL := maxL) (ret := ret) ho hl hstt hini hcode hy hK hg (hsize.trans hml.symm) (argsL := As) (rest := rest) (fun sig h => hn.trans (hlen sig h)) hstack hW (by rw [hb]; exact hdg)
    (fun vm₁ hW₁ => ⟨hf.1, hf.2, hp.2 (T.setVm vm₁) hT hW₁⟩) with ⟨v, vm₁, ⟨U', l2, c2, s2⟩, hW₁, X', ⟨g', mk, t, L, e1, e2, hq, h1, hL, h2, h3⟩, st⟩ | ⟨q, vm₁, ⟨U', l2, c2, s2⟩, hW₁, X', ⟨g', mk, t, L, E, ce, e1, e2, hq, hce, hcv, hcl, h1, hL, h2, h3⟩, st⟩
  · dsimp only [Pt.U, Pt.locs, Pt.cells, Pt.slots] at X' e1 e2 h1 h2 h3 st
    subst h1; subst h2; subst h3
    exact Or.inl ⟨v, (T.setVm vm₁).calling g' mk As.toArray, t, U', L, hT, X', hL, e1, e2, hq, st⟩
  · dsimp only [Pt.U, Pt.locs, Pt.cells, Pt.slots] at X' e1 e2 h1 h2 h3 st hcl
    subst h1; subst h2; subst h3
    exact Or.inr ⟨q, (T.setVm vm₁).calling g' mk As.toArray, t, U', L, E, ce, hT, X', hL, e1, e2, hq, hce, hcv, vx_cls hW₁ hcl, st⟩
end Runs
section Rows
variable {p : Program} {l : Launch} {e : Env} {R : Room} {s : State} {m : MethodId} {args : Array Value} {below : List Frame} {meth : Method} {c : Code} {H : Heap} {locs : List Loc} {cells slots : Nat} {Q : State → Prop}
variable {mc ms : Nat} {free : Addr → Prop} {A0 A1 : Nat → Prop} {H0 : Heap} {a : Array Value} {pc : Nat} {ls : Array Slot} {st0 rest : List Value}
theorem vx_keep {st₀ t T' : State} {L : List Loc} (h0 : st₀.heap = H) (e1 : T'.heap = t.heap) (hS : va_S A0 H0 H locs) (hA : ∀ q, q < H.size → A1 q → A0 q) (hf : ∀ q, free q → A0 q) (hL : ∀ q ∈ L, free q.base) (hF : va_F A1 st₀ t) :
    H.size ≤ T'.heap.size ∧ (∀ q : Nat, q < H.size → ¬ A1 q → T'.heap[q]? = H[q]?) ∧ va_S A0 H0 T'.heap (locs ++ L) := by
  obtain ⟨hz, hk⟩ := hF
  rw [h0] at hz hk
  exact ⟨by rw [e1]; exact hz, fun q h1 h2 => by rw [e1]; exact hk q h1 h2,
    ⟨Nat.le_trans hS.1 (by rw [e1]; exact hz), fun q h1 h2 => by rw [e1, hk q (Nat.lt_of_lt_of_le h1 hS.1) (fun z => h2 (hA q (Nat.lt_of_lt_of_le h1 hS.1) z))]; exact hS.2.1 q h1 h2, fun q hq => by
      rcases List.mem_append.mp hq with h | h
      · exact hS.2.2 q h
      · exact hf _ (hL q h)⟩⟩
theorem vx_calli {S SX : Type} {post : Int32 → S → Prop} {px : SX → Prop} {B : S → State → Prop} {BX : String → SX → State → Prop} {AX : Nat → Prop} (hr : vx_Run p l e R s m args below meth c H locs cells slots mc ms (F0 m pc ls st0) rest (va_Qi post B A1 a) (vx_X px BX AX) free) (hS : va_S A0 H0 H locs) (hA : ∀ q, q < H.size → A1 q → A0 q) (hf : ∀ q, free q → A0 q) (hAX : ∀ q, q < H.size → AX q → A0 q)
    (kx : ∀ (E : String) (ce : Cell) (q9 : Addr) (u : SX) (t : State) (H1 : Heap) (locs1 : List Loc), t.heap = H1 → s.vm.Alike t.vm → px u → BX E u t → H.size ≤ H1.size → (∀ q : Nat, q < H.size → ¬ AX q → H1[q]? = H[q]?) → va_S A0 H0 H1 locs1 → H1[q9]? = some ce → ce.vm = .none → s.vm.findClass E = some ce.cls → vx_W p l e R s m args below meth c H1 locs1 (cells + mc) (slots + ms) Q (F0 m pc ls rest) q9)
    (kk : ∀ (r : Int32) (u : S) (t : State) (H1 : Heap) (locs1 : List Loc), t.heap = H1 → s.vm.Alike t.vm → post r u → B u t → H.size ≤ H1.size → (∀ q : Nat, q < H.size → ¬ A1 q → H1[q]? = H[q]?) → va_S A0 H0 H1 locs1 → W p l e R s m args below meth c H1 locs1 (cells + mc) (slots + ms) Q (F0 m (pc + 3) ls (.int r :: rest))) : W p l e R s m args below meth c H locs cells slots Q (F0 m pc ls st0) := by
  intro T hT X
  rcases hr T hT X with ⟨v, st₀, t, T', L, h0, X', hL, e1, e2, ⟨⟨r, u, hv, hp, hb⟩, hF⟩, st⟩ | ⟨q, st₀, t, T', L, E, ce, h0, X', hL, e1, e2, ⟨u, hp, hb, hF⟩, hce, hcv, hcl, st⟩
  · cases hv
    obtain ⟨k1, k2, k3⟩ := vx_keep h0 e1 hS hA hf hL hF
    obtain ⟨t2, a1, b1⟩ := kk r u t T'.heap (locs ++ L) e1.symm (by rw [← e2]; exact X'.warmed.alike) hp hb k1 k2 k3 T' rfl X'
    exact ⟨t2, st t2 a1, b1⟩
  · obtain ⟨k1, k2, k3⟩ := vx_keep h0 e1 hS hAX hf hL hF
    obtain ⟨t2, a1, b1⟩ := kx E ce q u t T'.heap (locs ++ L) e1.symm (by rw [← e2]; exact X'.warmed.alike) hp hb k1 k2 k3 (by rw [e1]; exact hce) hcv hcl T' rfl X'
    exact ⟨t2, st.trans a1, b1⟩
theorem vx_calll {S SX : Type} {post : Int64 → S → Prop} {px : SX → Prop} {B : S → State → Prop} {BX : String → SX → State → Prop} {AX : Nat → Prop} (hr : vx_Run p l e R s m args below meth c H locs cells slots mc ms (F0 m pc ls st0) rest (va_Ql post B A1 a) (vx_X px BX AX) free) (hS : va_S A0 H0 H locs) (hA : ∀ q, q < H.size → A1 q → A0 q) (hf : ∀ q, free q → A0 q) (hAX : ∀ q, q < H.size → AX q → A0 q)
    (kx : ∀ (E : String) (ce : Cell) (q9 : Addr) (u : SX) (t : State) (H1 : Heap) (locs1 : List Loc), t.heap = H1 → s.vm.Alike t.vm → px u → BX E u t → H.size ≤ H1.size → (∀ q : Nat, q < H.size → ¬ AX q → H1[q]? = H[q]?) → va_S A0 H0 H1 locs1 → H1[q9]? = some ce → ce.vm = .none → s.vm.findClass E = some ce.cls → vx_W p l e R s m args below meth c H1 locs1 (cells + mc) (slots + ms) Q (F0 m pc ls rest) q9)
    (kk : ∀ (r : Int64) (u : S) (t : State) (H1 : Heap) (locs1 : List Loc), t.heap = H1 → s.vm.Alike t.vm → post r u → B u t → H.size ≤ H1.size → (∀ q : Nat, q < H.size → ¬ A1 q → H1[q]? = H[q]?) → va_S A0 H0 H1 locs1 → W p l e R s m args below meth c H1 locs1 (cells + mc) (slots + ms) Q (F0 m (pc + 3) ls (.long r :: rest))) : W p l e R s m args below meth c H locs cells slots Q (F0 m pc ls st0) := by
  intro T hT X
  rcases hr T hT X with ⟨v, st₀, t, T', L, h0, X', hL, e1, e2, ⟨⟨r, u, hv, hp, hb⟩, hF⟩, st⟩ | ⟨q, st₀, t, T', L, E, ce, h0, X', hL, e1, e2, ⟨u, hp, hb, hF⟩, hce, hcv, hcl, st⟩
  · cases hv
    obtain ⟨k1, k2, k3⟩ := vx_keep h0 e1 hS hA hf hL hF
    obtain ⟨t2, a1, b1⟩ := kk r u t T'.heap (locs ++ L) e1.symm (by rw [← e2]; exact X'.warmed.alike) hp hb k1 k2 k3 T' rfl X'
    exact ⟨t2, st t2 a1, b1⟩
  · obtain ⟨k1, k2, k3⟩ := vx_keep h0 e1 hS hAX hf hL hF
    obtain ⟨t2, a1, b1⟩ := kx E ce q u t T'.heap (locs ++ L) e1.symm (by rw [← e2]; exact X'.warmed.alike) hp hb k1 k2 k3 (by rw [e1]; exact hce) hcv hcl T' rfl X'
    exact ⟨t2, st.trans a1, b1⟩
theorem vx_callf {S SX : Type} {post : UInt32 → S → Prop} {px : SX → Prop} {B : S → State → Prop} {BX : String → SX → State → Prop} {AX : Nat → Prop} (hr : vx_Run p l e R s m args below meth c H locs cells slots mc ms (F0 m pc ls st0) rest (va_Qf post B A1 a) (vx_X px BX AX) free) (hS : va_S A0 H0 H locs) (hA : ∀ q, q < H.size → A1 q → A0 q) (hf : ∀ q, free q → A0 q) (hAX : ∀ q, q < H.size → AX q → A0 q)
    (kx : ∀ (E : String) (ce : Cell) (q9 : Addr) (u : SX) (t : State) (H1 : Heap) (locs1 : List Loc), t.heap = H1 → s.vm.Alike t.vm → px u → BX E u t → H.size ≤ H1.size → (∀ q : Nat, q < H.size → ¬ AX q → H1[q]? = H[q]?) → va_S A0 H0 H1 locs1 → H1[q9]? = some ce → ce.vm = .none → s.vm.findClass E = some ce.cls → vx_W p l e R s m args below meth c H1 locs1 (cells + mc) (slots + ms) Q (F0 m pc ls rest) q9)
    (kk : ∀ (r : UInt32) (u : S) (t : State) (H1 : Heap) (locs1 : List Loc), t.heap = H1 → s.vm.Alike t.vm → post r u → B u t → H.size ≤ H1.size → (∀ q : Nat, q < H.size → ¬ A1 q → H1[q]? = H[q]?) → va_S A0 H0 H1 locs1 → W p l e R s m args below meth c H1 locs1 (cells + mc) (slots + ms) Q (F0 m (pc + 3) ls (.float r :: rest))) : W p l e R s m args below meth c H locs cells slots Q (F0 m pc ls st0) := by
  intro T hT X
  rcases hr T hT X with ⟨v, st₀, t, T', L, h0, X', hL, e1, e2, ⟨⟨r, u, hv, hp, hb⟩, hF⟩, st⟩ | ⟨q, st₀, t, T', L, E, ce, h0, X', hL, e1, e2, ⟨u, hp, hb, hF⟩, hce, hcv, hcl, st⟩
  · cases hv
    obtain ⟨k1, k2, k3⟩ := vx_keep h0 e1 hS hA hf hL hF
    obtain ⟨t2, a1, b1⟩ := kk r u t T'.heap (locs ++ L) e1.symm (by rw [← e2]; exact X'.warmed.alike) hp hb k1 k2 k3 T' rfl X'
    exact ⟨t2, st t2 a1, b1⟩
  · obtain ⟨k1, k2, k3⟩ := vx_keep h0 e1 hS hAX hf hL hF
    obtain ⟨t2, a1, b1⟩ := kx E ce q u t T'.heap (locs ++ L) e1.symm (by rw [← e2]; exact X'.warmed.alike) hp hb k1 k2 k3 (by rw [e1]; exact hce) hcv hcl T' rfl X'
    exact ⟨t2, st.trans a1, b1⟩
theorem vx_calld {S SX : Type} {post : UInt64 → S → Prop} {px : SX → Prop} {B : S → State → Prop} {BX : String → SX → State → Prop} {AX : Nat → Prop} (hr : vx_Run p l e R s m args below meth c H locs cells slots mc ms (F0 m pc ls st0) rest (va_Qd post B A1 a) (vx_X px BX AX) free) (hS : va_S A0 H0 H locs) (hA : ∀ q, q < H.size → A1 q → A0 q) (hf : ∀ q, free q → A0 q) (hAX : ∀ q, q < H.size → AX q → A0 q)
    (kx : ∀ (E : String) (ce : Cell) (q9 : Addr) (u : SX) (t : State) (H1 : Heap) (locs1 : List Loc), t.heap = H1 → s.vm.Alike t.vm → px u → BX E u t → H.size ≤ H1.size → (∀ q : Nat, q < H.size → ¬ AX q → H1[q]? = H[q]?) → va_S A0 H0 H1 locs1 → H1[q9]? = some ce → ce.vm = .none → s.vm.findClass E = some ce.cls → vx_W p l e R s m args below meth c H1 locs1 (cells + mc) (slots + ms) Q (F0 m pc ls rest) q9)
    (kk : ∀ (r : UInt64) (u : S) (t : State) (H1 : Heap) (locs1 : List Loc), t.heap = H1 → s.vm.Alike t.vm → post r u → B u t → H.size ≤ H1.size → (∀ q : Nat, q < H.size → ¬ A1 q → H1[q]? = H[q]?) → va_S A0 H0 H1 locs1 → W p l e R s m args below meth c H1 locs1 (cells + mc) (slots + ms) Q (F0 m (pc + 3) ls (.double r :: rest))) : W p l e R s m args below meth c H locs cells slots Q (F0 m pc ls st0) := by
  intro T hT X
  rcases hr T hT X with ⟨v, st₀, t, T', L, h0, X', hL, e1, e2, ⟨⟨r, u, hv, hp, hb⟩, hF⟩, st⟩ | ⟨q, st₀, t, T', L, E, ce, h0, X', hL, e1, e2, ⟨u, hp, hb, hF⟩, hce, hcv, hcl, st⟩
  · cases hv
    obtain ⟨k1, k2, k3⟩ := vx_keep h0 e1 hS hA hf hL hF
    obtain ⟨t2, a1, b1⟩ := kk r u t T'.heap (locs ++ L) e1.symm (by rw [← e2]; exact X'.warmed.alike) hp hb k1 k2 k3 T' rfl X'
    exact ⟨t2, st t2 a1, b1⟩
  · obtain ⟨k1, k2, k3⟩ := vx_keep h0 e1 hS hAX hf hL hF
    obtain ⟨t2, a1, b1⟩ := kx E ce q u t T'.heap (locs ++ L) e1.symm (by rw [← e2]; exact X'.warmed.alike) hp hb k1 k2 k3 (by rw [e1]; exact hce) hcv hcl T' rfl X'
    exact ⟨t2, st.trans a1, b1⟩
theorem vx_callv {S SX : Type} {post : S → Prop} {px : SX → Prop} {B : S → State → Prop} {BX : String → SX → State → Prop} {AX : Nat → Prop} (hr : vx_Run p l e R s m args below meth c H locs cells slots mc ms (F0 m pc ls st0) rest (va_Qv post B A1 a) (vx_X px BX AX) free) (hS : va_S A0 H0 H locs) (hA : ∀ q, q < H.size → A1 q → A0 q) (hf : ∀ q, free q → A0 q) (hAX : ∀ q, q < H.size → AX q → A0 q)
    (kx : ∀ (E : String) (ce : Cell) (q9 : Addr) (u : SX) (t : State) (H1 : Heap) (locs1 : List Loc), t.heap = H1 → s.vm.Alike t.vm → px u → BX E u t → H.size ≤ H1.size → (∀ q : Nat, q < H.size → ¬ AX q → H1[q]? = H[q]?) → va_S A0 H0 H1 locs1 → H1[q9]? = some ce → ce.vm = .none → s.vm.findClass E = some ce.cls → vx_W p l e R s m args below meth c H1 locs1 (cells + mc) (slots + ms) Q (F0 m pc ls rest) q9)
    (kk : ∀ (u : S) (t : State) (H1 : Heap) (locs1 : List Loc), t.heap = H1 → s.vm.Alike t.vm → post u → B u t → H.size ≤ H1.size → (∀ q : Nat, q < H.size → ¬ A1 q → H1[q]? = H[q]?) → va_S A0 H0 H1 locs1 → W p l e R s m args below meth c H1 locs1 (cells + mc) (slots + ms) Q (F0 m (pc + 3) ls (rest))) : W p l e R s m args below meth c H locs cells slots Q (F0 m pc ls st0) := by
  intro T hT X
  rcases hr T hT X with ⟨v, st₀, t, T', L, h0, X', hL, e1, e2, ⟨⟨u, hv, hp, hb⟩, hF⟩, st⟩ | ⟨q, st₀, t, T', L, E, ce, h0, X', hL, e1, e2, ⟨u, hp, hb, hF⟩, hce, hcv, hcl, st⟩
  · cases hv
    obtain ⟨k1, k2, k3⟩ := vx_keep h0 e1 hS hA hf hL hF
    obtain ⟨t2, a1, b1⟩ := kk u t T'.heap (locs ++ L) e1.symm (by rw [← e2]; exact X'.warmed.alike) hp hb k1 k2 k3 T' rfl X'
    exact ⟨t2, st t2 a1, b1⟩
  · obtain ⟨k1, k2, k3⟩ := vx_keep h0 e1 hS hAX hf hL hF
    obtain ⟨t2, a1, b1⟩ := kx E ce q u t T'.heap (locs ++ L) e1.symm (by rw [← e2]; exact X'.warmed.alike) hp hb k1 k2 k3 (by rw [e1]; exact hce) hcv hcl T' rfl X'
    exact ⟨t2, st.trans a1, b1⟩
/-- caught by the row x of this method's table; the rows ahead don't take it -/
theorem vx_catch {own name : String} {E : String} {ce : Cell} {q : Addr} (hown : s.vm.findClass own = some m.cls) (pre : List ExceptionTableEntry) (x : ExceptionTableEntry) (suf : List ExceptionTableEntry) (hsplit : c.exceptionTable.toList = pre ++ x :: suf)
    (hpass : ∀ z ∈ pre, covers z pc = false ∨ (z.catchType ≠ 0 ∧ ∃ nm : String, (Cond.classLink own z.catchType nm).before args s = true ∧ va_Nc E nm s)) (hx : covers x pc = true) (h0 : x.catchType ≠ 0)
    (hlink : (Cond.classLink own x.catchType name).before args s = true) (hcast : (Cond.castable E name).before args s = true) (hcell : H[q]? = some ce) (hv : ce.vm = .none) (hcl : s.vm.findClass E = some ce.cls)
    (kk : W p l e R s m args below meth c H locs cells slots Q (F0 m x.handlerPc ls [.ref q])) : vx_W p l e R s m args below meth c H locs cells slots Q (F0 m pc ls rest) q := by
  intro T hT X
  have hpl : e.platform.magicAccessors = ({} : Platform).magicAccessors := by rw [X.admits.platform]
  obtain ⟨c3, c4, hc3, hc4, hasg⟩ := Cond.castable_spec hcast
  cases Option.some.inj (hc3.symm.trans hcl)
  obtain ⟨c5, hc5, hcl5⟩ := Cond.classLink_spec hown hlink e.platform hpl
  cases Option.some.inj (hc4.symm.trans hc5)
  obtain ⟨vm', X', st⟩ := Stand.thenCaughtThrough X q (g := F0 m pc ls rest) rfl (Steps.refl _) (by rw [hT]; exact hcell) (by rw [hv]; rfl) (by obtain ⟨k9, h9, -⟩ := Vm.findClass_spec hcl; exact ⟨k9, h9⟩) pre x suf hsplit
    (fun z hz => by
      rcases hpass z hz with h | ⟨hz0, nm, hl1, hn1⟩
      · exact Or.inl h
      · obtain ⟨c6, hc6, hcl6⟩ := Cond.classLink_spec hown hl1 e.platform hpl
        obtain ⟨a8, b8, h1, h2, h3⟩ := hn1
        cases Option.some.inj (h1.symm.trans hcl)
        cases Option.some.inj (h2.symm.trans hc6)
        exact Or.inr ⟨hz0, _, hcl6, h3⟩) hx (Or.inr ⟨h0, c4, hcl5, hasg⟩)
  obtain ⟨t, a1, b1⟩ := kk (T.setVm vm') hT X'
  exact ⟨t, st.trans a1, b1⟩
end Rows
section Ends
variable {p : Program} {l : Launch} {e : Env} {R : Room} {s : State} {m : MethodId} {args : Array Value} {below : List Frame} {meth : Method} {c : Code} {H : Heap} {locs : List Loc} {cells slots : Nat} {Q : State → Prop}
variable {mc ms : Nat} {free : Addr → Prop} {A0 A1 : Nat → Prop} {H0 : Heap} {a : Array Value} {ls : Array Slot} {st0 rest : List Value}
variable {Qc : Array Value → State → Outcome → State → Prop} {XC : String → State → State → Prop}
/-- what a body that may throw owes at its end -/
def vx_MQ (below : List Frame) (Qc : Array Value → State → Outcome → State → Prop) (XC : String → State → State → Prop) (a : Array Value) (s : State) (mc ms : Nat) (free : Addr → Prop) : State → Prop := fun t =>
  ∃ o, t.status = .running ∧ Ended t below o ∧ vx_Q Qc XC mc ms free a s o t
theorem vx_ret {g : JFrame} {mc ms : Nat} (k : W p l e R s m args below meth c H locs cells slots (MQ below Qc args s mc ms free) g) : W p l e R s m args below meth c H locs cells slots (vx_MQ below Qc XC args s mc ms free) g := by
  intro T hT X
  obtain ⟨t, a1, o, b1, b2, b3, b4⟩ := k T hT X
  exact ⟨t, a1, o, b1, b2, Or.inl ⟨b3, b4⟩⟩
/-- not caught here: it goes on to the caller -/
theorem vx_widen {g : JFrame} {q : Addr} {k n : Nat} (h1 : cells ≤ k) (h2 : slots ≤ n) (kk : vx_W p l e R s m args below meth c H locs k n Q g q) : vx_W p l e R s m args below meth c H locs cells slots Q g q := fun T hT X => kk T hT (stand_widen X h1 h2)
theorem vx_out {pc : Nat} {E : String} {ce : Cell} {q : Addr} {mc ms : Nat} (hout : ∀ x ∈ c.exceptionTable.toList, covers x pc = false) (hlocks : meth.locks = false) (hcell : H[q]? = some ce) (hv : ce.vm = .none) (hcl : s.vm.findClass E = some ce.cls)
    (hx : ∀ t : State, t.heap = H → s.vm.Alike t.vm → XC E s t) (hf : ∀ z ∈ locs, free z.base) (hc : cells ≤ mc) (hs : slots ≤ ms) :
    vx_W p l e R s m args below meth c H locs cells slots (vx_MQ below Qc XC args s mc ms free) (F0 m pc ls rest) q := by
  intro T hT X
  obtain ⟨st1, hrun, hend, hW, hsm⟩ := X.leaveThrown q (g := F0 m pc ls rest) rfl rfl rfl hout hlocks
  have hcell9 : (T.setFrames (.throwing q :: below)).heap[q]? = some ce := by
    show T.heap[q]? = some ce
    rw [hT]; exact hcell
  exact ⟨_, st1, .threw q, hrun, hend, Or.inr ⟨q, rfl, E, ce, locs, hx _ hT hW.alike, hcell9, hv, hcl, hW, hsm.mono hc hs, hf⟩⟩
theorem vx_frame {U : State} {k n : Nat} (h : s.sameButNew ({ U with vm := s.vm } : State) locs k n) : s.heap.size ≤ U.heap.size ∧ ∀ q : Nat, q < s.heap.size → (∀ z ∈ locs, z.base ≠ q) → U.heap[q]? = s.heap[q]? := by
  obtain ⟨-, h2, -, -, -, h6⟩ := h
  refine ⟨h2, fun q hq hz => ?_⟩
  obtain ⟨c9, e1, e2, e3, e4⟩ := h6 q _ (Array.getElem?_eq_getElem hq)
  have hs : c9.slots = (s.heap[q]).slots := Array.ext_getElem? fun i => e4 i fun hm => hz _ hm rfl
  have h9 : c9 = s.heap[q] := by
    rw [hs] at e2
    exact e2
  have e5 : U.heap[q]? = some c9 := e1
  rw [e5, h9, Array.getElem?_eq_getElem hq]
/-- the words of a throw but the four that speak of the heap -/
def vx_no (w : Cond) : Bool := decide (w ≠ .isRef (.static Bundle.tN "UNASSIGNED_STACK" Bundle.steD)) && decide (w ≠ .isRef (.static Bundle.tN "SUPPRESSED_SENTINEL" Bundle.listD)) && decide (w ≠ .laysStatic Bundle.tN "UNASSIGNED_STACK" Bundle.steD) && decide (w ≠ .laysStatic Bundle.tN "SUPPRESSED_SENTINEL" Bundle.listD)
def vx_at0 (own : String) (ic : Nat) (X : String) (names : List String) : List Cond := (Bundle.ownAtoms0 own ic X names).filter vx_no
def vx_atS (own : String) (ic : Nat) (X : String) (names : List String) : List Cond := (Bundle.ownAtoms own ic X names).filter vx_no
/-- a word that the tables alone decide, or a good one -/
def vx_ot (w : Cond) : Bool := w.onTables || goodWord w
theorem vx_ot_at {args a' : Array Value} {s U : State} {w : Cond} (hW : s.WarmedH U.vm) (hvm : s.vm = U.vm) (hg : vx_ot w = true) (h : w.before args s = true) : w.before a' U = true := by
  simp only [vx_ot, Bool.or_eq_true] at hg
  rcases hg with hg | hg
  · exact va_tabs hg hvm h
  · exact word_at hW (good_of_word hg) h
/-- a list's words: the good ones out of the method's own list, the others by premises of their own -/
theorem vx_hat {args : Array Value} {s : State} {L B : List Cond} (h1 : ∀ w ∈ L.filter goodWord, w.before args s = true) (h2 : ∀ w ∈ L.filter (fun w => !goodWord w), w ∈ B) (h3 : ∀ w ∈ B, w.before args s = true) : ∀ w ∈ L, w.before args s = true := by
  intro w hw
  by_cases g : goodWord w = true
  · exact h1 w (List.mem_filter.mpr ⟨hw, g⟩)
  · refine h3 w (h2 w (List.mem_filter.mpr ⟨hw, ?_⟩))
    show (!goodWord w) = true
    cases hgw : goodWord w
    · rfl
    · exact absurd hgw g
theorem vx_c {args : Array Value} {s : State} {w : Cond} {B : List Cond} (h : w.before args s = true) (t : ∀ w ∈ B, w.before args s = true) : ∀ w' ∈ w :: B, w'.before args s = true := fun w' h' => (List.mem_cons.mp h').elim (fun e => by rw [e]; exact h) (t w')
theorem vx_n {args : Array Value} {s : State} : ∀ w ∈ ([] : List Cond), w.before args s = true := fun _ h => nomatch h
theorem vx_own {args : Array Value} {s : State} {L : List Cond} (h1 : ∀ w ∈ L.filter vx_no, w.before args s = true)
    (hU : (Cond.isRef (.static Bundle.tN "UNASSIGNED_STACK" Bundle.steD)).before args s = true) (hN : (Cond.isRef (.static Bundle.tN "SUPPRESSED_SENTINEL" Bundle.listD)).before args s = true)
    (lU : (Cond.laysStatic Bundle.tN "UNASSIGNED_STACK" Bundle.steD).before args s = true) (lN : (Cond.laysStatic Bundle.tN "SUPPRESSED_SENTINEL" Bundle.listD).before args s = true) : ∀ w ∈ L, w.before args s = true := by
  intro w hw
  by_cases e1 : w = .isRef (.static Bundle.tN "UNASSIGNED_STACK" Bundle.steD)
  · rw [e1]; exact hU
  · by_cases e2 : w = .isRef (.static Bundle.tN "SUPPRESSED_SENTINEL" Bundle.listD)
    · rw [e2]; exact hN
    · by_cases e3 : w = .laysStatic Bundle.tN "UNASSIGNED_STACK" Bundle.steD
      · rw [e3]; exact lU
      · by_cases e4 : w = .laysStatic Bundle.tN "SUPPRESSED_SENTINEL" Bundle.listD
        · rw [e4]; exact lN
        · exact h1 w (List.mem_filter.mpr ⟨hw, by unfold vx_no; rw [decide_eq_true e1, decide_eq_true e2, decide_eq_true e3, decide_eq_true e4]; rfl⟩)
/-- where a static field lies, its class's statics cell in H -/
def vx_L (C n d : String) (A : Nat → Prop) (U : State) (H : Heap) : Prop := ∃ (c : ClassId) (k : Class) (i : Nat) (f : Field) (a : Nat) (cell : Cell), U.vm.findClass C = some c ∧ U.fieldFound? C n d = some (c, k, i, f) ∧ f.isStatic = true ∧ k.statics = some a ∧ H[a]? = some cell ∧ cell.vm.isStatics = true ∧ cell.cls = c ∧ f.slot < cell.slots.size ∧ k.staticTypes[f.slot]? = some f.type ∧ ¬ A a
theorem vx_L.moved {C n d : String} {A : Nat → Prop} {u U : State} {H : Heap} (hvm : u.vm.Alike U.vm) (h : vx_L C n d A u H) : vx_L C n d A U H := by
  obtain ⟨c, k, i, f, a, cell, h1, h2, h3, h4, h5, h6, h7, h8, h9, h10⟩ := h
  obtain ⟨k', hi', he⟩ := State.fieldFound?_setVm hvm h2
  exact ⟨c, k', i, f, a, cell, by rw [hvm.findClass]; exact h1, hi', h3, by rw [he]; exact h4, h5, h6, h7, h8, by rw [he]; exact h9, h10⟩
theorem vx_L.kept {C n d : String} {A : Nat → Prop} {U : State} {H H1 : Heap} (h : vx_L C n d A U H) (hq : ∀ a : Nat, a < H.size → ¬ A a → H1[a]? = H[a]?) : vx_L C n d A U H1 := by
  obtain ⟨c, k, i, f, a, cell, h1, h2, h3, h4, h5, h6, h7, h8, h9, h10⟩ := h
  exact ⟨c, k, i, f, a, cell, h1, h2, h3, h4, by rw [hq a (Array.getElem?_eq_some_iff.mp h5).1 h10]; exact h5, h6, h7, h8, h9, h10⟩
theorem vx_L.narrow {C n d : String} {A B : Nat → Prop} {U : State} {H : Heap} (h : vx_L C n d A U H) (hAB : ∀ q, B q → A q) : vx_L C n d B U H := by
  obtain ⟨c, k, i, f, a, cell, h1, h2, h3, h4, h5, h6, h7, h8, h9, h10⟩ := h
  exact ⟨c, k, i, f, a, cell, h1, h2, h3, h4, h5, h6, h7, h8, h9, fun z => h10 (hAB _ z)⟩
theorem vx_L.word {C n d : String} {A : Nat → Prop} {s : State} {args : Array Value} (h : vx_L C n d A s s.heap) : (Cond.laysStatic C n d).before args s = true := by
  obtain ⟨c, k, i, f, a, cell, h1, h2, h3, h4, h5, h6, h7, h8, h9, -⟩ := h
  show (Cond.laysStatic C n d).holds args s none s [] = true
  exact Cond.laysStatic_of h1 h2 h3 h4 h5 h6 h7 h8 h9
/-- .. and what it holds: null or some reference -/
def vx_Zq (C n d : String) (A : Nat → Prop) (U : State) (H : Heap) : Prop := va_Zq C n d A U H ∧ vx_L C n d A U H
theorem vx_Zq.moved {C n d : String} {A : Nat → Prop} {u U : State} {H : Heap} (hvm : u.vm.Alike U.vm) (h : vx_Zq C n d A u H) : vx_Zq C n d A U H := ⟨va_Zq.moved hvm h.1, vx_L.moved hvm h.2⟩
theorem vx_Zq.kept {C n d : String} {A : Nat → Prop} {U : State} {H H1 : Heap} (h : vx_Zq C n d A U H) (hq : ∀ a : Nat, a < H.size → ¬ A a → H1[a]? = H[a]?) : vx_Zq C n d A U H1 := ⟨va_Zq.kept h.1 hq, vx_L.kept h.2 hq⟩
theorem vx_Zq.narrow {C n d : String} {A B : Nat → Prop} {U : State} {H : Heap} (h : vx_Zq C n d A U H) (hAB : ∀ q, B q → A q) : vx_Zq C n d B U H := ⟨va_Zq.narrow h.1 hAB, vx_L.narrow h.2 hAB⟩
theorem vx_Zqof {args : Array Value} {s : State} {C n d : String} {A : Nat → Prop} (hl : (Cond.laysStatic C n d).before args s = true) (hini : (Cond.initialized C).before args s = true) (h : (Cond.isRef (.static C n d)).before args s = true) (hA : ∀ a : Nat, a < s.heap.size → ¬ A a) : vx_Zq C n d A s s.heap := by
  refine ⟨va_Zqof hl hini h hA, ?_⟩
  obtain ⟨c, k, i, f, a, cell, h1, h2, h3, h4, h5, h6, h7, h8, h9⟩ := Cond.laysStatic_spec hl
  exact ⟨c, k, i, f, a, cell, h1, h2, h3, h4, h5, h6, h7, h8, h9, hA a (Array.getElem?_eq_some_iff.mp h5).1⟩
theorem vx_isRef {C n d : String} {v : Value} {A : Nat → Prop} {s : State} {args : Array Value} (h : va_Z C n d v A s s.heap) (hv : v.isRef = true) : (Cond.isRef (.static C n d)).before args s = true := by
  obtain ⟨cf, kf, fi, f, a, cell, h1, h2, h3, h4, h5, h6, h7, -⟩ := h
  have he : (Term.static C n d).eval args s none [] s = some v := by
    simp [Term.eval, State.fieldNamed?, h1, h2, h4, h5, h6, h7]
  simp only [Cond.before, Cond.holds, Cond.value, he]
  cases v <;> simp_all [Value.isRef]
theorem vx_isRefq {C n d : String} {A : Nat → Prop} {s : State} {args : Array Value} (h : va_Zq C n d A s s.heap) : (Cond.isRef (.static C n d)).before args s = true := by
  rcases h with h | ⟨t, h⟩
  · exact vx_isRef h rfl
  · exact vx_isRef h rfl
/-- the same frame, seen from here: as if the method were called anew in this heap -/
theorem vx_rebase {T : State} (X : Stand p l e R s m args below meth c T locs cells slots) {R' : Room} (hf : R'.frames ≤ R.frames) (hl : R'.locals ≤ R.locals) (hc : cells + R'.cells ≤ R.cells) (hs : slots + R'.slots ≤ R.slots) :
    Stand p l e R' ((T.setVm s.vm).setFrames (.invoking m args :: below)) m args below meth c T [] 0 0 := by
  have htop : (T.setVm s.vm).topJava?.isSome := X.here.top
  have hF : ((T.setVm s.vm).setFrames (.invoking m args :: below)).frames = .invoking m args :: below := State.frames_setFrames _ (State.cur_lt_of_top htop)
  obtain ⟨g₀, hg0⟩ := Option.isSome_iff_exists.mp htop
  obtain ⟨r, hr⟩ := State.topJava?_eq_some.mp hg0
  have hl9 : e.platform.stackLimits (T.setVm s.vm).me = e.platform.stackLimits s.me := X.limits
  have hb9 : (T.setVm s.vm).me.stackBytes = s.me.stackBytes := X.bytes
  refine ⟨X.admits, X.cas, X.clock, hF, ?_, X.hears, X.method, X.code, X.here, X.tail, X.warmed, ?_, ?_, ?_⟩
  · have h := X.room
    have hU : ((T.setVm s.vm).setFrames (.invoking m args :: below)).localsInUse = s.localsInUse := by
      rw [State.localsInUse_invoking hF (meth := meth) (c := c) X.method X.code, State.localsInUse_invoking X.frames X.method X.code]
    simp only [State.hasRoom, Bool.and_eq_true, decide_eq_true_eq] at h ⊢
    obtain ⟨⟨⟨⟨h1, h2, h3, h4, h5, h6⟩, h7⟩, h8⟩, h9⟩ := h
    rw [X.frames, List.length_cons] at h2 h3
    have q1 := X.heapSize
    have q2 := X.used
    simp only [hF, hU, List.length_cons, State.stackLimits_setFrames, State.stackBytes_setFrames, hl9, hb9]
    refine ⟨⟨⟨⟨by omega, by omega, by omega, by omega, by omega, h6⟩, ?_⟩, ?_⟩, X.book⟩
    · show T.heap.size + R'.cells ≤ e.platform.maxCells
      omega
    · show T.slotsUsed + R'.slots ≤ e.platform.maxSlots
      omega
  · rw [State.stackLimits_setFrames]; rfl
  · rw [State.stackBytes_setFrames]; rfl
  · refine ⟨?_, Nat.le_refl _, Nat.le_refl _, ?_, ?_, fun a c9 h9 => ⟨c9, h9, rfl, rfl, fun _ _ => rfl⟩⟩
    · obtain ⟨t, ht, -⟩ := State.frames_cons hr
      show T.setVm s.vm = { ((T.setVm s.vm).setFrames (.invoking m args :: below)).setFrames (T.setVm s.vm).frames with heap := T.heap, slotsUsed := T.slotsUsed }
      rw [State.setFrames_setFrames, State.setFrames_self ht]
      rfl
    · show T.slotsUsed = T.slotsUsed + ((T.heap.toList.drop T.heap.size).map (·.slots.size)).sum
      rw [List.drop_eq_nil_of_le (Nat.le_of_eq Array.length_toList)]
      rfl
    · show ((T.heap.toList.drop T.heap.size).map (·.slots.size)).sum ≤ 0
      rw [List.drop_eq_nil_of_le (Nat.le_of_eq Array.length_toList)]
      exact Nat.le_refl _
/-- 'throw new E()': new; dup; invokespecial; athrow -/
theorem vx_throw0 {cc : ByteArray} {pc : Nat} (hexec : p.tables.exec = Jvm.exec) (hb : c.code = cc) (hl : l.stackTraces = false) {own cls : String} {names : List String} {ik ic mc ms : Nat} {A : Nat → Prop}
    (hown : s.vm.findClass own = some m.cls) (hcls : Bundle.fit cls = true) (hnames : ∀ n ∈ names, Bundle.fit n = true)
    (hk : (Cond.classLink own ik cls).before args s = true) (hini : (Cond.initialized cls).before args s = true) (hat : ∀ w ∈ vx_at0 own ic cls names, w.before args s = true)
    (hgood : ∀ w ∈ Cond.classLink own ik cls :: Cond.initialized cls :: vx_at0 own ic cls names, vx_ot w = true)
    (hU : vx_Zq Bundle.tN "UNASSIGNED_STACK" Bundle.steD A s s.heap) (hN : vx_Zq Bundle.tN "SUPPRESSED_SENTINEL" Bundle.listD A s s.heap) (hS : va_S A s.heap H locs) (hsize : ls.size = c.maxLocals)
    (d0 : decode cc pc = .ok (.new ik, 3)) (d3 : decode cc (pc + 3) = .ok (.dup, 1)) (d4 : decode cc (pc + 4) = .ok (.invokespecial ic, 3)) (d7 : decode cc (pc + 7) = .ok (.athrow, 1))
    (hout : ∀ x ∈ c.exceptionTable.toList, covers x (pc + 7) = false)
    (hRframes : names.length + 3 < R.frames) (hRlocals : (rest.map fun v => v.category).sum + (13 * (names.length + 1) + 42) ≤ R.locals) (hRcells : cells + 1 ≤ R.cells) (hRslots : slots + 6 ≤ R.slots) (hlocks : meth.locks = false)
    (hx : ∀ t : State, s.vm.Alike t.vm → H.size ≤ t.heap.size → (∀ q : Nat, q < H.size → t.heap[q]? = H[q]?) → XC cls s t)
    (hf : ∀ z ∈ locs, free z.base) (hc : cells + 1 ≤ mc) (hs : slots + 6 ≤ ms) :
    W p l e R s m args below meth c H locs cells slots (vx_MQ below Qc XC args s mc ms free) (F0 m pc ls rest) := by
  intro T hT X
  have htr : e.platform.stackTraces = false := (show e.platform.stackTraces = l.stackTraces by rw [X.admits.platform]).trans hl
  have Y := vx_rebase X (R' := { frames := R.frames, locals := R.locals, cells := 1, slots := 6 }) (Nat.le_refl _) (Nat.le_refl _) hRcells hRslots
  obtain ⟨s', hA⟩ : ∃ z, z = (T.setVm s.vm).setFrames (.invoking m args :: below) := ⟨_, rfl⟩
  rw [← hA] at Y
  have hvm : s'.vm = s.vm := by rw [hA]; rfl
  have hhp : s'.heap = H := by rw [hA]; exact hT
  have hW0 : s.WarmedH s'.vm := by rw [hvm]; exact State.WarmedH.refl s
  have hat' : ∀ w ∈ vx_at0 own ic cls names, w.before args s' = true := fun w hw => vx_ot_at hW0 hvm.symm (hgood w (List.mem_cons_of_mem _ (List.mem_cons_of_mem _ hw))) (hat w hw)
  have hk' : (Cond.classLink own ik cls).before args s' = true := vx_ot_at hW0 hvm.symm (hgood _ List.mem_cons_self) hk
  have hini' : (Cond.initialized cls).before args s' = true := vx_ot_at hW0 hvm.symm (hgood _ (List.mem_cons_of_mem _ List.mem_cons_self)) hini
  have hU' : vx_Zq Bundle.tN "UNASSIGNED_STACK" Bundle.steD A s' s'.heap := by rw [hhp]; exact vx_Zq.moved hW0.alike (hU.kept hS.2.1)
  have hN' : vx_Zq Bundle.tN "SUPPRESSED_SENTINEL" Bundle.listD A s' s'.heap := by rw [hhp]; exact vx_Zq.moved hW0.alike (hN.kept hS.2.1)
  have h : ∀ w ∈ Bundle.ownAtoms0 own ic cls names, w.before args s' = true := vx_own hat' (vx_isRefq hU'.1) (vx_isRefq hN'.1) hU'.2.word hN'.2.word
  have hown' : s'.vm.findClass own = some m.cls := by rw [hvm]; exact hown
  have hins : (Cond.instantiable cls 6).before args s' = true := h _ (by simp [Bundle.ownAtoms0])
  obtain ⟨vm₁, cX, kX, hfX, hkX, -, -, X₁, st1⟩ := Y.newCold hexec (own := own) (C := cls) (index := ik) (n := 6) hown' hk' hins hini'
    (g := F0 m pc ls rest) rfl (by rw [hb]; exact d0) (Nat.le_refl _) (Nat.le_refl _)
  generalize hT1 : (T.setVm vm₁).pushCell { cls := cX, slots := kX.instanceTypes.map defaultValue, vm := .none } = T1 at X₁ st1
  have hcat : (Value.ref T.heap.size).category = 1 := rfl
  have hcellA : T1.heap[T.heap.size]? = some (freshCell cX kX) := by rw [← hT1]; exact State.heap_pushCell_size _ _
  have d3' : decode c.code (pc + 3) = .ok (.dup, 1) := by rw [hb]; exact d3
  obtain ⟨U, hsteps, hrun, hend, hW, hsame, ce, hce, hO⟩ := X₁.ctorThrow0 hexec htr (own := own) (cls := cls) (names := names) (ic := ic) hown' hcls hnames h (fun x hx => nomatch hx) hfX hkX hcellA (by rw [hhp, hT]; exact Nat.le_refl _)
    (g := { method := m, pc := pc + 4, locals := ls, stack := .ref T.heap.size :: .ref T.heap.size :: rest, locked := none }) rfl hsize rfl rfl (rest := rest) rfl
    (by rw [hb]; exact d4) (by rw [hb]; exact d7) hout hRframes (by simp only [List.map_cons, List.sum_cons, hcat]; omega) hlocks
  obtain ⟨f1, f2⟩ := vx_frame hsame
  rw [hhp] at f1 f2
  have hWs : s.WarmedH U.vm := State.WarmedH.trans hW0 hW
  have hcl : s.vm.findClass cls = some ce.cls := by
    have h9 := hO.cls
    rw [hvm] at h9
    exact h9
  have hall : s.sameButNew ({ U with vm := s.vm } : State) locs mc ms := by
    subst hA
    obtain ⟨e1, e2⟩ := hsame
    rw [State.setFrames_setFrames] at e1
    have h2 : (T.setVm s.vm).sameButNew ({ U with vm := s.vm } : State) [] (0 + 1) (0 + 6) := ⟨e1, e2⟩
    have h3 := X.same.trans h2
    rw [List.append_nil] at h3
    exact h3.mono hc hs
  refine ⟨U, ?_, .threw T.heap.size, hrun, hend, Or.inr ⟨T.heap.size, rfl, cls, ce, locs, hx U hWs.alike f1 (fun q hq => f2 q hq (fun z hz => nomatch hz)), hce, hO.vm, hcl, hWs, hall, hf⟩⟩
  refine st1 _ ?_
  show Steps p.tables e below (T1.setTop { method := m, pc := pc + 3, locals := ls, stack := .ref T.heap.size :: rest, locked := none }) _
  jvm_step X₁.here [X₁.here.top, hexec, d3', Value.category]
  exact hsteps
/-- 'throw new E("text")': new; dup; ldc; invokespecial; athrow -/
theorem vx_throwS {cc : ByteArray} {pc : Nat} (hexec : p.tables.exec = Jvm.exec) (hb : c.code = cc) (hl : l.stackTraces = false) {own cls text : String} {names : List String} {ik is ic mc ms sa : Nat} {A : Nat → Prop}
    (hown : s.vm.findClass own = some m.cls) (hcls : Bundle.fit cls = true) (hnames : ∀ n ∈ names, Bundle.fit n = true)
    (hk : (Cond.classLink own ik cls).before args s = true) (hini : (Cond.initialized cls).before args s = true) (hstr : vk_R own is text sa s) (hat : ∀ w ∈ vx_atS own ic cls names, w.before args s = true)
    (hgood : ∀ w ∈ Cond.classLink own ik cls :: Cond.initialized cls :: vx_atS own ic cls names, vx_ot w = true)
    (hU : vx_Zq Bundle.tN "UNASSIGNED_STACK" Bundle.steD A s s.heap) (hN : vx_Zq Bundle.tN "SUPPRESSED_SENTINEL" Bundle.listD A s s.heap) (hS : va_S A s.heap H locs) (hsize : ls.size = c.maxLocals)
    (d0 : decode cc pc = .ok (.new ik, 3)) (d3 : decode cc (pc + 3) = .ok (.dup, 1)) (d4 : decode cc (pc + 4) = .ok (.ldc is, 2)) (d6 : decode cc (pc + 6) = .ok (.invokespecial ic, 3)) (d9 : decode cc (pc + 9) = .ok (.athrow, 1))
    (hout : ∀ x ∈ c.exceptionTable.toList, covers x (pc + 9) = false)
    (hRframes : names.length + 3 < R.frames) (hRlocals : (rest.map fun v => v.category).sum + (13 * (names.length + 1) + 43) ≤ R.locals) (hRcells : cells + 1 ≤ R.cells) (hRslots : slots + 6 ≤ R.slots) (hlocks : meth.locks = false)
    (hx : ∀ t : State, s.vm.Alike t.vm → H.size ≤ t.heap.size → (∀ q : Nat, q < H.size → t.heap[q]? = H[q]?) → XC cls s t)
    (hf : ∀ z ∈ locs, free z.base) (hc : cells + 1 ≤ mc) (hs : slots + 6 ≤ ms) :
    W p l e R s m args below meth c H locs cells slots (vx_MQ below Qc XC args s mc ms free) (F0 m pc ls rest) := by
  intro T hT X
  have htr : e.platform.stackTraces = false := (show e.platform.stackTraces = l.stackTraces by rw [X.admits.platform]).trans hl
  have Y := vx_rebase X (R' := { frames := R.frames, locals := R.locals, cells := 1, slots := 6 }) (Nat.le_refl _) (Nat.le_refl _) hRcells hRslots
  obtain ⟨s', hA⟩ : ∃ z, z = (T.setVm s.vm).setFrames (.invoking m args :: below) := ⟨_, rfl⟩
  rw [← hA] at Y
  have hvm : s'.vm = s.vm := by rw [hA]; rfl
  have hhp : s'.heap = H := by rw [hA]; exact hT
  have hW0 : s.WarmedH s'.vm := by rw [hvm]; exact State.WarmedH.refl s
  have hat' : ∀ w ∈ vx_atS own ic cls names, w.before args s' = true := fun w hw => vx_ot_at hW0 hvm.symm (hgood w (List.mem_cons_of_mem _ (List.mem_cons_of_mem _ hw))) (hat w hw)
  have hk' : (Cond.classLink own ik cls).before args s' = true := vx_ot_at hW0 hvm.symm (hgood _ List.mem_cons_self) hk
  have hini' : (Cond.initialized cls).before args s' = true := vx_ot_at hW0 hvm.symm (hgood _ (List.mem_cons_of_mem _ List.mem_cons_self)) hini
  have hU' : vx_Zq Bundle.tN "UNASSIGNED_STACK" Bundle.steD A s' s'.heap := by rw [hhp]; exact vx_Zq.moved hW0.alike (hU.kept hS.2.1)
  have hN' : vx_Zq Bundle.tN "SUPPRESSED_SENTINEL" Bundle.listD A s' s'.heap := by rw [hhp]; exact vx_Zq.moved hW0.alike (hN.kept hS.2.1)
  have h : ∀ w ∈ Bundle.ownAtoms own ic cls names, w.before args s' = true := vx_own hat' (vx_isRefq hU'.1) (vx_isRefq hN'.1) hU'.2.word hN'.2.word
  have hown' : s'.vm.findClass own = some m.cls := by rw [hvm]; exact hown
  have hins : (Cond.instantiable cls 6).before args s' = true := h _ (by simp [Bundle.ownAtoms])
  obtain ⟨vm₁, cX, kX, hfX, hkX, -, -, X₁, st1⟩ := Y.newCold hexec (own := own) (C := cls) (index := ik) (n := 6) hown' hk' hins hini'
    (g := F0 m pc ls rest) rfl (by rw [hb]; exact d0) (Nat.le_refl _) (Nat.le_refl _)
  generalize hT1 : (T.setVm vm₁).pushCell { cls := cX, slots := kX.instanceTypes.map defaultValue, vm := .none } = T1 at X₁ st1
  have hcat : (Value.ref T.heap.size).category = 1 := rfl
  have hcellA : T1.heap[T.heap.size]? = some (freshCell cX kX) := by rw [← hT1]; exact State.heap_pushCell_size _ _
  have d3' : decode c.code (pc + 3) = .ok (.dup, 1) := by rw [hb]; exact d3
  have d4' : decode c.code (pc + 4) = .ok (.ldc is, 2) := by rw [hb]; exact d4
  have hstr' : vk_R own is text sa s' := vk_R.warm hW0 hstr
  obtain ⟨U, hsteps, hrun, hend, hW, hsame, ce, hce, hO⟩ := X₁.ctorThrowS hexec htr (own := own) (cls := cls) (names := names) (ic := ic) hown' hcls hnames h (fun x hx => nomatch hx) hfX hkX hcellA (by rw [hhp, hT]; exact Nat.le_refl _) (msg := .ref sa) rfl
    (g := { method := m, pc := pc + 6, locals := ls, stack := .ref sa :: .ref T.heap.size :: .ref T.heap.size :: rest, locked := none }) rfl hsize rfl rfl (rest := rest) rfl
    (by rw [hb]; exact d6) (by rw [hb]; exact d9) hout hRframes (by simp only [List.map_cons, List.sum_cons, hcat]; omega) hlocks
  obtain ⟨f1, f2⟩ := vx_frame hsame
  rw [hhp] at f1 f2
  have hWs : s.WarmedH U.vm := State.WarmedH.trans hW0 hW
  have hcl : s.vm.findClass cls = some ce.cls := by
    have h9 := hO.cls
    rw [hvm] at h9
    exact h9
  have hall : s.sameButNew ({ U with vm := s.vm } : State) locs mc ms := by
    subst hA
    obtain ⟨e1, e2⟩ := hsame
    rw [State.setFrames_setFrames] at e1
    have h2 : (T.setVm s.vm).sameButNew ({ U with vm := s.vm } : State) [] (0 + 1) (0 + 6) := ⟨e1, e2⟩
    have h3 := X.same.trans h2
    rw [List.append_nil] at h3
    exact h3.mono hc hs
  refine ⟨U, ?_, .threw T.heap.size, hrun, hend, Or.inr ⟨T.heap.size, rfl, cls, ce, locs, hx U hWs.alike f1 (fun q hq => f2 q hq (fun z hz => nomatch hz)), hce, hO.vm, hcl, hWs, hall, hf⟩⟩
  refine st1 _ ?_
  show Steps p.tables e below (T1.setTop { method := m, pc := pc + 3, locals := ls, stack := .ref T.heap.size :: rest, locked := none }) _
  jvm_step X₁.here [X₁.here.top, hexec, d3', Value.category]
  exact X₁.ldcString hexec (own := own) (text := text) (index := is) (a := sa) hown' hstr'.1 hstr'.2
    (g := { method := m, pc := pc + 4, locals := ls, stack := .ref T.heap.size :: .ref T.heap.size :: rest, locked := none }) rfl d4' _ hsteps
/-- 'throw new E("text")', the text by a wide index -/
theorem vx_throwSW {cc : ByteArray} {pc : Nat} (hexec : p.tables.exec = Jvm.exec) (hb : c.code = cc) (hl : l.stackTraces = false) {own cls text : String} {names : List String} {ik is ic mc ms sa : Nat} {A : Nat → Prop}
    (hown : s.vm.findClass own = some m.cls) (hcls : Bundle.fit cls = true) (hnames : ∀ n ∈ names, Bundle.fit n = true)
    (hk : (Cond.classLink own ik cls).before args s = true) (hini : (Cond.initialized cls).before args s = true) (hstr : vk_R own is text sa s) (hat : ∀ w ∈ vx_atS own ic cls names, w.before args s = true)
    (hgood : ∀ w ∈ Cond.classLink own ik cls :: Cond.initialized cls :: vx_atS own ic cls names, vx_ot w = true)
    (hU : vx_Zq Bundle.tN "UNASSIGNED_STACK" Bundle.steD A s s.heap) (hN : vx_Zq Bundle.tN "SUPPRESSED_SENTINEL" Bundle.listD A s s.heap) (hS : va_S A s.heap H locs) (hsize : ls.size = c.maxLocals)
    (d0 : decode cc pc = .ok (.new ik, 3)) (d3 : decode cc (pc + 3) = .ok (.dup, 1)) (d4 : decode cc (pc + 4) = .ok (.ldc_w is, 3)) (d7 : decode cc (pc + 7) = .ok (.invokespecial ic, 3)) (d10 : decode cc (pc + 10) = .ok (.athrow, 1))
    (hout : ∀ x ∈ c.exceptionTable.toList, covers x (pc + 10) = false)
    (hRframes : names.length + 3 < R.frames) (hRlocals : (rest.map fun v => v.category).sum + (13 * (names.length + 1) + 43) ≤ R.locals) (hRcells : cells + 1 ≤ R.cells) (hRslots : slots + 6 ≤ R.slots) (hlocks : meth.locks = false)
    (hx : ∀ t : State, s.vm.Alike t.vm → H.size ≤ t.heap.size → (∀ q : Nat, q < H.size → t.heap[q]? = H[q]?) → XC cls s t)
    (hf : ∀ z ∈ locs, free z.base) (hc : cells + 1 ≤ mc) (hs : slots + 6 ≤ ms) :
    W p l e R s m args below meth c H locs cells slots (vx_MQ below Qc XC args s mc ms free) (F0 m pc ls rest) := by
  intro T hT X
  have htr : e.platform.stackTraces = false := (show e.platform.stackTraces = l.stackTraces by rw [X.admits.platform]).trans hl
  have Y := vx_rebase X (R' := { frames := R.frames, locals := R.locals, cells := 1, slots := 6 }) (Nat.le_refl _) (Nat.le_refl _) hRcells hRslots
  obtain ⟨s', hA⟩ : ∃ z, z = (T.setVm s.vm).setFrames (.invoking m args :: below) := ⟨_, rfl⟩
  rw [← hA] at Y
  have hvm : s'.vm = s.vm := by rw [hA]; rfl
  have hhp : s'.heap = H := by rw [hA]; exact hT
  have hW0 : s.WarmedH s'.vm := by rw [hvm]; exact State.WarmedH.refl s
  have hat' : ∀ w ∈ vx_atS own ic cls names, w.before args s' = true := fun w hw => vx_ot_at hW0 hvm.symm (hgood w (List.mem_cons_of_mem _ (List.mem_cons_of_mem _ hw))) (hat w hw)
  have hk' : (Cond.classLink own ik cls).before args s' = true := vx_ot_at hW0 hvm.symm (hgood _ List.mem_cons_self) hk
  have hini' : (Cond.initialized cls).before args s' = true := vx_ot_at hW0 hvm.symm (hgood _ (List.mem_cons_of_mem _ List.mem_cons_self)) hini
  have hU' : vx_Zq Bundle.tN "UNASSIGNED_STACK" Bundle.steD A s' s'.heap := by rw [hhp]; exact vx_Zq.moved hW0.alike (hU.kept hS.2.1)
  have hN' : vx_Zq Bundle.tN "SUPPRESSED_SENTINEL" Bundle.listD A s' s'.heap := by rw [hhp]; exact vx_Zq.moved hW0.alike (hN.kept hS.2.1)
  have h : ∀ w ∈ Bundle.ownAtoms own ic cls names, w.before args s' = true := vx_own hat' (vx_isRefq hU'.1) (vx_isRefq hN'.1) hU'.2.word hN'.2.word
  have hown' : s'.vm.findClass own = some m.cls := by rw [hvm]; exact hown
  have hins : (Cond.instantiable cls 6).before args s' = true := h _ (by simp [Bundle.ownAtoms])
  obtain ⟨vm₁, cX, kX, hfX, hkX, -, -, X₁, st1⟩ := Y.newCold hexec (own := own) (C := cls) (index := ik) (n := 6) hown' hk' hins hini'
    (g := F0 m pc ls rest) rfl (by rw [hb]; exact d0) (Nat.le_refl _) (Nat.le_refl _)
  generalize hT1 : (T.setVm vm₁).pushCell { cls := cX, slots := kX.instanceTypes.map defaultValue, vm := .none } = T1 at X₁ st1
  have hcat : (Value.ref T.heap.size).category = 1 := rfl
  have hcellA : T1.heap[T.heap.size]? = some (freshCell cX kX) := by rw [← hT1]; exact State.heap_pushCell_size _ _
  have d3' : decode c.code (pc + 3) = .ok (.dup, 1) := by rw [hb]; exact d3
  have d4' : decode c.code (pc + 4) = .ok (.ldc_w is, 3) := by rw [hb]; exact d4
  have hstr' : vk_R own is text sa s' := vk_R.warm hW0 hstr
  obtain ⟨U, hsteps, hrun, hend, hW, hsame, ce, hce, hO⟩ := X₁.ctorThrowS hexec htr (own := own) (cls := cls) (names := names) (ic := ic) hown' hcls hnames h (fun x hx => nomatch hx) hfX hkX hcellA (by rw [hhp, hT]; exact Nat.le_refl _) (msg := .ref sa) rfl
    (g := { method := m, pc := pc + 7, locals := ls, stack := .ref sa :: .ref T.heap.size :: .ref T.heap.size :: rest, locked := none }) rfl hsize rfl rfl (rest := rest) rfl
    (by rw [hb]; exact d7) (by rw [hb]; exact d10) hout hRframes (by simp only [List.map_cons, List.sum_cons, hcat]; omega) hlocks
  obtain ⟨f1, f2⟩ := vx_frame hsame
  rw [hhp] at f1 f2
  have hWs : s.WarmedH U.vm := State.WarmedH.trans hW0 hW
  have hcl : s.vm.findClass cls = some ce.cls := by
    have h9 := hO.cls
    rw [hvm] at h9
    exact h9
  have hall : s.sameButNew ({ U with vm := s.vm } : State) locs mc ms := by
    subst hA
    obtain ⟨e1, e2⟩ := hsame
    rw [State.setFrames_setFrames] at e1
    have h2 : (T.setVm s.vm).sameButNew ({ U with vm := s.vm } : State) [] (0 + 1) (0 + 6) := ⟨e1, e2⟩
    have h3 := X.same.trans h2
    rw [List.append_nil] at h3
    exact h3.mono hc hs
  refine ⟨U, ?_, .threw T.heap.size, hrun, hend, Or.inr ⟨T.heap.size, rfl, cls, ce, locs, hx U hWs.alike f1 (fun q hq => f2 q hq (fun z hz => nomatch hz)), hce, hO.vm, hcl, hWs, hall, hf⟩⟩
  refine st1 _ ?_
  show Steps p.tables e below (T1.setTop { method := m, pc := pc + 3, locals := ls, stack := .ref T.heap.size :: rest, locked := none }) _
  jvm_step X₁.here [X₁.here.top, hexec, d3', Value.category]
  exact X₁.ldcStringW hexec (own := own) (text := text) (index := is) (a := sa) hown' hstr'.1 hstr'.2
    (g := { method := m, pc := pc + 4, locals := ls, stack := .ref T.heap.size :: .ref T.heap.size :: rest, locked := none }) rfl d4' _ hsteps
end Ends
section Bodies
variable {l : Launch}
theorem vx_ofW {y : MethodName} {ws ws' : List Cond} {rm : Room} {Pc : Array Value → State → Prop} {Qc : Array Value → State → Outcome → State → Prop} {XC : String → State → State → Prop} {mc ms : Nat} {free : Addr → Prop} {cc : ByteArray} {maxL : Nat} {ret : Option FieldType}
    (hy : plainName y.cls = true) (hw : ws = Cond.code y cc maxL ret :: ws')
    (body : ∀ p e s m args below meth c s₁, BodyLoose p l y (headSpec ws rm) cc maxL ret e s m args below meth c s₁ → c.maxLocals = maxL → (∀ x ∈ c.exceptionTable.toList, False) → Pc args s →
      W p l e (headSpec ws rm).room s m args below meth c s.heap [] 0 0 (vx_MQ below Qc XC args s mc ms free) (entryFrame m args maxL)) : vx_Met l y ws rm Pc Qc XC mc ms free := by
  refine MetFree.of_bodyS (code := cc) (maxLocals := maxL) (ret := ret) hy ?_ ?_
  · intro args s m h hn
    obtain ⟨meth, c, h1, h2, h3, h4, h5, h6, -, -⟩ := Cond.code_spec hn (atoms_spec (ws := ws) h _ (by rw [hw]; exact List.mem_cons_self))
    exact ⟨meth, c, h1, h2, h3, h4, h5, h6⟩
  · intro p e s m args below meth c s₁ B hml hP _
    have hh0 : s₁.heap = s.heap := by rw [B.state]; rfl
    have ht : ∀ x ∈ c.exceptionTable.toList, False := by
      obtain ⟨meth9, c9, h1, h2, -, -, -, -, h7, -⟩ := Cond.code_spec B.named (atoms_spec (ws := ws) B.pre _ (by rw [hw]; exact List.mem_cons_self))
      cases Option.some.inj (h1.symm.trans B.method)
      cases Option.some.inj (h2.symm.trans (Stand.of_body B).code)
      intro x hx
      rw [Array.isEmpty_iff.mp h7] at hx
      cases hx
    obtain ⟨t, a1, o, b1, b2, b3⟩ := body p e s m args below meth c s₁ B hml ht hP s₁ hh0 (Stand.of_body B)
    exact ⟨t, o, a1, b1, b2, b3⟩
/-- the table of a body with handlers -/
theorem vx_table {p : Program} {x y : MethodName} {S : Spec} {cc bytes : ByteArray} {maxL maxL' : Nat} {ret ret' : Option FieldType} {e : Env} {s s₁ : State} {m : MethodId} {args : Array Value} {below : List Frame} {meth : Method} {c : Code} {hh : List (Nat × Nat × Nat × Nat)}
    (B : BodyLoose p l y S cc maxL ret e s m args below meth c s₁) (h : (Cond.codeWith y bytes maxL' ret' hh).before args s = true) : c.exceptionTable.toList = tableOf hh := by
  obtain ⟨m9, meth9, c9, hn9, h1, h2, -, -, h6, -⟩ := Cond.codeWith_spec h
  cases Option.some.inj (hn9.symm.trans B.named)
  cases Option.some.inj (h1.symm.trans B.method)
  cases Option.some.inj (h2.symm.trans (Stand.of_body B).code)
  rw [← h6, table_eq]
end Bodies
end VXA
/-! ===== END ===== -/
/-! ===== BEGIN a static call of a method with an exception table ===== -/
section VXS
variable {p : Program} {l : Launch} {e : Env} {R : Room} {s : State} {m : MethodId} {args : Array Value} {below : List Frame} {meth : Method} {c : Code} {T : State} {H : Heap} {locs : List Loc} {cells slots : Nat}
abbrev vx_CSW (R : Room) (s : State) (args : Array Value) (own : String) (index : Nat) (y : MethodName) (bytes : ByteArray) (maxL : Nat) (ret : Option FieldType) (hh : List (Nat × Nat × Nat × Nat)) (ws : List Cond) (rm : Room) (mc ms n : Nat) : Prop :=
  (rm.cells = mc ∧ rm.slots = ms ∧ rm.frames + 1 ≤ R.frames ∧ 8 + (maxL + 11) + rm.locals ≤ R.locals ∧ (∀ w ∈ ws, ∀ (a' : Array Value) (U : State), s.WarmedH U.vm → w.before a' U = true) ∧ Cond.codeWith y bytes maxL ret hh ∈ ws) ∧
  (Cond.codeWith y bytes maxL ret hh).before args s = true ∧ (Cond.initialized y.cls).before args s = true ∧ (y.cls ≠ "java/lang/invoke/MethodHandle" ∧ y.cls ≠ "java/lang/invoke/VarHandle") ∧
  (∀ sig, parseMethodDescriptor y.desc = some sig → n = sig.parameters.length) ∧ (Cond.methodLink own index y).before args s = true ∧ (Cond.static y).before args s = true
theorem vx_cwSW {own : String} {index maxL mc ms : Nat} {y : MethodName} {bytes : ByteArray} {ret : Option FieldType} {hh : List (Nat × Nat × Nat × Nat)} {Ts ws ws' : List Cond} {rm : Room} (n : Nat) (ht : ∀ w ∈ Ts, w.before args s = true) (hT : GoodIn Ts (va_wsS own index y ws)) (hw : ws = Cond.codeWith y bytes maxL ret hh :: ws') (hrc : rm.cells = mc) (hrs : rm.slots = ms)
    (hd : y.cls ≠ "java/lang/invoke/MethodHandle" ∧ y.cls ≠ "java/lang/invoke/VarHandle" ∧ (parseMethodDescriptor y.desc).map (fun d => d.parameters.length) = some n) (hR : rm.frames + 1 ≤ R.frames ∧ 8 + (maxL + 11) + rm.locals ≤ R.locals) :
    vx_CSW R s args own index y bytes maxL ret hh ws rm mc ms n := by
  have ok : ∀ w ∈ va_wsS own index y ws, w.before args s = true := fun w h => ht w (hT w h).1
  have hG : GoodIn Ts ws := fun w h => hT w (by unfold va_wsS; exact List.mem_append_right _ h)
  have hc : Cond.codeWith y bytes maxL ret hh ∈ ws := by rw [hw]; exact List.mem_cons_self
  refine ⟨⟨hrc, hrs, hR.1, hR.2, pay_in ht hG, hc⟩, ht _ (hG _ hc).1, ok _ (by simp [va_wsS]), ⟨hd.1, hd.2.1⟩, fun sig h => ?_, ok _ (by simp [va_wsS]), ok _ (by simp [va_wsS])⟩
  have h2 := hd.2.2
  rw [h] at h2
  exact (Option.some.inj h2).symm
theorem vx_callSW (X : Stand p l e R s m args below meth c T locs cells slots) (hexec : p.tables.exec = Jvm.exec) {own : String} {index : Nat} {y : MethodName} {bytes : ByteArray} {maxL : Nat} {ret : Option FieldType} {hh : List (Nat × Nat × Nat × Nat)}
    (hown : s.vm.findClass own = some m.cls) (hlink : (Cond.methodLink own index y).before args s = true) (hstat : (Cond.static y).before args s = true) (hinit : (Cond.initialized y.cls).before args s = true)
    (hcode : (Cond.codeWith y bytes maxL ret hh).before args s = true) (hy : y.cls ≠ "java/lang/invoke/MethodHandle" ∧ y.cls ≠ "java/lang/invoke/VarHandle")
    {W9 : Nat} {Pre : Pt → Array Value → Prop} {Post : Pt → Array Value → Option Value → Pt → Prop} (hK : Back l R p e below s args y 3 W9 Pre Post)
    {g : JFrame} (hg : g.method = m) (hsize : g.locals.size = c.maxLocals) {argsL rest : List Value} (hlen : ∀ sig, parseMethodDescriptor y.desc = some sig → argsL.length = sig.parameters.length)
    (hstack : g.stack = argsL.reverse ++ rest) (hW : 2 * g.monitorRoom + (rest.map fun v => v.category).sum ≤ W9) (hdg : decode c.code g.pc = .ok (.invokestatic index, 3))
    (hpre : ∀ vm₁, s.WarmedH vm₁ → Pre ⟨T.setVm vm₁, locs, cells, slots⟩ argsL.toArray) :
    ∃ (v : Option Value) (vm₁ : Vm) (B : Pt), s.WarmedH vm₁ ∧ Stand p l e R s m args below meth c B.U B.locs B.cells B.slots ∧ Post ⟨T.setVm vm₁, locs, cells, slots⟩ argsL.toArray v B ∧
      ∀ target, Steps p.tables e below (B.U.setTop { g with pc := g.pc + 3, stack := v.toList ++ rest }) target → Steps p.tables e below (T.setTop g) target := by
  obtain ⟨mk, methM, cM, hnamed, hmethM, -, -, -, -, -, -, hsigM⟩ := Cond.codeWith_spec hcode
  have hstatic : methM.isStatic = true := Cond.static_spec hnamed hmethM hstat
  obtain ⟨kP, hkP, -⟩ := className_of_methodNamed hnamed
  have hinitP : kP.init = .initialized := Cond.initialized_spec (findClass_of_methodNamed hnamed) hkP hinit
  obtain ⟨vm₁, X₁, hstep₁⟩ := X.invokestatic hexec hown hlink hnamed hmethM hstatic hkP hinitP hy (g := g) hg (argsL := argsL) (rest := rest) (hlen _ hsigM) hstack hdg
  obtain ⟨v, B, X', hpost, hsteps⟩ := hK m meth c ⟨T.setVm vm₁, locs, cells, slots⟩ { g with stack := rest } (.invokestatic index) mk argsL.toArray X₁ hg hsize hdg hW (X₁.named hnamed) (hpre vm₁ X₁.warmed)
  exact ⟨v, vm₁, B, X₁.warmed, X', hpost, fun target h => hstep₁ _ fun acts => by rw [doInvoke_state]; exact hsteps.trans h⟩
theorem vx_runSW {y : MethodName} {bytes cc : ByteArray} {maxL nL mc ms n index : Nat} {ret : Option FieldType} {hh : List (Nat × Nat × Nat × Nat)} {ws : List Cond} {rm : Room} {Pc : Array Value → State → Prop} {Qc : Array Value → State → Outcome → State → Prop} {free : Addr → Prop} {Ts : List Cond} {own : String} {As rest : List Value} {g : JFrame}
    (S : CallFix p m c cc nL s args Ts own) (hM : Met l y ws rm Pc Qc mc ms free) (cw : vx_CSW R s args own index y bytes maxL ret hh ws rm mc ms n) (hp : PreS s H Pc As)
    (hg : g.method = m) (hn : As.length = n) (hsize : g.locals.size = nL) (hstack : g.stack = As.reverse ++ rest) (hW : 2 * g.monitorRoom + (rest.map fun v => v.category).sum ≤ 8) (hdg : decode cc g.pc = .ok (.invokestatic index, 3)) (hf : cells + mc ≤ R.cells ∧ slots + ms ≤ R.slots) :
    va_Run p l e R s m args below meth c H locs cells slots mc ms g rest (Qc As.toArray) (free) := by
  obtain ⟨⟨hrc, hrs, hfr, hlo, hws, hcw⟩, hcode, hini, hy, hlen, hl, hstt⟩ := cw
  have hK : Back l R p e below s args y 3 8 (PreOf R mc ms Pc) (PostOf Qc mc ms free) := va_backW (hh := hh) (bytes := bytes) (maxL := maxL) (ret := ret) hM hp.1 hrc hrs hfr hlo hws hcw (fun a' U hW => word_at hW (Or.inl (by first | rfl | simp [Cond.onTables, Cond.keeps, Cond.steady])) hini)
  obtain ⟨hx, hb, hml, ho, -⟩ := S
  intro T hT X
  obtain ⟨v, vm₁, ⟨U', l2, c2, s2⟩, hW₁, X', ⟨g', mk, t, L, e1, e2, hq, h1, hL, h2, h3⟩, st⟩ := vx_callSW X hx (hh := hh) (bytes := bytes) (maxL := maxL) (ret := ret) ho hl hstt hini hcode hy hK hg (hsize.trans hml.symm) (argsL := As) (rest := rest) (fun sig h => hn.trans (hlen sig h)) hstack hW (by rw [hb]; exact hdg)
    (fun vm₁ hW₁ => ⟨hf.1, hf.2, hp.2 (T.setVm vm₁) hT hW₁⟩)
  dsimp only [Pt.U, Pt.locs, Pt.cells, Pt.slots] at X' e1 e2 h1 h2 h3 st
  subst h1; subst h2; subst h3
  exact ⟨v, (T.setVm vm₁).calling g' mk As.toArray, t, U', L, hT, X', hL, e1, e2, hq, st⟩
/-- not caught here, past rows that name other classes: it goes on to the caller -/
theorem vx_outP {p : Program} {l : Launch} {e : Env} {R : Room} {s : State} {m : MethodId} {args : Array Value} {below : List Frame} {meth : Method} {c : Code} {H : Heap} {locs : List Loc} {cells slots : Nat} {free : Addr → Prop} {ls : Array Slot} {rest : List Value} {Qc : Array Value → State → Outcome → State → Prop} {XC : String → State → State → Prop}
    {pc : Nat} {own E : String} {ce : Cell} {q : Addr} {mc ms : Nat} (hown : s.vm.findClass own = some m.cls) (hlocks : meth.locks = false)
    (hpass : ∀ z ∈ c.exceptionTable.toList, covers z pc = false ∨ (z.catchType ≠ 0 ∧ ∃ nm : String, (Cond.classLink own z.catchType nm).before args s = true ∧ va_Nc E nm s)) (hcell : H[q]? = some ce) (hv : ce.vm = .none) (hcl : s.vm.findClass E = some ce.cls)
    (hx : ∀ t : State, t.heap = H → s.vm.Alike t.vm → XC E s t) (hf : ∀ z ∈ locs, free z.base) (hc : cells ≤ mc) (hs : slots ≤ ms) :
    vx_W p l e R s m args below meth c H locs cells slots (vx_MQ below Qc XC args s mc ms free) (F0 m pc ls rest) q := by
  intro T hT X
  have hpl : e.platform.magicAccessors = ({} : Platform).magicAccessors := by rw [X.admits.platform]
  obtain ⟨vm', hW', X', st⟩ := Stand.outThrough X hlocks q (g := F0 m pc ls rest) rfl rfl rfl (cell := ce) (by rw [hT]; exact hcell) (by rw [hv]; rfl)
    (by obtain ⟨k9, h9, -⟩ := Vm.findClass_spec hcl; exact ⟨k9, h9⟩) (fun z hz => by
      rcases hpass z hz with h | ⟨hz0, nm, hl1, hn1⟩
      · exact Or.inl h
      · obtain ⟨c6, hc6, hcl6⟩ := Cond.classLink_spec hown hl1 e.platform hpl
        obtain ⟨a8, b8, h1, h2, h3⟩ := hn1
        cases Option.some.inj (h1.symm.trans hcl)
        cases Option.some.inj (h2.symm.trans hc6)
        exact Or.inr ⟨hz0, _, hcl6, h3⟩)
  obtain ⟨g₀, hfr⟩ := X'.frames_eq
  have hcell9 : ((T.setVm vm').setFrames (.throwing q :: below)).heap[q]? = some ce := by
    show T.heap[q]? = some ce
    rw [hT]; exact hcell
  have hend : Ended ((T.setVm vm').setFrames (.throwing q :: below)) below (.threw q) := State.frames_setFrames _ (State.cur_lt_of_frames hfr)
  refine ⟨(T.setVm vm').setFrames (.throwing q :: below), ?_, .threw q, X'.here.running, hend, Or.inr ⟨q, rfl, E, ce, locs, hx _ hT (X'.ends _).1.alike, hcell9, hv, hcl, (X'.ends _).1, (X'.ends _).2.mono hc hs, hf⟩⟩
  rw [X.pushThrowing_eq]
  exact st
/-- a thing of a world lies in the heap -/
theorem vx_lt {D : va_G} {cl : List vw_C} {ws : va_W} {H1 : Heap} (h : va_P D cl ws H1) {k : Nat} {q : Nat × va_E} (hk : ws[k]? = some q) : q.1 < H1.size := (h k q hk).lt
end VXS
/-! ===== END ===== -/
/-! ===== BEGIN methods with a table of their own: called by a name, returning or throwing ===== -/
section VXH
/-! vx_backW, vx_callVX, vx_callSX, vx_callVW, vx_runVW, vx_runVX, vx_runSX, vx_ofWH follow the same proofs as their sisters above (Free/Laws.lean, Shelf42/LK1.lean); vx_outP calls Shelf42/NT130.lean (outThrough). -/
section
variable {l : Launch} {R : Room} {p : Program} {e : Env} {below : List Frame} {s : State} {sargs : Array Value} {y : MethodName} {len W9 : Nat}
theorem vx_backW {ws : List Cond} {rm : Room} {Pc : Array Value → State → Prop} {Qc : Array Value → State → Outcome → State → Prop} {XC : String → State → State → Prop} {mc ms : Nat} {free : Addr → Prop} {bytes : ByteArray} {maxL : Nat} {ret : Option FieldType} {hh : List (Nat × Nat × Nat × Nat)}
    (hM : vx_Met l y ws rm Pc Qc XC mc ms free) (hblind : FrameBlind Pc) (hrc : rm.cells = mc) (hrs : rm.slots = ms)
    (hframes : rm.frames + 1 ≤ R.frames) (hlocals : W9 + (maxL + 11) + rm.locals ≤ R.locals)
    (hws : ∀ w ∈ ws, ∀ a' U, s.WarmedH U.vm → w.before a' U = true) (hcode : Cond.codeWith y bytes maxL ret hh ∈ ws) (hinit : ∀ a' U, s.WarmedH U.vm → (Cond.initialized y.cls).before a' U = true) :
    vx_Back l R p e below s sargs y len W9 (PreOf R mc ms Pc) (PostOf Qc mc ms free) (vx_Post XC mc ms free) := by
  intro m meth c A g ig mk a X hg hsize hdg hW hn hp
  have h1 : (headSpec ws rm).pre.before a A.U = true := atoms_intro fun w hw => hws w hw _ _ X.warmed
  have h2 : (Cond.codeWith y bytes maxL ret hh).before a A.U = true := hws _ hcode _ _ X.warmed
  have h3 : (Cond.initialized y.cls).before a A.U = true := hinit _ _ X.warmed
  have h4 : A.cells + (headSpec ws rm).room.cells ≤ R.cells := by rw [show (headSpec ws rm).room.cells = mc from hrc]; exact hp.1
  have h5 : A.slots + (headSpec ws rm).room.slots ≤ R.slots := by rw [show (headSpec ws rm).room.slots = ms from hrs]; exact hp.2.1
  have hPc : Pc a (A.U.calling g mk a) := hblind _ _ _ _ hp.2.2
  obtain ⟨U, Ls, c0, s0⟩ := A
  dsimp only [Pt.U, Pt.locs, Pt.cells, Pt.slots] at h1 h2 h3 h4 h5 X hn hPc ⊢
  obtain ⟨m9, methY, cY, hn9, hmY, hcY, -, hlY, -⟩ := Cond.codeWith_spec h2
  cases Option.some.inj (hn9.symm.trans hn)
  obtain ⟨kY, hkY, -⟩ := className_of_methodNamed hn
  have hinitY : kY.init = .initialized := Cond.initialized_spec (findClass_of_methodNamed hn) hkY h3
  have h : At U g.method c below := by rw [hg]; exact X.here
  have hlocals9 : W9 + (maxL + 11) + (headSpec ws rm).room.locals ≤ R.locals := hlocals
  have happ : (headSpec ws rm).appliesLoose y e.platform (U.calling g mk a) = true :=
    Spec.appliesLoose_calling (g := g) h hdg hn hkY hinitY
      (X.room_calling (g := g) (R' := (headSpec ws rm).room) hsize hmY hcY hframes (by rw [hlY]; omega) h4 h5) h1
  obtain ⟨mid, hmid⟩ := h.above
  have hfr : (U.setTop g).frames = (.java g :: mid) ++ below := by rw [State.frames_setTop' g h.top, hmid]; rfl
  obtain ⟨o, s₂, hsteps, -, hend, hq⟩ := Steps.callFree hM p X.admits X.cas X.clock (acts := []) hfr happ hPc trivial
  have hq' : vx_Q Qc XC mc ms free a (U.calling g mk a) o s₂ := hq
  rw [State.frames_setTop' g h.top] at hend
  obtain ⟨g₀, hg0⟩ := Option.isSome_iff_exists.mp h.top
  obtain ⟨r, hr⟩ := State.topJava?_eq_some.mp hg0
  have hr' : (({ U with heap := s₂.heap, slotsUsed := s₂.slotsUsed } : State).setVm s₂.vm).frames = .java g₀ :: r := hr
  rcases hq' with ⟨hqc, L, hfe, hL⟩ | ⟨q, rfl, E, ce, L, hx, hce, hcv, hcl, hW₂, hsm, hL⟩
  · obtain ⟨⟨v, rfl⟩, hW₂, e2, q2, q3, q4, q5, q6⟩ := id hfe
    have e3 : s₂ = ({ (U.calling g mk a).setFrames s₂.frames with heap := s₂.heap, slotsUsed := s₂.slotsUsed } : State).setVm s₂.vm := by
      have : s₂ = ({ s₂ with vm := (U.calling g mk a).vm } : State).setVm s₂.vm := rfl
      rw [e2] at this
      exact this
    obtain ⟨c₂, i₂, len₂, hc₂, hd₂, hf₂⟩ := hend
    have hW' : U.WarmedH s₂.vm := hW₂
    have hcc : c₂ = c := by
      have h1 : s₂.code? g.method = U.code? g.method := by
        rw [State.code?_eq, State.code?_eq, hW'.alike.method?]
      exact Option.some.inj (hc₂.symm.trans (h1.trans h.code))
    subst hcc
    have hlen : len₂ = len := by rw [hdg] at hd₂; cases hd₂; rfl
    subst hlen
    have hs₂ : s₂ = (({ U with heap := s₂.heap, slotsUsed := s₂.slotsUsed } : State).setVm s₂.vm).setTop { g with pc := g.pc + len₂, stack := v.toList ++ g.stack } := by
      refine e3.trans ?_
      rw [hf₂, State.calling_eq h.top, State.setFrames_setFrames, State.setTop_of_frames _ hr', hr]
      rfl
    have hsame : U.sameButNew ({ U with heap := s₂.heap, slotsUsed := s₂.slotsUsed } : State) L mc ms := by
      refine ⟨?_, q2, q3, q4, q5, q6⟩
      obtain ⟨t, ht, -⟩ := State.frames_cons hr
      show ({ U with heap := s₂.heap, slotsUsed := s₂.slotsUsed } : State) = { U.setFrames U.frames with heap := s₂.heap, slotsUsed := s₂.slotsUsed }
      rw [State.setFrames_self ht]
    subst hg
    refine Or.inl ⟨v, ⟨(({ U with heap := s₂.heap, slotsUsed := s₂.slotsUsed } : State).setVm s₂.vm), Ls ++ L, c0 + mc, s0 + ms⟩,
      ⟨X.admits, X.cas, X.clock, X.frames, X.room, X.hears, X.method, X.code, (X.here.setHeapUsed s₂.heap s₂.slotsUsed).setVm hW'.alike, X.tail, State.WarmedH.trans X.warmed hW', X.limits, X.bytes, X.same.trans (hsame.setVm s.vm)⟩,
      ⟨g, mk, s₂, L, rfl, rfl, hqc, rfl, hL, rfl, rfl⟩, ?_⟩
    show Steps p.tables e below _ ((({ U with heap := s₂.heap, slotsUsed := s₂.slotsUsed } : State).setVm s₂.vm).setTop { g with pc := g.pc + len₂, stack := v.toList ++ g.stack })
    rw [← hs₂]
    exact hsteps
  · obtain ⟨e2, q2, q3, q4, q5, q6⟩ := id hsm
    have e3 : s₂ = ({ (U.calling g mk a).setFrames s₂.frames with heap := s₂.heap, slotsUsed := s₂.slotsUsed } : State).setVm s₂.vm := by
      have : s₂ = ({ s₂ with vm := (U.calling g mk a).vm } : State).setVm s₂.vm := rfl
      rw [e2] at this
      exact this
    have hf₂ : s₂.frames = .throwing q :: .java g :: U.frames.tail := hend
    have hW' : U.WarmedH s₂.vm := hW₂
    have hs₂ : s₂ = ((({ U with heap := s₂.heap, slotsUsed := s₂.slotsUsed } : State).setVm s₂.vm).setTop g).pushFrame (.throwing q) := by
      refine e3.trans ?_
      rw [hf₂, State.calling_eq h.top, State.setFrames_setFrames, State.pushFrame, State.frames_setTop _ hr', State.setTop_of_frames _ hr', State.setFrames_setFrames, hr]
      rfl
    have hsame : U.sameButNew ({ U with heap := s₂.heap, slotsUsed := s₂.slotsUsed } : State) L mc ms := by
      refine ⟨?_, q2, q3, q4, q5, q6⟩
      obtain ⟨t, ht, -⟩ := State.frames_cons hr
      show ({ U with heap := s₂.heap, slotsUsed := s₂.slotsUsed } : State) = { U.setFrames U.frames with heap := s₂.heap, slotsUsed := s₂.slotsUsed }
      rw [State.setFrames_self ht]
    subst hg
    refine Or.inr ⟨q, ⟨(({ U with heap := s₂.heap, slotsUsed := s₂.slotsUsed } : State).setVm s₂.vm), Ls ++ L, c0 + mc, s0 + ms⟩,
      ⟨X.admits, X.cas, X.clock, X.frames, X.room, X.hears, X.method, X.code, (X.here.setHeapUsed s₂.heap s₂.slotsUsed).setVm hW'.alike, X.tail, State.WarmedH.trans X.warmed hW', X.limits, X.bytes, X.same.trans (hsame.setVm s.vm)⟩,
      ⟨g, mk, s₂, L, E, ce, rfl, rfl, hx, hce, hcv, hcl, rfl, hL, rfl, rfl⟩, ?_⟩
    show Steps p.tables e below _ (((({ U with heap := s₂.heap, slotsUsed := s₂.slotsUsed } : State).setVm s₂.vm).setTop g).pushFrame (.throwing q))
    rw [← hs₂]
    exact hsteps
end
variable {p : Program} {l : Launch} {e : Env} {R : Room} {s : State} {m : MethodId} {args : Array Value} {below : List Frame} {meth : Method} {c : Code} {T : State} {H : Heap} {locs : List Loc} {cells slots : Nat}
theorem vx_callVX (X : Stand p l e R s m args below meth c T locs cells slots) (hexec : p.tables.exec = Jvm.exec) {own C : String} {index : Nat} {y : MethodName} {bytes : ByteArray} {maxL : Nat} {ret : Option FieldType} {hh : List (Nat × Nat × Nat × Nat)}
    (hown : s.vm.findClass own = some m.cls) (hlink : (Cond.methodLink own index y).before args s = true) (hinst : (Cond.instanceMethod y).before args s = true) (hsel : (Cond.selects C y y).before args s = true)
    (hcode : (Cond.codeWith y bytes maxL ret hh).before args s = true) (hy : y.cls ≠ "java/lang/invoke/MethodHandle" ∧ y.cls ≠ "java/lang/invoke/VarHandle")
    {W9 : Nat} {Pre : Pt → Array Value → Prop} {Post : Pt → Array Value → Option Value → Pt → Prop} {PostX : Pt → Array Value → Addr → Pt → Prop} (hK : vx_Back l R p e below s args y 3 W9 Pre Post PostX)
    {b : Addr} {cellB : Cell} (hcell : T.heap[b]? = some cellB) (hobj : cellB.vm.isStatics = false) (hcls : s.vm.findClass C = some cellB.cls)
    {g : JFrame} (hg : g.method = m) (hsize : g.locals.size = c.maxLocals) {argsL rest : List Value} (hlen : ∀ sig, parseMethodDescriptor y.desc = some sig → argsL.length = sig.parameters.length)
    (hstack : g.stack = argsL.reverse ++ .ref b :: rest) (hW : 2 * g.monitorRoom + (rest.map fun v => v.category).sum ≤ W9) (hdg : decode c.code g.pc = .ok (.invokevirtual index, 3))
    (hpre : ∀ vm₁, s.WarmedH vm₁ → Pre ⟨T.setVm vm₁, locs, cells, slots⟩ (Value.ref b :: argsL).toArray) :
    (∃ (v : Option Value) (vm₁ : Vm) (B : Pt), s.WarmedH vm₁ ∧ Stand p l e R s m args below meth c B.U B.locs B.cells B.slots ∧ Post ⟨T.setVm vm₁, locs, cells, slots⟩ (Value.ref b :: argsL).toArray v B ∧
      ∀ target, Steps p.tables e below (B.U.setTop { g with pc := g.pc + 3, stack := v.toList ++ rest }) target → Steps p.tables e below (T.setTop g) target) ∨
    (∃ (q : Addr) (vm₁ : Vm) (B : Pt), s.WarmedH vm₁ ∧ Stand p l e R s m args below meth c B.U B.locs B.cells B.slots ∧ PostX ⟨T.setVm vm₁, locs, cells, slots⟩ (Value.ref b :: argsL).toArray q B ∧
      Steps p.tables e below (T.setTop g) ((B.U.setTop { g with stack := rest }).pushFrame (.throwing q))) := by
  obtain ⟨mk, methM, hnamed, hmethM, hstM, habM⟩ := Cond.instanceMethod_spec hinst
  obtain ⟨m8, methM', cM, hn8, hmethM', -, -, -, -, -, -, hsigM⟩ := Cond.codeWith_spec hcode
  cases Option.some.inj (hn8.symm.trans hnamed)
  cases hmethM.symm.trans hmethM'
  obtain ⟨c2, r2, m2, q1, q2, q3, q4, kP, hkP, hkPi⟩ := Cond.selects_spec hsel
  cases hcls.symm.trans q1
  cases (State.methodFound?_of_named hnamed hy).symm.trans q2
  cases hnamed.symm.trans q3
  have hselP : selectMethod e.platform s.vm cellB.cls mk = .method mk := by rw [Launch.admits_selectMethod X.admits]; exact q4
  obtain ⟨vm₁, X₁, hstep₁⟩ := X.invokevirtual hexec hown hlink hnamed hmethM hstM hkP hkPi hy (a := b) (cell := cellB) hcell
    (fun z h => by rw [h] at hobj; cases hobj) hselP hmethM habM hkP hkPi (g := g) hg (argsL := argsL) (rest := rest) (hlen _ hsigM) hstack hdg
  rcases hK m meth c ⟨T.setVm vm₁, locs, cells, slots⟩ { g with stack := rest } (.invokevirtual index) mk (Value.ref b :: argsL).toArray X₁ hg hsize hdg hW (X₁.named hnamed) (hpre vm₁ X₁.warmed) with ⟨v, B, X', hpost, hsteps⟩ | ⟨q, B, X', hpost, hsteps⟩
  · exact Or.inl ⟨v, vm₁, B, X₁.warmed, X', hpost, fun target h => hstep₁ _ fun acts => by rw [doInvoke_state]; exact hsteps.trans h⟩
  · exact Or.inr ⟨q, vm₁, B, X₁.warmed, X', hpost, hstep₁ _ fun acts => by rw [doInvoke_state]; exact hsteps⟩
theorem vx_callSX (X : Stand p l e R s m args below meth c T locs cells slots) (hexec : p.tables.exec = Jvm.exec) {own : String} {index : Nat} {y : MethodName} {bytes : ByteArray} {maxL : Nat} {ret : Option FieldType} {hh : List (Nat × Nat × Nat × Nat)}
    (hown : s.vm.findClass own = some m.cls) (hlink : (Cond.methodLink own index y).before args s = true) (hstat : (Cond.static y).before args s = true) (hinit : (Cond.initialized y.cls).before args s = true)
    (hcode : (Cond.codeWith y bytes maxL ret hh).before args s = true) (hy : y.cls ≠ "java/lang/invoke/MethodHandle" ∧ y.cls ≠ "java/lang/invoke/VarHandle")
    {W9 : Nat} {Pre : Pt → Array Value → Prop} {Post : Pt → Array Value → Option Value → Pt → Prop} {PostX : Pt → Array Value → Addr → Pt → Prop} (hK : vx_Back l R p e below s args y 3 W9 Pre Post PostX)
    {g : JFrame} (hg : g.method = m) (hsize : g.locals.size = c.maxLocals) {argsL rest : List Value} (hlen : ∀ sig, parseMethodDescriptor y.desc = some sig → argsL.length = sig.parameters.length)
    (hstack : g.stack = argsL.reverse ++ rest) (hW : 2 * g.monitorRoom + (rest.map fun v => v.category).sum ≤ W9) (hdg : decode c.code g.pc = .ok (.invokestatic index, 3))
    (hpre : ∀ vm₁, s.WarmedH vm₁ → Pre ⟨T.setVm vm₁, locs, cells, slots⟩ argsL.toArray) :
    (∃ (v : Option Value) (vm₁ : Vm) (B : Pt), s.WarmedH vm₁ ∧ Stand p l e R s m args below meth c B.U B.locs B.cells B.slots ∧ Post ⟨T.setVm vm₁, locs, cells, slots⟩ argsL.toArray v B ∧
      ∀ target, Steps p.tables e below (B.U.setTop { g with pc := g.pc + 3, stack := v.toList ++ rest }) target → Steps p.tables e below (T.setTop g) target) ∨
    (∃ (q : Addr) (vm₁ : Vm) (B : Pt), s.WarmedH vm₁ ∧ Stand p l e R s m args below meth c B.U B.locs B.cells B.slots ∧ PostX ⟨T.setVm vm₁, locs, cells, slots⟩ argsL.toArray q B ∧
      Steps p.tables e below (T.setTop g) ((B.U.setTop { g with stack := rest }).pushFrame (.throwing q))) := by
  obtain ⟨mk, methM, cM, hnamed, hmethM, -, -, -, -, -, -, hsigM⟩ := Cond.codeWith_spec hcode
  have hstatic : methM.isStatic = true := Cond.static_spec hnamed hmethM hstat
  obtain ⟨kP, hkP, -⟩ := className_of_methodNamed hnamed
  have hinitP : kP.init = .initialized := Cond.initialized_spec (findClass_of_methodNamed hnamed) hkP hinit
  obtain ⟨vm₁, X₁, hstep₁⟩ := X.invokestatic hexec hown hlink hnamed hmethM hstatic hkP hinitP hy (g := g) hg (argsL := argsL) (rest := rest) (hlen _ hsigM) hstack hdg
  rcases hK m meth c ⟨T.setVm vm₁, locs, cells, slots⟩ { g with stack := rest } (.invokestatic index) mk argsL.toArray X₁ hg hsize hdg hW (X₁.named hnamed) (hpre vm₁ X₁.warmed) with ⟨v, B, X', hpost, hsteps⟩ | ⟨q, B, X', hpost, hsteps⟩
  · exact Or.inl ⟨v, vm₁, B, X₁.warmed, X', hpost, fun target h => hstep₁ _ fun acts => by rw [doInvoke_state]; exact hsteps.trans h⟩
  · exact Or.inr ⟨q, vm₁, B, X₁.warmed, X', hpost, hstep₁ _ fun acts => by rw [doInvoke_state]; exact hsteps⟩
theorem vx_callVW (X : Stand p l e R s m args below meth c T locs cells slots) (hexec : p.tables.exec = Jvm.exec) {own C : String} {index : Nat} {y : MethodName} {bytes : ByteArray} {maxL : Nat} {ret : Option FieldType} {hh : List (Nat × Nat × Nat × Nat)}
    (hown : s.vm.findClass own = some m.cls) (hlink : (Cond.methodLink own index y).before args s = true) (hinst : (Cond.instanceMethod y).before args s = true) (hsel : (Cond.selects C y y).before args s = true)
    (hcode : (Cond.codeWith y bytes maxL ret hh).before args s = true) (hy : y.cls ≠ "java/lang/invoke/MethodHandle" ∧ y.cls ≠ "java/lang/invoke/VarHandle")
    {W9 : Nat} {Pre : Pt → Array Value → Prop} {Post : Pt → Array Value → Option Value → Pt → Prop} (hK : Back l R p e below s args y 3 W9 Pre Post)
    {b : Addr} {cellB : Cell} (hcell : T.heap[b]? = some cellB) (hobj : cellB.vm.isStatics = false) (hcls : s.vm.findClass C = some cellB.cls)
    {g : JFrame} (hg : g.method = m) (hsize : g.locals.size = c.maxLocals) {argsL rest : List Value} (hlen : ∀ sig, parseMethodDescriptor y.desc = some sig → argsL.length = sig.parameters.length)
    (hstack : g.stack = argsL.reverse ++ .ref b :: rest) (hW : 2 * g.monitorRoom + (rest.map fun v => v.category).sum ≤ W9) (hdg : decode c.code g.pc = .ok (.invokevirtual index, 3))
    (hpre : ∀ vm₁, s.WarmedH vm₁ → Pre ⟨T.setVm vm₁, locs, cells, slots⟩ (Value.ref b :: argsL).toArray) :
    ∃ (v : Option Value) (vm₁ : Vm) (B : Pt), s.WarmedH vm₁ ∧ Stand p l e R s m args below meth c B.U B.locs B.cells B.slots ∧ Post ⟨T.setVm vm₁, locs, cells, slots⟩ (Value.ref b :: argsL).toArray v B ∧
      ∀ target, Steps p.tables e below (B.U.setTop { g with pc := g.pc + 3, stack := v.toList ++ rest }) target → Steps p.tables e below (T.setTop g) target := by
  obtain ⟨mk, methM, hnamed, hmethM, hstM, habM⟩ := Cond.instanceMethod_spec hinst
  obtain ⟨m8, methM', cM, hn8, hmethM', -, -, -, -, -, -, hsigM⟩ := Cond.codeWith_spec hcode
  cases Option.some.inj (hn8.symm.trans hnamed)
  cases hmethM.symm.trans hmethM'
  obtain ⟨c2, r2, m2, q1, q2, q3, q4, kP, hkP, hkPi⟩ := Cond.selects_spec hsel
  cases hcls.symm.trans q1
  cases (State.methodFound?_of_named hnamed hy).symm.trans q2
  cases hnamed.symm.trans q3
  have hselP : selectMethod e.platform s.vm cellB.cls mk = .method mk := by rw [Launch.admits_selectMethod X.admits]; exact q4
  obtain ⟨vm₁, X₁, hstep₁⟩ := X.invokevirtual hexec hown hlink hnamed hmethM hstM hkP hkPi hy (a := b) (cell := cellB) hcell
    (fun z h => by rw [h] at hobj; cases hobj) hselP hmethM habM hkP hkPi (g := g) hg (argsL := argsL) (rest := rest) (hlen _ hsigM) hstack hdg
  obtain ⟨v, B, X', hpost, hsteps⟩ := hK m meth c ⟨T.setVm vm₁, locs, cells, slots⟩ { g with stack := rest } (.invokevirtual index) mk (Value.ref b :: argsL).toArray X₁ hg hsize hdg hW (X₁.named hnamed) (hpre vm₁ X₁.warmed)
  exact ⟨v, vm₁, B, X₁.warmed, X', hpost, fun target h => hstep₁ _ fun acts => by rw [doInvoke_state]; exact hsteps.trans h⟩
abbrev vx_CVW (R : Room) (s : State) (args : Array Value) (own C : String) (index : Nat) (y : MethodName) (bytes : ByteArray) (maxL : Nat) (ret : Option FieldType) (hh : List (Nat × Nat × Nat × Nat)) (ws : List Cond) (rm : Room) (mc ms n : Nat) : Prop :=
  (rm.cells = mc ∧ rm.slots = ms ∧ rm.frames + 1 ≤ R.frames ∧ 8 + (maxL + 11) + rm.locals ≤ R.locals ∧ (∀ w ∈ ws, ∀ (a' : Array Value) (U : State), s.WarmedH U.vm → w.before a' U = true) ∧ Cond.codeWith y bytes maxL ret hh ∈ ws) ∧
  (Cond.codeWith y bytes maxL ret hh).before args s = true ∧ (Cond.initialized y.cls).before args s = true ∧ (y.cls ≠ "java/lang/invoke/MethodHandle" ∧ y.cls ≠ "java/lang/invoke/VarHandle") ∧
  (∀ sig, parseMethodDescriptor y.desc = some sig → n = sig.parameters.length) ∧ (Cond.methodLink own index y).before args s = true ∧ (Cond.instanceMethod y).before args s = true ∧ (Cond.selects C y y).before args s = true
theorem vx_cwVW {own C : String} {index maxL mc ms : Nat} {y : MethodName} {bytes : ByteArray} {ret : Option FieldType} {hh : List (Nat × Nat × Nat × Nat)} {Ts ws ws' : List Cond} {rm : Room} (n : Nat) (ht : ∀ w ∈ Ts, w.before args s = true) (hT : GoodIn Ts (wsV own index C y ws)) (hw : ws = Cond.codeWith y bytes maxL ret hh :: ws') (hrc : rm.cells = mc) (hrs : rm.slots = ms)
    (hd : y.cls = C ∧ y.cls ≠ "java/lang/invoke/MethodHandle" ∧ y.cls ≠ "java/lang/invoke/VarHandle" ∧ (parseMethodDescriptor y.desc).map (fun d => d.parameters.length) = some n) (hR : rm.frames + 1 ≤ R.frames ∧ 8 + (maxL + 11) + rm.locals ≤ R.locals) :
    vx_CVW R s args own C index y bytes maxL ret hh ws rm mc ms n := by
  obtain ⟨hC, hd⟩ := hd
  subst hC
  have ok : ∀ w ∈ wsV own index y.cls y ws, w.before args s = true := fun w h => ht w (hT w h).1
  have hG : GoodIn Ts ws := fun w h => hT w (by unfold wsV; exact List.mem_append_right _ h)
  have hc : Cond.codeWith y bytes maxL ret hh ∈ ws := by rw [hw]; exact List.mem_cons_self
  refine ⟨⟨hrc, hrs, hR.1, hR.2, pay_in ht hG, hc⟩, ht _ (hG _ hc).1, ok _ (by simp [wsV]), ⟨hd.1, hd.2.1⟩, fun sig h => ?_, ok _ (by simp [wsV]), ok _ (by simp [wsV]), ok _ (by simp [wsV])⟩
  have h2 := hd.2.2
  rw [h] at h2
  exact (Option.some.inj h2).symm
theorem vx_runVW {y : MethodName} {bytes cc : ByteArray} {maxL nL mc ms n index : Nat} {ret : Option FieldType} {hh : List (Nat × Nat × Nat × Nat)} {ws : List Cond} {rm : Room} {Pc : Array Value → State → Prop} {Qc : Array Value → State → Outcome → State → Prop} {free : Addr → Prop} {Ts : List Cond} {own C : String} {b : Addr} {As rest : List Value} {g : JFrame}
    (S : CallFix p m c cc nL s args Ts own) (hM : Met l y ws rm Pc Qc mc ms free) (cw : vx_CVW R s args own C index y bytes maxL ret hh ws rm mc ms n) (hp : PreV s H C b Pc As)
    (hg : g.method = m) (hn : As.length = n) (hsize : g.locals.size = nL) (hstack : g.stack = As.reverse ++ .ref b :: rest) (hW : 2 * g.monitorRoom + (rest.map fun v => v.category).sum ≤ 8) (hdg : decode cc g.pc = .ok (.invokevirtual index, 3)) (hf : cells + mc ≤ R.cells ∧ slots + ms ≤ R.slots) :
    va_Run p l e R s m args below meth c H locs cells slots mc ms g rest (Qc (Value.ref b :: As).toArray) free := by
  obtain ⟨⟨hrc, hrs, hfr, hlo, hws, hcw⟩, hcode, hini, hy, hlen, hl, hin, hse⟩ := cw
  have hK : Back l R p e below s args y 3 8 (PreOf R mc ms Pc) (PostOf Qc mc ms free) := va_backW (hh := hh) (bytes := bytes) (maxL := maxL) (ret := ret) hM hp.1 hrc hrs hfr hlo hws hcw (fun a' U hW => word_at hW (Or.inl (by first | rfl | simp [Cond.onTables, Cond.keeps, Cond.steady])) hini)
  obtain ⟨hx, hb, hml, ho, -⟩ := S
  obtain ⟨-, ⟨cellB, hcB, hoB, hclB⟩, hPc⟩ := hp
  intro T hT X
  obtain ⟨v, vm₁, ⟨U', l2, c2, s2⟩, hW₁, X', ⟨g', mk, t, L, e1, e2, hq, h1, hL, h2, h3⟩, st⟩ := vx_callVW X hx (C := C) (hh := hh) (bytes := bytes) (maxL := maxL) (ret := ret) ho hl hin hse hcode hy hK (by rw [hT]; exact hcB) hoB hclB hg (hsize.trans hml.symm) (argsL := As) (rest := rest) (fun sig h => hn.trans (hlen sig h)) hstack hW (by rw [hb]; exact hdg)
    (fun vm₁ hW₁ => ⟨hf.1, hf.2, hPc (T.setVm vm₁) hT hW₁⟩)
  dsimp only [Pt.U, Pt.locs, Pt.cells, Pt.slots] at X' e1 e2 h1 h2 h3 st
  subst h1; subst h2; subst h3
  exact ⟨v, (T.setVm vm₁).calling g' mk (Value.ref b :: As).toArray, t, U', L, hT, X', hL, e1, e2, hq, st⟩
section
variable {y : MethodName} {bytes cc : ByteArray} {maxL nL mc ms n index : Nat} {ret : Option FieldType} {ws : List Cond} {rm : Room} {Pc : Array Value → State → Prop} {Qc : Array Value → State → Outcome → State → Prop} {XC : String → State → State → Prop} {free : Addr → Prop} {Ts : List Cond} {own C : String} {b : Addr} {As rest : List Value} {g : JFrame}
theorem vx_runVX {hh : List (Nat × Nat × Nat × Nat)} (S : CallFix p m c cc nL s args Ts own) (hM : vx_Met l y ws rm Pc Qc XC mc ms free) (cw : vx_CVW R s args own C index y bytes maxL ret hh ws rm mc ms n) (hp : PreV s H C b Pc As)
    (hg : g.method = m) (hn : As.length = n) (hsize : g.locals.size = nL) (hstack : g.stack = As.reverse ++ .ref b :: rest) (hW : 2 * g.monitorRoom + (rest.map fun v => v.category).sum ≤ 8) (hdg : decode cc g.pc = .ok (.invokevirtual index, 3)) (hf : cells + mc ≤ R.cells ∧ slots + ms ≤ R.slots) :
    vx_Run p l e R s m args below meth c H locs cells slots mc ms g rest (Qc (Value.ref b :: As).toArray) XC free := by
  obtain ⟨⟨hrc, hrs, hfr, hlo, hws, hcw⟩, hcode, hini, hy, hlen, hl, hin, hse⟩ := cw
  have hK : vx_Back l R p e below s args y 3 8 (PreOf R mc ms Pc) (PostOf Qc mc ms free) (vx_Post XC mc ms free) := vx_backW (hh := hh) (bytes := bytes) (maxL := maxL) (ret := ret) hM hp.1 hrc hrs hfr hlo hws hcw (fun a' U hW => word_at hW (Or.inl (by first | rfl | simp [Cond.onTables, Cond.keeps, Cond.steady])) hini)
  obtain ⟨hx, hb, hml, ho, -⟩ := S
  obtain ⟨-, ⟨cellB, hcB, hoB, hclB⟩, hPc⟩ := hp
  intro T hT X
  rcases vx_callVX X hx (C := C) (hh := hh) (bytes := bytes) (maxL := maxL) (ret := ret) ho hl hin hse hcode hy hK (by rw [hT]; exact hcB) hoB hclB hg (hsize.trans hml.symm) (argsL := As) (rest := rest) (fun sig h => hn.trans (hlen sig h)) hstack hW (by rw [hb]; exact hdg)
    (fun vm₁ hW₁ => ⟨hf.1, hf.2, hPc (T.setVm vm₁) hT hW₁⟩) with ⟨v, vm₁, ⟨U', l2, c2, s2⟩, hW₁, X', ⟨g', mk, t, L, e1, e2, hq, h1, hL, h2, h3⟩, st⟩ | ⟨q, vm₁, ⟨U', l2, c2, s2⟩, hW₁, X', ⟨g', mk, t, L, E, ce, e1, e2, hq, hce, hcv, hcl, h1, hL, h2, h3⟩, st⟩
  · dsimp only [Pt.U, Pt.locs, Pt.cells, Pt.slots] at X' e1 e2 h1 h2 h3 st
    subst h1; subst h2; subst h3
    exact Or.inl ⟨v, (T.setVm vm₁).calling g' mk (Value.ref b :: As).toArray, t, U', L, hT, X', hL, e1, e2, hq, st⟩
  · dsimp only [Pt.U, Pt.locs, Pt.cells, Pt.slots] at X' e1 e2 h1 h2 h3 st hcl
    subst h1; subst h2; subst h3
    exact Or.inr ⟨q, (T.setVm vm₁).calling g' mk (Value.ref b :: As).toArray, t, U', L, E, ce, hT, X', hL, e1, e2, hq, hce, hcv, vx_cls hW₁ hcl, st⟩
theorem vx_runSX {hh : List (Nat × Nat × Nat × Nat)} (S : CallFix p m c cc nL s args Ts own) (hM : vx_Met l y ws rm Pc Qc XC mc ms free) (cw : vx_CSW R s args own index y bytes maxL ret hh ws rm mc ms n) (hp : PreS s H Pc As)
    (hg : g.method = m) (hn : As.length = n) (hsize : g.locals.size = nL) (hstack : g.stack = As.reverse ++ rest) (hW : 2 * g.monitorRoom + (rest.map fun v => v.category).sum ≤ 8) (hdg : decode cc g.pc = .ok (.invokestatic index, 3)) (hf : cells + mc ≤ R.cells ∧ slots + ms ≤ R.slots) :
    vx_Run p l e R s m args below meth c H locs cells slots mc ms g rest (Qc As.toArray) XC free := by
  obtain ⟨⟨hrc, hrs, hfr, hlo, hws, hcw⟩, hcode, hini, hy, hlen, hl, hstt⟩ := cw
  have hK : vx_Back l R p e below s args y 3 8 (PreOf R mc ms Pc) (PostOf Qc mc ms free) (vx_Post XC mc ms free) := vx_backW (hh := hh) (bytes := bytes) (maxL := maxL) (ret := ret) hM hp.1 hrc hrs hfr hlo hws hcw (fun a' U hW => word_at hW (Or.inl (by first | rfl | simp [Cond.onTables, Cond.keeps, Cond.steady])) hini)
  obtain ⟨hx, hb, hml, ho, -⟩ := S
  intro T hT X
  rcases vx_callSX X hx (hh := hh) (bytes := bytes) (maxL := maxL) (ret := ret) ho hl hstt hini hcode hy hK hg (hsize.trans hml.symm) (argsL := As) (rest := rest) (fun sig h => hn.trans (hlen sig h)) hstack hW (by rw [hb]; exact hdg)
    (fun vm₁ hW₁ => ⟨hf.1, hf.2, hp.2 (T.setVm vm₁) hT hW₁⟩) with ⟨v, vm₁, ⟨U', l2, c2, s2⟩, hW₁, X', ⟨g', mk, t, L, e1, e2, hq, h1, hL, h2, h3⟩, st⟩ | ⟨q, vm₁, ⟨U', l2, c2, s2⟩, hW₁, X', ⟨g', mk, t, L, E, ce, e1, e2, hq, hce, hcv, hcl, h1, hL, h2, h3⟩, st⟩
  · dsimp only [Pt.U, Pt.locs, Pt.cells, Pt.slots] at X' e1 e2 h1 h2 h3 st
    subst h1; subst h2; subst h3
    exact Or.inl ⟨v, (T.setVm vm₁).calling g' mk As.toArray, t, U', L, hT, X', hL, e1, e2, hq, st⟩
  · dsimp only [Pt.U, Pt.locs, Pt.cells, Pt.slots] at X' e1 e2 h1 h2 h3 st hcl
    subst h1; subst h2; subst h3
    exact Or.inr ⟨q, (T.setVm vm₁).calling g' mk As.toArray, t, U', L, E, ce, hT, X', hL, e1, e2, hq, hce, hcv, vx_cls hW₁ hcl, st⟩
end
end VXH
theorem vx_ofWH {l : Launch} {y : MethodName} {ws ws' : List Cond} {rm : Room} {Pc : Array Value → State → Prop} {Qc : Array Value → State → Outcome → State → Prop} {XC : String → State → State → Prop} {mc ms : Nat} {free : Addr → Prop} {cc : ByteArray} {maxL : Nat} {ret : Option FieldType} {hh : List (Nat × Nat × Nat × Nat)}
    (hy : plainName y.cls = true) (hw : ws = Cond.codeWith y cc maxL ret hh :: ws')
    (body : ∀ p e s m args below meth c s₁, BodyLoose p l y (headSpec ws rm) cc maxL ret e s m args below meth c s₁ → c.maxLocals = maxL → Pc args s →
      W p l e (headSpec ws rm).room s m args below meth c s.heap [] 0 0 (vx_MQ below Qc XC args s mc ms free) (entryFrame m args maxL)) : vx_Met l y ws rm Pc Qc XC mc ms free := by
  refine MetFree.of_bodyS (code := cc) (maxLocals := maxL) (ret := ret) hy ?_ ?_
  · intro args s m h hn
    obtain ⟨m9, meth, c, hn9, h1, h2, h3, h4, -, h5, h6, -⟩ := Cond.codeWith_spec (atoms_spec (ws := ws) h _ (by rw [hw]; exact List.mem_cons_self))
    cases hn.symm.trans hn9
    exact ⟨meth, c, h1, h2, h3, h4, h5, h6⟩
  · intro p e s m args below meth c s₁ B hml hP _
    have hh0 : s₁.heap = s.heap := by rw [B.state]; rfl
    obtain ⟨t, a1, o, b1, b2, b3⟩ := body p e s m args below meth c s₁ B hml hP s₁ hh0 (Stand.of_body B)
    exact ⟨t, o, a1, b1, b2, b3⟩
/-! ===== END ===== -/
end
section
/-! ===== BEGIN printed: names, fields, word lists, decode rows ===== -/
def RX0 : String := "StoneWall$Carrying"
def TX0 : u_T := fun k => match k with
  | 0 => ("StoneWall$Carrying", "stock", "LStoneWall$Stock;", true)
  | 1 => ("StoneWall$Carrying", "shape", "LStoneWall$Shape;", true)
  | 2 => ("StoneWall$Carrying", "masonry", "LStoneWall$Masonry;", true)
  | 3 => ("StoneWall$Carrying", "had", "[[I", true)
  | 4 => ("StoneWall$Carrying", "room", "[I", true)
  | 5 => ("StoneWall$Carrying", "given", "[[I", true)
  | 6 => ("StoneWall$Carrying", "swapCost", "[[I", true)
  | 7 => ("StoneWall$Carrying", "swapPlace", "[[I", true)
  | 8 => ("StoneWall$Carrying", "chainCost", "[I", true)
  | _ => ("StoneWall$Carrying", "chainFrom", "[I", true)
def tyX0 : Nat → FieldType := fun k => match k with
  | 0 => .object "StoneWall$Stock"
  | 1 => .object "StoneWall$Shape"
  | 2 => .object "StoneWall$Masonry"
  | 3 => .array (.array .int)
  | 4 => .array .int
  | 5 => .array (.array .int)
  | 6 => .array (.array .int)
  | 7 => .array (.array .int)
  | 8 => .array .int
  | _ => .array .int
abbrev wsX00 : List Cond := u_ws RX0 TX0 10
theorem nmX0 : ∀ a, a < 10 → ∀ b, b < 10 → a ≠ b → (TX0 a).2.1 ≠ (TX0 b).2.1 := by decide +kernel
theorem tyX0_ok : ∀ k, k < 10 → parseFieldDescriptor (TX0 k).2.2.1 = some (tyX0 k) := by decide +kernel
abbrev cX0_init : ByteArray := prog_2_method_1_code
def yX0_init : MethodName := ⟨RX0, "<init>", "(LStoneWall$Stock;LStoneWall$Shape;LStoneWall$Masonry;)V"⟩
abbrev cX0_rememberHeaps : ByteArray := prog_2_method_2_code
def yX0_rememberHeaps : MethodName := ⟨RX0, "rememberHeaps", "()V"⟩
abbrev cX0_carryAll : ByteArray := prog_2_method_3_code
def yX0_carryAll : MethodName := ⟨RX0, "carryAll", "()J"⟩
abbrev cX0_nearestWith : ByteArray := prog_2_method_4_code
def yX0_nearestWith : MethodName := ⟨RX0, "nearestWith", "(II)I"⟩
abbrev cX0_weight : ByteArray := prog_2_method_5_code
def yX0_weight : MethodName := ⟨RX0, "weight", "(I)J"⟩
abbrev cX0_way : ByteArray := prog_2_method_6_code
def yX0_way : MethodName := ⟨RX0, "way", "(II)I"⟩
abbrev cX0_leastToil : ByteArray := prog_2_method_7_code
def yX0_leastToil : MethodName := ⟨RX0, "leastToil", "()J"⟩
abbrev cX0_toilSaved : ByteArray := prog_2_method_8_code
def yX0_toilSaved : MethodName := ⟨RX0, "toilSaved", "(II)J"⟩
abbrev cX0_leastWays : ByteArray := prog_2_method_9_code
def yX0_leastWays : MethodName := ⟨RX0, "leastWays", "(II)J"⟩
abbrev cX0_supply : ByteArray := prog_2_method_10_code
def yX0_supply : MethodName := ⟨RX0, "supply", "(I)I"⟩
abbrev cX0_findSwaps : ByteArray := prog_2_method_11_code
def yX0_findSwaps : MethodName := ⟨RX0, "findSwaps", "()V"⟩
abbrev cX0_weighSwaps : ByteArray := prog_2_method_12_code
def yX0_weighSwaps : MethodName := ⟨RX0, "weighSwaps", "(II)V"⟩
abbrev cX0_findChains : ByteArray := prog_2_method_13_code
def yX0_findChains : MethodName := ⟨RX0, "findChains", "(I)V"⟩
abbrev cX0_lengthenChains : ByteArray := prog_2_method_14_code
def yX0_lengthenChains : MethodName := ⟨RX0, "lengthenChains", "(I)V"⟩
abbrev cX0_cheapestGiver : ByteArray := prog_2_method_15_code
def yX0_cheapestGiver : MethodName := ⟨RX0, "cheapestGiver", "()I"⟩
abbrev cX0_followChain : ByteArray := prog_2_method_16_code
def yX0_followChain : MethodName := ⟨RX0, "followChain", "(II)V"⟩
def RX1 : String := "StoneWall$Masonry"
def TX1 : u_T := fun k => match k with
  | 0 => ("StoneWall$Masonry", "stock", "LStoneWall$Stock;", true)
  | 1 => ("StoneWall$Masonry", "shape", "LStoneWall$Shape;", true)
  | 2 => ("StoneWall$Masonry", "kinds", "[I", true)
  | 3 => ("StoneWall$Masonry", "courses", "[I", true)
  | 4 => ("StoneWall$Masonry", "places", "[I", true)
  | 5 => ("StoneWall$Masonry", "holds", "[I", true)
  | 6 => ("StoneWall$Masonry", "origins", "[I", true)
  | 7 => ("StoneWall$Masonry", "stands", "[Z", true)
  | 8 => ("StoneWall$Masonry", "standingPlaces", "[I", true)
  | 9 => ("StoneWall$Masonry", "size", "I", false)
  | 10 => ("StoneWall$Masonry", "built", "Z", false)
  | _ => ("StoneWall$Masonry", "frosts", "I", false)
def tyX1 : Nat → FieldType := fun k => match k with
  | 0 => .object "StoneWall$Stock"
  | 1 => .object "StoneWall$Shape"
  | 2 => .array .int
  | 3 => .array .int
  | 4 => .array .int
  | 5 => .array .int
  | 6 => .array .int
  | 7 => .array .boolean
  | 8 => .array .int
  | 9 => .int
  | 10 => .boolean
  | _ => .int
abbrev wsX10 : List Cond := u_ws RX1 TX1 12
theorem nmX1 : ∀ a, a < 12 → ∀ b, b < 12 → a ≠ b → (TX1 a).2.1 ≠ (TX1 b).2.1 := by decide +kernel
theorem tyX1_ok : ∀ k, k < 12 → parseFieldDescriptor (TX1 k).2.2.1 = some (tyX1 k) := by decide +kernel
abbrev cX1_init : ByteArray := prog_3_method_1_code
def yX1_init : MethodName := ⟨RX1, "<init>", "(LStoneWall$Stock;LStoneWall$Shape;)V"⟩
abbrev cX1_forget : ByteArray := prog_3_method_2_code
def yX1_forget : MethodName := ⟨RX1, "forget", "()V"⟩
abbrev cX1_add : ByteArray := prog_3_method_3_code
def yX1_add : MethodName := ⟨RX1, "add", "(III)V"⟩
abbrev cX1_end : ByteArray := prog_3_method_4_code
def yX1_end : MethodName := ⟨RX1, "end", "(I)I"⟩
abbrev cX1_hearting : ByteArray := prog_3_method_5_code
def yX1_hearting : MethodName := ⟨RX1, "hearting", "(I)I"⟩
abbrev cX1_heartingInAll : ByteArray := prog_3_method_6_code
def yX1_heartingInAll : MethodName := ⟨RX1, "heartingInAll", "()I"⟩
abbrev cX1_isThroughStone : ByteArray := prog_3_method_7_code
def yX1_isThroughStone : MethodName := ⟨RX1, "isThroughStone", "(I)Z"⟩
abbrev cX1_isStanding : ByteArray := prog_3_method_8_code
def yX1_isStanding : MethodName := ⟨RX1, "isStanding", "(I)Z"⟩
abbrev cX1_number : ByteArray := prog_3_method_9_code
def yX1_number : MethodName := ⟨RX1, "number", "(I)I"⟩
abbrev cX1_numberStanding : ByteArray := prog_3_method_10_code
def yX1_numberStanding : MethodName := ⟨RX1, "numberStanding", "(I)I"⟩
abbrev cX1_numberAtFoot : ByteArray := prog_3_method_11_code
def yX1_numberAtFoot : MethodName := ⟨RX1, "numberAtFoot", "(I)I"⟩
abbrev cX1_allAtFoot : ByteArray := prog_3_method_12_code
def yX1_allAtFoot : MethodName := ⟨RX1, "allAtFoot", "()I"⟩
abbrev cX1_raise : ByteArray := prog_3_method_13_code
def yX1_raise : MethodName := ⟨RX1, "raise", "()V"⟩
abbrev cX1_layAnew : ByteArray := prog_3_method_14_code
def yX1_layAnew : MethodName := ⟨RX1, "layAnew", "()I"⟩
abbrev cX1_loosen : ByteArray := prog_3_method_15_code
def yX1_loosen : MethodName := ⟨RX1, "loosen", "(I)V"⟩
abbrev cX1_standsBeside : ByteArray := prog_3_method_16_code
def yX1_standsBeside : MethodName := ⟨RX1, "standsBeside", "(II)Z"⟩
abbrev cX1_letSlip : ByteArray := prog_3_method_17_code
def yX1_letSlip : MethodName := ⟨RX1, "letSlip", "()I"⟩
abbrev cX1_isBorne : ByteArray := prog_3_method_18_code
def yX1_isBorne : MethodName := ⟨RX1, "isBorne", "(I)Z"⟩
abbrev cX1_placesOf : ByteArray := prog_3_method_19_code
def yX1_placesOf : MethodName := ⟨RX1, "placesOf", "(I)I"⟩
def RX2 : String := "StoneWall$Search"
def TX2 : u_T := fun k => match k with
  | 0 => ("StoneWall$Search", "stock", "LStoneWall$Stock;", true)
  | 1 => ("StoneWall$Search", "shape", "LStoneWall$Shape;", true)
  | 2 => ("StoneWall$Search", "masonry", "LStoneWall$Masonry;", true)
  | 3 => ("StoneWall$Search", "left", "[I", true)
  | 4 => ("StoneWall$Search", "joints", "[I", true)
  | 5 => ("StoneWall$Search", "course", "I", false)
  | 6 => ("StoneWall$Search", "place", "I", false)
  | _ => ("StoneWall$Search", "looks", "I", false)
def tyX2 : Nat → FieldType := fun k => match k with
  | 0 => .object "StoneWall$Stock"
  | 1 => .object "StoneWall$Shape"
  | 2 => .object "StoneWall$Masonry"
  | 3 => .array .int
  | 4 => .array .int
  | 5 => .int
  | 6 => .int
  | _ => .int
abbrev wsX20 : List Cond := u_ws RX2 TX2 8
theorem nmX2 : ∀ a, a < 8 → ∀ b, b < 8 → a ≠ b → (TX2 a).2.1 ≠ (TX2 b).2.1 := by decide +kernel
theorem tyX2_ok : ∀ k, k < 8 → parseFieldDescriptor (TX2 k).2.2.1 = some (tyX2 k) := by decide +kernel
abbrev cX2_init : ByteArray := prog_4_method_1_code
def yX2_init : MethodName := ⟨RX2, "<init>", "(LStoneWall$Stock;LStoneWall$Shape;LStoneWall$Masonry;)V"⟩
abbrev cX2_firstWhole : ByteArray := prog_4_method_2_code
def yX2_firstWhole : MethodName := ⟨RX2, "firstWhole", "()I"⟩
abbrev cX2_begin : ByteArray := prog_4_method_3_code
def yX2_begin : MethodName := ⟨RX2, "begin", "()V"⟩
abbrev cX2_nextToTry : ByteArray := prog_4_method_4_code
def yX2_nextToTry : MethodName := ⟨RX2, "nextToTry", "(I)I"⟩
abbrev cX2_endsWell : ByteArray := prog_4_method_5_code
def yX2_endsWell : MethodName := ⟨RX2, "endsWell", "(I)Z"⟩
abbrev cX2_lay : ByteArray := prog_4_method_6_code
def yX2_lay : MethodName := ⟨RX2, "lay", "(I)V"⟩
abbrev cX2_takeUp : ByteArray := prog_4_method_7_code
def yX2_takeUp : MethodName := ⟨RX2, "takeUp", "()I"⟩
abbrev cX2_jointAt : ByteArray := prog_4_method_8_code
def yX2_jointAt : MethodName := ⟨RX2, "jointAt", "(I)I"⟩
abbrev cX2_hasThroughsAsked : ByteArray := prog_4_method_9_code
def yX2_hasThroughsAsked : MethodName := ⟨RX2, "hasThroughsAsked", "()Z"⟩
def RX3 : String := "StoneWall$Shape"
def TX3 : u_T := fun k => match k with
  | 0 => ("StoneWall$Shape", "told", "Z", false)
  | 1 => ("StoneWall$Shape", "x", "I", false)
  | 2 => ("StoneWall$Shape", "y", "I", false)
  | 3 => ("StoneWall$Shape", "length", "I", false)
  | 4 => ("StoneWall$Shape", "courses", "I", false)
  | 5 => ("StoneWall$Shape", "depth", "I", false)
  | 6 => ("StoneWall$Shape", "batter", "I", false)
  | 7 => ("StoneWall$Shape", "throughCourses", "I", false)
  | _ => ("StoneWall$Shape", "throughs", "I", false)
def tyX3 : Nat → FieldType := fun k => match k with
  | 0 => .boolean
  | 1 => .int
  | 2 => .int
  | 3 => .int
  | 4 => .int
  | 5 => .int
  | 6 => .int
  | 7 => .int
  | _ => .int
abbrev wsX30 : List Cond := u_ws RX3 TX3 9
theorem nmX3 : ∀ a, a < 9 → ∀ b, b < 9 → a ≠ b → (TX3 a).2.1 ≠ (TX3 b).2.1 := by decide +kernel
theorem tyX3_ok : ∀ k, k < 9 → parseFieldDescriptor (TX3 k).2.2.1 = some (tyX3 k) := by decide +kernel
abbrev cX3_init : ByteArray := prog_5_method_1_code
def yX3_init : MethodName := ⟨RX3, "<init>", "()V"⟩
abbrev cX3_tell : ByteArray := prog_5_method_2_code
def yX3_tell : MethodName := ⟨RX3, "tell", "(IIIIII)V"⟩
abbrev cX3_width : ByteArray := prog_5_method_3_code
def yX3_width : MethodName := ⟨RX3, "width", "(I)I"⟩
abbrev cX3_throughsAsked : ByteArray := prog_5_method_4_code
def yX3_throughsAsked : MethodName := ⟨RX3, "throughsAsked", "(I)I"⟩
def RX4 : String := "StoneWall$Stock"
def TX4 : u_T := fun k => match k with
  | 0 => ("StoneWall$Stock", "lengths", "[I", true)
  | 1 => ("StoneWall$Stock", "depths", "[I", true)
  | 2 => ("StoneWall$Stock", "xs", "[I", true)
  | 3 => ("StoneWall$Stock", "ys", "[I", true)
  | 4 => ("StoneWall$Stock", "amounts", "[[I", true)
  | 5 => ("StoneWall$Stock", "kinds", "I", false)
  | _ => ("StoneWall$Stock", "heaps", "I", false)
def tyX4 : Nat → FieldType := fun k => match k with
  | 0 => .array .int
  | 1 => .array .int
  | 2 => .array .int
  | 3 => .array .int
  | 4 => .array (.array .int)
  | 5 => .int
  | _ => .int
abbrev wsX40 : List Cond := u_ws RX4 TX4 7
theorem nmX4 : ∀ a, a < 7 → ∀ b, b < 7 → a ≠ b → (TX4 a).2.1 ≠ (TX4 b).2.1 := by decide +kernel
theorem tyX4_ok : ∀ k, k < 7 → parseFieldDescriptor (TX4 k).2.2.1 = some (tyX4 k) := by decide +kernel
abbrev cX4_init : ByteArray := prog_6_method_1_code
def yX4_init : MethodName := ⟨RX4, "<init>", "()V"⟩
abbrev cX4_hasKind : ByteArray := prog_6_method_2_code
def yX4_hasKind : MethodName := ⟨RX4, "hasKind", "(I)Z"⟩
abbrev cX4_hasHeap : ByteArray := prog_6_method_3_code
def yX4_hasHeap : MethodName := ⟨RX4, "hasHeap", "(I)Z"⟩
abbrev cX4_addKind : ByteArray := prog_6_method_4_code
def yX4_addKind : MethodName := ⟨RX4, "addKind", "(II)I"⟩
abbrev cX4_addHeap : ByteArray := prog_6_method_5_code
def yX4_addHeap : MethodName := ⟨RX4, "addHeap", "(II)I"⟩
abbrev cX4_inHeaps : ByteArray := prog_6_method_6_code
def yX4_inHeaps : MethodName := ⟨RX4, "inHeaps", "(I)I"⟩
def RX5 : String := "StoneWall"
def TX5 : u_T := fun k => match k with
  | 0 => ("StoneWall", "stock", "LStoneWall$Stock;", true)
  | 1 => ("StoneWall", "shape", "LStoneWall$Shape;", true)
  | 2 => ("StoneWall", "masonry", "LStoneWall$Masonry;", true)
  | 3 => ("StoneWall", "search", "LStoneWall$Search;", true)
  | _ => ("StoneWall", "carrying", "LStoneWall$Carrying;", true)
def tyX5 : Nat → FieldType := fun k => match k with
  | 0 => .object "StoneWall$Stock"
  | 1 => .object "StoneWall$Shape"
  | 2 => .object "StoneWall$Masonry"
  | 3 => .object "StoneWall$Search"
  | _ => .object "StoneWall$Carrying"
abbrev wsX50 : List Cond := u_ws RX5 TX5 5
theorem nmX5 : ∀ a, a < 5 → ∀ b, b < 5 → a ≠ b → (TX5 a).2.1 ≠ (TX5 b).2.1 := by decide +kernel
theorem tyX5_ok : ∀ k, k < 5 → parseFieldDescriptor (TX5 k).2.2.1 = some (tyX5 k) := by decide +kernel
abbrev cX5_init : ByteArray := prog_1_method_1_code
def yX5_init : MethodName := ⟨RX5, "<init>", "()V"⟩
abbrev cX5_kind : ByteArray := prog_1_method_2_code
def yX5_kind : MethodName := ⟨RX5, "kind", "(II)I"⟩
abbrev cX5_heap : ByteArray := prog_1_method_3_code
def yX5_heap : MethodName := ⟨RX5, "heap", "(II)I"⟩
abbrev cX5_stones : ByteArray := prog_1_method_4_code
def yX5_stones : MethodName := ⟨RX5, "stones", "(III)Z"⟩
abbrev cX5_wall : ByteArray := prog_1_method_5_code
def yX5_wall : MethodName := ⟨RX5, "wall", "(IIIIII)Z"⟩
abbrev cX5_through : ByteArray := prog_1_method_6_code
def yX5_through : MethodName := ⟨RX5, "through", "(II)Z"⟩
abbrev cX5_plan : ByteArray := prog_1_method_7_code
def yX5_plan : MethodName := ⟨RX5, "plan", "()I"⟩
abbrev cX5_stone : ByteArray := prog_1_method_8_code
def yX5_stone : MethodName := ⟨RX5, "stone", "(II)I"⟩
abbrev cX5_over : ByteArray := prog_1_method_9_code
def yX5_over : MethodName := ⟨RX5, "over", "(II)I"⟩
abbrev cX5_least : ByteArray := prog_1_method_10_code
def yX5_least : MethodName := ⟨RX5, "least", "()J"⟩
abbrev cX5_saved : ByteArray := prog_1_method_11_code
def yX5_saved : MethodName := ⟨RX5, "saved", "(II)J"⟩
abbrev cX5_build : ByteArray := prog_1_method_12_code
def yX5_build : MethodName := ⟨RX5, "build", "()J"⟩
abbrev cX5_frost : ByteArray := prog_1_method_13_code
def yX5_frost : MethodName := ⟨RX5, "frost", "(I)I"⟩
abbrev cX5_mend : ByteArray := prog_1_method_14_code
def yX5_mend : MethodName := ⟨RX5, "mend", "()I"⟩
abbrev cX5_take : ByteArray := prog_1_method_15_code
def yX5_take : MethodName := ⟨RX5, "take", "(I)I"⟩
abbrev cX5_count : ByteArray := prog_1_method_16_code
def yX5_count : MethodName := ⟨RX5, "count", "(II)I"⟩
abbrev cX5_look : ByteArray := prog_1_method_17_code
def yX5_look : MethodName := ⟨RX5, "look", "(I)I"⟩
abbrev cX5_within : ByteArray := prog_1_method_18_code
def yX5_within : MethodName := ⟨RX5, "within", "(III)Z"⟩
abbrev cX5_onTheMap : ByteArray := prog_1_method_19_code
def yX5_onTheMap : MethodName := ⟨RX5, "onTheMap", "(II)Z"⟩
def RX6 : String := "StoneWallModel"
def TX6 : u_T := fun k => match k with
  | 0 => ("StoneWallModel", "kinds", "I", false)
  | 1 => ("StoneWallModel", "lengths", "[I", true)
  | 2 => ("StoneWallModel", "depths", "[I", true)
  | 3 => ("StoneWallModel", "heaps", "I", false)
  | 4 => ("StoneWallModel", "hx", "[I", true)
  | 5 => ("StoneWallModel", "hy", "[I", true)
  | 6 => ("StoneWallModel", "heap", "[I", true)
  | 7 => ("StoneWallModel", "had", "[I", true)
  | 8 => ("StoneWallModel", "isWall", "Z", false)
  | 9 => ("StoneWallModel", "wx", "I", false)
  | 10 => ("StoneWallModel", "wy", "I", false)
  | 11 => ("StoneWallModel", "wide", "I", false)
  | 12 => ("StoneWallModel", "courses", "I", false)
  | 13 => ("StoneWallModel", "depth", "I", false)
  | 14 => ("StoneWallModel", "batter", "I", false)
  | 15 => ("StoneWallModel", "throughBits", "I", false)
  | 16 => ("StoneWallModel", "throughMany", "I", false)
  | 17 => ("StoneWallModel", "isPlan", "Z", false)
  | 18 => ("StoneWallModel", "isBuilt", "Z", false)
  | 19 => ("StoneWallModel", "stones", "I", false)
  | 20 => ("StoneWallModel", "sKind", "[I", true)
  | 21 => ("StoneWallModel", "sCourse", "[I", true)
  | 22 => ("StoneWallModel", "sPlace", "[I", true)
  | 23 => ("StoneWallModel", "sHold", "[I", true)
  | 24 => ("StoneWallModel", "sStands", "[Z", true)
  | 25 => ("StoneWallModel", "sHeap", "[I", true)
  | 26 => ("StoneWallModel", "looks", "I", false)
  | 27 => ("StoneWallModel", "frosts", "I", false)
  | 28 => ("StoneWallModel", "thrown", "I", false)
  | 29 => ("StoneWallModel", "used", "[I", true)
  | 30 => ("StoneWallModel", "from", "[I", true)
  | 31 => ("StoneWallModel", "taken", "[I", true)
  | 32 => ("StoneWallModel", "left", "[I", true)
  | 33 => ("StoneWallModel", "far", "[J", true)
  | 34 => ("StoneWallModel", "by", "[I", true)
  | 35 => ("StoneWallModel", "goes", "[Z", true)
  | _ => ("StoneWallModel", "falls", "[I", true)
def tyX6 : Nat → FieldType := fun k => match k with
  | 0 => .int
  | 1 => .array .int
  | 2 => .array .int
  | 3 => .int
  | 4 => .array .int
  | 5 => .array .int
  | 6 => .array .int
  | 7 => .array .int
  | 8 => .boolean
  | 9 => .int
  | 10 => .int
  | 11 => .int
  | 12 => .int
  | 13 => .int
  | 14 => .int
  | 15 => .int
  | 16 => .int
  | 17 => .boolean
  | 18 => .boolean
  | 19 => .int
  | 20 => .array .int
  | 21 => .array .int
  | 22 => .array .int
  | 23 => .array .int
  | 24 => .array .boolean
  | 25 => .array .int
  | 26 => .int
  | 27 => .int
  | 28 => .int
  | 29 => .array .int
  | 30 => .array .int
  | 31 => .array .int
  | 32 => .array .int
  | 33 => .array .long
  | 34 => .array .int
  | 35 => .array .boolean
  | _ => .array .int
abbrev wsX60 : List Cond := u_ws RX6 TX6 37
theorem nmX6 : ∀ a, a < 37 → ∀ b, b < 37 → a ≠ b → (TX6 a).2.1 ≠ (TX6 b).2.1 := by decide +kernel
theorem tyX6_ok : ∀ k, k < 37 → parseFieldDescriptor (TX6 k).2.2.1 = some (tyX6 k) := by decide +kernel
abbrev cX6_init : ByteArray := prog_8_method_1_code
def yX6_init : MethodName := ⟨RX6, "<init>", "()V"⟩
abbrev cX6_thrown : ByteArray := prog_8_method_2_code
def yX6_thrown : MethodName := ⟨RX6, "thrown", "()I"⟩
abbrev cX6_isPlace : ByteArray := prog_8_method_3_code
def yX6_isPlace : MethodName := ⟨RX6, "isPlace", "(II)Z"⟩
abbrev cX6_noPlan : ByteArray := prog_8_method_4_code
def yX6_noPlan : MethodName := ⟨RX6, "noPlan", "()V"⟩
abbrev cX6_kind : ByteArray := prog_8_method_5_code
def yX6_kind : MethodName := ⟨RX6, "kind", "(II)I"⟩
abbrev cX6_heap : ByteArray := prog_8_method_6_code
def yX6_heap : MethodName := ⟨RX6, "heap", "(II)I"⟩
abbrev cX6_stones : ByteArray := prog_8_method_7_code
def yX6_stones : MethodName := ⟨RX6, "stones", "(III)Z"⟩
abbrev cX6_wall : ByteArray := prog_8_method_8_code
def yX6_wall : MethodName := ⟨RX6, "wall", "(IIIIII)Z"⟩
abbrev cX6_through : ByteArray := prog_8_method_9_code
def yX6_through : MethodName := ⟨RX6, "through", "(II)Z"⟩
abbrev cX6_width : ByteArray := prog_8_method_10_code
def yX6_width : MethodName := ⟨RX6, "width", "(I)I"⟩
abbrev cX6_inHeaps : ByteArray := prog_8_method_11_code
def yX6_inHeaps : MethodName := ⟨RX6, "inHeaps", "(I)I"⟩
abbrev cX6_can : ByteArray := prog_8_method_12_code
def yX6_can : MethodName := ⟨RX6, "can", "(IIII)Z"⟩
abbrev cX6_isFull : ByteArray := prog_8_method_13_code
def yX6_isFull : MethodName := ⟨RX6, "isFull", "(II)Z"⟩
abbrev cX6_plan : ByteArray := prog_8_method_14_code
def yX6_plan : MethodName := ⟨RX6, "plan", "()I"⟩
abbrev cX6_hearting : ByteArray := prog_8_method_15_code
def yX6_hearting : MethodName := ⟨RX6, "hearting", "(I)I"⟩
abbrev cX6_fails : ByteArray := prog_8_method_16_code
def yX6_fails : MethodName := ⟨RX6, "fails", "(I)I"⟩
abbrev cX6_stone : ByteArray := prog_8_method_17_code
def yX6_stone : MethodName := ⟨RX6, "stone", "(II)I"⟩
abbrev cX6_over : ByteArray := prog_8_method_18_code
def yX6_over : MethodName := ⟨RX6, "over", "(II)I"⟩
abbrev cX6_size : ByteArray := prog_8_method_19_code
def yX6_size : MethodName := ⟨RX6, "size", "(I)I"⟩
abbrev cX6_toil : ByteArray := prog_8_method_20_code
def yX6_toil : MethodName := ⟨RX6, "toil", "(II)J"⟩
abbrev cX6_leastOf : ByteArray := prog_8_method_21_code
def yX6_leastOf : MethodName := ⟨RX6, "leastOf", "(III)J"⟩
abbrev cX6_add : ByteArray := prog_8_method_22_code
def yX6_add : MethodName := ⟨RX6, "add", "(II)J"⟩
abbrev cX6_leastAll : ByteArray := prog_8_method_23_code
def yX6_leastAll : MethodName := ⟨RX6, "leastAll", "()J"⟩
abbrev cX6_least : ByteArray := prog_8_method_24_code
def yX6_least : MethodName := ⟨RX6, "least", "()J"⟩
abbrev cX6_saved : ByteArray := prog_8_method_25_code
def yX6_saved : MethodName := ⟨RX6, "saved", "(II)J"⟩
abbrev cX6_build : ByteArray := prog_8_method_26_code
def yX6_build : MethodName := ⟨RX6, "build", "()J"⟩
abbrev cX6_beside : ByteArray := prog_8_method_27_code
def yX6_beside : MethodName := ⟨RX6, "beside", "(IZ)Z"⟩
abbrev cX6_lies : ByteArray := prog_8_method_28_code
def yX6_lies : MethodName := ⟨RX6, "lies", "(I)I"⟩
abbrev cX6_frost : ByteArray := prog_8_method_29_code
def yX6_frost : MethodName := ⟨RX6, "frost", "(I)I"⟩
abbrev cX6_mend : ByteArray := prog_8_method_30_code
def yX6_mend : MethodName := ⟨RX6, "mend", "()I"⟩
abbrev cX6_take : ByteArray := prog_8_method_31_code
def yX6_take : MethodName := ⟨RX6, "take", "(I)I"⟩
abbrev cX6_there : ByteArray := prog_8_method_32_code
def yX6_there : MethodName := ⟨RX6, "there", "(IZ)I"⟩
abbrev cX6_count : ByteArray := prog_8_method_33_code
def yX6_count : MethodName := ⟨RX6, "count", "(II)I"⟩
abbrev cX6_look : ByteArray := prog_8_method_34_code
def yX6_look : MethodName := ⟨RX6, "look", "(I)I"⟩
def RJ6 : String := "java/lang/Integer"
def TJ6 : u_T := fun k => match k with
  | _ => ("", "", "", false)
def tyJ6 : Nat → FieldType := fun k => match k with
  | _ => .int
abbrev wsJ60 : List Cond := u_ws RJ6 TJ6 0
theorem nmJ6 : ∀ a, a < 0 → ∀ b, b < 0 → a ≠ b → (TJ6 a).2.1 ≠ (TJ6 b).2.1 := by decide +kernel
theorem tyJ6_ok : ∀ k, k < 0 → parseFieldDescriptor (TJ6 k).2.2.1 = some (tyJ6 k) := by decide +kernel
abbrev cJ6_bitCount_0f7a4 : ByteArray := prog_11_method_49_code
def yJ6_bitCount_0f7a4 : MethodName := ⟨RJ6, "bitCount", "(I)I"⟩
def RJ9 : String := "java/lang/Math"
def TJ9 : u_T := fun k => match k with
  | _ => ("", "", "", false)
def tyJ9 : Nat → FieldType := fun k => match k with
  | _ => .int
abbrev wsJ90 : List Cond := u_ws RJ9 TJ9 0
theorem nmJ9 : ∀ a, a < 0 → ∀ b, b < 0 → a ≠ b → (TJ9 a).2.1 ≠ (TJ9 b).2.1 := by decide +kernel
theorem tyJ9_ok : ∀ k, k < 0 → parseFieldDescriptor (TJ9 k).2.2.1 = some (tyJ9 k) := by decide +kernel
abbrev cJ9_abs_0f7a4 : ByteArray := prog_12_method_59_code
def yJ9_abs_0f7a4 : MethodName := ⟨RJ9, "abs", "(I)I"⟩
abbrev cJ9_max_7cf53 : ByteArray := prog_12_method_65_code
def yJ9_max_7cf53 : MethodName := ⟨RJ9, "max", "(II)I"⟩
def RJ0 : String := "java/lang/String"
def TJ0 : u_T := fun k => match k with
  | _ => ("", "", "", false)
def tyJ0 : Nat → FieldType := fun k => match k with
  | _ => .int
abbrev wsJ00 : List Cond := u_ws RJ0 TJ0 0
theorem nmJ0 : ∀ a, a < 0 → ∀ b, b < 0 → a ≠ b → (TJ0 a).2.1 ≠ (TJ0 b).2.1 := by decide +kernel
theorem tyJ0_ok : ∀ k, k < 0 → parseFieldDescriptor (TJ0 k).2.2.1 = some (tyJ0 k) := by decide +kernel
def RJ10 : String := "java/lang/System"
def TJ10 : u_T := fun k => match k with
  | _ => ("", "", "", false)
def tyJ10 : Nat → FieldType := fun k => match k with
  | _ => .int
abbrev wsJ100 : List Cond := u_ws RJ10 TJ10 0
theorem nmJ10 : ∀ a, a < 0 → ∀ b, b < 0 → a ≠ b → (TJ10 a).2.1 ≠ (TJ10 b).2.1 := by decide +kernel
theorem tyJ10_ok : ∀ k, k < 0 → parseFieldDescriptor (TJ10 k).2.2.1 = some (tyJ10 k) := by decide +kernel
def RJ7 : String := "java/util/Arrays"
def TJ7 : u_T := fun k => match k with
  | _ => ("", "", "", false)
def tyJ7 : Nat → FieldType := fun k => match k with
  | _ => .int
abbrev wsJ70 : List Cond := u_ws RJ7 TJ7 0
theorem nmJ7 : ∀ a, a < 0 → ∀ b, b < 0 → a ≠ b → (TJ7 a).2.1 ≠ (TJ7 b).2.1 := by decide +kernel
theorem tyJ7_ok : ∀ k, k < 0 → parseFieldDescriptor (TJ7 k).2.2.1 = some (tyJ7 k) := by decide +kernel
abbrev cJ7_fill_53178 : ByteArray := prog_17_method_103_code
def yJ7_fill_53178 : MethodName := ⟨RJ7, "fill", "([II)V"⟩
def RL : String := "StoneWallLaw"
abbrev cL_stone : ByteArray := method_3_code
def yL_stone : MethodName := ⟨RL, "stone", "(LStoneWall;II[J)I"⟩
abbrev cL_law : ByteArray := code
def yL_law : MethodName := ⟨RL, "law", "([I)Z"⟩
def wsX0_init : List Cond := .code yX0_init cX0_init 4 none :: ([.methodLink RX0 3 objectInit, .instanceMethod objectInit, .code objectInit ⟨#[0xb1]⟩ 1 none, .classLink RX0 9 "[[I", .arrayClass .int, .fieldLink RX0 11 "StoneWall$Carrying" "had" "[[I", .fieldLink RX0 16 "StoneWall$Carrying" "room" "[I", .fieldLink RX0 20 "StoneWall$Carrying" "given" "[[I", .fieldLink RX0 23 "StoneWall$Carrying" "swapCost" "[[I", .fieldLink RX0 26 "StoneWall$Carrying" "swapPlace" "[[I", .fieldLink RX0 29 "StoneWall$Carrying" "chainCost" "[I", .fieldLink RX0 32 "StoneWall$Carrying" "chainFrom" "[I", .fieldLink RX0 35 "StoneWall$Carrying" "stock" "LStoneWall$Stock;", .fieldLink RX0 39 "StoneWall$Carrying" "shape" "LStoneWall$Shape;", .fieldLink RX0 43 "StoneWall$Carrying" "masonry" "LStoneWall$Masonry;"] ++ wsX00)
def wsX0_rememberHeaps : List Cond := .code yX0_rememberHeaps cX0_rememberHeaps 2 none :: ([.fieldLink RX0 35 "StoneWall$Carrying" "stock" "LStoneWall$Stock;", .fieldLink RX0 47 "StoneWall$Stock" "heaps" "I", .fieldLink RX0 53 "StoneWall$Stock" "amounts" "[[I", .fieldLink RX0 11 "StoneWall$Carrying" "had" "[[I", .methodLink RX0 56 arraycopyName, .native arraycopyName, .static arraycopyName, .initialized "java/lang/System"] ++ wsX00 ++ wsX40)
def wsX0_way : List Cond := .code yX0_way cX0_way 3 (some .int) :: ([.fieldLink RX0 35 "StoneWall$Carrying" "stock" "LStoneWall$Stock;", .fieldLink RX0 93 "StoneWall$Stock" "xs" "[I", .fieldLink RX0 39 "StoneWall$Carrying" "shape" "LStoneWall$Shape;", .fieldLink RX0 96 "StoneWall$Shape" "x" "I", .methodLink RX0 101 Lib.Math.abs.name, .static Lib.Math.abs.name, .initialized "java/lang/Math", .code Lib.Math.abs.name Lib.Math.abs.code 1 (some .int), .fieldLink RX0 107 "StoneWall$Stock" "ys" "[I", .fieldLink RX0 110 "StoneWall$Shape" "y" "I"] ++ wsX00 ++ wsX40 ++ wsX30)
def wsX0_nearestWith : List Cond := .code yX0_nearestWith cX0_nearestWith 6 (some .int) :: ([.fieldLink RX0 35 "StoneWall$Carrying" "stock" "LStoneWall$Stock;", .fieldLink RX0 47 "StoneWall$Stock" "heaps" "I", .fieldLink RX0 53 "StoneWall$Stock" "amounts" "[[I", .methodLink RX0 84 yX0_way, .instanceMethod yX0_way, .selects RX0 yX0_way yX0_way, .initialized RX0, .code yX0_way cX0_way 3 (some .int), .fieldLink RX0 93 "StoneWall$Stock" "xs" "[I", .fieldLink RX0 39 "StoneWall$Carrying" "shape" "LStoneWall$Shape;", .fieldLink RX0 96 "StoneWall$Shape" "x" "I", .methodLink RX0 101 Lib.Math.abs.name, .static Lib.Math.abs.name, .initialized "java/lang/Math", .code Lib.Math.abs.name Lib.Math.abs.code 1 (some .int), .fieldLink RX0 107 "StoneWall$Stock" "ys" "[I", .fieldLink RX0 110 "StoneWall$Shape" "y" "I"] ++ wsX00 ++ wsX40 ++ wsX30)
def wsX0_weight : List Cond := .code yX0_weight cX0_weight 2 (some .long) :: ([.fieldLink RX0 35 "StoneWall$Carrying" "stock" "LStoneWall$Stock;", .fieldLink RX0 87 "StoneWall$Stock" "lengths" "[I", .fieldLink RX0 90 "StoneWall$Stock" "depths" "[I"] ++ wsX00 ++ wsX40)
def wsX0_carryAll_r1 : List Cond := [Cond.fieldLink RX0 43 "StoneWall$Carrying" "masonry" "LStoneWall$Masonry;", Cond.fieldLink RX0 62 "StoneWall$Masonry" "size" "I", Cond.fieldLink RX0 67 "StoneWall$Masonry" "kinds" "[I", Cond.fieldLink RX0 70 "StoneWall$Masonry" "places" "[I", Cond.fieldLink RX0 77 "StoneWall$Masonry" "origins" "[I", Cond.fieldLink RX0 35 "StoneWall$Carrying" "stock" "LStoneWall$Stock;", Cond.fieldLink RX0 53 "StoneWall$Stock" "amounts" "[[I", Cond.methodLink RX0 73 yX0_nearestWith, Cond.instanceMethod yX0_nearestWith, Cond.selects RX0 yX0_nearestWith yX0_nearestWith, Cond.initialized RX0, Cond.code yX0_nearestWith cX0_nearestWith 6 (some .int), Cond.fieldLink RX0 47 "StoneWall$Stock" "heaps" "I", Cond.methodLink RX0 84 yX0_way, Cond.instanceMethod yX0_way, Cond.selects RX0 yX0_way yX0_way, Cond.code yX0_way cX0_way 3 (some .int), Cond.fieldLink RX0 93 "StoneWall$Stock" "xs" "[I", Cond.fieldLink RX0 39 "StoneWall$Carrying" "shape" "LStoneWall$Shape;", Cond.fieldLink RX0 96 "StoneWall$Shape" "x" "I", Cond.methodLink RX0 101 Lib.Math.abs.name, Cond.static Lib.Math.abs.name, Cond.initialized "java/lang/Math", Cond.code Lib.Math.abs.name Lib.Math.abs.code 1 (some .int)]
def wsX0_carryAll_r2 : List Cond := [Cond.fieldLink RX0 107 "StoneWall$Stock" "ys" "[I", Cond.fieldLink RX0 110 "StoneWall$Shape" "y" "I", Cond.methodLink RX0 80 yX0_weight, Cond.instanceMethod yX0_weight, Cond.selects RX0 yX0_weight yX0_weight, Cond.code yX0_weight cX0_weight 2 (some .long), Cond.fieldLink RX0 87 "StoneWall$Stock" "lengths" "[I", Cond.fieldLink RX0 90 "StoneWall$Stock" "depths" "[I"]
def wsX0_carryAll : List Cond := .code yX0_carryAll cX0_carryAll 6 (some .long) :: ((wsX0_carryAll_r1 ++ wsX0_carryAll_r2) ++ wsX00 ++ wsX10 ++ wsX40 ++ wsX30)
def wsJ7_fill_53178 : List Cond := .code yJ7_fill_53178 cJ7_fill_53178 4 none :: ([])
def wsX0_weighSwaps : List Cond := .code yX0_weighSwaps cX0_weighSwaps 6 none :: ([.fieldLink RX0 35 "StoneWall$Carrying" "stock" "LStoneWall$Stock;", .fieldLink RX0 47 "StoneWall$Stock" "heaps" "I", .fieldLink RX0 26 "StoneWall$Carrying" "swapPlace" "[[I", .fieldLink RX0 23 "StoneWall$Carrying" "swapCost" "[[I", .methodLink RX0 84 yX0_way, .instanceMethod yX0_way, .selects RX0 yX0_way yX0_way, .initialized RX0, .code yX0_way cX0_way 3 (some .int), .fieldLink RX0 93 "StoneWall$Stock" "xs" "[I", .fieldLink RX0 39 "StoneWall$Carrying" "shape" "LStoneWall$Shape;", .fieldLink RX0 96 "StoneWall$Shape" "x" "I", .methodLink RX0 101 Lib.Math.abs.name, .static Lib.Math.abs.name, .initialized "java/lang/Math", .code Lib.Math.abs.name Lib.Math.abs.code 1 (some .int), .fieldLink RX0 107 "StoneWall$Stock" "ys" "[I", .fieldLink RX0 110 "StoneWall$Shape" "y" "I"] ++ wsX00 ++ wsX40 ++ wsX30)
def wsX0_findSwaps_r1 : List Cond := [Cond.fieldLink RX0 35 "StoneWall$Carrying" "stock" "LStoneWall$Stock;", Cond.fieldLink RX0 47 "StoneWall$Stock" "heaps" "I", Cond.fieldLink RX0 26 "StoneWall$Carrying" "swapPlace" "[[I", Cond.fieldLink RX0 39 "StoneWall$Carrying" "shape" "LStoneWall$Shape;", Cond.fieldLink RX0 143 "StoneWall$Shape" "length" "I", Cond.fieldLink RX0 20 "StoneWall$Carrying" "given" "[[I", Cond.methodLink RX0 119 yJ7_fill_53178, Cond.static yJ7_fill_53178, Cond.initialized RJ7, Cond.code yJ7_fill_53178 cJ7_fill_53178 4 none, Cond.methodLink RX0 146 yX0_weighSwaps, Cond.instanceMethod yX0_weighSwaps, Cond.selects RX0 yX0_weighSwaps yX0_weighSwaps, Cond.initialized RX0, Cond.code yX0_weighSwaps cX0_weighSwaps 6 none, Cond.fieldLink RX0 23 "StoneWall$Carrying" "swapCost" "[[I", Cond.methodLink RX0 84 yX0_way, Cond.instanceMethod yX0_way, Cond.selects RX0 yX0_way yX0_way, Cond.code yX0_way cX0_way 3 (some .int), Cond.fieldLink RX0 93 "StoneWall$Stock" "xs" "[I", Cond.fieldLink RX0 96 "StoneWall$Shape" "x" "I", Cond.methodLink RX0 101 Lib.Math.abs.name, Cond.static Lib.Math.abs.name]
def wsX0_findSwaps_r2 : List Cond := [Cond.initialized "java/lang/Math", Cond.code Lib.Math.abs.name Lib.Math.abs.code 1 (some .int), Cond.fieldLink RX0 107 "StoneWall$Stock" "ys" "[I", Cond.fieldLink RX0 110 "StoneWall$Shape" "y" "I"]
def wsX0_findSwaps : List Cond := .code yX0_findSwaps cX0_findSwaps 3 none :: ((wsX0_findSwaps_r1 ++ wsX0_findSwaps_r2) ++ wsX00 ++ wsX40 ++ wsX30)
def wsX0_lengthenChains : List Cond := .code yX0_lengthenChains cX0_lengthenChains 4 none :: ([.fieldLink RX0 35 "StoneWall$Carrying" "stock" "LStoneWall$Stock;", .fieldLink RX0 47 "StoneWall$Stock" "heaps" "I", .fieldLink RX0 29 "StoneWall$Carrying" "chainCost" "[I", .fieldLink RX0 23 "StoneWall$Carrying" "swapCost" "[[I", .fieldLink RX0 26 "StoneWall$Carrying" "swapPlace" "[[I", .fieldLink RX0 32 "StoneWall$Carrying" "chainFrom" "[I"] ++ wsX00 ++ wsX40)
def wsX0_findChains : List Cond := .code yX0_findChains cX0_findChains 4 none :: ([.fieldLink RX0 35 "StoneWall$Carrying" "stock" "LStoneWall$Stock;", .fieldLink RX0 47 "StoneWall$Stock" "heaps" "I", .fieldLink RX0 29 "StoneWall$Carrying" "chainCost" "[I", .fieldLink RX0 32 "StoneWall$Carrying" "chainFrom" "[I", .methodLink RX0 84 yX0_way, .instanceMethod yX0_way, .selects RX0 yX0_way yX0_way, .initialized RX0, .code yX0_way cX0_way 3 (some .int), .fieldLink RX0 93 "StoneWall$Stock" "xs" "[I", .fieldLink RX0 39 "StoneWall$Carrying" "shape" "LStoneWall$Shape;", .fieldLink RX0 96 "StoneWall$Shape" "x" "I", .methodLink RX0 101 Lib.Math.abs.name, .static Lib.Math.abs.name, .initialized "java/lang/Math", .code Lib.Math.abs.name Lib.Math.abs.code 1 (some .int), .fieldLink RX0 107 "StoneWall$Stock" "ys" "[I", .fieldLink RX0 110 "StoneWall$Shape" "y" "I", .methodLink RX0 149 yX0_lengthenChains, .instanceMethod yX0_lengthenChains, .selects RX0 yX0_lengthenChains yX0_lengthenChains, .code yX0_lengthenChains cX0_lengthenChains 4 none, .fieldLink RX0 23 "StoneWall$Carrying" "swapCost" "[[I", .fieldLink RX0 26 "StoneWall$Carrying" "swapPlace" "[[I"] ++ wsX00 ++ wsX40 ++ wsX30)
def wsX0_cheapestGiver : List Cond := .code yX0_cheapestGiver cX0_cheapestGiver 3 (some .int) :: ([.fieldLink RX0 35 "StoneWall$Carrying" "stock" "LStoneWall$Stock;", .fieldLink RX0 47 "StoneWall$Stock" "heaps" "I", .fieldLink RX0 16 "StoneWall$Carrying" "room" "[I", .fieldLink RX0 29 "StoneWall$Carrying" "chainCost" "[I"] ++ wsX00 ++ wsX40)
def wsX0_followChain : List Cond := .code yX0_followChain cX0_followChain 7 none :: ([.fieldLink RX0 35 "StoneWall$Carrying" "stock" "LStoneWall$Stock;", .fieldLink RX0 47 "StoneWall$Stock" "heaps" "I", .fieldLink RX0 32 "StoneWall$Carrying" "chainFrom" "[I", .fieldLink RX0 26 "StoneWall$Carrying" "swapPlace" "[[I", .fieldLink RX0 20 "StoneWall$Carrying" "given" "[[I"] ++ wsX00 ++ wsX40)
def wsX0_supply_r1 : List Cond := [Cond.fieldLink RX0 16 "StoneWall$Carrying" "room" "[I", Cond.fieldLink RX0 29 "StoneWall$Carrying" "chainCost" "[I", Cond.methodLink RX0 128 yX0_findSwaps, Cond.instanceMethod yX0_findSwaps, Cond.selects RX0 yX0_findSwaps yX0_findSwaps, Cond.initialized RX0, Cond.code yX0_findSwaps cX0_findSwaps 3 none, Cond.fieldLink RX0 35 "StoneWall$Carrying" "stock" "LStoneWall$Stock;", Cond.fieldLink RX0 47 "StoneWall$Stock" "heaps" "I", Cond.fieldLink RX0 26 "StoneWall$Carrying" "swapPlace" "[[I", Cond.fieldLink RX0 39 "StoneWall$Carrying" "shape" "LStoneWall$Shape;", Cond.fieldLink RX0 143 "StoneWall$Shape" "length" "I", Cond.fieldLink RX0 20 "StoneWall$Carrying" "given" "[[I", Cond.methodLink RX0 119 yJ7_fill_53178, Cond.static yJ7_fill_53178, Cond.initialized RJ7, Cond.code yJ7_fill_53178 cJ7_fill_53178 4 none, Cond.methodLink RX0 146 yX0_weighSwaps, Cond.instanceMethod yX0_weighSwaps, Cond.selects RX0 yX0_weighSwaps yX0_weighSwaps, Cond.code yX0_weighSwaps cX0_weighSwaps 6 none, Cond.fieldLink RX0 23 "StoneWall$Carrying" "swapCost" "[[I", Cond.methodLink RX0 84 yX0_way, Cond.instanceMethod yX0_way]
def wsX0_supply_r2 : List Cond := [Cond.selects RX0 yX0_way yX0_way, Cond.code yX0_way cX0_way 3 (some .int), Cond.fieldLink RX0 93 "StoneWall$Stock" "xs" "[I", Cond.fieldLink RX0 96 "StoneWall$Shape" "x" "I", Cond.methodLink RX0 101 Lib.Math.abs.name, Cond.static Lib.Math.abs.name, Cond.initialized "java/lang/Math", Cond.code Lib.Math.abs.name Lib.Math.abs.code 1 (some .int), Cond.fieldLink RX0 107 "StoneWall$Stock" "ys" "[I", Cond.fieldLink RX0 110 "StoneWall$Shape" "y" "I", Cond.methodLink RX0 131 yX0_findChains, Cond.instanceMethod yX0_findChains, Cond.selects RX0 yX0_findChains yX0_findChains, Cond.code yX0_findChains cX0_findChains 4 none, Cond.fieldLink RX0 32 "StoneWall$Carrying" "chainFrom" "[I", Cond.methodLink RX0 149 yX0_lengthenChains, Cond.instanceMethod yX0_lengthenChains, Cond.selects RX0 yX0_lengthenChains yX0_lengthenChains, Cond.code yX0_lengthenChains cX0_lengthenChains 4 none, Cond.methodLink RX0 135 yX0_cheapestGiver, Cond.instanceMethod yX0_cheapestGiver, Cond.selects RX0 yX0_cheapestGiver yX0_cheapestGiver, Cond.code yX0_cheapestGiver cX0_cheapestGiver 3 (some .int), Cond.methodLink RX0 139 yX0_followChain]
def wsX0_supply_r3 : List Cond := [Cond.instanceMethod yX0_followChain, Cond.selects RX0 yX0_followChain yX0_followChain, Cond.code yX0_followChain cX0_followChain 7 none]
def wsX0_supply : List Cond := .code yX0_supply cX0_supply 3 (some .int) :: ((wsX0_supply_r1 ++ (wsX0_supply_r2 ++ wsX0_supply_r3)) ++ wsX00 ++ wsX40 ++ wsX30)
def wsX0_leastWays_r1 : List Cond := [Cond.fieldLink RX0 35 "StoneWall$Carrying" "stock" "LStoneWall$Stock;", Cond.fieldLink RX0 47 "StoneWall$Stock" "heaps" "I", Cond.fieldLink RX0 16 "StoneWall$Carrying" "room" "[I", Cond.fieldLink RX0 11 "StoneWall$Carrying" "had" "[[I", Cond.fieldLink RX0 20 "StoneWall$Carrying" "given" "[[I", Cond.fieldLink RX0 43 "StoneWall$Carrying" "masonry" "LStoneWall$Masonry;", Cond.fieldLink RX0 62 "StoneWall$Masonry" "size" "I", Cond.fieldLink RX0 67 "StoneWall$Masonry" "kinds" "[I", Cond.fieldLink RX0 70 "StoneWall$Masonry" "places" "[I", Cond.methodLink RX0 119 yJ7_fill_53178, Cond.static yJ7_fill_53178, Cond.initialized RJ7, Cond.code yJ7_fill_53178 cJ7_fill_53178 4 none, Cond.methodLink RX0 125 yX0_supply, Cond.instanceMethod yX0_supply, Cond.selects RX0 yX0_supply yX0_supply, Cond.initialized RX0, Cond.code yX0_supply cX0_supply 3 (some .int), Cond.fieldLink RX0 29 "StoneWall$Carrying" "chainCost" "[I", Cond.methodLink RX0 128 yX0_findSwaps, Cond.instanceMethod yX0_findSwaps, Cond.selects RX0 yX0_findSwaps yX0_findSwaps, Cond.code yX0_findSwaps cX0_findSwaps 3 none, Cond.fieldLink RX0 26 "StoneWall$Carrying" "swapPlace" "[[I"]
def wsX0_leastWays_r2 : List Cond := [Cond.fieldLink RX0 39 "StoneWall$Carrying" "shape" "LStoneWall$Shape;", Cond.fieldLink RX0 143 "StoneWall$Shape" "length" "I", Cond.methodLink RX0 146 yX0_weighSwaps, Cond.instanceMethod yX0_weighSwaps, Cond.selects RX0 yX0_weighSwaps yX0_weighSwaps, Cond.code yX0_weighSwaps cX0_weighSwaps 6 none, Cond.fieldLink RX0 23 "StoneWall$Carrying" "swapCost" "[[I", Cond.methodLink RX0 84 yX0_way, Cond.instanceMethod yX0_way, Cond.selects RX0 yX0_way yX0_way, Cond.code yX0_way cX0_way 3 (some .int), Cond.fieldLink RX0 93 "StoneWall$Stock" "xs" "[I", Cond.fieldLink RX0 96 "StoneWall$Shape" "x" "I", Cond.methodLink RX0 101 Lib.Math.abs.name, Cond.static Lib.Math.abs.name, Cond.initialized "java/lang/Math", Cond.code Lib.Math.abs.name Lib.Math.abs.code 1 (some .int), Cond.fieldLink RX0 107 "StoneWall$Stock" "ys" "[I", Cond.fieldLink RX0 110 "StoneWall$Shape" "y" "I", Cond.methodLink RX0 131 yX0_findChains, Cond.instanceMethod yX0_findChains, Cond.selects RX0 yX0_findChains yX0_findChains, Cond.code yX0_findChains cX0_findChains 4 none, Cond.fieldLink RX0 32 "StoneWall$Carrying" "chainFrom" "[I"]
def wsX0_leastWays_r3 : List Cond := [Cond.methodLink RX0 149 yX0_lengthenChains, Cond.instanceMethod yX0_lengthenChains, Cond.selects RX0 yX0_lengthenChains yX0_lengthenChains, Cond.code yX0_lengthenChains cX0_lengthenChains 4 none, Cond.methodLink RX0 135 yX0_cheapestGiver, Cond.instanceMethod yX0_cheapestGiver, Cond.selects RX0 yX0_cheapestGiver yX0_cheapestGiver, Cond.code yX0_cheapestGiver cX0_cheapestGiver 3 (some .int), Cond.methodLink RX0 139 yX0_followChain, Cond.instanceMethod yX0_followChain, Cond.selects RX0 yX0_followChain yX0_followChain, Cond.code yX0_followChain cX0_followChain 7 none]
def wsX0_leastWays : List Cond := .code yX0_leastWays cX0_leastWays 6 (some .long) :: ((wsX0_leastWays_r1 ++ (wsX0_leastWays_r2 ++ wsX0_leastWays_r3)) ++ wsX00 ++ wsX40 ++ wsX10 ++ wsX30)
def wsX0_leastToil_r1 : List Cond := [Cond.fieldLink RX0 35 "StoneWall$Carrying" "stock" "LStoneWall$Stock;", Cond.fieldLink RX0 113 "StoneWall$Stock" "kinds" "I", Cond.methodLink RX0 80 yX0_weight, Cond.instanceMethod yX0_weight, Cond.selects RX0 yX0_weight yX0_weight, Cond.initialized RX0, Cond.code yX0_weight cX0_weight 2 (some .long), Cond.fieldLink RX0 87 "StoneWall$Stock" "lengths" "[I", Cond.fieldLink RX0 90 "StoneWall$Stock" "depths" "[I", Cond.methodLink RX0 115 yX0_leastWays, Cond.instanceMethod yX0_leastWays, Cond.selects RX0 yX0_leastWays yX0_leastWays, Cond.code yX0_leastWays cX0_leastWays 6 (some .long), Cond.fieldLink RX0 47 "StoneWall$Stock" "heaps" "I", Cond.fieldLink RX0 16 "StoneWall$Carrying" "room" "[I", Cond.fieldLink RX0 11 "StoneWall$Carrying" "had" "[[I", Cond.fieldLink RX0 20 "StoneWall$Carrying" "given" "[[I", Cond.fieldLink RX0 43 "StoneWall$Carrying" "masonry" "LStoneWall$Masonry;", Cond.fieldLink RX0 62 "StoneWall$Masonry" "size" "I", Cond.fieldLink RX0 67 "StoneWall$Masonry" "kinds" "[I", Cond.fieldLink RX0 70 "StoneWall$Masonry" "places" "[I", Cond.methodLink RX0 119 yJ7_fill_53178, Cond.static yJ7_fill_53178, Cond.initialized RJ7]
def wsX0_leastToil_r2 : List Cond := [Cond.code yJ7_fill_53178 cJ7_fill_53178 4 none, Cond.methodLink RX0 125 yX0_supply, Cond.instanceMethod yX0_supply, Cond.selects RX0 yX0_supply yX0_supply, Cond.code yX0_supply cX0_supply 3 (some .int), Cond.fieldLink RX0 29 "StoneWall$Carrying" "chainCost" "[I", Cond.methodLink RX0 128 yX0_findSwaps, Cond.instanceMethod yX0_findSwaps, Cond.selects RX0 yX0_findSwaps yX0_findSwaps, Cond.code yX0_findSwaps cX0_findSwaps 3 none, Cond.fieldLink RX0 26 "StoneWall$Carrying" "swapPlace" "[[I", Cond.fieldLink RX0 39 "StoneWall$Carrying" "shape" "LStoneWall$Shape;", Cond.fieldLink RX0 143 "StoneWall$Shape" "length" "I", Cond.methodLink RX0 146 yX0_weighSwaps, Cond.instanceMethod yX0_weighSwaps, Cond.selects RX0 yX0_weighSwaps yX0_weighSwaps, Cond.code yX0_weighSwaps cX0_weighSwaps 6 none, Cond.fieldLink RX0 23 "StoneWall$Carrying" "swapCost" "[[I", Cond.methodLink RX0 84 yX0_way, Cond.instanceMethod yX0_way, Cond.selects RX0 yX0_way yX0_way, Cond.code yX0_way cX0_way 3 (some .int), Cond.fieldLink RX0 93 "StoneWall$Stock" "xs" "[I", Cond.fieldLink RX0 96 "StoneWall$Shape" "x" "I"]
def wsX0_leastToil_r3 : List Cond := [Cond.methodLink RX0 101 Lib.Math.abs.name, Cond.static Lib.Math.abs.name, Cond.initialized "java/lang/Math", Cond.code Lib.Math.abs.name Lib.Math.abs.code 1 (some .int), Cond.fieldLink RX0 107 "StoneWall$Stock" "ys" "[I", Cond.fieldLink RX0 110 "StoneWall$Shape" "y" "I", Cond.methodLink RX0 131 yX0_findChains, Cond.instanceMethod yX0_findChains, Cond.selects RX0 yX0_findChains yX0_findChains, Cond.code yX0_findChains cX0_findChains 4 none, Cond.fieldLink RX0 32 "StoneWall$Carrying" "chainFrom" "[I", Cond.methodLink RX0 149 yX0_lengthenChains, Cond.instanceMethod yX0_lengthenChains, Cond.selects RX0 yX0_lengthenChains yX0_lengthenChains, Cond.code yX0_lengthenChains cX0_lengthenChains 4 none, Cond.methodLink RX0 135 yX0_cheapestGiver, Cond.instanceMethod yX0_cheapestGiver, Cond.selects RX0 yX0_cheapestGiver yX0_cheapestGiver, Cond.code yX0_cheapestGiver cX0_cheapestGiver 3 (some .int), Cond.methodLink RX0 139 yX0_followChain, Cond.instanceMethod yX0_followChain, Cond.selects RX0 yX0_followChain yX0_followChain, Cond.code yX0_followChain cX0_followChain 7 none]
def wsX0_leastToil : List Cond := .code yX0_leastToil cX0_leastToil 4 (some .long) :: ((wsX0_leastToil_r1 ++ (wsX0_leastToil_r2 ++ wsX0_leastToil_r3)) ++ wsX00 ++ wsX40 ++ wsX10 ++ wsX30)
def wsX0_toilSaved_r1 : List Cond := [Cond.methodLink RX0 80 yX0_weight, Cond.instanceMethod yX0_weight, Cond.selects RX0 yX0_weight yX0_weight, Cond.initialized RX0, Cond.code yX0_weight cX0_weight 2 (some .long), Cond.fieldLink RX0 35 "StoneWall$Carrying" "stock" "LStoneWall$Stock;", Cond.fieldLink RX0 87 "StoneWall$Stock" "lengths" "[I", Cond.fieldLink RX0 90 "StoneWall$Stock" "depths" "[I", Cond.methodLink RX0 115 yX0_leastWays, Cond.instanceMethod yX0_leastWays, Cond.selects RX0 yX0_leastWays yX0_leastWays, Cond.code yX0_leastWays cX0_leastWays 6 (some .long), Cond.fieldLink RX0 47 "StoneWall$Stock" "heaps" "I", Cond.fieldLink RX0 16 "StoneWall$Carrying" "room" "[I", Cond.fieldLink RX0 11 "StoneWall$Carrying" "had" "[[I", Cond.fieldLink RX0 20 "StoneWall$Carrying" "given" "[[I", Cond.fieldLink RX0 43 "StoneWall$Carrying" "masonry" "LStoneWall$Masonry;", Cond.fieldLink RX0 62 "StoneWall$Masonry" "size" "I", Cond.fieldLink RX0 67 "StoneWall$Masonry" "kinds" "[I", Cond.fieldLink RX0 70 "StoneWall$Masonry" "places" "[I", Cond.methodLink RX0 119 yJ7_fill_53178, Cond.static yJ7_fill_53178, Cond.initialized RJ7, Cond.code yJ7_fill_53178 cJ7_fill_53178 4 none]
def wsX0_toilSaved_r2 : List Cond := [Cond.methodLink RX0 125 yX0_supply, Cond.instanceMethod yX0_supply, Cond.selects RX0 yX0_supply yX0_supply, Cond.code yX0_supply cX0_supply 3 (some .int), Cond.fieldLink RX0 29 "StoneWall$Carrying" "chainCost" "[I", Cond.methodLink RX0 128 yX0_findSwaps, Cond.instanceMethod yX0_findSwaps, Cond.selects RX0 yX0_findSwaps yX0_findSwaps, Cond.code yX0_findSwaps cX0_findSwaps 3 none, Cond.fieldLink RX0 26 "StoneWall$Carrying" "swapPlace" "[[I", Cond.fieldLink RX0 39 "StoneWall$Carrying" "shape" "LStoneWall$Shape;", Cond.fieldLink RX0 143 "StoneWall$Shape" "length" "I", Cond.methodLink RX0 146 yX0_weighSwaps, Cond.instanceMethod yX0_weighSwaps, Cond.selects RX0 yX0_weighSwaps yX0_weighSwaps, Cond.code yX0_weighSwaps cX0_weighSwaps 6 none, Cond.fieldLink RX0 23 "StoneWall$Carrying" "swapCost" "[[I", Cond.methodLink RX0 84 yX0_way, Cond.instanceMethod yX0_way, Cond.selects RX0 yX0_way yX0_way, Cond.code yX0_way cX0_way 3 (some .int), Cond.fieldLink RX0 93 "StoneWall$Stock" "xs" "[I", Cond.fieldLink RX0 96 "StoneWall$Shape" "x" "I", Cond.methodLink RX0 101 Lib.Math.abs.name]
def wsX0_toilSaved_r3 : List Cond := [Cond.static Lib.Math.abs.name, Cond.initialized "java/lang/Math", Cond.code Lib.Math.abs.name Lib.Math.abs.code 1 (some .int), Cond.fieldLink RX0 107 "StoneWall$Stock" "ys" "[I", Cond.fieldLink RX0 110 "StoneWall$Shape" "y" "I", Cond.methodLink RX0 131 yX0_findChains, Cond.instanceMethod yX0_findChains, Cond.selects RX0 yX0_findChains yX0_findChains, Cond.code yX0_findChains cX0_findChains 4 none, Cond.fieldLink RX0 32 "StoneWall$Carrying" "chainFrom" "[I", Cond.methodLink RX0 149 yX0_lengthenChains, Cond.instanceMethod yX0_lengthenChains, Cond.selects RX0 yX0_lengthenChains yX0_lengthenChains, Cond.code yX0_lengthenChains cX0_lengthenChains 4 none, Cond.methodLink RX0 135 yX0_cheapestGiver, Cond.instanceMethod yX0_cheapestGiver, Cond.selects RX0 yX0_cheapestGiver yX0_cheapestGiver, Cond.code yX0_cheapestGiver cX0_cheapestGiver 3 (some .int), Cond.methodLink RX0 139 yX0_followChain, Cond.instanceMethod yX0_followChain, Cond.selects RX0 yX0_followChain yX0_followChain, Cond.code yX0_followChain cX0_followChain 7 none]
def wsX0_toilSaved : List Cond := .code yX0_toilSaved cX0_toilSaved 3 (some .long) :: ((wsX0_toilSaved_r1 ++ (wsX0_toilSaved_r2 ++ wsX0_toilSaved_r3)) ++ wsX00 ++ wsX40 ++ wsX10 ++ wsX30)
def wsX1_init : List Cond := .code yX1_init cX1_init 3 none :: ([.methodLink RX1 3 objectInit, .instanceMethod objectInit, .code objectInit ⟨#[0xb1]⟩ 1 none, .arrayClass .int, .fieldLink RX1 9 "StoneWall$Masonry" "kinds" "[I", .fieldLink RX1 15 "StoneWall$Masonry" "courses" "[I", .fieldLink RX1 18 "StoneWall$Masonry" "places" "[I", .fieldLink RX1 21 "StoneWall$Masonry" "holds" "[I", .fieldLink RX1 24 "StoneWall$Masonry" "origins" "[I", .arrayClass .boolean, .fieldLink RX1 27 "StoneWall$Masonry" "stands" "[Z", .fieldLink RX1 31 "StoneWall$Masonry" "standingPlaces" "[I", .fieldLink RX1 34 "StoneWall$Masonry" "stock" "LStoneWall$Stock;", .fieldLink RX1 38 "StoneWall$Masonry" "shape" "LStoneWall$Shape;"] ++ wsX10)
def wsX1_forget : List Cond := .code yX1_forget cX1_forget 1 none :: ([.fieldLink RX1 42 "StoneWall$Masonry" "size" "I", .fieldLink RX1 46 "StoneWall$Masonry" "built" "Z", .fieldLink RX1 50 "StoneWall$Masonry" "frosts" "I"] ++ wsX10)
def wsX1_add : List Cond := .code yX1_add cX1_add 4 none :: ([.fieldLink RX1 42 "StoneWall$Masonry" "size" "I", .fieldLink RX1 9 "StoneWall$Masonry" "kinds" "[I", .fieldLink RX1 15 "StoneWall$Masonry" "courses" "[I", .fieldLink RX1 18 "StoneWall$Masonry" "places" "[I"] ++ wsX10)
def wsX1_end : List Cond := .code yX1_end cX1_end 2 (some .int) :: ([.fieldLink RX1 18 "StoneWall$Masonry" "places" "[I", .fieldLink RX1 34 "StoneWall$Masonry" "stock" "LStoneWall$Stock;", .fieldLink RX1 53 "StoneWall$Stock" "lengths" "[I", .fieldLink RX1 9 "StoneWall$Masonry" "kinds" "[I"] ++ wsX10 ++ wsX40)
def wsX3_width : List Cond := .code yX3_width cX3_width 2 (some .int) :: ([.fieldLink RX3 26 "StoneWall$Shape" "depth" "I", .fieldLink RX3 29 "StoneWall$Shape" "batter" "I", .methodLink RX3 38 Lib.Math.max.name, .static Lib.Math.max.name, .initialized "java/lang/Math", .code Lib.Math.max.name Lib.Math.max.code 2 (some .int)] ++ wsX30)
def wsX1_hearting : List Cond := .code yX1_hearting cX1_hearting 3 (some .int) :: ([.fieldLink RX1 9 "StoneWall$Masonry" "kinds" "[I", .fieldLink RX1 34 "StoneWall$Masonry" "stock" "LStoneWall$Stock;", .fieldLink RX1 53 "StoneWall$Stock" "lengths" "[I", .fieldLink RX1 38 "StoneWall$Masonry" "shape" "LStoneWall$Shape;", .fieldLink RX1 15 "StoneWall$Masonry" "courses" "[I", .fieldLink RX1 64 "StoneWall$Stock" "depths" "[I", .methodLink RX1 67 Lib.Math.max.name, .static Lib.Math.max.name, .initialized "java/lang/Math", .code Lib.Math.max.name Lib.Math.max.code 2 (some .int), .methodLink RX1 58 yX3_width, .instanceMethod yX3_width, .selects RX3 yX3_width yX3_width, .initialized RX3, .code yX3_width cX3_width 2 (some .int), .fieldLink RX3 26 "StoneWall$Shape" "depth" "I", .fieldLink RX3 29 "StoneWall$Shape" "batter" "I", .methodLink RX3 38 Lib.Math.max.name] ++ wsX10 ++ wsX40 ++ wsX30)
def wsX1_heartingInAll : List Cond := .code yX1_heartingInAll cX1_heartingInAll 3 (some .int) :: ([.fieldLink RX1 42 "StoneWall$Masonry" "size" "I", .methodLink RX1 73 yX1_hearting, .instanceMethod yX1_hearting, .selects RX1 yX1_hearting yX1_hearting, .initialized RX1, .code yX1_hearting cX1_hearting 3 (some .int), .fieldLink RX1 9 "StoneWall$Masonry" "kinds" "[I", .fieldLink RX1 34 "StoneWall$Masonry" "stock" "LStoneWall$Stock;", .fieldLink RX1 53 "StoneWall$Stock" "lengths" "[I", .fieldLink RX1 38 "StoneWall$Masonry" "shape" "LStoneWall$Shape;", .fieldLink RX1 15 "StoneWall$Masonry" "courses" "[I", .fieldLink RX1 64 "StoneWall$Stock" "depths" "[I", .methodLink RX1 67 Lib.Math.max.name, .static Lib.Math.max.name, .initialized "java/lang/Math", .code Lib.Math.max.name Lib.Math.max.code 2 (some .int), .methodLink RX1 58 yX3_width, .instanceMethod yX3_width, .selects RX3 yX3_width yX3_width, .initialized RX3, .code yX3_width cX3_width 2 (some .int), .fieldLink RX3 26 "StoneWall$Shape" "depth" "I", .fieldLink RX3 29 "StoneWall$Shape" "batter" "I", .methodLink RX3 38 Lib.Math.max.name] ++ wsX10 ++ wsX40 ++ wsX30)
def wsX1_isThroughStone : List Cond := .code yX1_isThroughStone cX1_isThroughStone 2 (some .boolean) :: ([.fieldLink RX1 34 "StoneWall$Masonry" "stock" "LStoneWall$Stock;", .fieldLink RX1 64 "StoneWall$Stock" "depths" "[I", .fieldLink RX1 9 "StoneWall$Masonry" "kinds" "[I", .fieldLink RX1 38 "StoneWall$Masonry" "shape" "LStoneWall$Shape;", .fieldLink RX1 15 "StoneWall$Masonry" "courses" "[I", .methodLink RX1 58 yX3_width, .instanceMethod yX3_width, .selects RX3 yX3_width yX3_width, .initialized RX3, .code yX3_width cX3_width 2 (some .int), .fieldLink RX3 26 "StoneWall$Shape" "depth" "I", .fieldLink RX3 29 "StoneWall$Shape" "batter" "I", .methodLink RX3 38 Lib.Math.max.name, .static Lib.Math.max.name, .initialized "java/lang/Math", .code Lib.Math.max.name Lib.Math.max.code 2 (some .int)] ++ wsX10 ++ wsX40 ++ wsX30)
def wsX1_isStanding : List Cond := .code yX1_isStanding cX1_isStanding 2 (some .boolean) :: ([.fieldLink RX1 46 "StoneWall$Masonry" "built" "Z", .fieldLink RX1 27 "StoneWall$Masonry" "stands" "[Z"] ++ wsX10)
def wsX1_number : List Cond := .code yX1_number cX1_number 4 (some .int) :: ([.fieldLink RX1 42 "StoneWall$Masonry" "size" "I", .fieldLink RX1 9 "StoneWall$Masonry" "kinds" "[I"] ++ wsX10)
def wsX1_numberStanding : List Cond := .code yX1_numberStanding cX1_numberStanding 4 (some .int) :: ([.fieldLink RX1 42 "StoneWall$Masonry" "size" "I", .fieldLink RX1 9 "StoneWall$Masonry" "kinds" "[I", .methodLink RX1 76 yX1_isStanding, .instanceMethod yX1_isStanding, .selects RX1 yX1_isStanding yX1_isStanding, .initialized RX1, .code yX1_isStanding cX1_isStanding 2 (some .boolean), .fieldLink RX1 46 "StoneWall$Masonry" "built" "Z", .fieldLink RX1 27 "StoneWall$Masonry" "stands" "[Z"] ++ wsX10)
def wsX1_numberAtFoot : List Cond := .code yX1_numberAtFoot cX1_numberAtFoot 2 (some .int) :: ([.fieldLink RX1 46 "StoneWall$Masonry" "built" "Z", .methodLink RX1 80 yX1_number, .instanceMethod yX1_number, .selects RX1 yX1_number yX1_number, .initialized RX1, .code yX1_number cX1_number 4 (some .int), .fieldLink RX1 42 "StoneWall$Masonry" "size" "I", .fieldLink RX1 9 "StoneWall$Masonry" "kinds" "[I", .methodLink RX1 83 yX1_numberStanding, .instanceMethod yX1_numberStanding, .selects RX1 yX1_numberStanding yX1_numberStanding, .code yX1_numberStanding cX1_numberStanding 4 (some .int), .methodLink RX1 76 yX1_isStanding, .instanceMethod yX1_isStanding, .selects RX1 yX1_isStanding yX1_isStanding, .code yX1_isStanding cX1_isStanding 2 (some .boolean), .fieldLink RX1 27 "StoneWall$Masonry" "stands" "[Z"] ++ wsX10)
def wsX1_allAtFoot : List Cond := .code yX1_allAtFoot cX1_allAtFoot 3 (some .int) :: ([.fieldLink RX1 34 "StoneWall$Masonry" "stock" "LStoneWall$Stock;", .fieldLink RX1 86 "StoneWall$Stock" "kinds" "I", .methodLink RX1 88 yX1_numberAtFoot, .instanceMethod yX1_numberAtFoot, .selects RX1 yX1_numberAtFoot yX1_numberAtFoot, .initialized RX1, .code yX1_numberAtFoot cX1_numberAtFoot 2 (some .int), .fieldLink RX1 46 "StoneWall$Masonry" "built" "Z", .methodLink RX1 80 yX1_number, .instanceMethod yX1_number, .selects RX1 yX1_number yX1_number, .code yX1_number cX1_number 4 (some .int), .fieldLink RX1 42 "StoneWall$Masonry" "size" "I", .fieldLink RX1 9 "StoneWall$Masonry" "kinds" "[I", .methodLink RX1 83 yX1_numberStanding, .instanceMethod yX1_numberStanding, .selects RX1 yX1_numberStanding yX1_numberStanding, .code yX1_numberStanding cX1_numberStanding 4 (some .int), .methodLink RX1 76 yX1_isStanding, .instanceMethod yX1_isStanding, .selects RX1 yX1_isStanding yX1_isStanding, .code yX1_isStanding cX1_isStanding 2 (some .boolean), .fieldLink RX1 27 "StoneWall$Masonry" "stands" "[Z"] ++ wsX10 ++ wsX40)
def wsX1_layAnew : List Cond := .code yX1_layAnew cX1_layAnew 3 (some .int) :: ([.fieldLink RX1 42 "StoneWall$Masonry" "size" "I", .fieldLink RX1 27 "StoneWall$Masonry" "stands" "[Z", .fieldLink RX1 21 "StoneWall$Masonry" "holds" "[I"] ++ wsX10)
def wsX1_raise : List Cond := .code yX1_raise cX1_raise 2 none :: ([.fieldLink RX1 46 "StoneWall$Masonry" "built" "Z", .fieldLink RX1 42 "StoneWall$Masonry" "size" "I", .fieldLink RX1 27 "StoneWall$Masonry" "stands" "[Z", .methodLink RX1 91 yX1_layAnew, .instanceMethod yX1_layAnew, .selects RX1 yX1_layAnew yX1_layAnew, .initialized RX1, .code yX1_layAnew cX1_layAnew 3 (some .int), .fieldLink RX1 21 "StoneWall$Masonry" "holds" "[I"] ++ wsX10)
def wsX1_standsBeside : List Cond := .code yX1_standsBeside cX1_standsBeside 3 (some .boolean) :: ([.fieldLink RX1 42 "StoneWall$Masonry" "size" "I", .fieldLink RX1 15 "StoneWall$Masonry" "courses" "[I", .fieldLink RX1 27 "StoneWall$Masonry" "stands" "[Z"] ++ wsX10)
def wsX1_loosen : List Cond := .code yX1_loosen cX1_loosen 4 none :: ([.fieldLink RX1 42 "StoneWall$Masonry" "size" "I", .fieldLink RX1 27 "StoneWall$Masonry" "stands" "[Z", .fieldLink RX1 21 "StoneWall$Masonry" "holds" "[I", .methodLink RX1 67 Lib.Math.max.name, .static Lib.Math.max.name, .initialized "java/lang/Math", .code Lib.Math.max.name Lib.Math.max.code 2 (some .int), .methodLink RX1 95 yX1_standsBeside, .instanceMethod yX1_standsBeside, .selects RX1 yX1_standsBeside yX1_standsBeside, .initialized RX1, .code yX1_standsBeside cX1_standsBeside 3 (some .boolean), .fieldLink RX1 15 "StoneWall$Masonry" "courses" "[I"] ++ wsX10)
def wsX1_placesOf : List Cond := .code yX1_placesOf cX1_placesOf 2 (some .int) :: ([.fieldLink RX1 18 "StoneWall$Masonry" "places" "[I", .methodLink RX1 116 yX1_end, .instanceMethod yX1_end, .selects RX1 yX1_end yX1_end, .initialized RX1, .code yX1_end cX1_end 2 (some .int), .fieldLink RX1 34 "StoneWall$Masonry" "stock" "LStoneWall$Stock;", .fieldLink RX1 53 "StoneWall$Stock" "lengths" "[I", .fieldLink RX1 9 "StoneWall$Masonry" "kinds" "[I"] ++ wsX10 ++ wsX40)
def wsJ6_bitCount_0f7a4 : List Cond := .code yJ6_bitCount_0f7a4 cJ6_bitCount_0f7a4 1 (some .int) :: ([.constant RJ6 265 (1431655765), .constant RJ6 266 (858993459), .constant RJ6 267 (252645135)])
def wsX1_isBorne : List Cond := .code yX1_isBorne cX1_isBorne 3 (some .boolean) :: ([.fieldLink RX1 15 "StoneWall$Masonry" "courses" "[I", .fieldLink RX1 31 "StoneWall$Masonry" "standingPlaces" "[I", .fieldLink RX1 18 "StoneWall$Masonry" "places" "[I", .methodLink RX1 108 yX1_placesOf, .instanceMethod yX1_placesOf, .selects RX1 yX1_placesOf yX1_placesOf, .initialized RX1, .code yX1_placesOf cX1_placesOf 2 (some .int), .methodLink RX1 116 yX1_end, .instanceMethod yX1_end, .selects RX1 yX1_end yX1_end, .code yX1_end cX1_end 2 (some .int), .fieldLink RX1 34 "StoneWall$Masonry" "stock" "LStoneWall$Stock;", .fieldLink RX1 53 "StoneWall$Stock" "lengths" "[I", .fieldLink RX1 9 "StoneWall$Masonry" "kinds" "[I", .methodLink RX1 111 yJ6_bitCount_0f7a4, .static yJ6_bitCount_0f7a4, .initialized RJ6, .code yJ6_bitCount_0f7a4 cJ6_bitCount_0f7a4 1 (some .int), .constant RJ6 265 (1431655765), .constant RJ6 266 (858993459), .constant RJ6 267 (252645135)] ++ wsX10 ++ wsX40)
def wsX1_letSlip_r1 : List Cond := [Cond.fieldLink RX1 31 "StoneWall$Masonry" "standingPlaces" "[I", Cond.fieldLink RX1 42 "StoneWall$Masonry" "size" "I", Cond.fieldLink RX1 27 "StoneWall$Masonry" "stands" "[Z", Cond.fieldLink RX1 21 "StoneWall$Masonry" "holds" "[I", Cond.fieldLink RX1 15 "StoneWall$Masonry" "courses" "[I", Cond.methodLink RX1 99 yJ7_fill_53178, Cond.static yJ7_fill_53178, Cond.initialized RJ7, Cond.code yJ7_fill_53178 cJ7_fill_53178 4 none, Cond.methodLink RX1 105 yX1_isBorne, Cond.instanceMethod yX1_isBorne, Cond.selects RX1 yX1_isBorne yX1_isBorne, Cond.initialized RX1, Cond.code yX1_isBorne cX1_isBorne 3 (some .boolean), Cond.fieldLink RX1 18 "StoneWall$Masonry" "places" "[I", Cond.methodLink RX1 108 yX1_placesOf, Cond.instanceMethod yX1_placesOf, Cond.selects RX1 yX1_placesOf yX1_placesOf, Cond.code yX1_placesOf cX1_placesOf 2 (some .int), Cond.methodLink RX1 116 yX1_end, Cond.instanceMethod yX1_end, Cond.selects RX1 yX1_end yX1_end, Cond.code yX1_end cX1_end 2 (some .int), Cond.fieldLink RX1 34 "StoneWall$Masonry" "stock" "LStoneWall$Stock;"]
def wsX1_letSlip_r2 : List Cond := [Cond.fieldLink RX1 53 "StoneWall$Stock" "lengths" "[I", Cond.fieldLink RX1 9 "StoneWall$Masonry" "kinds" "[I", Cond.methodLink RX1 111 yJ6_bitCount_0f7a4, Cond.static yJ6_bitCount_0f7a4, Cond.initialized RJ6, Cond.code yJ6_bitCount_0f7a4 cJ6_bitCount_0f7a4 1 (some .int), Cond.constant RJ6 265 (1431655765), Cond.constant RJ6 266 (858993459), Cond.constant RJ6 267 (252645135)]
def wsX1_letSlip : List Cond := .code yX1_letSlip cX1_letSlip 3 (some .int) :: ((wsX1_letSlip_r1 ++ wsX1_letSlip_r2) ++ wsX10 ++ wsX40)
def wsX2_init : List Cond := .code yX2_init cX2_init 4 none :: ([.methodLink RX2 3 objectInit, .instanceMethod objectInit, .code objectInit ⟨#[0xb1]⟩ 1 none, .arrayClass .int, .fieldLink RX2 9 "StoneWall$Search" "left" "[I", .fieldLink RX2 15 "StoneWall$Search" "joints" "[I", .fieldLink RX2 18 "StoneWall$Search" "stock" "LStoneWall$Stock;", .fieldLink RX2 22 "StoneWall$Search" "shape" "LStoneWall$Shape;", .fieldLink RX2 26 "StoneWall$Search" "masonry" "LStoneWall$Masonry;"] ++ wsX20)
def wsX4_inHeaps : List Cond := .code yX4_inHeaps cX4_inHeaps 4 (some .int) :: ([.fieldLink RX4 33 "StoneWall$Stock" "heaps" "I", .fieldLink RX4 26 "StoneWall$Stock" "amounts" "[[I"] ++ wsX40)
def wsX2_begin_r1 : List Cond := [Cond.fieldLink RX2 26 "StoneWall$Search" "masonry" "LStoneWall$Masonry;", Cond.fieldLink RX2 48 "StoneWall$Search" "looks" "I", Cond.fieldLink RX2 67 "StoneWall$Search" "course" "I", Cond.fieldLink RX2 55 "StoneWall$Search" "place" "I", Cond.fieldLink RX2 15 "StoneWall$Search" "joints" "[I", Cond.fieldLink RX2 18 "StoneWall$Search" "stock" "LStoneWall$Stock;", Cond.fieldLink RX2 82 "StoneWall$Stock" "kinds" "I", Cond.fieldLink RX2 9 "StoneWall$Search" "left" "[I", Cond.methodLink RX2 73 yX1_forget, Cond.instanceMethod yX1_forget, Cond.selects RX1 yX1_forget yX1_forget, Cond.initialized RX1, Cond.code yX1_forget cX1_forget 1 none, Cond.fieldLink RX1 42 "StoneWall$Masonry" "size" "I", Cond.fieldLink RX1 46 "StoneWall$Masonry" "built" "Z", Cond.fieldLink RX1 50 "StoneWall$Masonry" "frosts" "I", Cond.methodLink RX2 76 yJ7_fill_53178, Cond.static yJ7_fill_53178, Cond.initialized RJ7, Cond.code yJ7_fill_53178 cJ7_fill_53178 4 none, Cond.methodLink RX2 87 yX4_inHeaps, Cond.instanceMethod yX4_inHeaps, Cond.selects RX4 yX4_inHeaps yX4_inHeaps, Cond.initialized RX4]
def wsX2_begin_r2 : List Cond := [Cond.code yX4_inHeaps cX4_inHeaps 4 (some .int), Cond.fieldLink RX4 33 "StoneWall$Stock" "heaps" "I", Cond.fieldLink RX4 26 "StoneWall$Stock" "amounts" "[[I"]
def wsX2_begin : List Cond := .code yX2_begin cX2_begin 2 none :: ((wsX2_begin_r1 ++ wsX2_begin_r2) ++ wsX20 ++ wsX40 ++ wsX10)
def wsX2_endsWell : List Cond := .code yX2_endsWell cX2_endsWell 4 (some .boolean) :: ([.fieldLink RX2 55 "StoneWall$Search" "place" "I", .fieldLink RX2 18 "StoneWall$Search" "stock" "LStoneWall$Stock;", .fieldLink RX2 100 "StoneWall$Stock" "lengths" "[I", .fieldLink RX2 67 "StoneWall$Search" "course" "I", .fieldLink RX2 15 "StoneWall$Search" "joints" "[I", .fieldLink RX2 22 "StoneWall$Search" "shape" "LStoneWall$Shape;", .fieldLink RX2 58 "StoneWall$Shape" "length" "I"] ++ wsX20 ++ wsX40 ++ wsX30)
def wsX2_nextToTry_r1 : List Cond := [Cond.fieldLink RX2 18 "StoneWall$Search" "stock" "LStoneWall$Stock;", Cond.fieldLink RX2 82 "StoneWall$Stock" "kinds" "I", Cond.fieldLink RX2 9 "StoneWall$Search" "left" "[I", Cond.fieldLink RX2 90 "StoneWall$Stock" "depths" "[I", Cond.fieldLink RX2 22 "StoneWall$Search" "shape" "LStoneWall$Shape;", Cond.fieldLink RX2 67 "StoneWall$Search" "course" "I", Cond.methodLink RX2 93 yX3_width, Cond.instanceMethod yX3_width, Cond.selects RX3 yX3_width yX3_width, Cond.initialized RX3, Cond.code yX3_width cX3_width 2 (some .int), Cond.fieldLink RX3 26 "StoneWall$Shape" "depth" "I", Cond.fieldLink RX3 29 "StoneWall$Shape" "batter" "I", Cond.methodLink RX3 38 Lib.Math.max.name, Cond.static Lib.Math.max.name, Cond.initialized "java/lang/Math", Cond.code Lib.Math.max.name Lib.Math.max.code 2 (some .int), Cond.methodLink RX2 96 yX2_endsWell, Cond.instanceMethod yX2_endsWell, Cond.selects RX2 yX2_endsWell yX2_endsWell, Cond.initialized RX2, Cond.code yX2_endsWell cX2_endsWell 4 (some .boolean), Cond.fieldLink RX2 55 "StoneWall$Search" "place" "I", Cond.fieldLink RX2 100 "StoneWall$Stock" "lengths" "[I"]
def wsX2_nextToTry_r2 : List Cond := [Cond.fieldLink RX2 15 "StoneWall$Search" "joints" "[I", Cond.fieldLink RX2 58 "StoneWall$Shape" "length" "I"]
def wsX2_nextToTry : List Cond := .code yX2_nextToTry cX2_nextToTry 3 (some .int) :: ((wsX2_nextToTry_r1 ++ wsX2_nextToTry_r2) ++ wsX20 ++ wsX40 ++ wsX30)
def wsX2_jointAt : List Cond := .code yX2_jointAt cX2_jointAt 2 (some .int) :: ([.fieldLink RX2 22 "StoneWall$Search" "shape" "LStoneWall$Shape;", .fieldLink RX2 58 "StoneWall$Shape" "length" "I"] ++ wsX20 ++ wsX30)
def wsX2_takeUp_r1 : List Cond := [Cond.fieldLink RX2 26 "StoneWall$Search" "masonry" "LStoneWall$Masonry;", Cond.fieldLink RX2 38 "StoneWall$Masonry" "size" "I", Cond.fieldLink RX2 110 "StoneWall$Masonry" "kinds" "[I", Cond.fieldLink RX2 112 "StoneWall$Masonry" "courses" "[I", Cond.fieldLink RX2 67 "StoneWall$Search" "course" "I", Cond.fieldLink RX2 114 "StoneWall$Masonry" "places" "[I", Cond.fieldLink RX2 55 "StoneWall$Search" "place" "I", Cond.fieldLink RX2 15 "StoneWall$Search" "joints" "[I", Cond.fieldLink RX2 9 "StoneWall$Search" "left" "[I", Cond.methodLink RX2 117 yX1_end, Cond.instanceMethod yX1_end, Cond.selects RX1 yX1_end yX1_end, Cond.initialized RX1, Cond.code yX1_end cX1_end 2 (some .int), Cond.fieldLink RX1 18 "StoneWall$Masonry" "places" "[I", Cond.fieldLink RX1 34 "StoneWall$Masonry" "stock" "LStoneWall$Stock;", Cond.fieldLink RX1 53 "StoneWall$Stock" "lengths" "[I", Cond.fieldLink RX1 9 "StoneWall$Masonry" "kinds" "[I", Cond.methodLink RX2 107 yX2_jointAt, Cond.instanceMethod yX2_jointAt, Cond.selects RX2 yX2_jointAt yX2_jointAt, Cond.initialized RX2, Cond.code yX2_jointAt cX2_jointAt 2 (some .int), Cond.fieldLink RX2 22 "StoneWall$Search" "shape" "LStoneWall$Shape;"]
def wsX2_takeUp_r2 : List Cond := [Cond.fieldLink RX2 58 "StoneWall$Shape" "length" "I"]
def wsX2_takeUp : List Cond := .code yX2_takeUp cX2_takeUp 3 (some .int) :: ((wsX2_takeUp_r1 ++ wsX2_takeUp_r2) ++ wsX20 ++ wsX10 ++ wsX40 ++ wsX30)
def wsX2_lay : List Cond := .code yX2_lay cX2_lay 2 none :: ([.fieldLink RX2 26 "StoneWall$Search" "masonry" "LStoneWall$Masonry;", .fieldLink RX2 67 "StoneWall$Search" "course" "I", .fieldLink RX2 55 "StoneWall$Search" "place" "I", .fieldLink RX2 9 "StoneWall$Search" "left" "[I", .fieldLink RX2 18 "StoneWall$Search" "stock" "LStoneWall$Stock;", .fieldLink RX2 100 "StoneWall$Stock" "lengths" "[I", .fieldLink RX2 15 "StoneWall$Search" "joints" "[I", .methodLink RX2 103 yX1_add, .instanceMethod yX1_add, .selects RX1 yX1_add yX1_add, .initialized RX1, .code yX1_add cX1_add 4 none, .fieldLink RX1 42 "StoneWall$Masonry" "size" "I", .fieldLink RX1 9 "StoneWall$Masonry" "kinds" "[I", .fieldLink RX1 15 "StoneWall$Masonry" "courses" "[I", .fieldLink RX1 18 "StoneWall$Masonry" "places" "[I", .methodLink RX2 107 yX2_jointAt, .instanceMethod yX2_jointAt, .selects RX2 yX2_jointAt yX2_jointAt, .initialized RX2, .code yX2_jointAt cX2_jointAt 2 (some .int), .fieldLink RX2 22 "StoneWall$Search" "shape" "LStoneWall$Shape;", .fieldLink RX2 58 "StoneWall$Shape" "length" "I"] ++ wsX20 ++ wsX40 ++ wsX10 ++ wsX30)
def wsX3_throughsAsked : List Cond := .code yX3_throughsAsked cX3_throughsAsked 2 (some .int) :: ([.fieldLink RX3 32 "StoneWall$Shape" "throughCourses" "I", .fieldLink RX3 35 "StoneWall$Shape" "throughs" "I"] ++ wsX30)
def wsX2_hasThroughsAsked_r1 : List Cond := [Cond.fieldLink RX2 26 "StoneWall$Search" "masonry" "LStoneWall$Masonry;", Cond.fieldLink RX2 38 "StoneWall$Masonry" "size" "I", Cond.fieldLink RX2 112 "StoneWall$Masonry" "courses" "[I", Cond.fieldLink RX2 67 "StoneWall$Search" "course" "I", Cond.fieldLink RX2 22 "StoneWall$Search" "shape" "LStoneWall$Shape;", Cond.methodLink RX2 120 yX1_isThroughStone, Cond.instanceMethod yX1_isThroughStone, Cond.selects RX1 yX1_isThroughStone yX1_isThroughStone, Cond.initialized RX1, Cond.code yX1_isThroughStone cX1_isThroughStone 2 (some .boolean), Cond.fieldLink RX1 34 "StoneWall$Masonry" "stock" "LStoneWall$Stock;", Cond.fieldLink RX1 64 "StoneWall$Stock" "depths" "[I", Cond.fieldLink RX1 9 "StoneWall$Masonry" "kinds" "[I", Cond.fieldLink RX1 38 "StoneWall$Masonry" "shape" "LStoneWall$Shape;", Cond.fieldLink RX1 15 "StoneWall$Masonry" "courses" "[I", Cond.methodLink RX1 58 yX3_width, Cond.instanceMethod yX3_width, Cond.selects RX3 yX3_width yX3_width, Cond.initialized RX3, Cond.code yX3_width cX3_width 2 (some .int), Cond.fieldLink RX3 26 "StoneWall$Shape" "depth" "I", Cond.fieldLink RX3 29 "StoneWall$Shape" "batter" "I", Cond.methodLink RX3 38 Lib.Math.max.name, Cond.static Lib.Math.max.name]
def wsX2_hasThroughsAsked_r2 : List Cond := [Cond.initialized "java/lang/Math", Cond.code Lib.Math.max.name Lib.Math.max.code 2 (some .int), Cond.methodLink RX2 123 yX3_throughsAsked, Cond.instanceMethod yX3_throughsAsked, Cond.selects RX3 yX3_throughsAsked yX3_throughsAsked, Cond.code yX3_throughsAsked cX3_throughsAsked 2 (some .int), Cond.fieldLink RX3 32 "StoneWall$Shape" "throughCourses" "I", Cond.fieldLink RX3 35 "StoneWall$Shape" "throughs" "I"]
def wsX2_hasThroughsAsked : List Cond := .code yX2_hasThroughsAsked cX2_hasThroughsAsked 3 (some .boolean) :: ((wsX2_hasThroughsAsked_r1 ++ wsX2_hasThroughsAsked_r2) ++ wsX20 ++ wsX10 ++ wsX40 ++ wsX30)
def wsX2_firstWhole_r1 : List Cond := [Cond.constant RX2 37 (40002), Cond.fieldLink RX2 26 "StoneWall$Search" "masonry" "LStoneWall$Masonry;", Cond.fieldLink RX2 38 "StoneWall$Masonry" "size" "I", Cond.fieldLink RX2 48 "StoneWall$Search" "looks" "I", Cond.fieldLink RX2 55 "StoneWall$Search" "place" "I", Cond.fieldLink RX2 22 "StoneWall$Search" "shape" "LStoneWall$Shape;", Cond.fieldLink RX2 58 "StoneWall$Shape" "length" "I", Cond.fieldLink RX2 67 "StoneWall$Search" "course" "I", Cond.fieldLink RX2 70 "StoneWall$Shape" "courses" "I", Cond.methodLink RX2 30 yX2_begin, Cond.instanceMethod yX2_begin, Cond.selects RX2 yX2_begin yX2_begin, Cond.initialized RX2, Cond.code yX2_begin cX2_begin 2 none, Cond.fieldLink RX2 15 "StoneWall$Search" "joints" "[I", Cond.fieldLink RX2 18 "StoneWall$Search" "stock" "LStoneWall$Stock;", Cond.fieldLink RX2 82 "StoneWall$Stock" "kinds" "I", Cond.fieldLink RX2 9 "StoneWall$Search" "left" "[I", Cond.methodLink RX2 73 yX1_forget, Cond.instanceMethod yX1_forget, Cond.selects RX1 yX1_forget yX1_forget, Cond.initialized RX1, Cond.code yX1_forget cX1_forget 1 none, Cond.fieldLink RX1 42 "StoneWall$Masonry" "size" "I"]
def wsX2_firstWhole_r2 : List Cond := [Cond.fieldLink RX1 46 "StoneWall$Masonry" "built" "Z", Cond.fieldLink RX1 50 "StoneWall$Masonry" "frosts" "I", Cond.methodLink RX2 76 yJ7_fill_53178, Cond.static yJ7_fill_53178, Cond.initialized RJ7, Cond.code yJ7_fill_53178 cJ7_fill_53178 4 none, Cond.methodLink RX2 87 yX4_inHeaps, Cond.instanceMethod yX4_inHeaps, Cond.selects RX4 yX4_inHeaps yX4_inHeaps, Cond.initialized RX4, Cond.code yX4_inHeaps cX4_inHeaps 4 (some .int), Cond.fieldLink RX4 33 "StoneWall$Stock" "heaps" "I", Cond.fieldLink RX4 26 "StoneWall$Stock" "amounts" "[[I", Cond.methodLink RX2 33 yX2_nextToTry, Cond.instanceMethod yX2_nextToTry, Cond.selects RX2 yX2_nextToTry yX2_nextToTry, Cond.code yX2_nextToTry cX2_nextToTry 3 (some .int), Cond.fieldLink RX2 90 "StoneWall$Stock" "depths" "[I", Cond.methodLink RX2 93 yX3_width, Cond.instanceMethod yX3_width, Cond.selects RX3 yX3_width yX3_width, Cond.initialized RX3, Cond.code yX3_width cX3_width 2 (some .int), Cond.fieldLink RX3 26 "StoneWall$Shape" "depth" "I"]
def wsX2_firstWhole_r3 : List Cond := [Cond.fieldLink RX3 29 "StoneWall$Shape" "batter" "I", Cond.methodLink RX3 38 Lib.Math.max.name, Cond.static Lib.Math.max.name, Cond.initialized "java/lang/Math", Cond.code Lib.Math.max.name Lib.Math.max.code 2 (some .int), Cond.methodLink RX2 96 yX2_endsWell, Cond.instanceMethod yX2_endsWell, Cond.selects RX2 yX2_endsWell yX2_endsWell, Cond.code yX2_endsWell cX2_endsWell 4 (some .boolean), Cond.fieldLink RX2 100 "StoneWall$Stock" "lengths" "[I", Cond.methodLink RX2 44 yX2_takeUp, Cond.instanceMethod yX2_takeUp, Cond.selects RX2 yX2_takeUp yX2_takeUp, Cond.code yX2_takeUp cX2_takeUp 3 (some .int), Cond.fieldLink RX2 110 "StoneWall$Masonry" "kinds" "[I", Cond.fieldLink RX2 112 "StoneWall$Masonry" "courses" "[I", Cond.fieldLink RX2 114 "StoneWall$Masonry" "places" "[I", Cond.methodLink RX2 117 yX1_end, Cond.instanceMethod yX1_end, Cond.selects RX1 yX1_end yX1_end, Cond.code yX1_end cX1_end 2 (some .int), Cond.fieldLink RX1 18 "StoneWall$Masonry" "places" "[I", Cond.fieldLink RX1 34 "StoneWall$Masonry" "stock" "LStoneWall$Stock;", Cond.fieldLink RX1 53 "StoneWall$Stock" "lengths" "[I"]
def wsX2_firstWhole_r4 : List Cond := [Cond.fieldLink RX1 9 "StoneWall$Masonry" "kinds" "[I", Cond.methodLink RX2 107 yX2_jointAt, Cond.instanceMethod yX2_jointAt, Cond.selects RX2 yX2_jointAt yX2_jointAt, Cond.code yX2_jointAt cX2_jointAt 2 (some .int), Cond.methodLink RX2 51 yX2_lay, Cond.instanceMethod yX2_lay, Cond.selects RX2 yX2_lay yX2_lay, Cond.code yX2_lay cX2_lay 2 none, Cond.methodLink RX2 103 yX1_add, Cond.instanceMethod yX1_add, Cond.selects RX1 yX1_add yX1_add, Cond.code yX1_add cX1_add 4 none, Cond.fieldLink RX1 15 "StoneWall$Masonry" "courses" "[I", Cond.methodLink RX2 63 yX2_hasThroughsAsked, Cond.instanceMethod yX2_hasThroughsAsked, Cond.selects RX2 yX2_hasThroughsAsked yX2_hasThroughsAsked, Cond.code yX2_hasThroughsAsked cX2_hasThroughsAsked 3 (some .boolean), Cond.methodLink RX2 120 yX1_isThroughStone, Cond.instanceMethod yX1_isThroughStone, Cond.selects RX1 yX1_isThroughStone yX1_isThroughStone, Cond.code yX1_isThroughStone cX1_isThroughStone 2 (some .boolean), Cond.fieldLink RX1 64 "StoneWall$Stock" "depths" "[I", Cond.fieldLink RX1 38 "StoneWall$Masonry" "shape" "LStoneWall$Shape;"]
def wsX2_firstWhole_r5 : List Cond := [Cond.methodLink RX1 58 yX3_width, Cond.methodLink RX2 123 yX3_throughsAsked, Cond.instanceMethod yX3_throughsAsked, Cond.selects RX3 yX3_throughsAsked yX3_throughsAsked, Cond.code yX3_throughsAsked cX3_throughsAsked 2 (some .int), Cond.fieldLink RX3 32 "StoneWall$Shape" "throughCourses" "I", Cond.fieldLink RX3 35 "StoneWall$Shape" "throughs" "I"]
def wsX2_firstWhole : List Cond := .code yX2_firstWhole cX2_firstWhole 3 (some .int) :: ((wsX2_firstWhole_r1 ++ (wsX2_firstWhole_r2 ++ (wsX2_firstWhole_r3 ++ (wsX2_firstWhole_r4 ++ wsX2_firstWhole_r5)))) ++ wsX20 ++ wsX10 ++ wsX30 ++ wsX40)
def wsX3_init : List Cond := .code yX3_init cX3_init 1 none :: ([.methodLink RX3 1 objectInit, .instanceMethod objectInit, .code objectInit ⟨#[0xb1]⟩ 1 none])
def wsX3_tell : List Cond := .code yX3_tell cX3_tell 7 none :: ([.fieldLink RX3 7 "StoneWall$Shape" "told" "Z", .fieldLink RX3 13 "StoneWall$Shape" "x" "I", .fieldLink RX3 17 "StoneWall$Shape" "y" "I", .fieldLink RX3 20 "StoneWall$Shape" "length" "I", .fieldLink RX3 23 "StoneWall$Shape" "courses" "I", .fieldLink RX3 26 "StoneWall$Shape" "depth" "I", .fieldLink RX3 29 "StoneWall$Shape" "batter" "I", .fieldLink RX3 32 "StoneWall$Shape" "throughCourses" "I", .fieldLink RX3 35 "StoneWall$Shape" "throughs" "I"] ++ wsX30)
def wsX4_init : List Cond := .code yX4_init cX4_init 1 none :: ([.methodLink RX4 3 objectInit, .instanceMethod objectInit, .code objectInit ⟨#[0xb1]⟩ 1 none, .arrayClass .int, .fieldLink RX4 9 "StoneWall$Stock" "lengths" "[I", .fieldLink RX4 15 "StoneWall$Stock" "depths" "[I", .fieldLink RX4 18 "StoneWall$Stock" "xs" "[I", .fieldLink RX4 21 "StoneWall$Stock" "ys" "[I", .classLink RX4 24 "[[I", .fieldLink RX4 26 "StoneWall$Stock" "amounts" "[[I"] ++ wsX40)
def wsX4_hasKind : List Cond := .code yX4_hasKind cX4_hasKind 2 (some .boolean) :: ([.fieldLink RX4 29 "StoneWall$Stock" "kinds" "I"] ++ wsX40)
def wsX4_hasHeap : List Cond := .code yX4_hasHeap cX4_hasHeap 2 (some .boolean) :: ([.fieldLink RX4 33 "StoneWall$Stock" "heaps" "I"] ++ wsX40)
def wsX4_addKind : List Cond := .code yX4_addKind cX4_addKind 3 (some .int) :: ([.fieldLink RX4 29 "StoneWall$Stock" "kinds" "I", .fieldLink RX4 9 "StoneWall$Stock" "lengths" "[I", .fieldLink RX4 15 "StoneWall$Stock" "depths" "[I"] ++ wsX40)
def wsX4_addHeap : List Cond := .code yX4_addHeap cX4_addHeap 3 (some .int) :: ([.fieldLink RX4 33 "StoneWall$Stock" "heaps" "I", .fieldLink RX4 18 "StoneWall$Stock" "xs" "[I", .fieldLink RX4 21 "StoneWall$Stock" "ys" "[I"] ++ wsX40)
def wsX5_init_r1 : List Cond := [Cond.methodLink RX5 3 objectInit, Cond.instanceMethod objectInit, Cond.code objectInit ⟨#[0xb1]⟩ 1 none, Cond.classLink RX5 9 RX4, Cond.instantiable RX4 7, Cond.initialized RX4, Cond.fieldLink RX5 12 "StoneWall" "stock" "LStoneWall$Stock;", Cond.classLink RX5 16 RX3, Cond.instantiable RX3 9, Cond.initialized RX3, Cond.fieldLink RX5 19 "StoneWall" "shape" "LStoneWall$Shape;", Cond.classLink RX5 23 RX1, Cond.instantiable RX1 12, Cond.initialized RX1, Cond.fieldLink RX5 28 "StoneWall" "masonry" "LStoneWall$Masonry;", Cond.classLink RX5 32 RX2, Cond.instantiable RX2 8, Cond.initialized RX2, Cond.fieldLink RX5 37 "StoneWall" "search" "LStoneWall$Search;", Cond.classLink RX5 41 RX0, Cond.instantiable RX0 10, Cond.initialized RX0, Cond.fieldLink RX5 44 "StoneWall" "carrying" "LStoneWall$Carrying;", Cond.instanceMethod yX4_init]
def wsX5_init_r2 : List Cond := [Cond.code yX4_init cX4_init 1 none, Cond.methodLink RX4 3 objectInit, Cond.arrayClass .int, Cond.fieldLink RX4 9 "StoneWall$Stock" "lengths" "[I", Cond.fieldLink RX4 15 "StoneWall$Stock" "depths" "[I", Cond.fieldLink RX4 18 "StoneWall$Stock" "xs" "[I", Cond.fieldLink RX4 21 "StoneWall$Stock" "ys" "[I", Cond.classLink RX4 24 "[[I", Cond.fieldLink RX4 26 "StoneWall$Stock" "amounts" "[[I", Cond.instanceMethod yX3_init, Cond.code yX3_init cX3_init 1 none, Cond.methodLink RX3 1 objectInit, Cond.methodLink RX5 25 yX1_init, Cond.instanceMethod yX1_init, Cond.code yX1_init cX1_init 3 none, Cond.methodLink RX1 3 objectInit, Cond.fieldLink RX1 9 "StoneWall$Masonry" "kinds" "[I", Cond.fieldLink RX1 15 "StoneWall$Masonry" "courses" "[I", Cond.fieldLink RX1 18 "StoneWall$Masonry" "places" "[I", Cond.fieldLink RX1 21 "StoneWall$Masonry" "holds" "[I", Cond.fieldLink RX1 24 "StoneWall$Masonry" "origins" "[I", Cond.arrayClass .boolean, Cond.fieldLink RX1 27 "StoneWall$Masonry" "stands" "[Z", Cond.fieldLink RX1 31 "StoneWall$Masonry" "standingPlaces" "[I"]
def wsX5_init_r3 : List Cond := [Cond.fieldLink RX1 34 "StoneWall$Masonry" "stock" "LStoneWall$Stock;", Cond.fieldLink RX1 38 "StoneWall$Masonry" "shape" "LStoneWall$Shape;", Cond.methodLink RX5 34 yX2_init, Cond.instanceMethod yX2_init, Cond.code yX2_init cX2_init 4 none, Cond.methodLink RX2 3 objectInit, Cond.fieldLink RX2 9 "StoneWall$Search" "left" "[I", Cond.fieldLink RX2 15 "StoneWall$Search" "joints" "[I", Cond.fieldLink RX2 18 "StoneWall$Search" "stock" "LStoneWall$Stock;", Cond.fieldLink RX2 22 "StoneWall$Search" "shape" "LStoneWall$Shape;", Cond.fieldLink RX2 26 "StoneWall$Search" "masonry" "LStoneWall$Masonry;", Cond.methodLink RX5 43 yX0_init, Cond.instanceMethod yX0_init, Cond.code yX0_init cX0_init 4 none, Cond.methodLink RX0 3 objectInit, Cond.classLink RX0 9 "[[I", Cond.fieldLink RX0 11 "StoneWall$Carrying" "had" "[[I", Cond.fieldLink RX0 16 "StoneWall$Carrying" "room" "[I", Cond.fieldLink RX0 20 "StoneWall$Carrying" "given" "[[I", Cond.fieldLink RX0 23 "StoneWall$Carrying" "swapCost" "[[I", Cond.fieldLink RX0 26 "StoneWall$Carrying" "swapPlace" "[[I", Cond.fieldLink RX0 29 "StoneWall$Carrying" "chainCost" "[I", Cond.fieldLink RX0 32 "StoneWall$Carrying" "chainFrom" "[I", Cond.fieldLink RX0 35 "StoneWall$Carrying" "stock" "LStoneWall$Stock;"]
def wsX5_init_r4 : List Cond := [Cond.fieldLink RX0 39 "StoneWall$Carrying" "shape" "LStoneWall$Shape;", Cond.fieldLink RX0 43 "StoneWall$Carrying" "masonry" "LStoneWall$Masonry;"]
def wsX5_init : List Cond := .code yX5_init cX5_init 1 none :: ((wsX5_init_r1 ++ (wsX5_init_r2 ++ (wsX5_init_r3 ++ wsX5_init_r4))) ++ wsX40 ++ wsX50 ++ wsX30 ++ wsX10 ++ wsX20 ++ wsX00)
def wsX5_within : List Cond := .code yX5_within cX5_within 3 (some .boolean) :: ([])
def wsX5_kind : List Cond := .code yX5_kind cX5_kind 3 (some .int) :: ([.fieldLink RX5 28 "StoneWall" "masonry" "LStoneWall$Masonry;", .fieldLink RX5 48 "StoneWall$Masonry" "built" "Z", .fieldLink RX5 12 "StoneWall" "stock" "LStoneWall$Stock;", .fieldLink RX5 52 "StoneWall$Stock" "kinds" "I", .methodLink RX5 56 yX5_within, .static yX5_within, .initialized RX5, .code yX5_within cX5_within 3 (some .boolean), .methodLink RX5 60 yX1_forget, .instanceMethod yX1_forget, .selects RX1 yX1_forget yX1_forget, .initialized RX1, .code yX1_forget cX1_forget 1 none, .fieldLink RX1 42 "StoneWall$Masonry" "size" "I", .fieldLink RX1 46 "StoneWall$Masonry" "built" "Z", .fieldLink RX1 50 "StoneWall$Masonry" "frosts" "I", .methodLink RX5 63 yX4_addKind, .instanceMethod yX4_addKind, .selects RX4 yX4_addKind yX4_addKind, .initialized RX4, .code yX4_addKind cX4_addKind 3 (some .int), .fieldLink RX4 29 "StoneWall$Stock" "kinds" "I", .fieldLink RX4 9 "StoneWall$Stock" "lengths" "[I", .fieldLink RX4 15 "StoneWall$Stock" "depths" "[I"] ++ wsX50 ++ wsX10 ++ wsX40)
def wsX5_onTheMap : List Cond := .code yX5_onTheMap cX5_onTheMap 2 (some .boolean) :: ([.methodLink RX5 56 yX5_within, .static yX5_within, .initialized RX5, .code yX5_within cX5_within 3 (some .boolean)])
def wsX5_heap_r1 : List Cond := [Cond.fieldLink RX5 28 "StoneWall" "masonry" "LStoneWall$Masonry;", Cond.fieldLink RX5 48 "StoneWall$Masonry" "built" "Z", Cond.fieldLink RX5 12 "StoneWall" "stock" "LStoneWall$Stock;", Cond.fieldLink RX5 67 "StoneWall$Stock" "heaps" "I", Cond.methodLink RX5 70 yX5_onTheMap, Cond.static yX5_onTheMap, Cond.initialized RX5, Cond.code yX5_onTheMap cX5_onTheMap 2 (some .boolean), Cond.methodLink RX5 56 yX5_within, Cond.static yX5_within, Cond.code yX5_within cX5_within 3 (some .boolean), Cond.methodLink RX5 60 yX1_forget, Cond.instanceMethod yX1_forget, Cond.selects RX1 yX1_forget yX1_forget, Cond.initialized RX1, Cond.code yX1_forget cX1_forget 1 none, Cond.fieldLink RX1 42 "StoneWall$Masonry" "size" "I", Cond.fieldLink RX1 46 "StoneWall$Masonry" "built" "Z", Cond.fieldLink RX1 50 "StoneWall$Masonry" "frosts" "I", Cond.methodLink RX5 74 yX4_addHeap, Cond.instanceMethod yX4_addHeap, Cond.selects RX4 yX4_addHeap yX4_addHeap, Cond.initialized RX4, Cond.code yX4_addHeap cX4_addHeap 3 (some .int)]
def wsX5_heap_r2 : List Cond := [Cond.fieldLink RX4 33 "StoneWall$Stock" "heaps" "I", Cond.fieldLink RX4 18 "StoneWall$Stock" "xs" "[I", Cond.fieldLink RX4 21 "StoneWall$Stock" "ys" "[I"]
def wsX5_heap : List Cond := .code yX5_heap cX5_heap 3 (some .int) :: ((wsX5_heap_r1 ++ wsX5_heap_r2) ++ wsX50 ++ wsX10 ++ wsX40)
def wsX5_stones_r1 : List Cond := [Cond.fieldLink RX5 28 "StoneWall" "masonry" "LStoneWall$Masonry;", Cond.fieldLink RX5 48 "StoneWall$Masonry" "built" "Z", Cond.fieldLink RX5 12 "StoneWall" "stock" "LStoneWall$Stock;", Cond.fieldLink RX5 84 "StoneWall$Stock" "amounts" "[[I", Cond.methodLink RX5 77 yX4_hasHeap, Cond.instanceMethod yX4_hasHeap, Cond.selects RX4 yX4_hasHeap yX4_hasHeap, Cond.initialized RX4, Cond.code yX4_hasHeap cX4_hasHeap 2 (some .boolean), Cond.fieldLink RX4 33 "StoneWall$Stock" "heaps" "I", Cond.methodLink RX5 81 yX4_hasKind, Cond.instanceMethod yX4_hasKind, Cond.selects RX4 yX4_hasKind yX4_hasKind, Cond.code yX4_hasKind cX4_hasKind 2 (some .boolean), Cond.fieldLink RX4 29 "StoneWall$Stock" "kinds" "I", Cond.methodLink RX5 56 yX5_within, Cond.static yX5_within, Cond.initialized RX5, Cond.code yX5_within cX5_within 3 (some .boolean), Cond.methodLink RX5 60 yX1_forget, Cond.instanceMethod yX1_forget, Cond.selects RX1 yX1_forget yX1_forget, Cond.initialized RX1, Cond.code yX1_forget cX1_forget 1 none]
def wsX5_stones_r2 : List Cond := [Cond.fieldLink RX1 42 "StoneWall$Masonry" "size" "I", Cond.fieldLink RX1 46 "StoneWall$Masonry" "built" "Z", Cond.fieldLink RX1 50 "StoneWall$Masonry" "frosts" "I"]
def wsX5_stones : List Cond := .code yX5_stones cX5_stones 4 (some .boolean) :: ((wsX5_stones_r1 ++ wsX5_stones_r2) ++ wsX50 ++ wsX10 ++ wsX40)
def wsX5_wall_r1 : List Cond := [Cond.fieldLink RX5 28 "StoneWall" "masonry" "LStoneWall$Masonry;", Cond.fieldLink RX5 48 "StoneWall$Masonry" "built" "Z", Cond.fieldLink RX5 19 "StoneWall" "shape" "LStoneWall$Shape;", Cond.methodLink RX5 70 yX5_onTheMap, Cond.static yX5_onTheMap, Cond.initialized RX5, Cond.code yX5_onTheMap cX5_onTheMap 2 (some .boolean), Cond.methodLink RX5 56 yX5_within, Cond.static yX5_within, Cond.code yX5_within cX5_within 3 (some .boolean), Cond.methodLink RX5 60 yX1_forget, Cond.instanceMethod yX1_forget, Cond.selects RX1 yX1_forget yX1_forget, Cond.initialized RX1, Cond.code yX1_forget cX1_forget 1 none, Cond.fieldLink RX1 42 "StoneWall$Masonry" "size" "I", Cond.fieldLink RX1 46 "StoneWall$Masonry" "built" "Z", Cond.fieldLink RX1 50 "StoneWall$Masonry" "frosts" "I", Cond.methodLink RX5 88 yX3_tell, Cond.instanceMethod yX3_tell, Cond.selects RX3 yX3_tell yX3_tell, Cond.initialized RX3, Cond.code yX3_tell cX3_tell 7 none, Cond.fieldLink RX3 7 "StoneWall$Shape" "told" "Z"]
def wsX5_wall_r2 : List Cond := [Cond.fieldLink RX3 13 "StoneWall$Shape" "x" "I", Cond.fieldLink RX3 17 "StoneWall$Shape" "y" "I", Cond.fieldLink RX3 20 "StoneWall$Shape" "length" "I", Cond.fieldLink RX3 23 "StoneWall$Shape" "courses" "I", Cond.fieldLink RX3 26 "StoneWall$Shape" "depth" "I", Cond.fieldLink RX3 29 "StoneWall$Shape" "batter" "I", Cond.fieldLink RX3 32 "StoneWall$Shape" "throughCourses" "I", Cond.fieldLink RX3 35 "StoneWall$Shape" "throughs" "I"]
def wsX5_wall : List Cond := .code yX5_wall cX5_wall 7 (some .boolean) :: ((wsX5_wall_r1 ++ wsX5_wall_r2) ++ wsX50 ++ wsX10 ++ wsX30)
def wsX5_through : List Cond := .code yX5_through cX5_through 3 (some .boolean) :: ([.fieldLink RX5 19 "StoneWall" "shape" "LStoneWall$Shape;", .fieldLink RX5 92 "StoneWall$Shape" "told" "Z", .fieldLink RX5 28 "StoneWall" "masonry" "LStoneWall$Masonry;", .fieldLink RX5 48 "StoneWall$Masonry" "built" "Z", .fieldLink RX5 95 "StoneWall$Shape" "courses" "I", .fieldLink RX5 98 "StoneWall$Shape" "throughCourses" "I", .fieldLink RX5 101 "StoneWall$Shape" "throughs" "I", .methodLink RX5 56 yX5_within, .static yX5_within, .initialized RX5, .code yX5_within cX5_within 3 (some .boolean), .methodLink RX5 60 yX1_forget, .instanceMethod yX1_forget, .selects RX1 yX1_forget yX1_forget, .initialized RX1, .code yX1_forget cX1_forget 1 none, .fieldLink RX1 42 "StoneWall$Masonry" "size" "I", .fieldLink RX1 46 "StoneWall$Masonry" "built" "Z", .fieldLink RX1 50 "StoneWall$Masonry" "frosts" "I"] ++ wsX50 ++ wsX30 ++ wsX10)
def wsX5_plan_r1 : List Cond := [Cond.fieldLink RX5 19 "StoneWall" "shape" "LStoneWall$Shape;", Cond.fieldLink RX5 92 "StoneWall$Shape" "told" "Z", Cond.fieldLink RX5 28 "StoneWall" "masonry" "LStoneWall$Masonry;", Cond.fieldLink RX5 48 "StoneWall$Masonry" "built" "Z", Cond.fieldLink RX5 37 "StoneWall" "search" "LStoneWall$Search;", Cond.fieldLink RX5 44 "StoneWall" "carrying" "LStoneWall$Carrying;", Cond.methodLink RX5 104 yX2_firstWhole, Cond.instanceMethod yX2_firstWhole, Cond.selects RX2 yX2_firstWhole yX2_firstWhole, Cond.initialized RX2, Cond.code yX2_firstWhole cX2_firstWhole 3 (some .int), Cond.constant RX2 37 (40002), Cond.fieldLink RX2 26 "StoneWall$Search" "masonry" "LStoneWall$Masonry;", Cond.fieldLink RX2 38 "StoneWall$Masonry" "size" "I", Cond.fieldLink RX2 48 "StoneWall$Search" "looks" "I", Cond.fieldLink RX2 55 "StoneWall$Search" "place" "I", Cond.fieldLink RX2 22 "StoneWall$Search" "shape" "LStoneWall$Shape;", Cond.fieldLink RX2 58 "StoneWall$Shape" "length" "I", Cond.fieldLink RX2 67 "StoneWall$Search" "course" "I", Cond.fieldLink RX2 70 "StoneWall$Shape" "courses" "I", Cond.methodLink RX2 30 yX2_begin, Cond.instanceMethod yX2_begin, Cond.selects RX2 yX2_begin yX2_begin, Cond.code yX2_begin cX2_begin 2 none]
def wsX5_plan_r2 : List Cond := [Cond.fieldLink RX2 15 "StoneWall$Search" "joints" "[I", Cond.fieldLink RX2 18 "StoneWall$Search" "stock" "LStoneWall$Stock;", Cond.fieldLink RX2 82 "StoneWall$Stock" "kinds" "I", Cond.fieldLink RX2 9 "StoneWall$Search" "left" "[I", Cond.methodLink RX2 73 yX1_forget, Cond.instanceMethod yX1_forget, Cond.selects RX1 yX1_forget yX1_forget, Cond.initialized RX1, Cond.code yX1_forget cX1_forget 1 none, Cond.fieldLink RX1 42 "StoneWall$Masonry" "size" "I", Cond.fieldLink RX1 46 "StoneWall$Masonry" "built" "Z", Cond.fieldLink RX1 50 "StoneWall$Masonry" "frosts" "I", Cond.methodLink RX2 76 yJ7_fill_53178, Cond.static yJ7_fill_53178, Cond.initialized RJ7, Cond.code yJ7_fill_53178 cJ7_fill_53178 4 none, Cond.methodLink RX2 87 yX4_inHeaps, Cond.instanceMethod yX4_inHeaps, Cond.selects RX4 yX4_inHeaps yX4_inHeaps, Cond.initialized RX4, Cond.code yX4_inHeaps cX4_inHeaps 4 (some .int), Cond.fieldLink RX4 33 "StoneWall$Stock" "heaps" "I", Cond.fieldLink RX4 26 "StoneWall$Stock" "amounts" "[[I", Cond.methodLink RX2 33 yX2_nextToTry]
def wsX5_plan_r3 : List Cond := [Cond.instanceMethod yX2_nextToTry, Cond.selects RX2 yX2_nextToTry yX2_nextToTry, Cond.code yX2_nextToTry cX2_nextToTry 3 (some .int), Cond.fieldLink RX2 90 "StoneWall$Stock" "depths" "[I", Cond.methodLink RX2 93 yX3_width, Cond.instanceMethod yX3_width, Cond.selects RX3 yX3_width yX3_width, Cond.initialized RX3, Cond.code yX3_width cX3_width 2 (some .int), Cond.fieldLink RX3 26 "StoneWall$Shape" "depth" "I", Cond.fieldLink RX3 29 "StoneWall$Shape" "batter" "I", Cond.methodLink RX3 38 Lib.Math.max.name, Cond.static Lib.Math.max.name, Cond.initialized "java/lang/Math", Cond.code Lib.Math.max.name Lib.Math.max.code 2 (some .int), Cond.methodLink RX2 96 yX2_endsWell, Cond.instanceMethod yX2_endsWell, Cond.selects RX2 yX2_endsWell yX2_endsWell, Cond.code yX2_endsWell cX2_endsWell 4 (some .boolean), Cond.fieldLink RX2 100 "StoneWall$Stock" "lengths" "[I", Cond.methodLink RX2 44 yX2_takeUp, Cond.instanceMethod yX2_takeUp, Cond.selects RX2 yX2_takeUp yX2_takeUp, Cond.code yX2_takeUp cX2_takeUp 3 (some .int)]
def wsX5_plan_r4 : List Cond := [Cond.fieldLink RX2 110 "StoneWall$Masonry" "kinds" "[I", Cond.fieldLink RX2 112 "StoneWall$Masonry" "courses" "[I", Cond.fieldLink RX2 114 "StoneWall$Masonry" "places" "[I", Cond.methodLink RX2 117 yX1_end, Cond.instanceMethod yX1_end, Cond.selects RX1 yX1_end yX1_end, Cond.code yX1_end cX1_end 2 (some .int), Cond.fieldLink RX1 18 "StoneWall$Masonry" "places" "[I", Cond.fieldLink RX1 34 "StoneWall$Masonry" "stock" "LStoneWall$Stock;", Cond.fieldLink RX1 53 "StoneWall$Stock" "lengths" "[I", Cond.fieldLink RX1 9 "StoneWall$Masonry" "kinds" "[I", Cond.methodLink RX2 107 yX2_jointAt, Cond.instanceMethod yX2_jointAt, Cond.selects RX2 yX2_jointAt yX2_jointAt, Cond.code yX2_jointAt cX2_jointAt 2 (some .int), Cond.methodLink RX2 51 yX2_lay, Cond.instanceMethod yX2_lay, Cond.selects RX2 yX2_lay yX2_lay, Cond.code yX2_lay cX2_lay 2 none, Cond.methodLink RX2 103 yX1_add, Cond.instanceMethod yX1_add, Cond.selects RX1 yX1_add yX1_add, Cond.code yX1_add cX1_add 4 none, Cond.fieldLink RX1 15 "StoneWall$Masonry" "courses" "[I"]
def wsX5_plan_r5 : List Cond := [Cond.methodLink RX2 63 yX2_hasThroughsAsked, Cond.instanceMethod yX2_hasThroughsAsked, Cond.selects RX2 yX2_hasThroughsAsked yX2_hasThroughsAsked, Cond.code yX2_hasThroughsAsked cX2_hasThroughsAsked 3 (some .boolean), Cond.methodLink RX2 120 yX1_isThroughStone, Cond.instanceMethod yX1_isThroughStone, Cond.selects RX1 yX1_isThroughStone yX1_isThroughStone, Cond.code yX1_isThroughStone cX1_isThroughStone 2 (some .boolean), Cond.fieldLink RX1 64 "StoneWall$Stock" "depths" "[I", Cond.fieldLink RX1 38 "StoneWall$Masonry" "shape" "LStoneWall$Shape;", Cond.methodLink RX1 58 yX3_width, Cond.methodLink RX2 123 yX3_throughsAsked, Cond.instanceMethod yX3_throughsAsked, Cond.selects RX3 yX3_throughsAsked yX3_throughsAsked, Cond.code yX3_throughsAsked cX3_throughsAsked 2 (some .int), Cond.fieldLink RX3 32 "StoneWall$Shape" "throughCourses" "I", Cond.fieldLink RX3 35 "StoneWall$Shape" "throughs" "I", Cond.methodLink RX5 60 yX1_forget, Cond.methodLink RX5 108 yX0_rememberHeaps, Cond.instanceMethod yX0_rememberHeaps, Cond.selects RX0 yX0_rememberHeaps yX0_rememberHeaps, Cond.initialized RX0, Cond.code yX0_rememberHeaps cX0_rememberHeaps 2 none, Cond.fieldLink RX0 35 "StoneWall$Carrying" "stock" "LStoneWall$Stock;"]
def wsX5_plan_r6 : List Cond := [Cond.fieldLink RX0 47 "StoneWall$Stock" "heaps" "I", Cond.fieldLink RX0 53 "StoneWall$Stock" "amounts" "[[I", Cond.fieldLink RX0 11 "StoneWall$Carrying" "had" "[[I", Cond.methodLink RX0 56 arraycopyName, Cond.native arraycopyName, Cond.static arraycopyName, Cond.initialized "java/lang/System"]
def wsX5_plan : List Cond := .code yX5_plan cX5_plan 2 (some .int) :: ((wsX5_plan_r1 ++ (wsX5_plan_r2 ++ (wsX5_plan_r3 ++ (wsX5_plan_r4 ++ (wsX5_plan_r5 ++ wsX5_plan_r6))))) ++ wsX50 ++ wsX30 ++ wsX10 ++ wsX20 ++ wsX40 ++ wsX00)
def wsX5_stone_r1 : List Cond := [Cond.classLink RX5 114 "java/lang/IndexOutOfBoundsException", Cond.initialized "java/lang/IndexOutOfBoundsException", Cond.classLink RX5 145 "java/util/NoSuchElementException", Cond.initialized "java/util/NoSuchElementException", Cond.fieldLink RX5 28 "StoneWall" "masonry" "LStoneWall$Masonry;", Cond.fieldLink RX5 111 "StoneWall$Masonry" "size" "I", Cond.fieldLink RX5 121 "StoneWall$Masonry" "kinds" "[I", Cond.fieldLink RX5 124 "StoneWall$Masonry" "courses" "[I", Cond.fieldLink RX5 126 "StoneWall$Masonry" "places" "[I", Cond.fieldLink RX5 48 "StoneWall$Masonry" "built" "Z", Cond.fieldLink RX5 136 "StoneWall$Masonry" "holds" "[I", Cond.fieldLink RX5 142 "StoneWall$Masonry" "origins" "[I", Cond.methodLink RX5 129 yX1_hearting, Cond.instanceMethod yX1_hearting, Cond.selects RX1 yX1_hearting yX1_hearting, Cond.initialized RX1, Cond.code yX1_hearting cX1_hearting 3 (some .int), Cond.fieldLink RX1 9 "StoneWall$Masonry" "kinds" "[I", Cond.fieldLink RX1 34 "StoneWall$Masonry" "stock" "LStoneWall$Stock;", Cond.fieldLink RX1 53 "StoneWall$Stock" "lengths" "[I", Cond.fieldLink RX1 38 "StoneWall$Masonry" "shape" "LStoneWall$Shape;", Cond.fieldLink RX1 15 "StoneWall$Masonry" "courses" "[I", Cond.fieldLink RX1 64 "StoneWall$Stock" "depths" "[I", Cond.methodLink RX1 67 Lib.Math.max.name]
def wsX5_stone_r2 : List Cond := [Cond.static Lib.Math.max.name, Cond.initialized "java/lang/Math", Cond.code Lib.Math.max.name Lib.Math.max.code 2 (some .int), Cond.methodLink RX1 58 yX3_width, Cond.instanceMethod yX3_width, Cond.selects RX3 yX3_width yX3_width, Cond.initialized RX3, Cond.code yX3_width cX3_width 2 (some .int), Cond.fieldLink RX3 26 "StoneWall$Shape" "depth" "I", Cond.fieldLink RX3 29 "StoneWall$Shape" "batter" "I", Cond.methodLink RX3 38 Lib.Math.max.name, Cond.methodLink RX5 133 yX1_isThroughStone, Cond.instanceMethod yX1_isThroughStone, Cond.selects RX1 yX1_isThroughStone yX1_isThroughStone, Cond.code yX1_isThroughStone cX1_isThroughStone 2 (some .boolean), Cond.methodLink RX5 139 yX1_isStanding, Cond.instanceMethod yX1_isStanding, Cond.selects RX1 yX1_isStanding yX1_isStanding, Cond.code yX1_isStanding cX1_isStanding 2 (some .boolean), Cond.fieldLink RX1 46 "StoneWall$Masonry" "built" "Z", Cond.fieldLink RX1 27 "StoneWall$Masonry" "stands" "[Z"]
def wsX5_stone : List Cond := .code yX5_stone cX5_stone 3 (some .int) :: ((wsX5_stone_r1 ++ wsX5_stone_r2) ++ wsX50 ++ wsX10 ++ wsX40 ++ wsX30 ++ (vx_atS RX5 118 "java/lang/IndexOutOfBoundsException" ["java/lang/RuntimeException", "java/lang/Exception"]).filter goodWord ++ (vx_atS RX5 149 "java/util/NoSuchElementException" ["java/lang/RuntimeException", "java/lang/Exception"]).filter goodWord)
def wsX5_over : List Cond := .code yX5_over cX5_over 4 (some .int) :: ([.fieldLink RX5 28 "StoneWall" "masonry" "LStoneWall$Masonry;", .fieldLink RX5 111 "StoneWall$Masonry" "size" "I", .fieldLink RX5 124 "StoneWall$Masonry" "courses" "[I", .fieldLink RX5 126 "StoneWall$Masonry" "places" "[I", .methodLink RX5 150 yX1_end, .instanceMethod yX1_end, .selects RX1 yX1_end yX1_end, .initialized RX1, .code yX1_end cX1_end 2 (some .int), .fieldLink RX1 18 "StoneWall$Masonry" "places" "[I", .fieldLink RX1 34 "StoneWall$Masonry" "stock" "LStoneWall$Stock;", .fieldLink RX1 53 "StoneWall$Stock" "lengths" "[I", .fieldLink RX1 9 "StoneWall$Masonry" "kinds" "[I"] ++ wsX50 ++ wsX10 ++ wsX40)
def wsX5_least_r1 : List Cond := [Cond.fieldLink RX5 28 "StoneWall" "masonry" "LStoneWall$Masonry;", Cond.fieldLink RX5 111 "StoneWall$Masonry" "size" "I", Cond.constantLong RX5 153 (-1), Cond.fieldLink RX5 44 "StoneWall" "carrying" "LStoneWall$Carrying;", Cond.methodLink RX5 155 yX0_leastToil, Cond.instanceMethod yX0_leastToil, Cond.selects RX0 yX0_leastToil yX0_leastToil, Cond.initialized RX0, Cond.code yX0_leastToil cX0_leastToil 4 (some .long), Cond.fieldLink RX0 35 "StoneWall$Carrying" "stock" "LStoneWall$Stock;", Cond.fieldLink RX0 113 "StoneWall$Stock" "kinds" "I", Cond.methodLink RX0 80 yX0_weight, Cond.instanceMethod yX0_weight, Cond.selects RX0 yX0_weight yX0_weight, Cond.code yX0_weight cX0_weight 2 (some .long), Cond.fieldLink RX0 87 "StoneWall$Stock" "lengths" "[I", Cond.fieldLink RX0 90 "StoneWall$Stock" "depths" "[I", Cond.methodLink RX0 115 yX0_leastWays, Cond.instanceMethod yX0_leastWays, Cond.selects RX0 yX0_leastWays yX0_leastWays, Cond.code yX0_leastWays cX0_leastWays 6 (some .long), Cond.fieldLink RX0 47 "StoneWall$Stock" "heaps" "I", Cond.fieldLink RX0 16 "StoneWall$Carrying" "room" "[I", Cond.fieldLink RX0 11 "StoneWall$Carrying" "had" "[[I"]
def wsX5_least_r2 : List Cond := [Cond.fieldLink RX0 20 "StoneWall$Carrying" "given" "[[I", Cond.fieldLink RX0 43 "StoneWall$Carrying" "masonry" "LStoneWall$Masonry;", Cond.fieldLink RX0 62 "StoneWall$Masonry" "size" "I", Cond.fieldLink RX0 67 "StoneWall$Masonry" "kinds" "[I", Cond.fieldLink RX0 70 "StoneWall$Masonry" "places" "[I", Cond.methodLink RX0 119 yJ7_fill_53178, Cond.static yJ7_fill_53178, Cond.initialized RJ7, Cond.code yJ7_fill_53178 cJ7_fill_53178 4 none, Cond.methodLink RX0 125 yX0_supply, Cond.instanceMethod yX0_supply, Cond.selects RX0 yX0_supply yX0_supply, Cond.code yX0_supply cX0_supply 3 (some .int), Cond.fieldLink RX0 29 "StoneWall$Carrying" "chainCost" "[I", Cond.methodLink RX0 128 yX0_findSwaps, Cond.instanceMethod yX0_findSwaps, Cond.selects RX0 yX0_findSwaps yX0_findSwaps, Cond.code yX0_findSwaps cX0_findSwaps 3 none, Cond.fieldLink RX0 26 "StoneWall$Carrying" "swapPlace" "[[I", Cond.fieldLink RX0 39 "StoneWall$Carrying" "shape" "LStoneWall$Shape;", Cond.fieldLink RX0 143 "StoneWall$Shape" "length" "I", Cond.methodLink RX0 146 yX0_weighSwaps, Cond.instanceMethod yX0_weighSwaps, Cond.selects RX0 yX0_weighSwaps yX0_weighSwaps]
def wsX5_least_r3 : List Cond := [Cond.code yX0_weighSwaps cX0_weighSwaps 6 none, Cond.fieldLink RX0 23 "StoneWall$Carrying" "swapCost" "[[I", Cond.methodLink RX0 84 yX0_way, Cond.instanceMethod yX0_way, Cond.selects RX0 yX0_way yX0_way, Cond.code yX0_way cX0_way 3 (some .int), Cond.fieldLink RX0 93 "StoneWall$Stock" "xs" "[I", Cond.fieldLink RX0 96 "StoneWall$Shape" "x" "I", Cond.methodLink RX0 101 Lib.Math.abs.name, Cond.static Lib.Math.abs.name, Cond.initialized "java/lang/Math", Cond.code Lib.Math.abs.name Lib.Math.abs.code 1 (some .int), Cond.fieldLink RX0 107 "StoneWall$Stock" "ys" "[I", Cond.fieldLink RX0 110 "StoneWall$Shape" "y" "I", Cond.methodLink RX0 131 yX0_findChains, Cond.instanceMethod yX0_findChains, Cond.selects RX0 yX0_findChains yX0_findChains, Cond.code yX0_findChains cX0_findChains 4 none, Cond.fieldLink RX0 32 "StoneWall$Carrying" "chainFrom" "[I", Cond.methodLink RX0 149 yX0_lengthenChains, Cond.instanceMethod yX0_lengthenChains, Cond.selects RX0 yX0_lengthenChains yX0_lengthenChains, Cond.code yX0_lengthenChains cX0_lengthenChains 4 none, Cond.methodLink RX0 135 yX0_cheapestGiver]
def wsX5_least_r4 : List Cond := [Cond.instanceMethod yX0_cheapestGiver, Cond.selects RX0 yX0_cheapestGiver yX0_cheapestGiver, Cond.code yX0_cheapestGiver cX0_cheapestGiver 3 (some .int), Cond.methodLink RX0 139 yX0_followChain, Cond.instanceMethod yX0_followChain, Cond.selects RX0 yX0_followChain yX0_followChain, Cond.code yX0_followChain cX0_followChain 7 none]
def wsX5_least : List Cond := .code yX5_least cX5_least 1 (some .long) :: ((wsX5_least_r1 ++ (wsX5_least_r2 ++ (wsX5_least_r3 ++ wsX5_least_r4))) ++ wsX50 ++ wsX10 ++ wsX00 ++ wsX40 ++ wsX30)
def wsX5_saved_r1 : List Cond := [Cond.fieldLink RX5 28 "StoneWall" "masonry" "LStoneWall$Masonry;", Cond.fieldLink RX5 111 "StoneWall$Masonry" "size" "I", Cond.fieldLink RX5 12 "StoneWall" "stock" "LStoneWall$Stock;", Cond.constantLong RX5 153 (-1), Cond.fieldLink RX5 44 "StoneWall" "carrying" "LStoneWall$Carrying;", Cond.methodLink RX5 77 yX4_hasHeap, Cond.instanceMethod yX4_hasHeap, Cond.selects RX4 yX4_hasHeap yX4_hasHeap, Cond.initialized RX4, Cond.code yX4_hasHeap cX4_hasHeap 2 (some .boolean), Cond.fieldLink RX4 33 "StoneWall$Stock" "heaps" "I", Cond.methodLink RX5 81 yX4_hasKind, Cond.instanceMethod yX4_hasKind, Cond.selects RX4 yX4_hasKind yX4_hasKind, Cond.code yX4_hasKind cX4_hasKind 2 (some .boolean), Cond.fieldLink RX4 29 "StoneWall$Stock" "kinds" "I", Cond.methodLink RX5 159 yX0_toilSaved, Cond.instanceMethod yX0_toilSaved, Cond.selects RX0 yX0_toilSaved yX0_toilSaved, Cond.initialized RX0, Cond.code yX0_toilSaved cX0_toilSaved 3 (some .long), Cond.methodLink RX0 80 yX0_weight, Cond.instanceMethod yX0_weight, Cond.selects RX0 yX0_weight yX0_weight]
def wsX5_saved_r2 : List Cond := [Cond.code yX0_weight cX0_weight 2 (some .long), Cond.fieldLink RX0 35 "StoneWall$Carrying" "stock" "LStoneWall$Stock;", Cond.fieldLink RX0 87 "StoneWall$Stock" "lengths" "[I", Cond.fieldLink RX0 90 "StoneWall$Stock" "depths" "[I", Cond.methodLink RX0 115 yX0_leastWays, Cond.instanceMethod yX0_leastWays, Cond.selects RX0 yX0_leastWays yX0_leastWays, Cond.code yX0_leastWays cX0_leastWays 6 (some .long), Cond.fieldLink RX0 47 "StoneWall$Stock" "heaps" "I", Cond.fieldLink RX0 16 "StoneWall$Carrying" "room" "[I", Cond.fieldLink RX0 11 "StoneWall$Carrying" "had" "[[I", Cond.fieldLink RX0 20 "StoneWall$Carrying" "given" "[[I", Cond.fieldLink RX0 43 "StoneWall$Carrying" "masonry" "LStoneWall$Masonry;", Cond.fieldLink RX0 62 "StoneWall$Masonry" "size" "I", Cond.fieldLink RX0 67 "StoneWall$Masonry" "kinds" "[I", Cond.fieldLink RX0 70 "StoneWall$Masonry" "places" "[I", Cond.methodLink RX0 119 yJ7_fill_53178, Cond.static yJ7_fill_53178, Cond.initialized RJ7, Cond.code yJ7_fill_53178 cJ7_fill_53178 4 none, Cond.methodLink RX0 125 yX0_supply, Cond.instanceMethod yX0_supply, Cond.selects RX0 yX0_supply yX0_supply, Cond.code yX0_supply cX0_supply 3 (some .int)]
def wsX5_saved_r3 : List Cond := [Cond.fieldLink RX0 29 "StoneWall$Carrying" "chainCost" "[I", Cond.methodLink RX0 128 yX0_findSwaps, Cond.instanceMethod yX0_findSwaps, Cond.selects RX0 yX0_findSwaps yX0_findSwaps, Cond.code yX0_findSwaps cX0_findSwaps 3 none, Cond.fieldLink RX0 26 "StoneWall$Carrying" "swapPlace" "[[I", Cond.fieldLink RX0 39 "StoneWall$Carrying" "shape" "LStoneWall$Shape;", Cond.fieldLink RX0 143 "StoneWall$Shape" "length" "I", Cond.methodLink RX0 146 yX0_weighSwaps, Cond.instanceMethod yX0_weighSwaps, Cond.selects RX0 yX0_weighSwaps yX0_weighSwaps, Cond.code yX0_weighSwaps cX0_weighSwaps 6 none, Cond.fieldLink RX0 23 "StoneWall$Carrying" "swapCost" "[[I", Cond.methodLink RX0 84 yX0_way, Cond.instanceMethod yX0_way, Cond.selects RX0 yX0_way yX0_way, Cond.code yX0_way cX0_way 3 (some .int), Cond.fieldLink RX0 93 "StoneWall$Stock" "xs" "[I", Cond.fieldLink RX0 96 "StoneWall$Shape" "x" "I", Cond.methodLink RX0 101 Lib.Math.abs.name, Cond.static Lib.Math.abs.name, Cond.initialized "java/lang/Math", Cond.code Lib.Math.abs.name Lib.Math.abs.code 1 (some .int), Cond.fieldLink RX0 107 "StoneWall$Stock" "ys" "[I"]
def wsX5_saved_r4 : List Cond := [Cond.fieldLink RX0 110 "StoneWall$Shape" "y" "I", Cond.methodLink RX0 131 yX0_findChains, Cond.instanceMethod yX0_findChains, Cond.selects RX0 yX0_findChains yX0_findChains, Cond.code yX0_findChains cX0_findChains 4 none, Cond.fieldLink RX0 32 "StoneWall$Carrying" "chainFrom" "[I", Cond.methodLink RX0 149 yX0_lengthenChains, Cond.instanceMethod yX0_lengthenChains, Cond.selects RX0 yX0_lengthenChains yX0_lengthenChains, Cond.code yX0_lengthenChains cX0_lengthenChains 4 none, Cond.methodLink RX0 135 yX0_cheapestGiver, Cond.instanceMethod yX0_cheapestGiver, Cond.selects RX0 yX0_cheapestGiver yX0_cheapestGiver, Cond.code yX0_cheapestGiver cX0_cheapestGiver 3 (some .int), Cond.methodLink RX0 139 yX0_followChain, Cond.instanceMethod yX0_followChain, Cond.selects RX0 yX0_followChain yX0_followChain, Cond.code yX0_followChain cX0_followChain 7 none]
def wsX5_saved : List Cond := .code yX5_saved cX5_saved 3 (some .long) :: ((wsX5_saved_r1 ++ (wsX5_saved_r2 ++ (wsX5_saved_r3 ++ wsX5_saved_r4))) ++ wsX50 ++ wsX10 ++ wsX40 ++ wsX00 ++ wsX30)
def wsX5_build_r1 : List Cond := [Cond.fieldLink RX5 28 "StoneWall" "masonry" "LStoneWall$Masonry;", Cond.fieldLink RX5 111 "StoneWall$Masonry" "size" "I", Cond.fieldLink RX5 48 "StoneWall$Masonry" "built" "Z", Cond.constantLong RX5 153 (-1), Cond.fieldLink RX5 44 "StoneWall" "carrying" "LStoneWall$Carrying;", Cond.methodLink RX5 163 yX0_carryAll, Cond.instanceMethod yX0_carryAll, Cond.selects RX0 yX0_carryAll yX0_carryAll, Cond.initialized RX0, Cond.code yX0_carryAll cX0_carryAll 6 (some .long), Cond.fieldLink RX0 43 "StoneWall$Carrying" "masonry" "LStoneWall$Masonry;", Cond.fieldLink RX0 62 "StoneWall$Masonry" "size" "I", Cond.fieldLink RX0 67 "StoneWall$Masonry" "kinds" "[I", Cond.fieldLink RX0 70 "StoneWall$Masonry" "places" "[I", Cond.fieldLink RX0 77 "StoneWall$Masonry" "origins" "[I", Cond.fieldLink RX0 35 "StoneWall$Carrying" "stock" "LStoneWall$Stock;", Cond.fieldLink RX0 53 "StoneWall$Stock" "amounts" "[[I", Cond.methodLink RX0 73 yX0_nearestWith, Cond.instanceMethod yX0_nearestWith, Cond.selects RX0 yX0_nearestWith yX0_nearestWith, Cond.code yX0_nearestWith cX0_nearestWith 6 (some .int), Cond.fieldLink RX0 47 "StoneWall$Stock" "heaps" "I", Cond.methodLink RX0 84 yX0_way, Cond.instanceMethod yX0_way]
def wsX5_build_r2 : List Cond := [Cond.selects RX0 yX0_way yX0_way, Cond.code yX0_way cX0_way 3 (some .int), Cond.fieldLink RX0 93 "StoneWall$Stock" "xs" "[I", Cond.fieldLink RX0 39 "StoneWall$Carrying" "shape" "LStoneWall$Shape;", Cond.fieldLink RX0 96 "StoneWall$Shape" "x" "I", Cond.methodLink RX0 101 Lib.Math.abs.name, Cond.static Lib.Math.abs.name, Cond.initialized "java/lang/Math", Cond.code Lib.Math.abs.name Lib.Math.abs.code 1 (some .int), Cond.fieldLink RX0 107 "StoneWall$Stock" "ys" "[I", Cond.fieldLink RX0 110 "StoneWall$Shape" "y" "I", Cond.methodLink RX0 80 yX0_weight, Cond.instanceMethod yX0_weight, Cond.selects RX0 yX0_weight yX0_weight, Cond.code yX0_weight cX0_weight 2 (some .long), Cond.fieldLink RX0 87 "StoneWall$Stock" "lengths" "[I", Cond.fieldLink RX0 90 "StoneWall$Stock" "depths" "[I", Cond.methodLink RX5 166 yX1_raise, Cond.instanceMethod yX1_raise, Cond.selects RX1 yX1_raise yX1_raise, Cond.initialized RX1, Cond.code yX1_raise cX1_raise 2 none, Cond.fieldLink RX1 46 "StoneWall$Masonry" "built" "Z", Cond.fieldLink RX1 42 "StoneWall$Masonry" "size" "I"]
def wsX5_build_r3 : List Cond := [Cond.fieldLink RX1 27 "StoneWall$Masonry" "stands" "[Z", Cond.methodLink RX1 91 yX1_layAnew, Cond.instanceMethod yX1_layAnew, Cond.selects RX1 yX1_layAnew yX1_layAnew, Cond.code yX1_layAnew cX1_layAnew 3 (some .int), Cond.fieldLink RX1 21 "StoneWall$Masonry" "holds" "[I"]
def wsX5_build : List Cond := .code yX5_build cX5_build 3 (some .long) :: ((wsX5_build_r1 ++ (wsX5_build_r2 ++ wsX5_build_r3)) ++ wsX50 ++ wsX10 ++ wsX00 ++ wsX40 ++ wsX30)
def wsX5_frost_r1 : List Cond := [Cond.fieldLink RX5 28 "StoneWall" "masonry" "LStoneWall$Masonry;", Cond.fieldLink RX5 48 "StoneWall$Masonry" "built" "Z", Cond.fieldLink RX5 169 "StoneWall$Masonry" "frosts" "I", Cond.methodLink RX5 56 yX5_within, Cond.static yX5_within, Cond.initialized RX5, Cond.code yX5_within cX5_within 3 (some .boolean), Cond.methodLink RX5 172 yX1_loosen, Cond.instanceMethod yX1_loosen, Cond.selects RX1 yX1_loosen yX1_loosen, Cond.initialized RX1, Cond.code yX1_loosen cX1_loosen 4 none, Cond.fieldLink RX1 42 "StoneWall$Masonry" "size" "I", Cond.fieldLink RX1 27 "StoneWall$Masonry" "stands" "[Z", Cond.fieldLink RX1 21 "StoneWall$Masonry" "holds" "[I", Cond.methodLink RX1 67 Lib.Math.max.name, Cond.static Lib.Math.max.name, Cond.initialized "java/lang/Math", Cond.code Lib.Math.max.name Lib.Math.max.code 2 (some .int), Cond.methodLink RX1 95 yX1_standsBeside, Cond.instanceMethod yX1_standsBeside, Cond.selects RX1 yX1_standsBeside yX1_standsBeside, Cond.code yX1_standsBeside cX1_standsBeside 3 (some .boolean), Cond.fieldLink RX1 15 "StoneWall$Masonry" "courses" "[I"]
def wsX5_frost_r2 : List Cond := [Cond.methodLink RX5 176 yX1_letSlip, Cond.instanceMethod yX1_letSlip, Cond.selects RX1 yX1_letSlip yX1_letSlip, Cond.code yX1_letSlip cX1_letSlip 3 (some .int), Cond.fieldLink RX1 31 "StoneWall$Masonry" "standingPlaces" "[I", Cond.methodLink RX1 99 yJ7_fill_53178, Cond.static yJ7_fill_53178, Cond.initialized RJ7, Cond.code yJ7_fill_53178 cJ7_fill_53178 4 none, Cond.methodLink RX1 105 yX1_isBorne, Cond.instanceMethod yX1_isBorne, Cond.selects RX1 yX1_isBorne yX1_isBorne, Cond.code yX1_isBorne cX1_isBorne 3 (some .boolean), Cond.fieldLink RX1 18 "StoneWall$Masonry" "places" "[I", Cond.methodLink RX1 108 yX1_placesOf, Cond.instanceMethod yX1_placesOf, Cond.selects RX1 yX1_placesOf yX1_placesOf, Cond.code yX1_placesOf cX1_placesOf 2 (some .int), Cond.methodLink RX1 116 yX1_end, Cond.instanceMethod yX1_end, Cond.selects RX1 yX1_end yX1_end, Cond.code yX1_end cX1_end 2 (some .int), Cond.fieldLink RX1 34 "StoneWall$Masonry" "stock" "LStoneWall$Stock;", Cond.fieldLink RX1 53 "StoneWall$Stock" "lengths" "[I"]
def wsX5_frost_r3 : List Cond := [Cond.fieldLink RX1 9 "StoneWall$Masonry" "kinds" "[I", Cond.methodLink RX1 111 yJ6_bitCount_0f7a4, Cond.static yJ6_bitCount_0f7a4, Cond.initialized RJ6, Cond.code yJ6_bitCount_0f7a4 cJ6_bitCount_0f7a4 1 (some .int), Cond.constant RJ6 265 (1431655765), Cond.constant RJ6 266 (858993459), Cond.constant RJ6 267 (252645135)]
def wsX5_frost : List Cond := .code yX5_frost cX5_frost 2 (some .int) :: ((wsX5_frost_r1 ++ (wsX5_frost_r2 ++ wsX5_frost_r3)) ++ wsX50 ++ wsX10 ++ wsX40)
def wsX5_mend : List Cond := .code yX5_mend cX5_mend 1 (some .int) :: ([.fieldLink RX5 28 "StoneWall" "masonry" "LStoneWall$Masonry;", .fieldLink RX5 48 "StoneWall$Masonry" "built" "Z", .methodLink RX5 179 yX1_layAnew, .instanceMethod yX1_layAnew, .selects RX1 yX1_layAnew yX1_layAnew, .initialized RX1, .code yX1_layAnew cX1_layAnew 3 (some .int), .fieldLink RX1 42 "StoneWall$Masonry" "size" "I", .fieldLink RX1 27 "StoneWall$Masonry" "stands" "[Z", .fieldLink RX1 21 "StoneWall$Masonry" "holds" "[I"] ++ wsX50 ++ wsX10)
def wsX5_take_r1 : List Cond := [Cond.fieldLink RX5 28 "StoneWall" "masonry" "LStoneWall$Masonry;", Cond.fieldLink RX5 48 "StoneWall$Masonry" "built" "Z", Cond.fieldLink RX5 12 "StoneWall" "stock" "LStoneWall$Stock;", Cond.fieldLink RX5 52 "StoneWall$Stock" "kinds" "I", Cond.fieldLink RX5 84 "StoneWall$Stock" "amounts" "[[I", Cond.fieldLink RX5 111 "StoneWall$Masonry" "size" "I", Cond.methodLink RX5 77 yX4_hasHeap, Cond.instanceMethod yX4_hasHeap, Cond.selects RX4 yX4_hasHeap yX4_hasHeap, Cond.initialized RX4, Cond.code yX4_hasHeap cX4_hasHeap 2 (some .boolean), Cond.fieldLink RX4 33 "StoneWall$Stock" "heaps" "I", Cond.methodLink RX5 182 yX1_number, Cond.instanceMethod yX1_number, Cond.selects RX1 yX1_number yX1_number, Cond.initialized RX1, Cond.code yX1_number cX1_number 4 (some .int), Cond.fieldLink RX1 42 "StoneWall$Masonry" "size" "I", Cond.fieldLink RX1 9 "StoneWall$Masonry" "kinds" "[I", Cond.methodLink RX5 60 yX1_forget, Cond.instanceMethod yX1_forget, Cond.selects RX1 yX1_forget yX1_forget, Cond.code yX1_forget cX1_forget 1 none, Cond.fieldLink RX1 46 "StoneWall$Masonry" "built" "Z"]
def wsX5_take_r2 : List Cond := [Cond.fieldLink RX1 50 "StoneWall$Masonry" "frosts" "I"]
def wsX5_take : List Cond := .code yX5_take cX5_take 3 (some .int) :: ((wsX5_take_r1 ++ wsX5_take_r2) ++ wsX50 ++ wsX10 ++ wsX40)
def wsX5_count_r1 : List Cond := [Cond.fieldLink RX5 12 "StoneWall" "stock" "LStoneWall$Stock;", Cond.fieldLink RX5 84 "StoneWall$Stock" "amounts" "[[I", Cond.fieldLink RX5 28 "StoneWall" "masonry" "LStoneWall$Masonry;", Cond.fieldLink RX5 48 "StoneWall$Masonry" "built" "Z", Cond.methodLink RX5 81 yX4_hasKind, Cond.instanceMethod yX4_hasKind, Cond.selects RX4 yX4_hasKind yX4_hasKind, Cond.initialized RX4, Cond.code yX4_hasKind cX4_hasKind 2 (some .boolean), Cond.fieldLink RX4 29 "StoneWall$Stock" "kinds" "I", Cond.methodLink RX5 77 yX4_hasHeap, Cond.instanceMethod yX4_hasHeap, Cond.selects RX4 yX4_hasHeap yX4_hasHeap, Cond.code yX4_hasHeap cX4_hasHeap 2 (some .boolean), Cond.fieldLink RX4 33 "StoneWall$Stock" "heaps" "I", Cond.methodLink RX5 185 yX1_numberStanding, Cond.instanceMethod yX1_numberStanding, Cond.selects RX1 yX1_numberStanding yX1_numberStanding, Cond.initialized RX1, Cond.code yX1_numberStanding cX1_numberStanding 4 (some .int), Cond.fieldLink RX1 42 "StoneWall$Masonry" "size" "I", Cond.fieldLink RX1 9 "StoneWall$Masonry" "kinds" "[I", Cond.methodLink RX1 76 yX1_isStanding, Cond.instanceMethod yX1_isStanding]
def wsX5_count_r2 : List Cond := [Cond.selects RX1 yX1_isStanding yX1_isStanding, Cond.code yX1_isStanding cX1_isStanding 2 (some .boolean), Cond.fieldLink RX1 46 "StoneWall$Masonry" "built" "Z", Cond.fieldLink RX1 27 "StoneWall$Masonry" "stands" "[Z", Cond.methodLink RX5 188 yX1_numberAtFoot, Cond.instanceMethod yX1_numberAtFoot, Cond.selects RX1 yX1_numberAtFoot yX1_numberAtFoot, Cond.code yX1_numberAtFoot cX1_numberAtFoot 2 (some .int), Cond.methodLink RX1 80 yX1_number, Cond.instanceMethod yX1_number, Cond.selects RX1 yX1_number yX1_number, Cond.code yX1_number cX1_number 4 (some .int), Cond.methodLink RX1 83 yX1_numberStanding, Cond.methodLink RX5 191 yX4_inHeaps, Cond.instanceMethod yX4_inHeaps, Cond.selects RX4 yX4_inHeaps yX4_inHeaps, Cond.code yX4_inHeaps cX4_inHeaps 4 (some .int), Cond.fieldLink RX4 26 "StoneWall$Stock" "amounts" "[[I", Cond.methodLink RX5 182 yX1_number]
def wsX5_count : List Cond := .code yX5_count cX5_count 3 (some .int) :: ((wsX5_count_r1 ++ wsX5_count_r2) ++ wsX50 ++ wsX40 ++ wsX10)
def wsX5_look_r1 : List Cond := [Cond.fieldLink RX5 12 "StoneWall" "stock" "LStoneWall$Stock;", Cond.fieldLink RX5 52 "StoneWall$Stock" "kinds" "I", Cond.fieldLink RX5 67 "StoneWall$Stock" "heaps" "I", Cond.fieldLink RX5 28 "StoneWall" "masonry" "LStoneWall$Masonry;", Cond.fieldLink RX5 111 "StoneWall$Masonry" "size" "I", Cond.fieldLink RX5 48 "StoneWall$Masonry" "built" "Z", Cond.fieldLink RX5 37 "StoneWall" "search" "LStoneWall$Search;", Cond.fieldLink RX5 194 "StoneWall$Search" "looks" "I", Cond.fieldLink RX5 169 "StoneWall$Masonry" "frosts" "I", Cond.methodLink RX5 197 yX1_heartingInAll, Cond.instanceMethod yX1_heartingInAll, Cond.selects RX1 yX1_heartingInAll yX1_heartingInAll, Cond.initialized RX1, Cond.code yX1_heartingInAll cX1_heartingInAll 3 (some .int), Cond.fieldLink RX1 42 "StoneWall$Masonry" "size" "I", Cond.methodLink RX1 73 yX1_hearting, Cond.instanceMethod yX1_hearting, Cond.selects RX1 yX1_hearting yX1_hearting, Cond.code yX1_hearting cX1_hearting 3 (some .int), Cond.fieldLink RX1 9 "StoneWall$Masonry" "kinds" "[I", Cond.fieldLink RX1 34 "StoneWall$Masonry" "stock" "LStoneWall$Stock;", Cond.fieldLink RX1 53 "StoneWall$Stock" "lengths" "[I", Cond.fieldLink RX1 38 "StoneWall$Masonry" "shape" "LStoneWall$Shape;", Cond.fieldLink RX1 15 "StoneWall$Masonry" "courses" "[I"]
def wsX5_look_r2 : List Cond := [Cond.fieldLink RX1 64 "StoneWall$Stock" "depths" "[I", Cond.methodLink RX1 67 Lib.Math.max.name, Cond.static Lib.Math.max.name, Cond.initialized "java/lang/Math", Cond.code Lib.Math.max.name Lib.Math.max.code 2 (some .int), Cond.methodLink RX1 58 yX3_width, Cond.instanceMethod yX3_width, Cond.selects RX3 yX3_width yX3_width, Cond.initialized RX3, Cond.code yX3_width cX3_width 2 (some .int), Cond.fieldLink RX3 26 "StoneWall$Shape" "depth" "I", Cond.fieldLink RX3 29 "StoneWall$Shape" "batter" "I", Cond.methodLink RX3 38 Lib.Math.max.name, Cond.methodLink RX5 200 yX1_allAtFoot, Cond.instanceMethod yX1_allAtFoot, Cond.selects RX1 yX1_allAtFoot yX1_allAtFoot, Cond.code yX1_allAtFoot cX1_allAtFoot 3 (some .int), Cond.fieldLink RX1 86 "StoneWall$Stock" "kinds" "I", Cond.methodLink RX1 88 yX1_numberAtFoot, Cond.instanceMethod yX1_numberAtFoot, Cond.selects RX1 yX1_numberAtFoot yX1_numberAtFoot, Cond.code yX1_numberAtFoot cX1_numberAtFoot 2 (some .int), Cond.fieldLink RX1 46 "StoneWall$Masonry" "built" "Z", Cond.methodLink RX1 80 yX1_number]
def wsX5_look_r3 : List Cond := [Cond.instanceMethod yX1_number, Cond.selects RX1 yX1_number yX1_number, Cond.code yX1_number cX1_number 4 (some .int), Cond.methodLink RX1 83 yX1_numberStanding, Cond.instanceMethod yX1_numberStanding, Cond.selects RX1 yX1_numberStanding yX1_numberStanding, Cond.code yX1_numberStanding cX1_numberStanding 4 (some .int), Cond.methodLink RX1 76 yX1_isStanding, Cond.instanceMethod yX1_isStanding, Cond.selects RX1 yX1_isStanding yX1_isStanding, Cond.code yX1_isStanding cX1_isStanding 2 (some .boolean), Cond.fieldLink RX1 27 "StoneWall$Masonry" "stands" "[Z"]
def wsX5_look : List Cond := .code yX5_look cX5_look 2 (some .int) :: ((wsX5_look_r1 ++ (wsX5_look_r2 ++ wsX5_look_r3)) ++ wsX50 ++ wsX40 ++ wsX10 ++ wsX20 ++ wsX30)
def wsX6_init_r1 : List Cond := [Cond.methodLink RX6 1 objectInit, Cond.instanceMethod objectInit, Cond.code objectInit ⟨#[0xb1]⟩ 1 none, Cond.arrayClass .int, Cond.fieldLink RX6 7 "StoneWallModel" "lengths" "[I", Cond.fieldLink RX6 13 "StoneWallModel" "depths" "[I", Cond.fieldLink RX6 16 "StoneWallModel" "hx" "[I", Cond.fieldLink RX6 19 "StoneWallModel" "hy" "[I", Cond.fieldLink RX6 22 "StoneWallModel" "heap" "[I", Cond.fieldLink RX6 25 "StoneWallModel" "had" "[I", Cond.fieldLink RX6 28 "StoneWallModel" "sKind" "[I", Cond.fieldLink RX6 31 "StoneWallModel" "sCourse" "[I", Cond.fieldLink RX6 34 "StoneWallModel" "sPlace" "[I", Cond.fieldLink RX6 37 "StoneWallModel" "sHold" "[I", Cond.arrayClass .boolean, Cond.fieldLink RX6 40 "StoneWallModel" "sStands" "[Z", Cond.fieldLink RX6 44 "StoneWallModel" "sHeap" "[I", Cond.fieldLink RX6 47 "StoneWallModel" "used" "[I", Cond.fieldLink RX6 50 "StoneWallModel" "from" "[I", Cond.fieldLink RX6 53 "StoneWallModel" "taken" "[I", Cond.fieldLink RX6 56 "StoneWallModel" "left" "[I", Cond.arrayClass .long, Cond.fieldLink RX6 59 "StoneWallModel" "far" "[J", Cond.fieldLink RX6 63 "StoneWallModel" "by" "[I"]
def wsX6_init_r2 : List Cond := [Cond.fieldLink RX6 66 "StoneWallModel" "goes" "[Z", Cond.fieldLink RX6 69 "StoneWallModel" "falls" "[I"]
def wsX6_init : List Cond := .code yX6_init cX6_init 1 none :: ((wsX6_init_r1 ++ wsX6_init_r2) ++ wsX60)
def wsX6_thrown : List Cond := .code yX6_thrown cX6_thrown 1 (some .int) :: ([.fieldLink RX6 72 "StoneWallModel" "thrown" "I"] ++ wsX60)
def wsX6_isPlace : List Cond := .code yX6_isPlace cX6_isPlace 2 (some .boolean) :: ([])
def wsX6_noPlan : List Cond := .code yX6_noPlan cX6_noPlan 1 none :: ([.fieldLink RX6 76 "StoneWallModel" "isPlan" "Z", .fieldLink RX6 80 "StoneWallModel" "stones" "I"] ++ wsX60)
def wsX6_kind : List Cond := .code yX6_kind cX6_kind 3 (some .int) :: ([.fieldLink RX6 72 "StoneWallModel" "thrown" "I", .fieldLink RX6 83 "StoneWallModel" "isBuilt" "Z", .fieldLink RX6 86 "StoneWallModel" "kinds" "I", .fieldLink RX6 7 "StoneWallModel" "lengths" "[I", .fieldLink RX6 13 "StoneWallModel" "depths" "[I", .methodLink RX6 89 yX6_noPlan, .instanceMethod yX6_noPlan, .selects RX6 yX6_noPlan yX6_noPlan, .initialized RX6, .code yX6_noPlan cX6_noPlan 1 none, .fieldLink RX6 76 "StoneWallModel" "isPlan" "Z", .fieldLink RX6 80 "StoneWallModel" "stones" "I"] ++ wsX60)
def wsX6_heap : List Cond := .code yX6_heap cX6_heap 3 (some .int) :: ([.fieldLink RX6 72 "StoneWallModel" "thrown" "I", .fieldLink RX6 83 "StoneWallModel" "isBuilt" "Z", .fieldLink RX6 92 "StoneWallModel" "heaps" "I", .fieldLink RX6 16 "StoneWallModel" "hx" "[I", .fieldLink RX6 19 "StoneWallModel" "hy" "[I", .methodLink RX6 95 yX6_isPlace, .static yX6_isPlace, .initialized RX6, .code yX6_isPlace cX6_isPlace 2 (some .boolean), .methodLink RX6 89 yX6_noPlan, .instanceMethod yX6_noPlan, .selects RX6 yX6_noPlan yX6_noPlan, .code yX6_noPlan cX6_noPlan 1 none, .fieldLink RX6 76 "StoneWallModel" "isPlan" "Z", .fieldLink RX6 80 "StoneWallModel" "stones" "I"] ++ wsX60)
def wsX6_stones : List Cond := .code yX6_stones cX6_stones 4 (some .boolean) :: ([.fieldLink RX6 72 "StoneWallModel" "thrown" "I", .fieldLink RX6 83 "StoneWallModel" "isBuilt" "Z", .fieldLink RX6 92 "StoneWallModel" "heaps" "I", .fieldLink RX6 86 "StoneWallModel" "kinds" "I", .fieldLink RX6 22 "StoneWallModel" "heap" "[I", .methodLink RX6 89 yX6_noPlan, .instanceMethod yX6_noPlan, .selects RX6 yX6_noPlan yX6_noPlan, .initialized RX6, .code yX6_noPlan cX6_noPlan 1 none, .fieldLink RX6 76 "StoneWallModel" "isPlan" "Z", .fieldLink RX6 80 "StoneWallModel" "stones" "I"] ++ wsX60)
def wsX6_wall : List Cond := .code yX6_wall cX6_wall 7 (some .boolean) :: ([.fieldLink RX6 72 "StoneWallModel" "thrown" "I", .fieldLink RX6 83 "StoneWallModel" "isBuilt" "Z", .fieldLink RX6 99 "StoneWallModel" "isWall" "Z", .fieldLink RX6 102 "StoneWallModel" "wx" "I", .fieldLink RX6 105 "StoneWallModel" "wy" "I", .fieldLink RX6 108 "StoneWallModel" "wide" "I", .fieldLink RX6 111 "StoneWallModel" "courses" "I", .fieldLink RX6 114 "StoneWallModel" "depth" "I", .fieldLink RX6 117 "StoneWallModel" "batter" "I", .fieldLink RX6 120 "StoneWallModel" "throughBits" "I", .fieldLink RX6 123 "StoneWallModel" "throughMany" "I", .methodLink RX6 95 yX6_isPlace, .static yX6_isPlace, .initialized RX6, .code yX6_isPlace cX6_isPlace 2 (some .boolean), .methodLink RX6 89 yX6_noPlan, .instanceMethod yX6_noPlan, .selects RX6 yX6_noPlan yX6_noPlan, .code yX6_noPlan cX6_noPlan 1 none, .fieldLink RX6 76 "StoneWallModel" "isPlan" "Z", .fieldLink RX6 80 "StoneWallModel" "stones" "I"] ++ wsX60)
def wsX6_through : List Cond := .code yX6_through cX6_through 3 (some .boolean) :: ([.fieldLink RX6 72 "StoneWallModel" "thrown" "I", .fieldLink RX6 83 "StoneWallModel" "isBuilt" "Z", .fieldLink RX6 99 "StoneWallModel" "isWall" "Z", .fieldLink RX6 111 "StoneWallModel" "courses" "I", .fieldLink RX6 120 "StoneWallModel" "throughBits" "I", .fieldLink RX6 123 "StoneWallModel" "throughMany" "I", .methodLink RX6 89 yX6_noPlan, .instanceMethod yX6_noPlan, .selects RX6 yX6_noPlan yX6_noPlan, .initialized RX6, .code yX6_noPlan cX6_noPlan 1 none, .fieldLink RX6 76 "StoneWallModel" "isPlan" "Z", .fieldLink RX6 80 "StoneWallModel" "stones" "I"] ++ wsX60)
def wsX6_width : List Cond := .code yX6_width cX6_width 2 (some .int) :: ([.fieldLink RX6 114 "StoneWallModel" "depth" "I", .fieldLink RX6 117 "StoneWallModel" "batter" "I"] ++ wsX60)
def wsX6_inHeaps : List Cond := .code yX6_inHeaps cX6_inHeaps 4 (some .int) :: ([.fieldLink RX6 92 "StoneWallModel" "heaps" "I", .fieldLink RX6 22 "StoneWallModel" "heap" "[I"] ++ wsX60)
def wsX6_can : List Cond := .code yX6_can cX6_can 7 (some .boolean) :: ([.fieldLink RX6 7 "StoneWallModel" "lengths" "[I", .fieldLink RX6 13 "StoneWallModel" "depths" "[I", .fieldLink RX6 108 "StoneWallModel" "wide" "I", .fieldLink RX6 47 "StoneWallModel" "used" "[I", .fieldLink RX6 31 "StoneWallModel" "sCourse" "[I", .fieldLink RX6 34 "StoneWallModel" "sPlace" "[I", .methodLink RX6 126 yX6_width, .instanceMethod yX6_width, .selects RX6 yX6_width yX6_width, .initialized RX6, .code yX6_width cX6_width 2 (some .int), .fieldLink RX6 114 "StoneWallModel" "depth" "I", .fieldLink RX6 117 "StoneWallModel" "batter" "I", .methodLink RX6 130 yX6_inHeaps, .instanceMethod yX6_inHeaps, .selects RX6 yX6_inHeaps yX6_inHeaps, .code yX6_inHeaps cX6_inHeaps 4 (some .int), .fieldLink RX6 92 "StoneWallModel" "heaps" "I", .fieldLink RX6 22 "StoneWallModel" "heap" "[I"] ++ wsX60)
def wsX6_isFull : List Cond := .code yX6_isFull cX6_isFull 5 (some .boolean) :: ([.fieldLink RX6 120 "StoneWallModel" "throughBits" "I", .fieldLink RX6 31 "StoneWallModel" "sCourse" "[I", .fieldLink RX6 13 "StoneWallModel" "depths" "[I", .fieldLink RX6 28 "StoneWallModel" "sKind" "[I", .fieldLink RX6 123 "StoneWallModel" "throughMany" "I", .methodLink RX6 126 yX6_width, .instanceMethod yX6_width, .selects RX6 yX6_width yX6_width, .initialized RX6, .code yX6_width cX6_width 2 (some .int), .fieldLink RX6 114 "StoneWallModel" "depth" "I", .fieldLink RX6 117 "StoneWallModel" "batter" "I"] ++ wsX60)
def wsX6_plan_r1 : List Cond := [Cond.fieldLink RX6 72 "StoneWallModel" "thrown" "I", Cond.fieldLink RX6 83 "StoneWallModel" "isBuilt" "Z", Cond.fieldLink RX6 99 "StoneWallModel" "isWall" "Z", Cond.fieldLink RX6 133 "StoneWallModel" "looks" "I", Cond.fieldLink RX6 47 "StoneWallModel" "used" "[I", Cond.fieldLink RX6 50 "StoneWallModel" "from" "[I", Cond.fieldLink RX6 111 "StoneWallModel" "courses" "I", Cond.fieldLink RX6 86 "StoneWallModel" "kinds" "I", Cond.fieldLink RX6 28 "StoneWallModel" "sKind" "[I", Cond.fieldLink RX6 31 "StoneWallModel" "sCourse" "[I", Cond.fieldLink RX6 34 "StoneWallModel" "sPlace" "[I", Cond.fieldLink RX6 7 "StoneWallModel" "lengths" "[I", Cond.fieldLink RX6 108 "StoneWallModel" "wide" "I", Cond.fieldLink RX6 76 "StoneWallModel" "isPlan" "Z", Cond.fieldLink RX6 80 "StoneWallModel" "stones" "I", Cond.fieldLink RX6 25 "StoneWallModel" "had" "[I", Cond.fieldLink RX6 22 "StoneWallModel" "heap" "[I", Cond.methodLink RX6 89 yX6_noPlan, Cond.instanceMethod yX6_noPlan, Cond.selects RX6 yX6_noPlan yX6_noPlan, Cond.initialized RX6, Cond.code yX6_noPlan cX6_noPlan 1 none, Cond.methodLink RX6 136 yX6_can, Cond.instanceMethod yX6_can]
def wsX6_plan_r2 : List Cond := [Cond.selects RX6 yX6_can yX6_can, Cond.code yX6_can cX6_can 7 (some .boolean), Cond.fieldLink RX6 13 "StoneWallModel" "depths" "[I", Cond.methodLink RX6 126 yX6_width, Cond.instanceMethod yX6_width, Cond.selects RX6 yX6_width yX6_width, Cond.code yX6_width cX6_width 2 (some .int), Cond.fieldLink RX6 114 "StoneWallModel" "depth" "I", Cond.fieldLink RX6 117 "StoneWallModel" "batter" "I", Cond.methodLink RX6 130 yX6_inHeaps, Cond.instanceMethod yX6_inHeaps, Cond.selects RX6 yX6_inHeaps yX6_inHeaps, Cond.code yX6_inHeaps cX6_inHeaps 4 (some .int), Cond.fieldLink RX6 92 "StoneWallModel" "heaps" "I", Cond.methodLink RX6 140 yX6_isFull, Cond.instanceMethod yX6_isFull, Cond.selects RX6 yX6_isFull yX6_isFull, Cond.code yX6_isFull cX6_isFull 5 (some .boolean), Cond.fieldLink RX6 120 "StoneWallModel" "throughBits" "I", Cond.fieldLink RX6 123 "StoneWallModel" "throughMany" "I"]
def wsX6_plan : List Cond := .code yX6_plan cX6_plan 5 (some .int) :: ((wsX6_plan_r1 ++ wsX6_plan_r2) ++ wsX60)
def wsX6_hearting : List Cond := .code yX6_hearting cX6_hearting 3 (some .int) :: ([.fieldLink RX6 31 "StoneWallModel" "sCourse" "[I", .fieldLink RX6 13 "StoneWallModel" "depths" "[I", .fieldLink RX6 28 "StoneWallModel" "sKind" "[I", .fieldLink RX6 7 "StoneWallModel" "lengths" "[I", .methodLink RX6 126 yX6_width, .instanceMethod yX6_width, .selects RX6 yX6_width yX6_width, .initialized RX6, .code yX6_width cX6_width 2 (some .int), .fieldLink RX6 114 "StoneWallModel" "depth" "I", .fieldLink RX6 117 "StoneWallModel" "batter" "I"] ++ wsX60)
def wsX6_fails : List Cond := .code yX6_fails cX6_fails 2 (some .int) :: ([.fieldLink RX6 72 "StoneWallModel" "thrown" "I"] ++ wsX60)
def wsX6_stone_r1 : List Cond := [Cond.fieldLink RX6 72 "StoneWallModel" "thrown" "I", Cond.fieldLink RX6 80 "StoneWallModel" "stones" "I", Cond.fieldLink RX6 28 "StoneWallModel" "sKind" "[I", Cond.fieldLink RX6 31 "StoneWallModel" "sCourse" "[I", Cond.fieldLink RX6 34 "StoneWallModel" "sPlace" "[I", Cond.fieldLink RX6 13 "StoneWallModel" "depths" "[I", Cond.fieldLink RX6 83 "StoneWallModel" "isBuilt" "Z", Cond.fieldLink RX6 37 "StoneWallModel" "sHold" "[I", Cond.fieldLink RX6 40 "StoneWallModel" "sStands" "[Z", Cond.fieldLink RX6 44 "StoneWallModel" "sHeap" "[I", Cond.methodLink RX6 143 yX6_fails, Cond.instanceMethod yX6_fails, Cond.selects RX6 yX6_fails yX6_fails, Cond.initialized RX6, Cond.code yX6_fails cX6_fails 2 (some .int), Cond.methodLink RX6 146 yX6_hearting, Cond.instanceMethod yX6_hearting, Cond.selects RX6 yX6_hearting yX6_hearting, Cond.code yX6_hearting cX6_hearting 3 (some .int), Cond.fieldLink RX6 7 "StoneWallModel" "lengths" "[I", Cond.methodLink RX6 126 yX6_width, Cond.instanceMethod yX6_width, Cond.selects RX6 yX6_width yX6_width, Cond.code yX6_width cX6_width 2 (some .int)]
def wsX6_stone_r2 : List Cond := [Cond.fieldLink RX6 114 "StoneWallModel" "depth" "I", Cond.fieldLink RX6 117 "StoneWallModel" "batter" "I"]
def wsX6_stone : List Cond := .code yX6_stone cX6_stone 3 (some .int) :: ((wsX6_stone_r1 ++ wsX6_stone_r2) ++ wsX60)
def wsX6_over : List Cond := .code yX6_over cX6_over 4 (some .int) :: ([.fieldLink RX6 72 "StoneWallModel" "thrown" "I", .fieldLink RX6 80 "StoneWallModel" "stones" "I", .fieldLink RX6 31 "StoneWallModel" "sCourse" "[I", .fieldLink RX6 34 "StoneWallModel" "sPlace" "[I", .fieldLink RX6 7 "StoneWallModel" "lengths" "[I", .fieldLink RX6 28 "StoneWallModel" "sKind" "[I"] ++ wsX60)
def wsX6_size : List Cond := .code yX6_size cX6_size 1 (some .int) :: ([])
def wsX6_toil : List Cond := .code yX6_toil cX6_toil 4 (some .long) :: ([.fieldLink RX6 28 "StoneWallModel" "sKind" "[I", .fieldLink RX6 7 "StoneWallModel" "lengths" "[I", .fieldLink RX6 13 "StoneWallModel" "depths" "[I", .fieldLink RX6 16 "StoneWallModel" "hx" "[I", .fieldLink RX6 102 "StoneWallModel" "wx" "I", .fieldLink RX6 34 "StoneWallModel" "sPlace" "[I", .fieldLink RX6 19 "StoneWallModel" "hy" "[I", .fieldLink RX6 105 "StoneWallModel" "wy" "I", .methodLink RX6 149 yX6_size, .static yX6_size, .initialized RX6, .code yX6_size cX6_size 1 (some .int)] ++ wsX60)
def wsX6_add : List Cond := .code yX6_add cX6_add 10 (some .long) :: ([.fieldLink RX6 92 "StoneWallModel" "heaps" "I", .fieldLink RX6 59 "StoneWallModel" "far" "[J", .fieldLink RX6 63 "StoneWallModel" "by" "[I", .fieldLink RX6 53 "StoneWallModel" "taken" "[I", .fieldLink RX6 56 "StoneWallModel" "left" "[I", .methodLink RX6 156 yX6_toil, .instanceMethod yX6_toil, .selects RX6 yX6_toil yX6_toil, .initialized RX6, .code yX6_toil cX6_toil 4 (some .long), .fieldLink RX6 28 "StoneWallModel" "sKind" "[I", .fieldLink RX6 7 "StoneWallModel" "lengths" "[I", .fieldLink RX6 13 "StoneWallModel" "depths" "[I", .fieldLink RX6 16 "StoneWallModel" "hx" "[I", .fieldLink RX6 102 "StoneWallModel" "wx" "I", .fieldLink RX6 34 "StoneWallModel" "sPlace" "[I", .fieldLink RX6 19 "StoneWallModel" "hy" "[I", .fieldLink RX6 105 "StoneWallModel" "wy" "I", .methodLink RX6 149 yX6_size, .static yX6_size, .code yX6_size cX6_size 1 (some .int)] ++ wsX60)
def wsX6_leastOf_r1 : List Cond := [Cond.fieldLink RX6 92 "StoneWallModel" "heaps" "I", Cond.fieldLink RX6 56 "StoneWallModel" "left" "[I", Cond.fieldLink RX6 25 "StoneWallModel" "had" "[I", Cond.fieldLink RX6 80 "StoneWallModel" "stones" "I", Cond.fieldLink RX6 53 "StoneWallModel" "taken" "[I", Cond.fieldLink RX6 28 "StoneWallModel" "sKind" "[I", Cond.methodLink RX6 152 yX6_add, Cond.instanceMethod yX6_add, Cond.selects RX6 yX6_add yX6_add, Cond.initialized RX6, Cond.code yX6_add cX6_add 10 (some .long), Cond.fieldLink RX6 59 "StoneWallModel" "far" "[J", Cond.fieldLink RX6 63 "StoneWallModel" "by" "[I", Cond.methodLink RX6 156 yX6_toil, Cond.instanceMethod yX6_toil, Cond.selects RX6 yX6_toil yX6_toil, Cond.code yX6_toil cX6_toil 4 (some .long), Cond.fieldLink RX6 7 "StoneWallModel" "lengths" "[I", Cond.fieldLink RX6 13 "StoneWallModel" "depths" "[I", Cond.fieldLink RX6 16 "StoneWallModel" "hx" "[I", Cond.fieldLink RX6 102 "StoneWallModel" "wx" "I", Cond.fieldLink RX6 34 "StoneWallModel" "sPlace" "[I", Cond.fieldLink RX6 19 "StoneWallModel" "hy" "[I", Cond.fieldLink RX6 105 "StoneWallModel" "wy" "I"]
def wsX6_leastOf_r2 : List Cond := [Cond.methodLink RX6 149 yX6_size, Cond.static yX6_size, Cond.code yX6_size cX6_size 1 (some .int)]
def wsX6_leastOf : List Cond := .code yX6_leastOf cX6_leastOf 7 (some .long) :: ((wsX6_leastOf_r1 ++ wsX6_leastOf_r2) ++ wsX60)
def wsX6_leastAll_r1 : List Cond := [Cond.fieldLink RX6 86 "StoneWallModel" "kinds" "I", Cond.methodLink RX6 159 yX6_leastOf, Cond.instanceMethod yX6_leastOf, Cond.selects RX6 yX6_leastOf yX6_leastOf, Cond.initialized RX6, Cond.code yX6_leastOf cX6_leastOf 7 (some .long), Cond.fieldLink RX6 92 "StoneWallModel" "heaps" "I", Cond.fieldLink RX6 56 "StoneWallModel" "left" "[I", Cond.fieldLink RX6 25 "StoneWallModel" "had" "[I", Cond.fieldLink RX6 80 "StoneWallModel" "stones" "I", Cond.fieldLink RX6 53 "StoneWallModel" "taken" "[I", Cond.fieldLink RX6 28 "StoneWallModel" "sKind" "[I", Cond.methodLink RX6 152 yX6_add, Cond.instanceMethod yX6_add, Cond.selects RX6 yX6_add yX6_add, Cond.code yX6_add cX6_add 10 (some .long), Cond.fieldLink RX6 59 "StoneWallModel" "far" "[J", Cond.fieldLink RX6 63 "StoneWallModel" "by" "[I", Cond.methodLink RX6 156 yX6_toil, Cond.instanceMethod yX6_toil, Cond.selects RX6 yX6_toil yX6_toil, Cond.code yX6_toil cX6_toil 4 (some .long), Cond.fieldLink RX6 7 "StoneWallModel" "lengths" "[I", Cond.fieldLink RX6 13 "StoneWallModel" "depths" "[I"]
def wsX6_leastAll_r2 : List Cond := [Cond.fieldLink RX6 16 "StoneWallModel" "hx" "[I", Cond.fieldLink RX6 102 "StoneWallModel" "wx" "I", Cond.fieldLink RX6 34 "StoneWallModel" "sPlace" "[I", Cond.fieldLink RX6 19 "StoneWallModel" "hy" "[I", Cond.fieldLink RX6 105 "StoneWallModel" "wy" "I", Cond.methodLink RX6 149 yX6_size, Cond.static yX6_size, Cond.code yX6_size cX6_size 1 (some .int)]
def wsX6_leastAll : List Cond := .code yX6_leastAll cX6_leastAll 4 (some .long) :: ((wsX6_leastAll_r1 ++ wsX6_leastAll_r2) ++ wsX60)
def wsX6_least_r1 : List Cond := [Cond.fieldLink RX6 72 "StoneWallModel" "thrown" "I", Cond.fieldLink RX6 76 "StoneWallModel" "isPlan" "Z", Cond.constantLong RX6 167 (-1), Cond.methodLink RX6 163 yX6_leastAll, Cond.instanceMethod yX6_leastAll, Cond.selects RX6 yX6_leastAll yX6_leastAll, Cond.initialized RX6, Cond.code yX6_leastAll cX6_leastAll 4 (some .long), Cond.fieldLink RX6 86 "StoneWallModel" "kinds" "I", Cond.methodLink RX6 159 yX6_leastOf, Cond.instanceMethod yX6_leastOf, Cond.selects RX6 yX6_leastOf yX6_leastOf, Cond.code yX6_leastOf cX6_leastOf 7 (some .long), Cond.fieldLink RX6 92 "StoneWallModel" "heaps" "I", Cond.fieldLink RX6 56 "StoneWallModel" "left" "[I", Cond.fieldLink RX6 25 "StoneWallModel" "had" "[I", Cond.fieldLink RX6 80 "StoneWallModel" "stones" "I", Cond.fieldLink RX6 53 "StoneWallModel" "taken" "[I", Cond.fieldLink RX6 28 "StoneWallModel" "sKind" "[I", Cond.methodLink RX6 152 yX6_add, Cond.instanceMethod yX6_add, Cond.selects RX6 yX6_add yX6_add, Cond.code yX6_add cX6_add 10 (some .long), Cond.fieldLink RX6 59 "StoneWallModel" "far" "[J"]
def wsX6_least_r2 : List Cond := [Cond.fieldLink RX6 63 "StoneWallModel" "by" "[I", Cond.methodLink RX6 156 yX6_toil, Cond.instanceMethod yX6_toil, Cond.selects RX6 yX6_toil yX6_toil, Cond.code yX6_toil cX6_toil 4 (some .long), Cond.fieldLink RX6 7 "StoneWallModel" "lengths" "[I", Cond.fieldLink RX6 13 "StoneWallModel" "depths" "[I", Cond.fieldLink RX6 16 "StoneWallModel" "hx" "[I", Cond.fieldLink RX6 102 "StoneWallModel" "wx" "I", Cond.fieldLink RX6 34 "StoneWallModel" "sPlace" "[I", Cond.fieldLink RX6 19 "StoneWallModel" "hy" "[I", Cond.fieldLink RX6 105 "StoneWallModel" "wy" "I", Cond.methodLink RX6 149 yX6_size, Cond.static yX6_size, Cond.code yX6_size cX6_size 1 (some .int)]
def wsX6_least : List Cond := .code yX6_least cX6_least 1 (some .long) :: ((wsX6_least_r1 ++ wsX6_least_r2) ++ wsX60)
def wsX6_saved_r1 : List Cond := [Cond.fieldLink RX6 72 "StoneWallModel" "thrown" "I", Cond.fieldLink RX6 76 "StoneWallModel" "isPlan" "Z", Cond.fieldLink RX6 92 "StoneWallModel" "heaps" "I", Cond.fieldLink RX6 86 "StoneWallModel" "kinds" "I", Cond.constantLong RX6 167 (-1), Cond.methodLink RX6 159 yX6_leastOf, Cond.instanceMethod yX6_leastOf, Cond.selects RX6 yX6_leastOf yX6_leastOf, Cond.initialized RX6, Cond.code yX6_leastOf cX6_leastOf 7 (some .long), Cond.fieldLink RX6 56 "StoneWallModel" "left" "[I", Cond.fieldLink RX6 25 "StoneWallModel" "had" "[I", Cond.fieldLink RX6 80 "StoneWallModel" "stones" "I", Cond.fieldLink RX6 53 "StoneWallModel" "taken" "[I", Cond.fieldLink RX6 28 "StoneWallModel" "sKind" "[I", Cond.methodLink RX6 152 yX6_add, Cond.instanceMethod yX6_add, Cond.selects RX6 yX6_add yX6_add, Cond.code yX6_add cX6_add 10 (some .long), Cond.fieldLink RX6 59 "StoneWallModel" "far" "[J", Cond.fieldLink RX6 63 "StoneWallModel" "by" "[I", Cond.methodLink RX6 156 yX6_toil, Cond.instanceMethod yX6_toil, Cond.selects RX6 yX6_toil yX6_toil]
def wsX6_saved_r2 : List Cond := [Cond.code yX6_toil cX6_toil 4 (some .long), Cond.fieldLink RX6 7 "StoneWallModel" "lengths" "[I", Cond.fieldLink RX6 13 "StoneWallModel" "depths" "[I", Cond.fieldLink RX6 16 "StoneWallModel" "hx" "[I", Cond.fieldLink RX6 102 "StoneWallModel" "wx" "I", Cond.fieldLink RX6 34 "StoneWallModel" "sPlace" "[I", Cond.fieldLink RX6 19 "StoneWallModel" "hy" "[I", Cond.fieldLink RX6 105 "StoneWallModel" "wy" "I", Cond.methodLink RX6 149 yX6_size, Cond.static yX6_size, Cond.code yX6_size cX6_size 1 (some .int)]
def wsX6_saved : List Cond := .code yX6_saved cX6_saved 3 (some .long) :: ((wsX6_saved_r1 ++ wsX6_saved_r2) ++ wsX60)
def wsX6_build_r1 : List Cond := [Cond.fieldLink RX6 72 "StoneWallModel" "thrown" "I", Cond.fieldLink RX6 76 "StoneWallModel" "isPlan" "Z", Cond.fieldLink RX6 83 "StoneWallModel" "isBuilt" "Z", Cond.constantLong RX6 167 (-1), Cond.fieldLink RX6 169 "StoneWallModel" "frosts" "I", Cond.fieldLink RX6 80 "StoneWallModel" "stones" "I", Cond.fieldLink RX6 92 "StoneWallModel" "heaps" "I", Cond.fieldLink RX6 22 "StoneWallModel" "heap" "[I", Cond.fieldLink RX6 28 "StoneWallModel" "sKind" "[I", Cond.fieldLink RX6 44 "StoneWallModel" "sHeap" "[I", Cond.fieldLink RX6 37 "StoneWallModel" "sHold" "[I", Cond.fieldLink RX6 40 "StoneWallModel" "sStands" "[Z", Cond.methodLink RX6 156 yX6_toil, Cond.instanceMethod yX6_toil, Cond.selects RX6 yX6_toil yX6_toil, Cond.initialized RX6, Cond.code yX6_toil cX6_toil 4 (some .long), Cond.fieldLink RX6 7 "StoneWallModel" "lengths" "[I", Cond.fieldLink RX6 13 "StoneWallModel" "depths" "[I", Cond.fieldLink RX6 16 "StoneWallModel" "hx" "[I", Cond.fieldLink RX6 102 "StoneWallModel" "wx" "I", Cond.fieldLink RX6 34 "StoneWallModel" "sPlace" "[I", Cond.fieldLink RX6 19 "StoneWallModel" "hy" "[I", Cond.fieldLink RX6 105 "StoneWallModel" "wy" "I"]
def wsX6_build_r2 : List Cond := [Cond.methodLink RX6 149 yX6_size, Cond.static yX6_size, Cond.code yX6_size cX6_size 1 (some .int)]
def wsX6_build : List Cond := .code yX6_build cX6_build 6 (some .long) :: ((wsX6_build_r1 ++ wsX6_build_r2) ++ wsX60)
def wsX6_beside : List Cond := .code yX6_beside cX6_beside 4 (some .boolean) :: ([.fieldLink RX6 80 "StoneWallModel" "stones" "I", .fieldLink RX6 31 "StoneWallModel" "sCourse" "[I", .fieldLink RX6 40 "StoneWallModel" "sStands" "[Z", .fieldLink RX6 34 "StoneWallModel" "sPlace" "[I", .fieldLink RX6 7 "StoneWallModel" "lengths" "[I", .fieldLink RX6 28 "StoneWallModel" "sKind" "[I"] ++ wsX60)
def wsX6_lies : List Cond := .code yX6_lies cX6_lies 9 (some .int) :: ([.fieldLink RX6 34 "StoneWallModel" "sPlace" "[I", .fieldLink RX6 7 "StoneWallModel" "lengths" "[I", .fieldLink RX6 28 "StoneWallModel" "sKind" "[I", .fieldLink RX6 80 "StoneWallModel" "stones" "I", .fieldLink RX6 31 "StoneWallModel" "sCourse" "[I", .fieldLink RX6 40 "StoneWallModel" "sStands" "[Z"] ++ wsX60)
def wsX6_frost : List Cond := .code yX6_frost cX6_frost 5 (some .int) :: ([.fieldLink RX6 72 "StoneWallModel" "thrown" "I", .fieldLink RX6 83 "StoneWallModel" "isBuilt" "Z", .fieldLink RX6 169 "StoneWallModel" "frosts" "I", .fieldLink RX6 80 "StoneWallModel" "stones" "I", .fieldLink RX6 69 "StoneWallModel" "falls" "[I", .fieldLink RX6 40 "StoneWallModel" "sStands" "[Z", .fieldLink RX6 37 "StoneWallModel" "sHold" "[I", .fieldLink RX6 66 "StoneWallModel" "goes" "[Z", .fieldLink RX6 31 "StoneWallModel" "sCourse" "[I", .fieldLink RX6 7 "StoneWallModel" "lengths" "[I", .fieldLink RX6 28 "StoneWallModel" "sKind" "[I", .methodLink RX6 172 yX6_beside, .instanceMethod yX6_beside, .selects RX6 yX6_beside yX6_beside, .initialized RX6, .code yX6_beside cX6_beside 4 (some .boolean), .fieldLink RX6 34 "StoneWallModel" "sPlace" "[I", .methodLink RX6 176 yX6_lies, .instanceMethod yX6_lies, .selects RX6 yX6_lies yX6_lies, .code yX6_lies cX6_lies 9 (some .int)] ++ wsX60)
def wsX6_mend : List Cond := .code yX6_mend cX6_mend 3 (some .int) :: ([.fieldLink RX6 72 "StoneWallModel" "thrown" "I", .fieldLink RX6 83 "StoneWallModel" "isBuilt" "Z", .fieldLink RX6 80 "StoneWallModel" "stones" "I", .fieldLink RX6 40 "StoneWallModel" "sStands" "[Z", .fieldLink RX6 37 "StoneWallModel" "sHold" "[I"] ++ wsX60)
def wsX6_take : List Cond := .code yX6_take cX6_take 5 (some .int) :: ([.fieldLink RX6 72 "StoneWallModel" "thrown" "I", .fieldLink RX6 83 "StoneWallModel" "isBuilt" "Z", .fieldLink RX6 92 "StoneWallModel" "heaps" "I", .fieldLink RX6 86 "StoneWallModel" "kinds" "I", .fieldLink RX6 22 "StoneWallModel" "heap" "[I", .fieldLink RX6 80 "StoneWallModel" "stones" "I", .fieldLink RX6 28 "StoneWallModel" "sKind" "[I", .fieldLink RX6 169 "StoneWallModel" "frosts" "I", .methodLink RX6 89 yX6_noPlan, .instanceMethod yX6_noPlan, .selects RX6 yX6_noPlan yX6_noPlan, .initialized RX6, .code yX6_noPlan cX6_noPlan 1 none, .fieldLink RX6 76 "StoneWallModel" "isPlan" "Z"] ++ wsX60)
def wsX6_there : List Cond := .code yX6_there cX6_there 5 (some .int) :: ([.fieldLink RX6 80 "StoneWallModel" "stones" "I", .fieldLink RX6 83 "StoneWallModel" "isBuilt" "Z", .fieldLink RX6 28 "StoneWallModel" "sKind" "[I", .fieldLink RX6 40 "StoneWallModel" "sStands" "[Z"] ++ wsX60)
def wsX6_count : List Cond := .code yX6_count cX6_count 3 (some .int) :: ([.fieldLink RX6 72 "StoneWallModel" "thrown" "I", .fieldLink RX6 86 "StoneWallModel" "kinds" "I", .fieldLink RX6 92 "StoneWallModel" "heaps" "I", .fieldLink RX6 22 "StoneWallModel" "heap" "[I", .methodLink RX6 179 yX6_there, .instanceMethod yX6_there, .selects RX6 yX6_there yX6_there, .initialized RX6, .code yX6_there cX6_there 5 (some .int), .fieldLink RX6 80 "StoneWallModel" "stones" "I", .fieldLink RX6 83 "StoneWallModel" "isBuilt" "Z", .fieldLink RX6 28 "StoneWallModel" "sKind" "[I", .fieldLink RX6 40 "StoneWallModel" "sStands" "[Z", .methodLink RX6 130 yX6_inHeaps, .instanceMethod yX6_inHeaps, .selects RX6 yX6_inHeaps yX6_inHeaps, .code yX6_inHeaps cX6_inHeaps 4 (some .int)] ++ wsX60)
def wsX6_look_r1 : List Cond := [Cond.fieldLink RX6 72 "StoneWallModel" "thrown" "I", Cond.fieldLink RX6 86 "StoneWallModel" "kinds" "I", Cond.fieldLink RX6 92 "StoneWallModel" "heaps" "I", Cond.fieldLink RX6 80 "StoneWallModel" "stones" "I", Cond.fieldLink RX6 83 "StoneWallModel" "isBuilt" "Z", Cond.fieldLink RX6 133 "StoneWallModel" "looks" "I", Cond.fieldLink RX6 169 "StoneWallModel" "frosts" "I", Cond.methodLink RX6 146 yX6_hearting, Cond.instanceMethod yX6_hearting, Cond.selects RX6 yX6_hearting yX6_hearting, Cond.initialized RX6, Cond.code yX6_hearting cX6_hearting 3 (some .int), Cond.fieldLink RX6 31 "StoneWallModel" "sCourse" "[I", Cond.fieldLink RX6 13 "StoneWallModel" "depths" "[I", Cond.fieldLink RX6 28 "StoneWallModel" "sKind" "[I", Cond.fieldLink RX6 7 "StoneWallModel" "lengths" "[I", Cond.methodLink RX6 126 yX6_width, Cond.instanceMethod yX6_width, Cond.selects RX6 yX6_width yX6_width, Cond.code yX6_width cX6_width 2 (some .int), Cond.fieldLink RX6 114 "StoneWallModel" "depth" "I", Cond.fieldLink RX6 117 "StoneWallModel" "batter" "I", Cond.methodLink RX6 179 yX6_there, Cond.instanceMethod yX6_there]
def wsX6_look_r2 : List Cond := [Cond.selects RX6 yX6_there yX6_there, Cond.code yX6_there cX6_there 5 (some .int), Cond.fieldLink RX6 40 "StoneWallModel" "sStands" "[Z"]
def wsX6_look : List Cond := .code yX6_look cX6_look 4 (some .int) :: ((wsX6_look_r1 ++ wsX6_look_r2) ++ wsX60)
def wsJ9_abs_0f7a4 : List Cond := .code yJ9_abs_0f7a4 cJ9_abs_0f7a4 1 (some .int) :: ([])
def wsJ9_max_7cf53 : List Cond := .code yJ9_max_7cf53 cJ9_max_7cf53 2 (some .int) :: ([])
abbrev vwCl : List vw_C := [(RX0, TX0, 10), (RX1, TX1, 12), (RX2, TX2, 8), (RX3, TX3, 9), (RX4, TX4, 7), (RX5, TX5, 5), (RX6, TX6, 37)]
end
section
theorem dX0_init_0 : decode cX0_init 0 = .ok (.aload_n 0, 1) := by decide +kernel
theorem dX0_init_1 : decode cX0_init 1 = .ok (.invokespecial 3, 3) := by decide +kernel
theorem dX0_init_4 : decode cX0_init 4 = .ok (.aload_n 0, 1) := by decide +kernel
theorem dX0_init_5 : decode cX0_init 5 = .ok (.iconst 5, 1) := by decide +kernel
theorem dX0_init_6 : decode cX0_init 6 = .ok (.bipush 8, 2) := by decide +kernel
theorem dX0_init_8 : decode cX0_init 8 = .ok (.multianewarray 9 2, 4) := by decide +kernel
theorem dX0_init_12 : decode cX0_init 12 = .ok (.putfield 11, 3) := by decide +kernel
theorem dX0_init_15 : decode cX0_init 15 = .ok (.aload_n 0, 1) := by decide +kernel
theorem dX0_init_16 : decode cX0_init 16 = .ok (.iconst 5, 1) := by decide +kernel
theorem dX0_init_17 : decode cX0_init 17 = .ok (.newarray .int, 2) := by decide +kernel
theorem dX0_init_19 : decode cX0_init 19 = .ok (.putfield 16, 3) := by decide +kernel
theorem dX0_init_22 : decode cX0_init 22 = .ok (.aload_n 0, 1) := by decide +kernel
theorem dX0_init_23 : decode cX0_init 23 = .ok (.iconst 5, 1) := by decide +kernel
theorem dX0_init_24 : decode cX0_init 24 = .ok (.bipush 24, 2) := by decide +kernel
theorem dX0_init_26 : decode cX0_init 26 = .ok (.multianewarray 9 2, 4) := by decide +kernel
theorem dX0_init_30 : decode cX0_init 30 = .ok (.putfield 20, 3) := by decide +kernel
theorem dX0_init_33 : decode cX0_init 33 = .ok (.aload_n 0, 1) := by decide +kernel
theorem dX0_init_34 : decode cX0_init 34 = .ok (.iconst 5, 1) := by decide +kernel
theorem dX0_init_35 : decode cX0_init 35 = .ok (.iconst 5, 1) := by decide +kernel
theorem dX0_init_36 : decode cX0_init 36 = .ok (.multianewarray 9 2, 4) := by decide +kernel
theorem dX0_init_40 : decode cX0_init 40 = .ok (.putfield 23, 3) := by decide +kernel
theorem dX0_init_43 : decode cX0_init 43 = .ok (.aload_n 0, 1) := by decide +kernel
theorem dX0_init_44 : decode cX0_init 44 = .ok (.iconst 5, 1) := by decide +kernel
theorem dX0_init_45 : decode cX0_init 45 = .ok (.iconst 5, 1) := by decide +kernel
theorem dX0_init_46 : decode cX0_init 46 = .ok (.multianewarray 9 2, 4) := by decide +kernel
theorem dX0_init_50 : decode cX0_init 50 = .ok (.putfield 26, 3) := by decide +kernel
theorem dX0_init_53 : decode cX0_init 53 = .ok (.aload_n 0, 1) := by decide +kernel
theorem dX0_init_54 : decode cX0_init 54 = .ok (.iconst 5, 1) := by decide +kernel
theorem dX0_init_55 : decode cX0_init 55 = .ok (.newarray .int, 2) := by decide +kernel
theorem dX0_init_57 : decode cX0_init 57 = .ok (.putfield 29, 3) := by decide +kernel
theorem dX0_init_60 : decode cX0_init 60 = .ok (.aload_n 0, 1) := by decide +kernel
theorem dX0_init_61 : decode cX0_init 61 = .ok (.iconst 5, 1) := by decide +kernel
theorem dX0_init_62 : decode cX0_init 62 = .ok (.newarray .int, 2) := by decide +kernel
theorem dX0_init_64 : decode cX0_init 64 = .ok (.putfield 32, 3) := by decide +kernel
theorem dX0_init_67 : decode cX0_init 67 = .ok (.aload_n 0, 1) := by decide +kernel
theorem dX0_init_68 : decode cX0_init 68 = .ok (.aload_n 1, 1) := by decide +kernel
theorem dX0_init_69 : decode cX0_init 69 = .ok (.putfield 35, 3) := by decide +kernel
theorem dX0_init_72 : decode cX0_init 72 = .ok (.aload_n 0, 1) := by decide +kernel
theorem dX0_init_73 : decode cX0_init 73 = .ok (.aload_n 2, 1) := by decide +kernel
theorem dX0_init_74 : decode cX0_init 74 = .ok (.putfield 39, 3) := by decide +kernel
theorem dX0_init_77 : decode cX0_init 77 = .ok (.aload_n 0, 1) := by decide +kernel
theorem dX0_init_78 : decode cX0_init 78 = .ok (.aload_n 3, 1) := by decide +kernel
theorem dX0_init_79 : decode cX0_init 79 = .ok (.putfield 43, 3) := by decide +kernel
theorem dX0_init_82 : decode cX0_init 82 = .ok (.return_, 1) := by decide +kernel
theorem dX0_rememberHeaps_0 : decode cX0_rememberHeaps 0 = .ok (.iconst 0, 1) := by decide +kernel
theorem dX0_rememberHeaps_1 : decode cX0_rememberHeaps 1 = .ok (.istore_n 1, 1) := by decide +kernel
theorem dX0_rememberHeaps_2 : decode cX0_rememberHeaps 2 = .ok (.iload_n 1, 1) := by decide +kernel
theorem dX0_rememberHeaps_3 : decode cX0_rememberHeaps 3 = .ok (.aload_n 0, 1) := by decide +kernel
theorem dX0_rememberHeaps_4 : decode cX0_rememberHeaps 4 = .ok (.getfield 35, 3) := by decide +kernel
theorem dX0_rememberHeaps_7 : decode cX0_rememberHeaps 7 = .ok (.getfield 47, 3) := by decide +kernel
theorem dX0_rememberHeaps_10 : decode cX0_rememberHeaps 10 = .ok (.if_icmp .ge 31, 3) := by decide +kernel
theorem dX0_rememberHeaps_13 : decode cX0_rememberHeaps 13 = .ok (.aload_n 0, 1) := by decide +kernel
theorem dX0_rememberHeaps_14 : decode cX0_rememberHeaps 14 = .ok (.getfield 35, 3) := by decide +kernel
theorem dX0_rememberHeaps_17 : decode cX0_rememberHeaps 17 = .ok (.getfield 53, 3) := by decide +kernel
theorem dX0_rememberHeaps_20 : decode cX0_rememberHeaps 20 = .ok (.iload_n 1, 1) := by decide +kernel
theorem dX0_rememberHeaps_21 : decode cX0_rememberHeaps 21 = .ok (.aaload, 1) := by decide +kernel
theorem dX0_rememberHeaps_22 : decode cX0_rememberHeaps 22 = .ok (.iconst 0, 1) := by decide +kernel
theorem dX0_rememberHeaps_23 : decode cX0_rememberHeaps 23 = .ok (.aload_n 0, 1) := by decide +kernel
theorem dX0_rememberHeaps_24 : decode cX0_rememberHeaps 24 = .ok (.getfield 11, 3) := by decide +kernel
theorem dX0_rememberHeaps_27 : decode cX0_rememberHeaps 27 = .ok (.iload_n 1, 1) := by decide +kernel
theorem dX0_rememberHeaps_28 : decode cX0_rememberHeaps 28 = .ok (.aaload, 1) := by decide +kernel
theorem dX0_rememberHeaps_29 : decode cX0_rememberHeaps 29 = .ok (.iconst 0, 1) := by decide +kernel
theorem dX0_rememberHeaps_30 : decode cX0_rememberHeaps 30 = .ok (.bipush 8, 2) := by decide +kernel
theorem dX0_rememberHeaps_32 : decode cX0_rememberHeaps 32 = .ok (.invokestatic 56, 3) := by decide +kernel
theorem dX0_rememberHeaps_35 : decode cX0_rememberHeaps 35 = .ok (.iinc 1 1, 3) := by decide +kernel
theorem dX0_rememberHeaps_38 : decode cX0_rememberHeaps 38 = .ok (.goto (-36), 3) := by decide +kernel
theorem dX0_rememberHeaps_41 : decode cX0_rememberHeaps 41 = .ok (.return_, 1) := by decide +kernel
set_option maxRecDepth 20000 in
theorem ggX0_carryAll_X0_nearestWith : GoodIn wsX0_carryAll wsX0_nearestWith := goodIn_r _ [12, 6, 13, 7, 14, 15, 16, 11, 17, 18, 19, 20, 21, 22, 23, 24, 25, 26, 33, 34, 35, 36, 37, 38, 39, 40, 41, 42, 55, 56, 57, 58, 59, 60, 61, 62, 63, 64, 65, 66, 67, 68, 69, 70] (by decide +kernel) (by decide +kernel)
set_option maxRecDepth 20000 in
theorem gX0_carryAll_X0_nearestWith : GoodIn wsX0_carryAll (wsV RX0 73 RX0 yX0_nearestWith wsX0_nearestWith) := goodIn_app (goodIn_of _ (by decide +kernel)) ggX0_carryAll_X0_nearestWith
set_option maxRecDepth 20000 in
theorem ggX0_carryAll_X0_weight : GoodIn wsX0_carryAll wsX0_weight := goodIn_r _ [30, 6, 31, 32, 33, 34, 35, 36, 37, 38, 39, 40, 41, 42, 55, 56, 57, 58, 59, 60, 61] (by decide +kernel) (by decide +kernel)
set_option maxRecDepth 20000 in
theorem gX0_carryAll_X0_weight : GoodIn wsX0_carryAll (wsV RX0 80 RX0 yX0_weight wsX0_weight) := goodIn_app (goodIn_of _ (by decide +kernel)) ggX0_carryAll_X0_weight
set_option maxRecDepth 20000 in
theorem ggX0_carryAll_X0_way : GoodIn wsX0_carryAll wsX0_way := goodIn_r _ [17, 6, 18, 19, 20, 21, 22, 23, 24, 25, 26, 33, 34, 35, 36, 37, 38, 39, 40, 41, 42, 55, 56, 57, 58, 59, 60, 61, 62, 63, 64, 65, 66, 67, 68, 69, 70] (by decide +kernel) (by decide +kernel)
set_option maxRecDepth 20000 in
theorem gX0_carryAll_X0_way : GoodIn wsX0_carryAll (wsV RX0 84 RX0 yX0_way wsX0_way) := goodIn_app (goodIn_of _ (by decide +kernel)) ggX0_carryAll_X0_way
theorem dX0_carryAll_0 : decode cX0_carryAll 0 = .ok (.lconst 0, 1) := by decide +kernel
theorem dX0_carryAll_1 : decode cX0_carryAll 1 = .ok (.lstore_n 1, 1) := by decide +kernel
theorem dX0_carryAll_2 : decode cX0_carryAll 2 = .ok (.iconst 0, 1) := by decide +kernel
theorem dX0_carryAll_3 : decode cX0_carryAll 3 = .ok (.istore_n 3, 1) := by decide +kernel
theorem dX0_carryAll_4 : decode cX0_carryAll 4 = .ok (.iload_n 3, 1) := by decide +kernel
theorem dX0_carryAll_5 : decode cX0_carryAll 5 = .ok (.aload_n 0, 1) := by decide +kernel
theorem dX0_carryAll_6 : decode cX0_carryAll 6 = .ok (.getfield 43, 3) := by decide +kernel
theorem dX0_carryAll_9 : decode cX0_carryAll 9 = .ok (.getfield 62, 3) := by decide +kernel
theorem dX0_carryAll_12 : decode cX0_carryAll 12 = .ok (.if_icmp .ge 97, 3) := by decide +kernel
theorem dX0_carryAll_15 : decode cX0_carryAll 15 = .ok (.aload_n 0, 1) := by decide +kernel
theorem dX0_carryAll_16 : decode cX0_carryAll 16 = .ok (.getfield 43, 3) := by decide +kernel
theorem dX0_carryAll_19 : decode cX0_carryAll 19 = .ok (.getfield 67, 3) := by decide +kernel
theorem dX0_carryAll_22 : decode cX0_carryAll 22 = .ok (.iload_n 3, 1) := by decide +kernel
theorem dX0_carryAll_23 : decode cX0_carryAll 23 = .ok (.iaload, 1) := by decide +kernel
theorem dX0_carryAll_24 : decode cX0_carryAll 24 = .ok (.istore 4, 2) := by decide +kernel
theorem dX0_carryAll_26 : decode cX0_carryAll 26 = .ok (.aload_n 0, 1) := by decide +kernel
theorem dX0_carryAll_27 : decode cX0_carryAll 27 = .ok (.iload 4, 2) := by decide +kernel
theorem dX0_carryAll_29 : decode cX0_carryAll 29 = .ok (.aload_n 0, 1) := by decide +kernel
theorem dX0_carryAll_30 : decode cX0_carryAll 30 = .ok (.getfield 43, 3) := by decide +kernel
theorem dX0_carryAll_33 : decode cX0_carryAll 33 = .ok (.getfield 70, 3) := by decide +kernel
theorem dX0_carryAll_36 : decode cX0_carryAll 36 = .ok (.iload_n 3, 1) := by decide +kernel
theorem dX0_carryAll_37 : decode cX0_carryAll 37 = .ok (.iaload, 1) := by decide +kernel
theorem dX0_carryAll_38 : decode cX0_carryAll 38 = .ok (.invokevirtual 73, 3) := by decide +kernel
theorem dX0_carryAll_41 : decode cX0_carryAll 41 = .ok (.istore 5, 2) := by decide +kernel
theorem dX0_carryAll_43 : decode cX0_carryAll 43 = .ok (.aload_n 0, 1) := by decide +kernel
theorem dX0_carryAll_44 : decode cX0_carryAll 44 = .ok (.getfield 43, 3) := by decide +kernel
theorem dX0_carryAll_47 : decode cX0_carryAll 47 = .ok (.getfield 77, 3) := by decide +kernel
theorem dX0_carryAll_50 : decode cX0_carryAll 50 = .ok (.iload_n 3, 1) := by decide +kernel
theorem dX0_carryAll_51 : decode cX0_carryAll 51 = .ok (.iload 5, 2) := by decide +kernel
theorem dX0_carryAll_53 : decode cX0_carryAll 53 = .ok (.iastore, 1) := by decide +kernel
theorem dX0_carryAll_54 : decode cX0_carryAll 54 = .ok (.iload 5, 2) := by decide +kernel
theorem dX0_carryAll_56 : decode cX0_carryAll 56 = .ok (.iconst (-1), 1) := by decide +kernel
theorem dX0_carryAll_57 : decode cX0_carryAll 57 = .ok (.if_icmp .eq 46, 3) := by decide +kernel
theorem dX0_carryAll_60 : decode cX0_carryAll 60 = .ok (.aload_n 0, 1) := by decide +kernel
theorem dX0_carryAll_61 : decode cX0_carryAll 61 = .ok (.getfield 35, 3) := by decide +kernel
theorem dX0_carryAll_64 : decode cX0_carryAll 64 = .ok (.getfield 53, 3) := by decide +kernel
theorem dX0_carryAll_67 : decode cX0_carryAll 67 = .ok (.iload 5, 2) := by decide +kernel
theorem dX0_carryAll_69 : decode cX0_carryAll 69 = .ok (.aaload, 1) := by decide +kernel
theorem dX0_carryAll_70 : decode cX0_carryAll 70 = .ok (.iload 4, 2) := by decide +kernel
theorem dX0_carryAll_72 : decode cX0_carryAll 72 = .ok (.dup2, 1) := by decide +kernel
theorem dX0_carryAll_73 : decode cX0_carryAll 73 = .ok (.iaload, 1) := by decide +kernel
theorem dX0_carryAll_74 : decode cX0_carryAll 74 = .ok (.iconst 1, 1) := by decide +kernel
theorem dX0_carryAll_75 : decode cX0_carryAll 75 = .ok (.isub, 1) := by decide +kernel
theorem dX0_carryAll_76 : decode cX0_carryAll 76 = .ok (.iastore, 1) := by decide +kernel
theorem dX0_carryAll_77 : decode cX0_carryAll 77 = .ok (.lload_n 1, 1) := by decide +kernel
theorem dX0_carryAll_78 : decode cX0_carryAll 78 = .ok (.aload_n 0, 1) := by decide +kernel
theorem dX0_carryAll_79 : decode cX0_carryAll 79 = .ok (.iload 4, 2) := by decide +kernel
theorem dX0_carryAll_81 : decode cX0_carryAll 81 = .ok (.invokevirtual 80, 3) := by decide +kernel
theorem dX0_carryAll_84 : decode cX0_carryAll 84 = .ok (.aload_n 0, 1) := by decide +kernel
theorem dX0_carryAll_85 : decode cX0_carryAll 85 = .ok (.iload 5, 2) := by decide +kernel
theorem dX0_carryAll_87 : decode cX0_carryAll 87 = .ok (.aload_n 0, 1) := by decide +kernel
theorem dX0_carryAll_88 : decode cX0_carryAll 88 = .ok (.getfield 43, 3) := by decide +kernel
theorem dX0_carryAll_91 : decode cX0_carryAll 91 = .ok (.getfield 70, 3) := by decide +kernel
theorem dX0_carryAll_94 : decode cX0_carryAll 94 = .ok (.iload_n 3, 1) := by decide +kernel
theorem dX0_carryAll_95 : decode cX0_carryAll 95 = .ok (.iaload, 1) := by decide +kernel
theorem dX0_carryAll_96 : decode cX0_carryAll 96 = .ok (.invokevirtual 84, 3) := by decide +kernel
theorem dX0_carryAll_99 : decode cX0_carryAll 99 = .ok (.i2l, 1) := by decide +kernel
theorem dX0_carryAll_100 : decode cX0_carryAll 100 = .ok (.lmul, 1) := by decide +kernel
theorem dX0_carryAll_101 : decode cX0_carryAll 101 = .ok (.ladd, 1) := by decide +kernel
theorem dX0_carryAll_102 : decode cX0_carryAll 102 = .ok (.lstore_n 1, 1) := by decide +kernel
theorem dX0_carryAll_103 : decode cX0_carryAll 103 = .ok (.iinc 3 1, 3) := by decide +kernel
theorem dX0_carryAll_106 : decode cX0_carryAll 106 = .ok (.goto (-102), 3) := by decide +kernel
theorem dX0_carryAll_109 : decode cX0_carryAll 109 = .ok (.lload_n 1, 1) := by decide +kernel
theorem dX0_carryAll_110 : decode cX0_carryAll 110 = .ok (.lreturn, 1) := by decide +kernel
set_option maxRecDepth 20000 in
theorem ggX0_nearestWith_X0_way : GoodIn wsX0_nearestWith wsX0_way := goodIn_r _ [8, 1, 9, 10, 11, 12, 13, 14, 15, 16, 17, 18, 19, 20, 21, 22, 23, 24, 25, 26, 27, 28, 29, 30, 31, 32, 33, 34, 35, 36, 37, 38, 39, 40, 41, 42, 43] (by decide +kernel) (by decide +kernel)
set_option maxRecDepth 20000 in
theorem gX0_nearestWith_X0_way : GoodIn wsX0_nearestWith (wsV RX0 84 RX0 yX0_way wsX0_way) := goodIn_app (goodIn_of _ (by decide +kernel)) ggX0_nearestWith_X0_way
theorem dX0_nearestWith_0 : decode cX0_nearestWith 0 = .ok (.iconst (-1), 1) := by decide +kernel
theorem dX0_nearestWith_1 : decode cX0_nearestWith 1 = .ok (.istore_n 3, 1) := by decide +kernel
theorem dX0_nearestWith_2 : decode cX0_nearestWith 2 = .ok (.iconst 0, 1) := by decide +kernel
theorem dX0_nearestWith_3 : decode cX0_nearestWith 3 = .ok (.istore 4, 2) := by decide +kernel
theorem dX0_nearestWith_5 : decode cX0_nearestWith 5 = .ok (.iload 4, 2) := by decide +kernel
theorem dX0_nearestWith_7 : decode cX0_nearestWith 7 = .ok (.aload_n 0, 1) := by decide +kernel
theorem dX0_nearestWith_8 : decode cX0_nearestWith 8 = .ok (.getfield 35, 3) := by decide +kernel
theorem dX0_nearestWith_11 : decode cX0_nearestWith 11 = .ok (.getfield 47, 3) := by decide +kernel
theorem dX0_nearestWith_14 : decode cX0_nearestWith 14 = .ok (.if_icmp .ge 60, 3) := by decide +kernel
theorem dX0_nearestWith_17 : decode cX0_nearestWith 17 = .ok (.iload_n 3, 1) := by decide +kernel
theorem dX0_nearestWith_18 : decode cX0_nearestWith 18 = .ok (.iconst (-1), 1) := by decide +kernel
theorem dX0_nearestWith_19 : decode cX0_nearestWith 19 = .ok (.if_icmp .eq 19, 3) := by decide +kernel
theorem dX0_nearestWith_22 : decode cX0_nearestWith 22 = .ok (.aload_n 0, 1) := by decide +kernel
theorem dX0_nearestWith_23 : decode cX0_nearestWith 23 = .ok (.iload 4, 2) := by decide +kernel
theorem dX0_nearestWith_25 : decode cX0_nearestWith 25 = .ok (.iload_n 2, 1) := by decide +kernel
theorem dX0_nearestWith_26 : decode cX0_nearestWith 26 = .ok (.invokevirtual 84, 3) := by decide +kernel
theorem dX0_nearestWith_29 : decode cX0_nearestWith 29 = .ok (.aload_n 0, 1) := by decide +kernel
theorem dX0_nearestWith_30 : decode cX0_nearestWith 30 = .ok (.iload_n 3, 1) := by decide +kernel
theorem dX0_nearestWith_31 : decode cX0_nearestWith 31 = .ok (.iload_n 2, 1) := by decide +kernel
theorem dX0_nearestWith_32 : decode cX0_nearestWith 32 = .ok (.invokevirtual 84, 3) := by decide +kernel
theorem dX0_nearestWith_35 : decode cX0_nearestWith 35 = .ok (.if_icmp .ge 7, 3) := by decide +kernel
theorem dX0_nearestWith_38 : decode cX0_nearestWith 38 = .ok (.iconst 1, 1) := by decide +kernel
theorem dX0_nearestWith_39 : decode cX0_nearestWith 39 = .ok (.goto 4, 3) := by decide +kernel
theorem dX0_nearestWith_42 : decode cX0_nearestWith 42 = .ok (.iconst 0, 1) := by decide +kernel
theorem dX0_nearestWith_43 : decode cX0_nearestWith 43 = .ok (.istore 5, 2) := by decide +kernel
theorem dX0_nearestWith_45 : decode cX0_nearestWith 45 = .ok (.aload_n 0, 1) := by decide +kernel
theorem dX0_nearestWith_46 : decode cX0_nearestWith 46 = .ok (.getfield 35, 3) := by decide +kernel
theorem dX0_nearestWith_49 : decode cX0_nearestWith 49 = .ok (.getfield 53, 3) := by decide +kernel
theorem dX0_nearestWith_52 : decode cX0_nearestWith 52 = .ok (.iload 4, 2) := by decide +kernel
theorem dX0_nearestWith_54 : decode cX0_nearestWith 54 = .ok (.aaload, 1) := by decide +kernel
theorem dX0_nearestWith_55 : decode cX0_nearestWith 55 = .ok (.iload_n 1, 1) := by decide +kernel
theorem dX0_nearestWith_56 : decode cX0_nearestWith 56 = .ok (.iaload, 1) := by decide +kernel
theorem dX0_nearestWith_57 : decode cX0_nearestWith 57 = .ok (.ifCond .le 11, 3) := by decide +kernel
theorem dX0_nearestWith_60 : decode cX0_nearestWith 60 = .ok (.iload 5, 2) := by decide +kernel
theorem dX0_nearestWith_62 : decode cX0_nearestWith 62 = .ok (.ifCond .eq 6, 3) := by decide +kernel
theorem dX0_nearestWith_65 : decode cX0_nearestWith 65 = .ok (.iload 4, 2) := by decide +kernel
theorem dX0_nearestWith_67 : decode cX0_nearestWith 67 = .ok (.istore_n 3, 1) := by decide +kernel
theorem dX0_nearestWith_68 : decode cX0_nearestWith 68 = .ok (.iinc 4 1, 3) := by decide +kernel
theorem dX0_nearestWith_71 : decode cX0_nearestWith 71 = .ok (.goto (-66), 3) := by decide +kernel
theorem dX0_nearestWith_74 : decode cX0_nearestWith 74 = .ok (.iload_n 3, 1) := by decide +kernel
theorem dX0_nearestWith_75 : decode cX0_nearestWith 75 = .ok (.ireturn, 1) := by decide +kernel
theorem dX0_weight_0 : decode cX0_weight 0 = .ok (.aload_n 0, 1) := by decide +kernel
theorem dX0_weight_1 : decode cX0_weight 1 = .ok (.getfield 35, 3) := by decide +kernel
theorem dX0_weight_4 : decode cX0_weight 4 = .ok (.getfield 87, 3) := by decide +kernel
theorem dX0_weight_7 : decode cX0_weight 7 = .ok (.iload_n 1, 1) := by decide +kernel
theorem dX0_weight_8 : decode cX0_weight 8 = .ok (.iaload, 1) := by decide +kernel
theorem dX0_weight_9 : decode cX0_weight 9 = .ok (.i2l, 1) := by decide +kernel
theorem dX0_weight_10 : decode cX0_weight 10 = .ok (.aload_n 0, 1) := by decide +kernel
theorem dX0_weight_11 : decode cX0_weight 11 = .ok (.getfield 35, 3) := by decide +kernel
theorem dX0_weight_14 : decode cX0_weight 14 = .ok (.getfield 90, 3) := by decide +kernel
theorem dX0_weight_17 : decode cX0_weight 17 = .ok (.iload_n 1, 1) := by decide +kernel
theorem dX0_weight_18 : decode cX0_weight 18 = .ok (.iaload, 1) := by decide +kernel
theorem dX0_weight_19 : decode cX0_weight 19 = .ok (.i2l, 1) := by decide +kernel
theorem dX0_weight_20 : decode cX0_weight 20 = .ok (.lmul, 1) := by decide +kernel
theorem dX0_weight_21 : decode cX0_weight 21 = .ok (.lreturn, 1) := by decide +kernel
theorem dX0_way_0 : decode cX0_way 0 = .ok (.aload_n 0, 1) := by decide +kernel
theorem dX0_way_1 : decode cX0_way 1 = .ok (.getfield 35, 3) := by decide +kernel
theorem dX0_way_4 : decode cX0_way 4 = .ok (.getfield 93, 3) := by decide +kernel
theorem dX0_way_7 : decode cX0_way 7 = .ok (.iload_n 1, 1) := by decide +kernel
theorem dX0_way_8 : decode cX0_way 8 = .ok (.iaload, 1) := by decide +kernel
theorem dX0_way_9 : decode cX0_way 9 = .ok (.aload_n 0, 1) := by decide +kernel
theorem dX0_way_10 : decode cX0_way 10 = .ok (.getfield 39, 3) := by decide +kernel
theorem dX0_way_13 : decode cX0_way 13 = .ok (.getfield 96, 3) := by decide +kernel
theorem dX0_way_16 : decode cX0_way 16 = .ok (.iload_n 2, 1) := by decide +kernel
theorem dX0_way_17 : decode cX0_way 17 = .ok (.iadd, 1) := by decide +kernel
theorem dX0_way_18 : decode cX0_way 18 = .ok (.isub, 1) := by decide +kernel
theorem dX0_way_19 : decode cX0_way 19 = .ok (.invokestatic 101, 3) := by decide +kernel
theorem dX0_way_22 : decode cX0_way 22 = .ok (.aload_n 0, 1) := by decide +kernel
theorem dX0_way_23 : decode cX0_way 23 = .ok (.getfield 35, 3) := by decide +kernel
theorem dX0_way_26 : decode cX0_way 26 = .ok (.getfield 107, 3) := by decide +kernel
theorem dX0_way_29 : decode cX0_way 29 = .ok (.iload_n 1, 1) := by decide +kernel
theorem dX0_way_30 : decode cX0_way 30 = .ok (.iaload, 1) := by decide +kernel
theorem dX0_way_31 : decode cX0_way 31 = .ok (.aload_n 0, 1) := by decide +kernel
theorem dX0_way_32 : decode cX0_way 32 = .ok (.getfield 39, 3) := by decide +kernel
theorem dX0_way_35 : decode cX0_way 35 = .ok (.getfield 110, 3) := by decide +kernel
theorem dX0_way_38 : decode cX0_way 38 = .ok (.isub, 1) := by decide +kernel
theorem dX0_way_39 : decode cX0_way 39 = .ok (.invokestatic 101, 3) := by decide +kernel
theorem dX0_way_42 : decode cX0_way 42 = .ok (.iadd, 1) := by decide +kernel
theorem dX0_way_43 : decode cX0_way 43 = .ok (.ireturn, 1) := by decide +kernel
set_option maxRecDepth 20000 in
theorem ggX0_leastToil_X0_weight : GoodIn wsX0_leastToil wsX0_weight := goodIn_r _ [7, 1, 8, 9, 72, 73, 74, 75, 76, 77, 78, 79, 80, 81, 82, 83, 84, 85, 86, 87, 88] (by decide +kernel) (by decide +kernel)
set_option maxRecDepth 20000 in
theorem gX0_leastToil_X0_weight : GoodIn wsX0_leastToil (wsV RX0 80 RX0 yX0_weight wsX0_weight) := goodIn_app (goodIn_of _ (by decide +kernel)) ggX0_leastToil_X0_weight
set_option maxRecDepth 20000 in
theorem ggX0_leastToil_X0_leastWays : GoodIn wsX0_leastToil wsX0_leastWays := goodIn_r _ [13, 1, 14, 15, 16, 17, 18, 19, 20, 21, 22, 23, 24, 25, 26, 27, 28, 6, 29, 30, 31, 32, 33, 34, 35, 36, 37, 38, 39, 40, 41, 42, 43, 44, 45, 46, 47, 48, 49, 50, 51, 52, 53, 54, 55, 56, 57, 58, 59, 60, 61, 62, 63, 64, 65, 66, 67, 68, 69, 70, 71, 72, 73, 74, 75, 76, 77, 78, 79, 80, 81, 82, 83, 84, 85, 86, 87, 88, 89, 90, 91, 92, 93, 94, 95, 96, 97, 98, 99, 100, 101, 102, 103, 104, 105, 106, 107, 108, 109] (by decide +kernel) (by decide +kernel)
set_option maxRecDepth 20000 in
theorem gX0_leastToil_X0_leastWays : GoodIn wsX0_leastToil (wsV RX0 115 RX0 yX0_leastWays wsX0_leastWays) := goodIn_app (goodIn_of _ (by decide +kernel)) ggX0_leastToil_X0_leastWays
theorem dX0_leastToil_0 : decode cX0_leastToil 0 = .ok (.lconst 0, 1) := by decide +kernel
theorem dX0_leastToil_1 : decode cX0_leastToil 1 = .ok (.lstore_n 1, 1) := by decide +kernel
theorem dX0_leastToil_2 : decode cX0_leastToil 2 = .ok (.iconst 0, 1) := by decide +kernel
theorem dX0_leastToil_3 : decode cX0_leastToil 3 = .ok (.istore_n 3, 1) := by decide +kernel
theorem dX0_leastToil_4 : decode cX0_leastToil 4 = .ok (.iload_n 3, 1) := by decide +kernel
theorem dX0_leastToil_5 : decode cX0_leastToil 5 = .ok (.aload_n 0, 1) := by decide +kernel
theorem dX0_leastToil_6 : decode cX0_leastToil 6 = .ok (.getfield 35, 3) := by decide +kernel
theorem dX0_leastToil_9 : decode cX0_leastToil 9 = .ok (.getfield 113, 3) := by decide +kernel
theorem dX0_leastToil_12 : decode cX0_leastToil 12 = .ok (.if_icmp .ge 24, 3) := by decide +kernel
theorem dX0_leastToil_15 : decode cX0_leastToil 15 = .ok (.lload_n 1, 1) := by decide +kernel
theorem dX0_leastToil_16 : decode cX0_leastToil 16 = .ok (.aload_n 0, 1) := by decide +kernel
theorem dX0_leastToil_17 : decode cX0_leastToil 17 = .ok (.iload_n 3, 1) := by decide +kernel
theorem dX0_leastToil_18 : decode cX0_leastToil 18 = .ok (.invokevirtual 80, 3) := by decide +kernel
theorem dX0_leastToil_21 : decode cX0_leastToil 21 = .ok (.aload_n 0, 1) := by decide +kernel
theorem dX0_leastToil_22 : decode cX0_leastToil 22 = .ok (.iload_n 3, 1) := by decide +kernel
theorem dX0_leastToil_23 : decode cX0_leastToil 23 = .ok (.iconst (-1), 1) := by decide +kernel
theorem dX0_leastToil_24 : decode cX0_leastToil 24 = .ok (.invokevirtual 115, 3) := by decide +kernel
theorem dX0_leastToil_27 : decode cX0_leastToil 27 = .ok (.lmul, 1) := by decide +kernel
theorem dX0_leastToil_28 : decode cX0_leastToil 28 = .ok (.ladd, 1) := by decide +kernel
theorem dX0_leastToil_29 : decode cX0_leastToil 29 = .ok (.lstore_n 1, 1) := by decide +kernel
theorem dX0_leastToil_30 : decode cX0_leastToil 30 = .ok (.iinc 3 1, 3) := by decide +kernel
theorem dX0_leastToil_33 : decode cX0_leastToil 33 = .ok (.goto (-29), 3) := by decide +kernel
theorem dX0_leastToil_36 : decode cX0_leastToil 36 = .ok (.lload_n 1, 1) := by decide +kernel
theorem dX0_leastToil_37 : decode cX0_leastToil 37 = .ok (.lreturn, 1) := by decide +kernel
set_option maxRecDepth 20000 in
theorem ggX0_toilSaved_X0_weight : GoodIn wsX0_toilSaved wsX0_weight := goodIn_r _ [5, 6, 7, 8, 71, 72, 73, 74, 75, 76, 77, 78, 79, 80, 81, 82, 83, 84, 85, 86, 87] (by decide +kernel) (by decide +kernel)
set_option maxRecDepth 20000 in
theorem gX0_toilSaved_X0_weight : GoodIn wsX0_toilSaved (wsV RX0 80 RX0 yX0_weight wsX0_weight) := goodIn_app (goodIn_of _ (by decide +kernel)) ggX0_toilSaved_X0_weight
set_option maxRecDepth 20000 in
theorem ggX0_toilSaved_X0_leastWays : GoodIn wsX0_toilSaved wsX0_leastWays := goodIn_r _ [12, 6, 13, 14, 15, 16, 17, 18, 19, 20, 21, 22, 23, 24, 25, 26, 27, 4, 28, 29, 30, 31, 32, 33, 34, 35, 36, 37, 38, 39, 40, 41, 42, 43, 44, 45, 46, 47, 48, 49, 50, 51, 52, 53, 54, 55, 56, 57, 58, 59, 60, 61, 62, 63, 64, 65, 66, 67, 68, 69, 70, 71, 72, 73, 74, 75, 76, 77, 78, 79, 80, 81, 82, 83, 84, 85, 86, 87, 88, 89, 90, 91, 92, 93, 94, 95, 96, 97, 98, 99, 100, 101, 102, 103, 104, 105, 106, 107, 108] (by decide +kernel) (by decide +kernel)
set_option maxRecDepth 20000 in
theorem gX0_toilSaved_X0_leastWays : GoodIn wsX0_toilSaved (wsV RX0 115 RX0 yX0_leastWays wsX0_leastWays) := goodIn_app (goodIn_of _ (by decide +kernel)) ggX0_toilSaved_X0_leastWays
theorem dX0_toilSaved_0 : decode cX0_toilSaved 0 = .ok (.aload_n 0, 1) := by decide +kernel
theorem dX0_toilSaved_1 : decode cX0_toilSaved 1 = .ok (.iload_n 2, 1) := by decide +kernel
theorem dX0_toilSaved_2 : decode cX0_toilSaved 2 = .ok (.invokevirtual 80, 3) := by decide +kernel
theorem dX0_toilSaved_5 : decode cX0_toilSaved 5 = .ok (.aload_n 0, 1) := by decide +kernel
theorem dX0_toilSaved_6 : decode cX0_toilSaved 6 = .ok (.iload_n 2, 1) := by decide +kernel
theorem dX0_toilSaved_7 : decode cX0_toilSaved 7 = .ok (.iconst (-1), 1) := by decide +kernel
theorem dX0_toilSaved_8 : decode cX0_toilSaved 8 = .ok (.invokevirtual 115, 3) := by decide +kernel
theorem dX0_toilSaved_11 : decode cX0_toilSaved 11 = .ok (.aload_n 0, 1) := by decide +kernel
theorem dX0_toilSaved_12 : decode cX0_toilSaved 12 = .ok (.iload_n 2, 1) := by decide +kernel
theorem dX0_toilSaved_13 : decode cX0_toilSaved 13 = .ok (.iload_n 1, 1) := by decide +kernel
theorem dX0_toilSaved_14 : decode cX0_toilSaved 14 = .ok (.invokevirtual 115, 3) := by decide +kernel
theorem dX0_toilSaved_17 : decode cX0_toilSaved 17 = .ok (.lsub, 1) := by decide +kernel
theorem dX0_toilSaved_18 : decode cX0_toilSaved 18 = .ok (.lmul, 1) := by decide +kernel
theorem dX0_toilSaved_19 : decode cX0_toilSaved 19 = .ok (.lreturn, 1) := by decide +kernel
set_option maxRecDepth 20000 in
theorem ggX0_leastWays_J7_fill_53178 : GoodIn wsX0_leastWays wsJ7_fill_53178 := goodIn_r _ [13] (by decide +kernel) (by decide +kernel)
set_option maxRecDepth 20000 in
theorem gX0_leastWays_J7_fill_53178 : GoodIn wsX0_leastWays (va_wsS RX0 119 yJ7_fill_53178 wsJ7_fill_53178) := goodIn_app (goodIn_of _ (by decide +kernel)) ggX0_leastWays_J7_fill_53178
set_option maxRecDepth 20000 in
theorem ggX0_leastWays_X0_supply : GoodIn wsX0_leastWays wsX0_supply := goodIn_r _ [18, 3, 19, 20, 21, 22, 17, 23, 1, 2, 24, 25, 26, 5, 10, 11, 12, 13, 27, 28, 29, 30, 31, 32, 33, 34, 35, 36, 37, 38, 39, 40, 41, 42, 43, 44, 45, 46, 47, 48, 49, 50, 51, 52, 53, 54, 55, 56, 57, 58, 59, 60, 61, 62, 63, 64, 65, 66, 67, 68, 69, 70, 71, 72, 73, 74, 75, 76, 77, 90, 91, 92, 93, 94, 95, 96, 97, 98] (by decide +kernel) (by decide +kernel)
set_option maxRecDepth 20000 in
theorem gX0_leastWays_X0_supply : GoodIn wsX0_leastWays (wsV RX0 125 RX0 yX0_supply wsX0_supply) := goodIn_app (goodIn_of _ (by decide +kernel)) ggX0_leastWays_X0_supply
theorem dX0_leastWays_0 : decode cX0_leastWays 0 = .ok (.iconst 0, 1) := by decide +kernel
theorem dX0_leastWays_1 : decode cX0_leastWays 1 = .ok (.istore_n 3, 1) := by decide +kernel
theorem dX0_leastWays_2 : decode cX0_leastWays 2 = .ok (.iload_n 3, 1) := by decide +kernel
theorem dX0_leastWays_3 : decode cX0_leastWays 3 = .ok (.aload_n 0, 1) := by decide +kernel
theorem dX0_leastWays_4 : decode cX0_leastWays 4 = .ok (.getfield 35, 3) := by decide +kernel
theorem dX0_leastWays_7 : decode cX0_leastWays 7 = .ok (.getfield 47, 3) := by decide +kernel
theorem dX0_leastWays_10 : decode cX0_leastWays 10 = .ok (.if_icmp .ge 44, 3) := by decide +kernel
theorem dX0_leastWays_13 : decode cX0_leastWays 13 = .ok (.aload_n 0, 1) := by decide +kernel
theorem dX0_leastWays_14 : decode cX0_leastWays 14 = .ok (.getfield 16, 3) := by decide +kernel
theorem dX0_leastWays_17 : decode cX0_leastWays 17 = .ok (.iload_n 3, 1) := by decide +kernel
theorem dX0_leastWays_18 : decode cX0_leastWays 18 = .ok (.aload_n 0, 1) := by decide +kernel
theorem dX0_leastWays_19 : decode cX0_leastWays 19 = .ok (.getfield 11, 3) := by decide +kernel
theorem dX0_leastWays_22 : decode cX0_leastWays 22 = .ok (.iload_n 3, 1) := by decide +kernel
theorem dX0_leastWays_23 : decode cX0_leastWays 23 = .ok (.aaload, 1) := by decide +kernel
theorem dX0_leastWays_24 : decode cX0_leastWays 24 = .ok (.iload_n 1, 1) := by decide +kernel
theorem dX0_leastWays_25 : decode cX0_leastWays 25 = .ok (.iaload, 1) := by decide +kernel
theorem dX0_leastWays_26 : decode cX0_leastWays 26 = .ok (.iload_n 3, 1) := by decide +kernel
theorem dX0_leastWays_27 : decode cX0_leastWays 27 = .ok (.iload_n 2, 1) := by decide +kernel
theorem dX0_leastWays_28 : decode cX0_leastWays 28 = .ok (.if_icmp .ne 7, 3) := by decide +kernel
theorem dX0_leastWays_31 : decode cX0_leastWays 31 = .ok (.iconst 1, 1) := by decide +kernel
theorem dX0_leastWays_32 : decode cX0_leastWays 32 = .ok (.goto 4, 3) := by decide +kernel
theorem dX0_leastWays_35 : decode cX0_leastWays 35 = .ok (.iconst 0, 1) := by decide +kernel
theorem dX0_leastWays_36 : decode cX0_leastWays 36 = .ok (.iadd, 1) := by decide +kernel
theorem dX0_leastWays_37 : decode cX0_leastWays 37 = .ok (.iastore, 1) := by decide +kernel
theorem dX0_leastWays_38 : decode cX0_leastWays 38 = .ok (.aload_n 0, 1) := by decide +kernel
theorem dX0_leastWays_39 : decode cX0_leastWays 39 = .ok (.getfield 20, 3) := by decide +kernel
theorem dX0_leastWays_42 : decode cX0_leastWays 42 = .ok (.iload_n 3, 1) := by decide +kernel
theorem dX0_leastWays_43 : decode cX0_leastWays 43 = .ok (.aaload, 1) := by decide +kernel
theorem dX0_leastWays_44 : decode cX0_leastWays 44 = .ok (.iconst 0, 1) := by decide +kernel
theorem dX0_leastWays_45 : decode cX0_leastWays 45 = .ok (.invokestatic 119, 3) := by decide +kernel
theorem dX0_leastWays_48 : decode cX0_leastWays 48 = .ok (.iinc 3 1, 3) := by decide +kernel
theorem dX0_leastWays_51 : decode cX0_leastWays 51 = .ok (.goto (-49), 3) := by decide +kernel
theorem dX0_leastWays_54 : decode cX0_leastWays 54 = .ok (.lconst 0, 1) := by decide +kernel
theorem dX0_leastWays_55 : decode cX0_leastWays 55 = .ok (.lstore_n 3, 1) := by decide +kernel
theorem dX0_leastWays_56 : decode cX0_leastWays 56 = .ok (.iconst 0, 1) := by decide +kernel
theorem dX0_leastWays_57 : decode cX0_leastWays 57 = .ok (.istore 5, 2) := by decide +kernel
theorem dX0_leastWays_59 : decode cX0_leastWays 59 = .ok (.iload 5, 2) := by decide +kernel
theorem dX0_leastWays_61 : decode cX0_leastWays 61 = .ok (.aload_n 0, 1) := by decide +kernel
theorem dX0_leastWays_62 : decode cX0_leastWays 62 = .ok (.getfield 43, 3) := by decide +kernel
theorem dX0_leastWays_65 : decode cX0_leastWays 65 = .ok (.getfield 62, 3) := by decide +kernel
theorem dX0_leastWays_68 : decode cX0_leastWays 68 = .ok (.if_icmp .ge 41, 3) := by decide +kernel
theorem dX0_leastWays_71 : decode cX0_leastWays 71 = .ok (.aload_n 0, 1) := by decide +kernel
theorem dX0_leastWays_72 : decode cX0_leastWays 72 = .ok (.getfield 43, 3) := by decide +kernel
theorem dX0_leastWays_75 : decode cX0_leastWays 75 = .ok (.getfield 67, 3) := by decide +kernel
theorem dX0_leastWays_78 : decode cX0_leastWays 78 = .ok (.iload 5, 2) := by decide +kernel
theorem dX0_leastWays_80 : decode cX0_leastWays 80 = .ok (.iaload, 1) := by decide +kernel
theorem dX0_leastWays_81 : decode cX0_leastWays 81 = .ok (.iload_n 1, 1) := by decide +kernel
theorem dX0_leastWays_82 : decode cX0_leastWays 82 = .ok (.if_icmp .ne 21, 3) := by decide +kernel
theorem dX0_leastWays_85 : decode cX0_leastWays 85 = .ok (.lload_n 3, 1) := by decide +kernel
theorem dX0_leastWays_86 : decode cX0_leastWays 86 = .ok (.aload_n 0, 1) := by decide +kernel
theorem dX0_leastWays_87 : decode cX0_leastWays 87 = .ok (.aload_n 0, 1) := by decide +kernel
theorem dX0_leastWays_88 : decode cX0_leastWays 88 = .ok (.getfield 43, 3) := by decide +kernel
theorem dX0_leastWays_91 : decode cX0_leastWays 91 = .ok (.getfield 70, 3) := by decide +kernel
theorem dX0_leastWays_94 : decode cX0_leastWays 94 = .ok (.iload 5, 2) := by decide +kernel
theorem dX0_leastWays_96 : decode cX0_leastWays 96 = .ok (.iaload, 1) := by decide +kernel
theorem dX0_leastWays_97 : decode cX0_leastWays 97 = .ok (.invokevirtual 125, 3) := by decide +kernel
theorem dX0_leastWays_100 : decode cX0_leastWays 100 = .ok (.i2l, 1) := by decide +kernel
theorem dX0_leastWays_101 : decode cX0_leastWays 101 = .ok (.ladd, 1) := by decide +kernel
theorem dX0_leastWays_102 : decode cX0_leastWays 102 = .ok (.lstore_n 3, 1) := by decide +kernel
theorem dX0_leastWays_103 : decode cX0_leastWays 103 = .ok (.iinc 5 1, 3) := by decide +kernel
theorem dX0_leastWays_106 : decode cX0_leastWays 106 = .ok (.goto (-47), 3) := by decide +kernel
theorem dX0_leastWays_109 : decode cX0_leastWays 109 = .ok (.lload_n 3, 1) := by decide +kernel
theorem dX0_leastWays_110 : decode cX0_leastWays 110 = .ok (.lreturn, 1) := by decide +kernel
set_option maxRecDepth 20000 in
theorem ggX0_supply_X0_findSwaps : GoodIn wsX0_supply wsX0_findSwaps := goodIn_r _ [7, 8, 9, 10, 11, 12, 13, 14, 15, 16, 17, 18, 19, 20, 6, 21, 22, 23, 24, 25, 26, 27, 28, 29, 30, 31, 32, 33, 34, 52, 53, 54, 55, 56, 57, 58, 59, 60, 61, 62, 63, 64, 65, 66, 67, 68, 69, 70, 71, 72, 73, 74, 75, 76, 77] (by decide +kernel) (by decide +kernel)
set_option maxRecDepth 20000 in
theorem gX0_supply_X0_findSwaps : GoodIn wsX0_supply (wsV RX0 128 RX0 yX0_findSwaps wsX0_findSwaps) := goodIn_app (goodIn_of _ (by decide +kernel)) ggX0_supply_X0_findSwaps
set_option maxRecDepth 20000 in
theorem ggX0_supply_X0_findChains : GoodIn wsX0_supply wsX0_findChains := goodIn_r _ [38, 8, 9, 2, 39, 23, 24, 25, 6, 26, 27, 11, 28, 29, 30, 31, 32, 33, 34, 40, 41, 42, 43, 22, 10, 52, 53, 54, 55, 56, 57, 58, 59, 60, 61, 62, 63, 64, 65, 66, 67, 68, 69, 70, 71, 72, 73, 74, 75, 76, 77] (by decide +kernel) (by decide +kernel)
set_option maxRecDepth 20000 in
theorem gX0_supply_X0_findChains : GoodIn wsX0_supply (wsV RX0 131 RX0 yX0_findChains wsX0_findChains) := goodIn_app (goodIn_of _ (by decide +kernel)) ggX0_supply_X0_findChains
set_option maxRecDepth 20000 in
theorem ggX0_supply_X0_cheapestGiver : GoodIn wsX0_supply wsX0_cheapestGiver := goodIn_r _ [47, 8, 9, 1, 2, 52, 53, 54, 55, 56, 57, 58, 59, 60, 61, 62, 63, 64, 65, 66, 67, 68] (by decide +kernel) (by decide +kernel)
set_option maxRecDepth 20000 in
theorem gX0_supply_X0_cheapestGiver : GoodIn wsX0_supply (wsV RX0 135 RX0 yX0_cheapestGiver wsX0_cheapestGiver) := goodIn_app (goodIn_of _ (by decide +kernel)) ggX0_supply_X0_cheapestGiver
set_option maxRecDepth 20000 in
theorem ggX0_supply_X0_followChain : GoodIn wsX0_supply wsX0_followChain := goodIn_r _ [51, 8, 9, 39, 10, 13, 52, 53, 54, 55, 56, 57, 58, 59, 60, 61, 62, 63, 64, 65, 66, 67, 68] (by decide +kernel) (by decide +kernel)
set_option maxRecDepth 20000 in
theorem gX0_supply_X0_followChain : GoodIn wsX0_supply (wsV RX0 139 RX0 yX0_followChain wsX0_followChain) := goodIn_app (goodIn_of _ (by decide +kernel)) ggX0_supply_X0_followChain
theorem dX0_supply_0 : decode cX0_supply 0 = .ok (.aload_n 0, 1) := by decide +kernel
theorem dX0_supply_1 : decode cX0_supply 1 = .ok (.invokevirtual 128, 3) := by decide +kernel
theorem dX0_supply_4 : decode cX0_supply 4 = .ok (.aload_n 0, 1) := by decide +kernel
theorem dX0_supply_5 : decode cX0_supply 5 = .ok (.iload_n 1, 1) := by decide +kernel
theorem dX0_supply_6 : decode cX0_supply 6 = .ok (.invokevirtual 131, 3) := by decide +kernel
theorem dX0_supply_9 : decode cX0_supply 9 = .ok (.aload_n 0, 1) := by decide +kernel
theorem dX0_supply_10 : decode cX0_supply 10 = .ok (.invokevirtual 135, 3) := by decide +kernel
theorem dX0_supply_13 : decode cX0_supply 13 = .ok (.istore_n 2, 1) := by decide +kernel
theorem dX0_supply_14 : decode cX0_supply 14 = .ok (.iload_n 2, 1) := by decide +kernel
theorem dX0_supply_15 : decode cX0_supply 15 = .ok (.iconst (-1), 1) := by decide +kernel
theorem dX0_supply_16 : decode cX0_supply 16 = .ok (.if_icmp .ne 5, 3) := by decide +kernel
theorem dX0_supply_19 : decode cX0_supply 19 = .ok (.iconst 0, 1) := by decide +kernel
theorem dX0_supply_20 : decode cX0_supply 20 = .ok (.ireturn, 1) := by decide +kernel
theorem dX0_supply_21 : decode cX0_supply 21 = .ok (.aload_n 0, 1) := by decide +kernel
theorem dX0_supply_22 : decode cX0_supply 22 = .ok (.getfield 16, 3) := by decide +kernel
theorem dX0_supply_25 : decode cX0_supply 25 = .ok (.iload_n 2, 1) := by decide +kernel
theorem dX0_supply_26 : decode cX0_supply 26 = .ok (.dup2, 1) := by decide +kernel
theorem dX0_supply_27 : decode cX0_supply 27 = .ok (.iaload, 1) := by decide +kernel
theorem dX0_supply_28 : decode cX0_supply 28 = .ok (.iconst 1, 1) := by decide +kernel
theorem dX0_supply_29 : decode cX0_supply 29 = .ok (.isub, 1) := by decide +kernel
theorem dX0_supply_30 : decode cX0_supply 30 = .ok (.iastore, 1) := by decide +kernel
theorem dX0_supply_31 : decode cX0_supply 31 = .ok (.aload_n 0, 1) := by decide +kernel
theorem dX0_supply_32 : decode cX0_supply 32 = .ok (.iload_n 2, 1) := by decide +kernel
theorem dX0_supply_33 : decode cX0_supply 33 = .ok (.iload_n 1, 1) := by decide +kernel
theorem dX0_supply_34 : decode cX0_supply 34 = .ok (.invokevirtual 139, 3) := by decide +kernel
theorem dX0_supply_37 : decode cX0_supply 37 = .ok (.aload_n 0, 1) := by decide +kernel
theorem dX0_supply_38 : decode cX0_supply 38 = .ok (.getfield 29, 3) := by decide +kernel
theorem dX0_supply_41 : decode cX0_supply 41 = .ok (.iload_n 2, 1) := by decide +kernel
theorem dX0_supply_42 : decode cX0_supply 42 = .ok (.iaload, 1) := by decide +kernel
theorem dX0_supply_43 : decode cX0_supply 43 = .ok (.ireturn, 1) := by decide +kernel
set_option maxRecDepth 20000 in
theorem ggX0_findSwaps_J7_fill_53178 : GoodIn wsX0_findSwaps wsJ7_fill_53178 := goodIn_r _ [10] (by decide +kernel) (by decide +kernel)
set_option maxRecDepth 20000 in
theorem gX0_findSwaps_J7_fill_53178 : GoodIn wsX0_findSwaps (va_wsS RX0 119 yJ7_fill_53178 wsJ7_fill_53178) := goodIn_app (goodIn_of _ (by decide +kernel)) ggX0_findSwaps_J7_fill_53178
set_option maxRecDepth 20000 in
theorem ggX0_findSwaps_X0_weighSwaps : GoodIn wsX0_findSwaps wsX0_weighSwaps := goodIn_r _ [15, 1, 2, 3, 16, 17, 18, 19, 14, 20, 21, 4, 22, 23, 24, 25, 26, 27, 28, 29, 30, 31, 32, 33, 34, 35, 36, 37, 38, 39, 40, 41, 42, 43, 44, 45, 46, 47, 48, 49, 50, 51, 52, 53, 54] (by decide +kernel) (by decide +kernel)
set_option maxRecDepth 20000 in
theorem gX0_findSwaps_X0_weighSwaps : GoodIn wsX0_findSwaps (wsV RX0 146 RX0 yX0_weighSwaps wsX0_weighSwaps) := goodIn_app (goodIn_of _ (by decide +kernel)) ggX0_findSwaps_X0_weighSwaps
theorem dX0_findSwaps_0 : decode cX0_findSwaps 0 = .ok (.iconst 0, 1) := by decide +kernel
theorem dX0_findSwaps_1 : decode cX0_findSwaps 1 = .ok (.istore_n 1, 1) := by decide +kernel
theorem dX0_findSwaps_2 : decode cX0_findSwaps 2 = .ok (.iload_n 1, 1) := by decide +kernel
theorem dX0_findSwaps_3 : decode cX0_findSwaps 3 = .ok (.aload_n 0, 1) := by decide +kernel
theorem dX0_findSwaps_4 : decode cX0_findSwaps 4 = .ok (.getfield 35, 3) := by decide +kernel
theorem dX0_findSwaps_7 : decode cX0_findSwaps 7 = .ok (.getfield 47, 3) := by decide +kernel
theorem dX0_findSwaps_10 : decode cX0_findSwaps 10 = .ok (.if_icmp .ge 55, 3) := by decide +kernel
theorem dX0_findSwaps_13 : decode cX0_findSwaps 13 = .ok (.aload_n 0, 1) := by decide +kernel
theorem dX0_findSwaps_14 : decode cX0_findSwaps 14 = .ok (.getfield 26, 3) := by decide +kernel
theorem dX0_findSwaps_17 : decode cX0_findSwaps 17 = .ok (.iload_n 1, 1) := by decide +kernel
theorem dX0_findSwaps_18 : decode cX0_findSwaps 18 = .ok (.aaload, 1) := by decide +kernel
theorem dX0_findSwaps_19 : decode cX0_findSwaps 19 = .ok (.iconst (-1), 1) := by decide +kernel
theorem dX0_findSwaps_20 : decode cX0_findSwaps 20 = .ok (.invokestatic 119, 3) := by decide +kernel
theorem dX0_findSwaps_23 : decode cX0_findSwaps 23 = .ok (.iconst 0, 1) := by decide +kernel
theorem dX0_findSwaps_24 : decode cX0_findSwaps 24 = .ok (.istore_n 2, 1) := by decide +kernel
theorem dX0_findSwaps_25 : decode cX0_findSwaps 25 = .ok (.iload_n 2, 1) := by decide +kernel
theorem dX0_findSwaps_26 : decode cX0_findSwaps 26 = .ok (.aload_n 0, 1) := by decide +kernel
theorem dX0_findSwaps_27 : decode cX0_findSwaps 27 = .ok (.getfield 39, 3) := by decide +kernel
theorem dX0_findSwaps_30 : decode cX0_findSwaps 30 = .ok (.getfield 143, 3) := by decide +kernel
theorem dX0_findSwaps_33 : decode cX0_findSwaps 33 = .ok (.if_icmp .ge 26, 3) := by decide +kernel
theorem dX0_findSwaps_36 : decode cX0_findSwaps 36 = .ok (.aload_n 0, 1) := by decide +kernel
theorem dX0_findSwaps_37 : decode cX0_findSwaps 37 = .ok (.getfield 20, 3) := by decide +kernel
theorem dX0_findSwaps_40 : decode cX0_findSwaps 40 = .ok (.iload_n 1, 1) := by decide +kernel
theorem dX0_findSwaps_41 : decode cX0_findSwaps 41 = .ok (.aaload, 1) := by decide +kernel
theorem dX0_findSwaps_42 : decode cX0_findSwaps 42 = .ok (.iload_n 2, 1) := by decide +kernel
theorem dX0_findSwaps_43 : decode cX0_findSwaps 43 = .ok (.iaload, 1) := by decide +kernel
theorem dX0_findSwaps_44 : decode cX0_findSwaps 44 = .ok (.ifCond .le 9, 3) := by decide +kernel
theorem dX0_findSwaps_47 : decode cX0_findSwaps 47 = .ok (.aload_n 0, 1) := by decide +kernel
theorem dX0_findSwaps_48 : decode cX0_findSwaps 48 = .ok (.iload_n 1, 1) := by decide +kernel
theorem dX0_findSwaps_49 : decode cX0_findSwaps 49 = .ok (.iload_n 2, 1) := by decide +kernel
theorem dX0_findSwaps_50 : decode cX0_findSwaps 50 = .ok (.invokevirtual 146, 3) := by decide +kernel
theorem dX0_findSwaps_53 : decode cX0_findSwaps 53 = .ok (.iinc 2 1, 3) := by decide +kernel
theorem dX0_findSwaps_56 : decode cX0_findSwaps 56 = .ok (.goto (-31), 3) := by decide +kernel
theorem dX0_findSwaps_59 : decode cX0_findSwaps 59 = .ok (.iinc 1 1, 3) := by decide +kernel
theorem dX0_findSwaps_62 : decode cX0_findSwaps 62 = .ok (.goto (-60), 3) := by decide +kernel
theorem dX0_findSwaps_65 : decode cX0_findSwaps 65 = .ok (.return_, 1) := by decide +kernel
set_option maxRecDepth 20000 in
theorem ggX0_weighSwaps_X0_way : GoodIn wsX0_weighSwaps wsX0_way := goodIn_r _ [9, 1, 10, 11, 12, 13, 14, 15, 16, 17, 18, 19, 20, 21, 22, 23, 24, 25, 26, 27, 28, 29, 30, 31, 32, 33, 34, 35, 36, 37, 38, 39, 40, 41, 42, 43, 44] (by decide +kernel) (by decide +kernel)
set_option maxRecDepth 20000 in
theorem gX0_weighSwaps_X0_way : GoodIn wsX0_weighSwaps (wsV RX0 84 RX0 yX0_way wsX0_way) := goodIn_app (goodIn_of _ (by decide +kernel)) ggX0_weighSwaps_X0_way
theorem dX0_weighSwaps_0 : decode cX0_weighSwaps 0 = .ok (.aload_n 0, 1) := by decide +kernel
theorem dX0_weighSwaps_1 : decode cX0_weighSwaps 1 = .ok (.iload_n 1, 1) := by decide +kernel
theorem dX0_weighSwaps_2 : decode cX0_weighSwaps 2 = .ok (.iload_n 2, 1) := by decide +kernel
theorem dX0_weighSwaps_3 : decode cX0_weighSwaps 3 = .ok (.invokevirtual 84, 3) := by decide +kernel
theorem dX0_weighSwaps_6 : decode cX0_weighSwaps 6 = .ok (.istore_n 3, 1) := by decide +kernel
theorem dX0_weighSwaps_7 : decode cX0_weighSwaps 7 = .ok (.iconst 0, 1) := by decide +kernel
theorem dX0_weighSwaps_8 : decode cX0_weighSwaps 8 = .ok (.istore 4, 2) := by decide +kernel
theorem dX0_weighSwaps_10 : decode cX0_weighSwaps 10 = .ok (.iload 4, 2) := by decide +kernel
theorem dX0_weighSwaps_12 : decode cX0_weighSwaps 12 = .ok (.aload_n 0, 1) := by decide +kernel
theorem dX0_weighSwaps_13 : decode cX0_weighSwaps 13 = .ok (.getfield 35, 3) := by decide +kernel
theorem dX0_weighSwaps_16 : decode cX0_weighSwaps 16 = .ok (.getfield 47, 3) := by decide +kernel
theorem dX0_weighSwaps_19 : decode cX0_weighSwaps 19 = .ok (.if_icmp .ge 68, 3) := by decide +kernel
theorem dX0_weighSwaps_22 : decode cX0_weighSwaps 22 = .ok (.aload_n 0, 1) := by decide +kernel
theorem dX0_weighSwaps_23 : decode cX0_weighSwaps 23 = .ok (.iload 4, 2) := by decide +kernel
theorem dX0_weighSwaps_25 : decode cX0_weighSwaps 25 = .ok (.iload_n 2, 1) := by decide +kernel
theorem dX0_weighSwaps_26 : decode cX0_weighSwaps 26 = .ok (.invokevirtual 84, 3) := by decide +kernel
theorem dX0_weighSwaps_29 : decode cX0_weighSwaps 29 = .ok (.iload_n 3, 1) := by decide +kernel
theorem dX0_weighSwaps_30 : decode cX0_weighSwaps 30 = .ok (.isub, 1) := by decide +kernel
theorem dX0_weighSwaps_31 : decode cX0_weighSwaps 31 = .ok (.istore 5, 2) := by decide +kernel
theorem dX0_weighSwaps_33 : decode cX0_weighSwaps 33 = .ok (.aload_n 0, 1) := by decide +kernel
theorem dX0_weighSwaps_34 : decode cX0_weighSwaps 34 = .ok (.getfield 26, 3) := by decide +kernel
theorem dX0_weighSwaps_37 : decode cX0_weighSwaps 37 = .ok (.iload_n 1, 1) := by decide +kernel
theorem dX0_weighSwaps_38 : decode cX0_weighSwaps 38 = .ok (.aaload, 1) := by decide +kernel
theorem dX0_weighSwaps_39 : decode cX0_weighSwaps 39 = .ok (.iload 4, 2) := by decide +kernel
theorem dX0_weighSwaps_41 : decode cX0_weighSwaps 41 = .ok (.iaload, 1) := by decide +kernel
theorem dX0_weighSwaps_42 : decode cX0_weighSwaps 42 = .ok (.iconst (-1), 1) := by decide +kernel
theorem dX0_weighSwaps_43 : decode cX0_weighSwaps 43 = .ok (.if_icmp .eq 17, 3) := by decide +kernel
theorem dX0_weighSwaps_46 : decode cX0_weighSwaps 46 = .ok (.iload 5, 2) := by decide +kernel
theorem dX0_weighSwaps_48 : decode cX0_weighSwaps 48 = .ok (.aload_n 0, 1) := by decide +kernel
theorem dX0_weighSwaps_49 : decode cX0_weighSwaps 49 = .ok (.getfield 23, 3) := by decide +kernel
theorem dX0_weighSwaps_52 : decode cX0_weighSwaps 52 = .ok (.iload_n 1, 1) := by decide +kernel
theorem dX0_weighSwaps_53 : decode cX0_weighSwaps 53 = .ok (.aaload, 1) := by decide +kernel
theorem dX0_weighSwaps_54 : decode cX0_weighSwaps 54 = .ok (.iload 4, 2) := by decide +kernel
theorem dX0_weighSwaps_56 : decode cX0_weighSwaps 56 = .ok (.iaload, 1) := by decide +kernel
theorem dX0_weighSwaps_57 : decode cX0_weighSwaps 57 = .ok (.if_icmp .ge 24, 3) := by decide +kernel
theorem dX0_weighSwaps_60 : decode cX0_weighSwaps 60 = .ok (.aload_n 0, 1) := by decide +kernel
theorem dX0_weighSwaps_61 : decode cX0_weighSwaps 61 = .ok (.getfield 26, 3) := by decide +kernel
theorem dX0_weighSwaps_64 : decode cX0_weighSwaps 64 = .ok (.iload_n 1, 1) := by decide +kernel
theorem dX0_weighSwaps_65 : decode cX0_weighSwaps 65 = .ok (.aaload, 1) := by decide +kernel
theorem dX0_weighSwaps_66 : decode cX0_weighSwaps 66 = .ok (.iload 4, 2) := by decide +kernel
theorem dX0_weighSwaps_68 : decode cX0_weighSwaps 68 = .ok (.iload_n 2, 1) := by decide +kernel
theorem dX0_weighSwaps_69 : decode cX0_weighSwaps 69 = .ok (.iastore, 1) := by decide +kernel
theorem dX0_weighSwaps_70 : decode cX0_weighSwaps 70 = .ok (.aload_n 0, 1) := by decide +kernel
theorem dX0_weighSwaps_71 : decode cX0_weighSwaps 71 = .ok (.getfield 23, 3) := by decide +kernel
theorem dX0_weighSwaps_74 : decode cX0_weighSwaps 74 = .ok (.iload_n 1, 1) := by decide +kernel
theorem dX0_weighSwaps_75 : decode cX0_weighSwaps 75 = .ok (.aaload, 1) := by decide +kernel
theorem dX0_weighSwaps_76 : decode cX0_weighSwaps 76 = .ok (.iload 4, 2) := by decide +kernel
theorem dX0_weighSwaps_78 : decode cX0_weighSwaps 78 = .ok (.iload 5, 2) := by decide +kernel
theorem dX0_weighSwaps_80 : decode cX0_weighSwaps 80 = .ok (.iastore, 1) := by decide +kernel
theorem dX0_weighSwaps_81 : decode cX0_weighSwaps 81 = .ok (.iinc 4 1, 3) := by decide +kernel
theorem dX0_weighSwaps_84 : decode cX0_weighSwaps 84 = .ok (.goto (-74), 3) := by decide +kernel
theorem dX0_weighSwaps_87 : decode cX0_weighSwaps 87 = .ok (.return_, 1) := by decide +kernel
set_option maxRecDepth 20000 in
theorem ggX0_findChains_X0_way : GoodIn wsX0_findChains wsX0_way := goodIn_r _ [9, 1, 10, 11, 12, 13, 14, 15, 16, 17, 18, 25, 26, 27, 28, 29, 30, 31, 32, 33, 34, 35, 36, 37, 38, 39, 40, 41, 42, 43, 44, 45, 46, 47, 48, 49, 50] (by decide +kernel) (by decide +kernel)
set_option maxRecDepth 20000 in
theorem gX0_findChains_X0_way : GoodIn wsX0_findChains (wsV RX0 84 RX0 yX0_way wsX0_way) := goodIn_app (goodIn_of _ (by decide +kernel)) ggX0_findChains_X0_way
set_option maxRecDepth 20000 in
theorem ggX0_findChains_X0_lengthenChains : GoodIn wsX0_findChains wsX0_lengthenChains := goodIn_r _ [22, 1, 2, 3, 23, 24, 4, 25, 26, 27, 28, 29, 30, 31, 32, 33, 34, 35, 36, 37, 38, 39, 40, 41] (by decide +kernel) (by decide +kernel)
set_option maxRecDepth 20000 in
theorem gX0_findChains_X0_lengthenChains : GoodIn wsX0_findChains (wsV RX0 149 RX0 yX0_lengthenChains wsX0_lengthenChains) := goodIn_app (goodIn_of _ (by decide +kernel)) ggX0_findChains_X0_lengthenChains
theorem dX0_findChains_0 : decode cX0_findChains 0 = .ok (.iconst 0, 1) := by decide +kernel
theorem dX0_findChains_1 : decode cX0_findChains 1 = .ok (.istore_n 2, 1) := by decide +kernel
theorem dX0_findChains_2 : decode cX0_findChains 2 = .ok (.iload_n 2, 1) := by decide +kernel
theorem dX0_findChains_3 : decode cX0_findChains 3 = .ok (.aload_n 0, 1) := by decide +kernel
theorem dX0_findChains_4 : decode cX0_findChains 4 = .ok (.getfield 35, 3) := by decide +kernel
theorem dX0_findChains_7 : decode cX0_findChains 7 = .ok (.getfield 47, 3) := by decide +kernel
theorem dX0_findChains_10 : decode cX0_findChains 10 = .ok (.if_icmp .ge 28, 3) := by decide +kernel
theorem dX0_findChains_13 : decode cX0_findChains 13 = .ok (.aload_n 0, 1) := by decide +kernel
theorem dX0_findChains_14 : decode cX0_findChains 14 = .ok (.getfield 29, 3) := by decide +kernel
theorem dX0_findChains_17 : decode cX0_findChains 17 = .ok (.iload_n 2, 1) := by decide +kernel
theorem dX0_findChains_18 : decode cX0_findChains 18 = .ok (.aload_n 0, 1) := by decide +kernel
theorem dX0_findChains_19 : decode cX0_findChains 19 = .ok (.iload_n 2, 1) := by decide +kernel
theorem dX0_findChains_20 : decode cX0_findChains 20 = .ok (.iload_n 1, 1) := by decide +kernel
theorem dX0_findChains_21 : decode cX0_findChains 21 = .ok (.invokevirtual 84, 3) := by decide +kernel
theorem dX0_findChains_24 : decode cX0_findChains 24 = .ok (.iastore, 1) := by decide +kernel
theorem dX0_findChains_25 : decode cX0_findChains 25 = .ok (.aload_n 0, 1) := by decide +kernel
theorem dX0_findChains_26 : decode cX0_findChains 26 = .ok (.getfield 32, 3) := by decide +kernel
theorem dX0_findChains_29 : decode cX0_findChains 29 = .ok (.iload_n 2, 1) := by decide +kernel
theorem dX0_findChains_30 : decode cX0_findChains 30 = .ok (.iconst (-1), 1) := by decide +kernel
theorem dX0_findChains_31 : decode cX0_findChains 31 = .ok (.iastore, 1) := by decide +kernel
theorem dX0_findChains_32 : decode cX0_findChains 32 = .ok (.iinc 2 1, 3) := by decide +kernel
theorem dX0_findChains_35 : decode cX0_findChains 35 = .ok (.goto (-33), 3) := by decide +kernel
theorem dX0_findChains_38 : decode cX0_findChains 38 = .ok (.iconst 0, 1) := by decide +kernel
theorem dX0_findChains_39 : decode cX0_findChains 39 = .ok (.istore_n 2, 1) := by decide +kernel
theorem dX0_findChains_40 : decode cX0_findChains 40 = .ok (.iload_n 2, 1) := by decide +kernel
theorem dX0_findChains_41 : decode cX0_findChains 41 = .ok (.aload_n 0, 1) := by decide +kernel
theorem dX0_findChains_42 : decode cX0_findChains 42 = .ok (.getfield 35, 3) := by decide +kernel
theorem dX0_findChains_45 : decode cX0_findChains 45 = .ok (.getfield 47, 3) := by decide +kernel
theorem dX0_findChains_48 : decode cX0_findChains 48 = .ok (.if_icmp .ge 33, 3) := by decide +kernel
theorem dX0_findChains_51 : decode cX0_findChains 51 = .ok (.iconst 0, 1) := by decide +kernel
theorem dX0_findChains_52 : decode cX0_findChains 52 = .ok (.istore_n 3, 1) := by decide +kernel
theorem dX0_findChains_53 : decode cX0_findChains 53 = .ok (.iload_n 3, 1) := by decide +kernel
theorem dX0_findChains_54 : decode cX0_findChains 54 = .ok (.aload_n 0, 1) := by decide +kernel
theorem dX0_findChains_55 : decode cX0_findChains 55 = .ok (.getfield 35, 3) := by decide +kernel
theorem dX0_findChains_58 : decode cX0_findChains 58 = .ok (.getfield 47, 3) := by decide +kernel
theorem dX0_findChains_61 : decode cX0_findChains 61 = .ok (.if_icmp .ge 14, 3) := by decide +kernel
theorem dX0_findChains_64 : decode cX0_findChains 64 = .ok (.aload_n 0, 1) := by decide +kernel
theorem dX0_findChains_65 : decode cX0_findChains 65 = .ok (.iload_n 3, 1) := by decide +kernel
theorem dX0_findChains_66 : decode cX0_findChains 66 = .ok (.invokevirtual 149, 3) := by decide +kernel
theorem dX0_findChains_69 : decode cX0_findChains 69 = .ok (.iinc 3 1, 3) := by decide +kernel
theorem dX0_findChains_72 : decode cX0_findChains 72 = .ok (.goto (-19), 3) := by decide +kernel
theorem dX0_findChains_75 : decode cX0_findChains 75 = .ok (.iinc 2 1, 3) := by decide +kernel
theorem dX0_findChains_78 : decode cX0_findChains 78 = .ok (.goto (-38), 3) := by decide +kernel
theorem dX0_findChains_81 : decode cX0_findChains 81 = .ok (.return_, 1) := by decide +kernel
theorem dX0_lengthenChains_0 : decode cX0_lengthenChains 0 = .ok (.iconst 0, 1) := by decide +kernel
theorem dX0_lengthenChains_1 : decode cX0_lengthenChains 1 = .ok (.istore_n 2, 1) := by decide +kernel
theorem dX0_lengthenChains_2 : decode cX0_lengthenChains 2 = .ok (.iload_n 2, 1) := by decide +kernel
theorem dX0_lengthenChains_3 : decode cX0_lengthenChains 3 = .ok (.aload_n 0, 1) := by decide +kernel
theorem dX0_lengthenChains_4 : decode cX0_lengthenChains 4 = .ok (.getfield 35, 3) := by decide +kernel
theorem dX0_lengthenChains_7 : decode cX0_lengthenChains 7 = .ok (.getfield 47, 3) := by decide +kernel
theorem dX0_lengthenChains_10 : decode cX0_lengthenChains 10 = .ok (.if_icmp .ge 61, 3) := by decide +kernel
theorem dX0_lengthenChains_13 : decode cX0_lengthenChains 13 = .ok (.aload_n 0, 1) := by decide +kernel
theorem dX0_lengthenChains_14 : decode cX0_lengthenChains 14 = .ok (.getfield 29, 3) := by decide +kernel
theorem dX0_lengthenChains_17 : decode cX0_lengthenChains 17 = .ok (.iload_n 1, 1) := by decide +kernel
theorem dX0_lengthenChains_18 : decode cX0_lengthenChains 18 = .ok (.iaload, 1) := by decide +kernel
theorem dX0_lengthenChains_19 : decode cX0_lengthenChains 19 = .ok (.aload_n 0, 1) := by decide +kernel
theorem dX0_lengthenChains_20 : decode cX0_lengthenChains 20 = .ok (.getfield 23, 3) := by decide +kernel
theorem dX0_lengthenChains_23 : decode cX0_lengthenChains 23 = .ok (.iload_n 1, 1) := by decide +kernel
theorem dX0_lengthenChains_24 : decode cX0_lengthenChains 24 = .ok (.aaload, 1) := by decide +kernel
theorem dX0_lengthenChains_25 : decode cX0_lengthenChains 25 = .ok (.iload_n 2, 1) := by decide +kernel
theorem dX0_lengthenChains_26 : decode cX0_lengthenChains 26 = .ok (.iaload, 1) := by decide +kernel
theorem dX0_lengthenChains_27 : decode cX0_lengthenChains 27 = .ok (.iadd, 1) := by decide +kernel
theorem dX0_lengthenChains_28 : decode cX0_lengthenChains 28 = .ok (.istore_n 3, 1) := by decide +kernel
theorem dX0_lengthenChains_29 : decode cX0_lengthenChains 29 = .ok (.aload_n 0, 1) := by decide +kernel
theorem dX0_lengthenChains_30 : decode cX0_lengthenChains 30 = .ok (.getfield 26, 3) := by decide +kernel
theorem dX0_lengthenChains_33 : decode cX0_lengthenChains 33 = .ok (.iload_n 1, 1) := by decide +kernel
theorem dX0_lengthenChains_34 : decode cX0_lengthenChains 34 = .ok (.aaload, 1) := by decide +kernel
theorem dX0_lengthenChains_35 : decode cX0_lengthenChains 35 = .ok (.iload_n 2, 1) := by decide +kernel
theorem dX0_lengthenChains_36 : decode cX0_lengthenChains 36 = .ok (.iaload, 1) := by decide +kernel
theorem dX0_lengthenChains_37 : decode cX0_lengthenChains 37 = .ok (.iconst (-1), 1) := by decide +kernel
theorem dX0_lengthenChains_38 : decode cX0_lengthenChains 38 = .ok (.if_icmp .eq 27, 3) := by decide +kernel
theorem dX0_lengthenChains_41 : decode cX0_lengthenChains 41 = .ok (.iload_n 3, 1) := by decide +kernel
theorem dX0_lengthenChains_42 : decode cX0_lengthenChains 42 = .ok (.aload_n 0, 1) := by decide +kernel
theorem dX0_lengthenChains_43 : decode cX0_lengthenChains 43 = .ok (.getfield 29, 3) := by decide +kernel
theorem dX0_lengthenChains_46 : decode cX0_lengthenChains 46 = .ok (.iload_n 2, 1) := by decide +kernel
theorem dX0_lengthenChains_47 : decode cX0_lengthenChains 47 = .ok (.iaload, 1) := by decide +kernel
theorem dX0_lengthenChains_48 : decode cX0_lengthenChains 48 = .ok (.if_icmp .ge 17, 3) := by decide +kernel
theorem dX0_lengthenChains_51 : decode cX0_lengthenChains 51 = .ok (.aload_n 0, 1) := by decide +kernel
theorem dX0_lengthenChains_52 : decode cX0_lengthenChains 52 = .ok (.getfield 29, 3) := by decide +kernel
theorem dX0_lengthenChains_55 : decode cX0_lengthenChains 55 = .ok (.iload_n 2, 1) := by decide +kernel
theorem dX0_lengthenChains_56 : decode cX0_lengthenChains 56 = .ok (.iload_n 3, 1) := by decide +kernel
theorem dX0_lengthenChains_57 : decode cX0_lengthenChains 57 = .ok (.iastore, 1) := by decide +kernel
theorem dX0_lengthenChains_58 : decode cX0_lengthenChains 58 = .ok (.aload_n 0, 1) := by decide +kernel
theorem dX0_lengthenChains_59 : decode cX0_lengthenChains 59 = .ok (.getfield 32, 3) := by decide +kernel
theorem dX0_lengthenChains_62 : decode cX0_lengthenChains 62 = .ok (.iload_n 2, 1) := by decide +kernel
theorem dX0_lengthenChains_63 : decode cX0_lengthenChains 63 = .ok (.iload_n 1, 1) := by decide +kernel
theorem dX0_lengthenChains_64 : decode cX0_lengthenChains 64 = .ok (.iastore, 1) := by decide +kernel
theorem dX0_lengthenChains_65 : decode cX0_lengthenChains 65 = .ok (.iinc 2 1, 3) := by decide +kernel
theorem dX0_lengthenChains_68 : decode cX0_lengthenChains 68 = .ok (.goto (-66), 3) := by decide +kernel
theorem dX0_lengthenChains_71 : decode cX0_lengthenChains 71 = .ok (.return_, 1) := by decide +kernel
theorem dX0_cheapestGiver_0 : decode cX0_cheapestGiver 0 = .ok (.iconst (-1), 1) := by decide +kernel
theorem dX0_cheapestGiver_1 : decode cX0_cheapestGiver 1 = .ok (.istore_n 1, 1) := by decide +kernel
theorem dX0_cheapestGiver_2 : decode cX0_cheapestGiver 2 = .ok (.iconst 0, 1) := by decide +kernel
theorem dX0_cheapestGiver_3 : decode cX0_cheapestGiver 3 = .ok (.istore_n 2, 1) := by decide +kernel
theorem dX0_cheapestGiver_4 : decode cX0_cheapestGiver 4 = .ok (.iload_n 2, 1) := by decide +kernel
theorem dX0_cheapestGiver_5 : decode cX0_cheapestGiver 5 = .ok (.aload_n 0, 1) := by decide +kernel
theorem dX0_cheapestGiver_6 : decode cX0_cheapestGiver 6 = .ok (.getfield 35, 3) := by decide +kernel
theorem dX0_cheapestGiver_9 : decode cX0_cheapestGiver 9 = .ok (.getfield 47, 3) := by decide +kernel
theorem dX0_cheapestGiver_12 : decode cX0_cheapestGiver 12 = .ok (.if_icmp .ge 40, 3) := by decide +kernel
theorem dX0_cheapestGiver_15 : decode cX0_cheapestGiver 15 = .ok (.aload_n 0, 1) := by decide +kernel
theorem dX0_cheapestGiver_16 : decode cX0_cheapestGiver 16 = .ok (.getfield 16, 3) := by decide +kernel
theorem dX0_cheapestGiver_19 : decode cX0_cheapestGiver 19 = .ok (.iload_n 2, 1) := by decide +kernel
theorem dX0_cheapestGiver_20 : decode cX0_cheapestGiver 20 = .ok (.iaload, 1) := by decide +kernel
theorem dX0_cheapestGiver_21 : decode cX0_cheapestGiver 21 = .ok (.ifCond .le 25, 3) := by decide +kernel
theorem dX0_cheapestGiver_24 : decode cX0_cheapestGiver 24 = .ok (.iload_n 1, 1) := by decide +kernel
theorem dX0_cheapestGiver_25 : decode cX0_cheapestGiver 25 = .ok (.iconst (-1), 1) := by decide +kernel
theorem dX0_cheapestGiver_26 : decode cX0_cheapestGiver 26 = .ok (.if_icmp .eq 18, 3) := by decide +kernel
theorem dX0_cheapestGiver_29 : decode cX0_cheapestGiver 29 = .ok (.aload_n 0, 1) := by decide +kernel
theorem dX0_cheapestGiver_30 : decode cX0_cheapestGiver 30 = .ok (.getfield 29, 3) := by decide +kernel
theorem dX0_cheapestGiver_33 : decode cX0_cheapestGiver 33 = .ok (.iload_n 2, 1) := by decide +kernel
theorem dX0_cheapestGiver_34 : decode cX0_cheapestGiver 34 = .ok (.iaload, 1) := by decide +kernel
theorem dX0_cheapestGiver_35 : decode cX0_cheapestGiver 35 = .ok (.aload_n 0, 1) := by decide +kernel
theorem dX0_cheapestGiver_36 : decode cX0_cheapestGiver 36 = .ok (.getfield 29, 3) := by decide +kernel
theorem dX0_cheapestGiver_39 : decode cX0_cheapestGiver 39 = .ok (.iload_n 1, 1) := by decide +kernel
theorem dX0_cheapestGiver_40 : decode cX0_cheapestGiver 40 = .ok (.iaload, 1) := by decide +kernel
theorem dX0_cheapestGiver_41 : decode cX0_cheapestGiver 41 = .ok (.if_icmp .ge 5, 3) := by decide +kernel
theorem dX0_cheapestGiver_44 : decode cX0_cheapestGiver 44 = .ok (.iload_n 2, 1) := by decide +kernel
theorem dX0_cheapestGiver_45 : decode cX0_cheapestGiver 45 = .ok (.istore_n 1, 1) := by decide +kernel
theorem dX0_cheapestGiver_46 : decode cX0_cheapestGiver 46 = .ok (.iinc 2 1, 3) := by decide +kernel
theorem dX0_cheapestGiver_49 : decode cX0_cheapestGiver 49 = .ok (.goto (-45), 3) := by decide +kernel
theorem dX0_cheapestGiver_52 : decode cX0_cheapestGiver 52 = .ok (.iload_n 1, 1) := by decide +kernel
theorem dX0_cheapestGiver_53 : decode cX0_cheapestGiver 53 = .ok (.ireturn, 1) := by decide +kernel
theorem dX0_followChain_0 : decode cX0_followChain 0 = .ok (.iload_n 1, 1) := by decide +kernel
theorem dX0_followChain_1 : decode cX0_followChain 1 = .ok (.istore_n 3, 1) := by decide +kernel
theorem dX0_followChain_2 : decode cX0_followChain 2 = .ok (.iconst 0, 1) := by decide +kernel
theorem dX0_followChain_3 : decode cX0_followChain 3 = .ok (.istore 4, 2) := by decide +kernel
theorem dX0_followChain_5 : decode cX0_followChain 5 = .ok (.iload 4, 2) := by decide +kernel
theorem dX0_followChain_7 : decode cX0_followChain 7 = .ok (.aload_n 0, 1) := by decide +kernel
theorem dX0_followChain_8 : decode cX0_followChain 8 = .ok (.getfield 35, 3) := by decide +kernel
theorem dX0_followChain_11 : decode cX0_followChain 11 = .ok (.getfield 47, 3) := by decide +kernel
theorem dX0_followChain_14 : decode cX0_followChain 14 = .ok (.if_icmp .ge 68, 3) := by decide +kernel
theorem dX0_followChain_17 : decode cX0_followChain 17 = .ok (.aload_n 0, 1) := by decide +kernel
theorem dX0_followChain_18 : decode cX0_followChain 18 = .ok (.getfield 32, 3) := by decide +kernel
theorem dX0_followChain_21 : decode cX0_followChain 21 = .ok (.iload_n 3, 1) := by decide +kernel
theorem dX0_followChain_22 : decode cX0_followChain 22 = .ok (.iaload, 1) := by decide +kernel
theorem dX0_followChain_23 : decode cX0_followChain 23 = .ok (.iconst (-1), 1) := by decide +kernel
theorem dX0_followChain_24 : decode cX0_followChain 24 = .ok (.if_icmp .eq 58, 3) := by decide +kernel
theorem dX0_followChain_27 : decode cX0_followChain 27 = .ok (.aload_n 0, 1) := by decide +kernel
theorem dX0_followChain_28 : decode cX0_followChain 28 = .ok (.getfield 32, 3) := by decide +kernel
theorem dX0_followChain_31 : decode cX0_followChain 31 = .ok (.iload_n 3, 1) := by decide +kernel
theorem dX0_followChain_32 : decode cX0_followChain 32 = .ok (.iaload, 1) := by decide +kernel
theorem dX0_followChain_33 : decode cX0_followChain 33 = .ok (.istore 5, 2) := by decide +kernel
theorem dX0_followChain_35 : decode cX0_followChain 35 = .ok (.aload_n 0, 1) := by decide +kernel
theorem dX0_followChain_36 : decode cX0_followChain 36 = .ok (.getfield 26, 3) := by decide +kernel
theorem dX0_followChain_39 : decode cX0_followChain 39 = .ok (.iload 5, 2) := by decide +kernel
theorem dX0_followChain_41 : decode cX0_followChain 41 = .ok (.aaload, 1) := by decide +kernel
theorem dX0_followChain_42 : decode cX0_followChain 42 = .ok (.iload_n 3, 1) := by decide +kernel
theorem dX0_followChain_43 : decode cX0_followChain 43 = .ok (.iaload, 1) := by decide +kernel
theorem dX0_followChain_44 : decode cX0_followChain 44 = .ok (.istore 6, 2) := by decide +kernel
theorem dX0_followChain_46 : decode cX0_followChain 46 = .ok (.aload_n 0, 1) := by decide +kernel
theorem dX0_followChain_47 : decode cX0_followChain 47 = .ok (.getfield 20, 3) := by decide +kernel
theorem dX0_followChain_50 : decode cX0_followChain 50 = .ok (.iload 5, 2) := by decide +kernel
theorem dX0_followChain_52 : decode cX0_followChain 52 = .ok (.aaload, 1) := by decide +kernel
theorem dX0_followChain_53 : decode cX0_followChain 53 = .ok (.iload 6, 2) := by decide +kernel
theorem dX0_followChain_55 : decode cX0_followChain 55 = .ok (.dup2, 1) := by decide +kernel
theorem dX0_followChain_56 : decode cX0_followChain 56 = .ok (.iaload, 1) := by decide +kernel
theorem dX0_followChain_57 : decode cX0_followChain 57 = .ok (.iconst 1, 1) := by decide +kernel
theorem dX0_followChain_58 : decode cX0_followChain 58 = .ok (.isub, 1) := by decide +kernel
theorem dX0_followChain_59 : decode cX0_followChain 59 = .ok (.iastore, 1) := by decide +kernel
theorem dX0_followChain_60 : decode cX0_followChain 60 = .ok (.aload_n 0, 1) := by decide +kernel
theorem dX0_followChain_61 : decode cX0_followChain 61 = .ok (.getfield 20, 3) := by decide +kernel
theorem dX0_followChain_64 : decode cX0_followChain 64 = .ok (.iload_n 3, 1) := by decide +kernel
theorem dX0_followChain_65 : decode cX0_followChain 65 = .ok (.aaload, 1) := by decide +kernel
theorem dX0_followChain_66 : decode cX0_followChain 66 = .ok (.iload 6, 2) := by decide +kernel
theorem dX0_followChain_68 : decode cX0_followChain 68 = .ok (.dup2, 1) := by decide +kernel
theorem dX0_followChain_69 : decode cX0_followChain 69 = .ok (.iaload, 1) := by decide +kernel
theorem dX0_followChain_70 : decode cX0_followChain 70 = .ok (.iconst 1, 1) := by decide +kernel
theorem dX0_followChain_71 : decode cX0_followChain 71 = .ok (.iadd, 1) := by decide +kernel
theorem dX0_followChain_72 : decode cX0_followChain 72 = .ok (.iastore, 1) := by decide +kernel
theorem dX0_followChain_73 : decode cX0_followChain 73 = .ok (.iload 5, 2) := by decide +kernel
theorem dX0_followChain_75 : decode cX0_followChain 75 = .ok (.istore_n 3, 1) := by decide +kernel
theorem dX0_followChain_76 : decode cX0_followChain 76 = .ok (.iinc 4 1, 3) := by decide +kernel
theorem dX0_followChain_79 : decode cX0_followChain 79 = .ok (.goto (-74), 3) := by decide +kernel
theorem dX0_followChain_82 : decode cX0_followChain 82 = .ok (.aload_n 0, 1) := by decide +kernel
theorem dX0_followChain_83 : decode cX0_followChain 83 = .ok (.getfield 20, 3) := by decide +kernel
theorem dX0_followChain_86 : decode cX0_followChain 86 = .ok (.iload_n 3, 1) := by decide +kernel
theorem dX0_followChain_87 : decode cX0_followChain 87 = .ok (.aaload, 1) := by decide +kernel
theorem dX0_followChain_88 : decode cX0_followChain 88 = .ok (.iload_n 2, 1) := by decide +kernel
theorem dX0_followChain_89 : decode cX0_followChain 89 = .ok (.dup2, 1) := by decide +kernel
theorem dX0_followChain_90 : decode cX0_followChain 90 = .ok (.iaload, 1) := by decide +kernel
theorem dX0_followChain_91 : decode cX0_followChain 91 = .ok (.iconst 1, 1) := by decide +kernel
theorem dX0_followChain_92 : decode cX0_followChain 92 = .ok (.iadd, 1) := by decide +kernel
theorem dX0_followChain_93 : decode cX0_followChain 93 = .ok (.iastore, 1) := by decide +kernel
theorem dX0_followChain_94 : decode cX0_followChain 94 = .ok (.return_, 1) := by decide +kernel
end
section
theorem dX1_init_0 : decode cX1_init 0 = .ok (.aload_n 0, 1) := by decide +kernel
theorem dX1_init_1 : decode cX1_init 1 = .ok (.invokespecial 3, 3) := by decide +kernel
theorem dX1_init_4 : decode cX1_init 4 = .ok (.aload_n 0, 1) := by decide +kernel
theorem dX1_init_5 : decode cX1_init 5 = .ok (.sipush 144, 3) := by decide +kernel
theorem dX1_init_8 : decode cX1_init 8 = .ok (.newarray .int, 2) := by decide +kernel
theorem dX1_init_10 : decode cX1_init 10 = .ok (.putfield 9, 3) := by decide +kernel
theorem dX1_init_13 : decode cX1_init 13 = .ok (.aload_n 0, 1) := by decide +kernel
theorem dX1_init_14 : decode cX1_init 14 = .ok (.sipush 144, 3) := by decide +kernel
theorem dX1_init_17 : decode cX1_init 17 = .ok (.newarray .int, 2) := by decide +kernel
theorem dX1_init_19 : decode cX1_init 19 = .ok (.putfield 15, 3) := by decide +kernel
theorem dX1_init_22 : decode cX1_init 22 = .ok (.aload_n 0, 1) := by decide +kernel
theorem dX1_init_23 : decode cX1_init 23 = .ok (.sipush 144, 3) := by decide +kernel
theorem dX1_init_26 : decode cX1_init 26 = .ok (.newarray .int, 2) := by decide +kernel
theorem dX1_init_28 : decode cX1_init 28 = .ok (.putfield 18, 3) := by decide +kernel
theorem dX1_init_31 : decode cX1_init 31 = .ok (.aload_n 0, 1) := by decide +kernel
theorem dX1_init_32 : decode cX1_init 32 = .ok (.sipush 144, 3) := by decide +kernel
theorem dX1_init_35 : decode cX1_init 35 = .ok (.newarray .int, 2) := by decide +kernel
theorem dX1_init_37 : decode cX1_init 37 = .ok (.putfield 21, 3) := by decide +kernel
theorem dX1_init_40 : decode cX1_init 40 = .ok (.aload_n 0, 1) := by decide +kernel
theorem dX1_init_41 : decode cX1_init 41 = .ok (.sipush 144, 3) := by decide +kernel
theorem dX1_init_44 : decode cX1_init 44 = .ok (.newarray .int, 2) := by decide +kernel
theorem dX1_init_46 : decode cX1_init 46 = .ok (.putfield 24, 3) := by decide +kernel
theorem dX1_init_49 : decode cX1_init 49 = .ok (.aload_n 0, 1) := by decide +kernel
theorem dX1_init_50 : decode cX1_init 50 = .ok (.sipush 144, 3) := by decide +kernel
theorem dX1_init_53 : decode cX1_init 53 = .ok (.newarray .boolean, 2) := by decide +kernel
theorem dX1_init_55 : decode cX1_init 55 = .ok (.putfield 27, 3) := by decide +kernel
theorem dX1_init_58 : decode cX1_init 58 = .ok (.aload_n 0, 1) := by decide +kernel
theorem dX1_init_59 : decode cX1_init 59 = .ok (.bipush 6, 2) := by decide +kernel
theorem dX1_init_61 : decode cX1_init 61 = .ok (.newarray .int, 2) := by decide +kernel
theorem dX1_init_63 : decode cX1_init 63 = .ok (.putfield 31, 3) := by decide +kernel
theorem dX1_init_66 : decode cX1_init 66 = .ok (.aload_n 0, 1) := by decide +kernel
theorem dX1_init_67 : decode cX1_init 67 = .ok (.aload_n 1, 1) := by decide +kernel
theorem dX1_init_68 : decode cX1_init 68 = .ok (.putfield 34, 3) := by decide +kernel
theorem dX1_init_71 : decode cX1_init 71 = .ok (.aload_n 0, 1) := by decide +kernel
theorem dX1_init_72 : decode cX1_init 72 = .ok (.aload_n 2, 1) := by decide +kernel
theorem dX1_init_73 : decode cX1_init 73 = .ok (.putfield 38, 3) := by decide +kernel
theorem dX1_init_76 : decode cX1_init 76 = .ok (.return_, 1) := by decide +kernel
theorem dX1_forget_0 : decode cX1_forget 0 = .ok (.aload_n 0, 1) := by decide +kernel
theorem dX1_forget_1 : decode cX1_forget 1 = .ok (.iconst 0, 1) := by decide +kernel
theorem dX1_forget_2 : decode cX1_forget 2 = .ok (.putfield 42, 3) := by decide +kernel
theorem dX1_forget_5 : decode cX1_forget 5 = .ok (.aload_n 0, 1) := by decide +kernel
theorem dX1_forget_6 : decode cX1_forget 6 = .ok (.iconst 0, 1) := by decide +kernel
theorem dX1_forget_7 : decode cX1_forget 7 = .ok (.putfield 46, 3) := by decide +kernel
theorem dX1_forget_10 : decode cX1_forget 10 = .ok (.aload_n 0, 1) := by decide +kernel
theorem dX1_forget_11 : decode cX1_forget 11 = .ok (.iconst 0, 1) := by decide +kernel
theorem dX1_forget_12 : decode cX1_forget 12 = .ok (.putfield 50, 3) := by decide +kernel
theorem dX1_forget_15 : decode cX1_forget 15 = .ok (.return_, 1) := by decide +kernel
theorem dX1_add_0 : decode cX1_add 0 = .ok (.aload_n 0, 1) := by decide +kernel
theorem dX1_add_1 : decode cX1_add 1 = .ok (.getfield 42, 3) := by decide +kernel
theorem dX1_add_4 : decode cX1_add 4 = .ok (.sipush 144, 3) := by decide +kernel
theorem dX1_add_7 : decode cX1_add 7 = .ok (.if_icmp .lt 4, 3) := by decide +kernel
theorem dX1_add_10 : decode cX1_add 10 = .ok (.return_, 1) := by decide +kernel
theorem dX1_add_11 : decode cX1_add 11 = .ok (.aload_n 0, 1) := by decide +kernel
theorem dX1_add_12 : decode cX1_add 12 = .ok (.getfield 9, 3) := by decide +kernel
theorem dX1_add_15 : decode cX1_add 15 = .ok (.aload_n 0, 1) := by decide +kernel
theorem dX1_add_16 : decode cX1_add 16 = .ok (.getfield 42, 3) := by decide +kernel
theorem dX1_add_19 : decode cX1_add 19 = .ok (.iload_n 1, 1) := by decide +kernel
theorem dX1_add_20 : decode cX1_add 20 = .ok (.iastore, 1) := by decide +kernel
theorem dX1_add_21 : decode cX1_add 21 = .ok (.aload_n 0, 1) := by decide +kernel
theorem dX1_add_22 : decode cX1_add 22 = .ok (.getfield 15, 3) := by decide +kernel
theorem dX1_add_25 : decode cX1_add 25 = .ok (.aload_n 0, 1) := by decide +kernel
theorem dX1_add_26 : decode cX1_add 26 = .ok (.getfield 42, 3) := by decide +kernel
theorem dX1_add_29 : decode cX1_add 29 = .ok (.iload_n 2, 1) := by decide +kernel
theorem dX1_add_30 : decode cX1_add 30 = .ok (.iastore, 1) := by decide +kernel
theorem dX1_add_31 : decode cX1_add 31 = .ok (.aload_n 0, 1) := by decide +kernel
theorem dX1_add_32 : decode cX1_add 32 = .ok (.getfield 18, 3) := by decide +kernel
theorem dX1_add_35 : decode cX1_add 35 = .ok (.aload_n 0, 1) := by decide +kernel
theorem dX1_add_36 : decode cX1_add 36 = .ok (.getfield 42, 3) := by decide +kernel
theorem dX1_add_39 : decode cX1_add 39 = .ok (.iload_n 3, 1) := by decide +kernel
theorem dX1_add_40 : decode cX1_add 40 = .ok (.iastore, 1) := by decide +kernel
theorem dX1_add_41 : decode cX1_add 41 = .ok (.aload_n 0, 1) := by decide +kernel
theorem dX1_add_42 : decode cX1_add 42 = .ok (.dup, 1) := by decide +kernel
theorem dX1_add_43 : decode cX1_add 43 = .ok (.getfield 42, 3) := by decide +kernel
theorem dX1_add_46 : decode cX1_add 46 = .ok (.iconst 1, 1) := by decide +kernel
theorem dX1_add_47 : decode cX1_add 47 = .ok (.iadd, 1) := by decide +kernel
theorem dX1_add_48 : decode cX1_add 48 = .ok (.putfield 42, 3) := by decide +kernel
theorem dX1_add_51 : decode cX1_add 51 = .ok (.return_, 1) := by decide +kernel
theorem dX1_end_0 : decode cX1_end 0 = .ok (.aload_n 0, 1) := by decide +kernel
theorem dX1_end_1 : decode cX1_end 1 = .ok (.getfield 18, 3) := by decide +kernel
theorem dX1_end_4 : decode cX1_end 4 = .ok (.iload_n 1, 1) := by decide +kernel
theorem dX1_end_5 : decode cX1_end 5 = .ok (.iaload, 1) := by decide +kernel
theorem dX1_end_6 : decode cX1_end 6 = .ok (.aload_n 0, 1) := by decide +kernel
theorem dX1_end_7 : decode cX1_end 7 = .ok (.getfield 34, 3) := by decide +kernel
theorem dX1_end_10 : decode cX1_end 10 = .ok (.getfield 53, 3) := by decide +kernel
theorem dX1_end_13 : decode cX1_end 13 = .ok (.aload_n 0, 1) := by decide +kernel
theorem dX1_end_14 : decode cX1_end 14 = .ok (.getfield 9, 3) := by decide +kernel
theorem dX1_end_17 : decode cX1_end 17 = .ok (.iload_n 1, 1) := by decide +kernel
theorem dX1_end_18 : decode cX1_end 18 = .ok (.iaload, 1) := by decide +kernel
theorem dX1_end_19 : decode cX1_end 19 = .ok (.iaload, 1) := by decide +kernel
theorem dX1_end_20 : decode cX1_end 20 = .ok (.iadd, 1) := by decide +kernel
theorem dX1_end_21 : decode cX1_end 21 = .ok (.ireturn, 1) := by decide +kernel
set_option maxRecDepth 20000 in
theorem ggX1_hearting_X3_width : GoodIn wsX1_hearting wsX3_width := goodIn_r _ [15, 16, 17, 18, 8, 9, 10, 38, 39, 40, 41, 42, 43, 44, 45, 46] (by decide +kernel) (by decide +kernel)
set_option maxRecDepth 20000 in
theorem gX1_hearting_X3_width : GoodIn wsX1_hearting (wsV RX1 58 RX3 yX3_width wsX3_width) := goodIn_app (goodIn_of _ (by decide +kernel)) ggX1_hearting_X3_width
theorem dX1_hearting_0 : decode cX1_hearting 0 = .ok (.aload_n 0, 1) := by decide +kernel
theorem dX1_hearting_1 : decode cX1_hearting 1 = .ok (.getfield 9, 3) := by decide +kernel
theorem dX1_hearting_4 : decode cX1_hearting 4 = .ok (.iload_n 1, 1) := by decide +kernel
theorem dX1_hearting_5 : decode cX1_hearting 5 = .ok (.iaload, 1) := by decide +kernel
theorem dX1_hearting_6 : decode cX1_hearting 6 = .ok (.istore_n 2, 1) := by decide +kernel
theorem dX1_hearting_7 : decode cX1_hearting 7 = .ok (.aload_n 0, 1) := by decide +kernel
theorem dX1_hearting_8 : decode cX1_hearting 8 = .ok (.getfield 34, 3) := by decide +kernel
theorem dX1_hearting_11 : decode cX1_hearting 11 = .ok (.getfield 53, 3) := by decide +kernel
theorem dX1_hearting_14 : decode cX1_hearting 14 = .ok (.iload_n 2, 1) := by decide +kernel
theorem dX1_hearting_15 : decode cX1_hearting 15 = .ok (.iaload, 1) := by decide +kernel
theorem dX1_hearting_16 : decode cX1_hearting 16 = .ok (.iconst 0, 1) := by decide +kernel
theorem dX1_hearting_17 : decode cX1_hearting 17 = .ok (.aload_n 0, 1) := by decide +kernel
theorem dX1_hearting_18 : decode cX1_hearting 18 = .ok (.getfield 38, 3) := by decide +kernel
theorem dX1_hearting_21 : decode cX1_hearting 21 = .ok (.aload_n 0, 1) := by decide +kernel
theorem dX1_hearting_22 : decode cX1_hearting 22 = .ok (.getfield 15, 3) := by decide +kernel
theorem dX1_hearting_25 : decode cX1_hearting 25 = .ok (.iload_n 1, 1) := by decide +kernel
theorem dX1_hearting_26 : decode cX1_hearting 26 = .ok (.iaload, 1) := by decide +kernel
theorem dX1_hearting_27 : decode cX1_hearting 27 = .ok (.invokevirtual 58, 3) := by decide +kernel
theorem dX1_hearting_30 : decode cX1_hearting 30 = .ok (.aload_n 0, 1) := by decide +kernel
theorem dX1_hearting_31 : decode cX1_hearting 31 = .ok (.getfield 34, 3) := by decide +kernel
theorem dX1_hearting_34 : decode cX1_hearting 34 = .ok (.getfield 64, 3) := by decide +kernel
theorem dX1_hearting_37 : decode cX1_hearting 37 = .ok (.iload_n 2, 1) := by decide +kernel
theorem dX1_hearting_38 : decode cX1_hearting 38 = .ok (.iaload, 1) := by decide +kernel
theorem dX1_hearting_39 : decode cX1_hearting 39 = .ok (.isub, 1) := by decide +kernel
theorem dX1_hearting_40 : decode cX1_hearting 40 = .ok (.invokestatic 67, 3) := by decide +kernel
theorem dX1_hearting_43 : decode cX1_hearting 43 = .ok (.imul, 1) := by decide +kernel
theorem dX1_hearting_44 : decode cX1_hearting 44 = .ok (.ireturn, 1) := by decide +kernel
set_option maxRecDepth 20000 in
theorem ggX1_heartingInAll_X1_hearting : GoodIn wsX1_heartingInAll wsX1_hearting := goodIn_r _ [6, 7, 8, 9, 10, 11, 12, 13, 14, 15, 16, 17, 18, 19, 20, 21, 22, 23, 24, 25, 26, 27, 28, 29, 30, 31, 32, 33, 34, 35, 36, 37, 38, 39, 40, 41, 42, 43, 44, 45, 46, 47, 48, 49, 50, 51, 52] (by decide +kernel) (by decide +kernel)
set_option maxRecDepth 20000 in
theorem gX1_heartingInAll_X1_hearting : GoodIn wsX1_heartingInAll (wsV RX1 73 RX1 yX1_hearting wsX1_hearting) := goodIn_app (goodIn_of _ (by decide +kernel)) ggX1_heartingInAll_X1_hearting
theorem dX1_heartingInAll_0 : decode cX1_heartingInAll 0 = .ok (.iconst 0, 1) := by decide +kernel
theorem dX1_heartingInAll_1 : decode cX1_heartingInAll 1 = .ok (.istore_n 1, 1) := by decide +kernel
theorem dX1_heartingInAll_2 : decode cX1_heartingInAll 2 = .ok (.iconst 0, 1) := by decide +kernel
theorem dX1_heartingInAll_3 : decode cX1_heartingInAll 3 = .ok (.istore_n 2, 1) := by decide +kernel
theorem dX1_heartingInAll_4 : decode cX1_heartingInAll 4 = .ok (.iload_n 2, 1) := by decide +kernel
theorem dX1_heartingInAll_5 : decode cX1_heartingInAll 5 = .ok (.aload_n 0, 1) := by decide +kernel
theorem dX1_heartingInAll_6 : decode cX1_heartingInAll 6 = .ok (.getfield 42, 3) := by decide +kernel
theorem dX1_heartingInAll_9 : decode cX1_heartingInAll 9 = .ok (.if_icmp .ge 17, 3) := by decide +kernel
theorem dX1_heartingInAll_12 : decode cX1_heartingInAll 12 = .ok (.iload_n 1, 1) := by decide +kernel
theorem dX1_heartingInAll_13 : decode cX1_heartingInAll 13 = .ok (.aload_n 0, 1) := by decide +kernel
theorem dX1_heartingInAll_14 : decode cX1_heartingInAll 14 = .ok (.iload_n 2, 1) := by decide +kernel
theorem dX1_heartingInAll_15 : decode cX1_heartingInAll 15 = .ok (.invokevirtual 73, 3) := by decide +kernel
theorem dX1_heartingInAll_18 : decode cX1_heartingInAll 18 = .ok (.iadd, 1) := by decide +kernel
theorem dX1_heartingInAll_19 : decode cX1_heartingInAll 19 = .ok (.istore_n 1, 1) := by decide +kernel
theorem dX1_heartingInAll_20 : decode cX1_heartingInAll 20 = .ok (.iinc 2 1, 3) := by decide +kernel
theorem dX1_heartingInAll_23 : decode cX1_heartingInAll 23 = .ok (.goto (-19), 3) := by decide +kernel
theorem dX1_heartingInAll_26 : decode cX1_heartingInAll 26 = .ok (.iload_n 1, 1) := by decide +kernel
theorem dX1_heartingInAll_27 : decode cX1_heartingInAll 27 = .ok (.ireturn, 1) := by decide +kernel
set_option maxRecDepth 20000 in
theorem ggX1_isThroughStone_X3_width : GoodIn wsX1_isThroughStone wsX3_width := goodIn_r _ [10, 11, 12, 13, 14, 15, 16, 36, 37, 38, 39, 40, 41, 42, 43, 44] (by decide +kernel) (by decide +kernel)
set_option maxRecDepth 20000 in
theorem gX1_isThroughStone_X3_width : GoodIn wsX1_isThroughStone (wsV RX1 58 RX3 yX3_width wsX3_width) := goodIn_app (goodIn_of _ (by decide +kernel)) ggX1_isThroughStone_X3_width
theorem dX1_isThroughStone_0 : decode cX1_isThroughStone 0 = .ok (.aload_n 0, 1) := by decide +kernel
theorem dX1_isThroughStone_1 : decode cX1_isThroughStone 1 = .ok (.getfield 34, 3) := by decide +kernel
theorem dX1_isThroughStone_4 : decode cX1_isThroughStone 4 = .ok (.getfield 64, 3) := by decide +kernel
theorem dX1_isThroughStone_7 : decode cX1_isThroughStone 7 = .ok (.aload_n 0, 1) := by decide +kernel
theorem dX1_isThroughStone_8 : decode cX1_isThroughStone 8 = .ok (.getfield 9, 3) := by decide +kernel
theorem dX1_isThroughStone_11 : decode cX1_isThroughStone 11 = .ok (.iload_n 1, 1) := by decide +kernel
theorem dX1_isThroughStone_12 : decode cX1_isThroughStone 12 = .ok (.iaload, 1) := by decide +kernel
theorem dX1_isThroughStone_13 : decode cX1_isThroughStone 13 = .ok (.iaload, 1) := by decide +kernel
theorem dX1_isThroughStone_14 : decode cX1_isThroughStone 14 = .ok (.aload_n 0, 1) := by decide +kernel
theorem dX1_isThroughStone_15 : decode cX1_isThroughStone 15 = .ok (.getfield 38, 3) := by decide +kernel
theorem dX1_isThroughStone_18 : decode cX1_isThroughStone 18 = .ok (.aload_n 0, 1) := by decide +kernel
theorem dX1_isThroughStone_19 : decode cX1_isThroughStone 19 = .ok (.getfield 15, 3) := by decide +kernel
theorem dX1_isThroughStone_22 : decode cX1_isThroughStone 22 = .ok (.iload_n 1, 1) := by decide +kernel
theorem dX1_isThroughStone_23 : decode cX1_isThroughStone 23 = .ok (.iaload, 1) := by decide +kernel
theorem dX1_isThroughStone_24 : decode cX1_isThroughStone 24 = .ok (.invokevirtual 58, 3) := by decide +kernel
theorem dX1_isThroughStone_27 : decode cX1_isThroughStone 27 = .ok (.if_icmp .lt 7, 3) := by decide +kernel
theorem dX1_isThroughStone_30 : decode cX1_isThroughStone 30 = .ok (.iconst 1, 1) := by decide +kernel
theorem dX1_isThroughStone_31 : decode cX1_isThroughStone 31 = .ok (.goto 4, 3) := by decide +kernel
theorem dX1_isThroughStone_34 : decode cX1_isThroughStone 34 = .ok (.iconst 0, 1) := by decide +kernel
theorem dX1_isThroughStone_35 : decode cX1_isThroughStone 35 = .ok (.ireturn, 1) := by decide +kernel
theorem dX1_isStanding_0 : decode cX1_isStanding 0 = .ok (.aload_n 0, 1) := by decide +kernel
theorem dX1_isStanding_1 : decode cX1_isStanding 1 = .ok (.getfield 46, 3) := by decide +kernel
theorem dX1_isStanding_4 : decode cX1_isStanding 4 = .ok (.ifCond .eq 16, 3) := by decide +kernel
theorem dX1_isStanding_7 : decode cX1_isStanding 7 = .ok (.aload_n 0, 1) := by decide +kernel
theorem dX1_isStanding_8 : decode cX1_isStanding 8 = .ok (.getfield 27, 3) := by decide +kernel
theorem dX1_isStanding_11 : decode cX1_isStanding 11 = .ok (.iload_n 1, 1) := by decide +kernel
theorem dX1_isStanding_12 : decode cX1_isStanding 12 = .ok (.baload, 1) := by decide +kernel
theorem dX1_isStanding_13 : decode cX1_isStanding 13 = .ok (.ifCond .eq 7, 3) := by decide +kernel
theorem dX1_isStanding_16 : decode cX1_isStanding 16 = .ok (.iconst 1, 1) := by decide +kernel
theorem dX1_isStanding_17 : decode cX1_isStanding 17 = .ok (.goto 4, 3) := by decide +kernel
theorem dX1_isStanding_20 : decode cX1_isStanding 20 = .ok (.iconst 0, 1) := by decide +kernel
theorem dX1_isStanding_21 : decode cX1_isStanding 21 = .ok (.ireturn, 1) := by decide +kernel
theorem dX1_number_0 : decode cX1_number 0 = .ok (.iconst 0, 1) := by decide +kernel
theorem dX1_number_1 : decode cX1_number 1 = .ok (.istore_n 2, 1) := by decide +kernel
theorem dX1_number_2 : decode cX1_number 2 = .ok (.iconst 0, 1) := by decide +kernel
theorem dX1_number_3 : decode cX1_number 3 = .ok (.istore_n 3, 1) := by decide +kernel
theorem dX1_number_4 : decode cX1_number 4 = .ok (.iload_n 3, 1) := by decide +kernel
theorem dX1_number_5 : decode cX1_number 5 = .ok (.aload_n 0, 1) := by decide +kernel
theorem dX1_number_6 : decode cX1_number 6 = .ok (.getfield 42, 3) := by decide +kernel
theorem dX1_number_9 : decode cX1_number 9 = .ok (.if_icmp .ge 27, 3) := by decide +kernel
theorem dX1_number_12 : decode cX1_number 12 = .ok (.iload_n 2, 1) := by decide +kernel
theorem dX1_number_13 : decode cX1_number 13 = .ok (.aload_n 0, 1) := by decide +kernel
theorem dX1_number_14 : decode cX1_number 14 = .ok (.getfield 9, 3) := by decide +kernel
theorem dX1_number_17 : decode cX1_number 17 = .ok (.iload_n 3, 1) := by decide +kernel
theorem dX1_number_18 : decode cX1_number 18 = .ok (.iaload, 1) := by decide +kernel
theorem dX1_number_19 : decode cX1_number 19 = .ok (.iload_n 1, 1) := by decide +kernel
theorem dX1_number_20 : decode cX1_number 20 = .ok (.if_icmp .ne 7, 3) := by decide +kernel
theorem dX1_number_23 : decode cX1_number 23 = .ok (.iconst 1, 1) := by decide +kernel
theorem dX1_number_24 : decode cX1_number 24 = .ok (.goto 4, 3) := by decide +kernel
theorem dX1_number_27 : decode cX1_number 27 = .ok (.iconst 0, 1) := by decide +kernel
theorem dX1_number_28 : decode cX1_number 28 = .ok (.iadd, 1) := by decide +kernel
theorem dX1_number_29 : decode cX1_number 29 = .ok (.istore_n 2, 1) := by decide +kernel
theorem dX1_number_30 : decode cX1_number 30 = .ok (.iinc 3 1, 3) := by decide +kernel
theorem dX1_number_33 : decode cX1_number 33 = .ok (.goto (-29), 3) := by decide +kernel
theorem dX1_number_36 : decode cX1_number 36 = .ok (.iload_n 2, 1) := by decide +kernel
theorem dX1_number_37 : decode cX1_number 37 = .ok (.ireturn, 1) := by decide +kernel
set_option maxRecDepth 20000 in
theorem ggX1_numberStanding_X1_isStanding : GoodIn wsX1_numberStanding wsX1_isStanding := goodIn_r _ [7, 8, 9, 10, 11, 12, 13, 14, 15, 16, 17, 18, 19, 20, 21] (by decide +kernel) (by decide +kernel)
set_option maxRecDepth 20000 in
theorem gX1_numberStanding_X1_isStanding : GoodIn wsX1_numberStanding (wsV RX1 76 RX1 yX1_isStanding wsX1_isStanding) := goodIn_app (goodIn_of _ (by decide +kernel)) ggX1_numberStanding_X1_isStanding
theorem dX1_numberStanding_0 : decode cX1_numberStanding 0 = .ok (.iconst 0, 1) := by decide +kernel
theorem dX1_numberStanding_1 : decode cX1_numberStanding 1 = .ok (.istore_n 2, 1) := by decide +kernel
theorem dX1_numberStanding_2 : decode cX1_numberStanding 2 = .ok (.iconst 0, 1) := by decide +kernel
theorem dX1_numberStanding_3 : decode cX1_numberStanding 3 = .ok (.istore_n 3, 1) := by decide +kernel
theorem dX1_numberStanding_4 : decode cX1_numberStanding 4 = .ok (.iload_n 3, 1) := by decide +kernel
theorem dX1_numberStanding_5 : decode cX1_numberStanding 5 = .ok (.aload_n 0, 1) := by decide +kernel
theorem dX1_numberStanding_6 : decode cX1_numberStanding 6 = .ok (.getfield 42, 3) := by decide +kernel
theorem dX1_numberStanding_9 : decode cX1_numberStanding 9 = .ok (.if_icmp .ge 35, 3) := by decide +kernel
theorem dX1_numberStanding_12 : decode cX1_numberStanding 12 = .ok (.iload_n 2, 1) := by decide +kernel
theorem dX1_numberStanding_13 : decode cX1_numberStanding 13 = .ok (.aload_n 0, 1) := by decide +kernel
theorem dX1_numberStanding_14 : decode cX1_numberStanding 14 = .ok (.getfield 9, 3) := by decide +kernel
theorem dX1_numberStanding_17 : decode cX1_numberStanding 17 = .ok (.iload_n 3, 1) := by decide +kernel
theorem dX1_numberStanding_18 : decode cX1_numberStanding 18 = .ok (.iaload, 1) := by decide +kernel
theorem dX1_numberStanding_19 : decode cX1_numberStanding 19 = .ok (.iload_n 1, 1) := by decide +kernel
theorem dX1_numberStanding_20 : decode cX1_numberStanding 20 = .ok (.if_icmp .ne 15, 3) := by decide +kernel
theorem dX1_numberStanding_23 : decode cX1_numberStanding 23 = .ok (.aload_n 0, 1) := by decide +kernel
theorem dX1_numberStanding_24 : decode cX1_numberStanding 24 = .ok (.iload_n 3, 1) := by decide +kernel
theorem dX1_numberStanding_25 : decode cX1_numberStanding 25 = .ok (.invokevirtual 76, 3) := by decide +kernel
theorem dX1_numberStanding_28 : decode cX1_numberStanding 28 = .ok (.ifCond .eq 7, 3) := by decide +kernel
theorem dX1_numberStanding_31 : decode cX1_numberStanding 31 = .ok (.iconst 1, 1) := by decide +kernel
theorem dX1_numberStanding_32 : decode cX1_numberStanding 32 = .ok (.goto 4, 3) := by decide +kernel
theorem dX1_numberStanding_35 : decode cX1_numberStanding 35 = .ok (.iconst 0, 1) := by decide +kernel
theorem dX1_numberStanding_36 : decode cX1_numberStanding 36 = .ok (.iadd, 1) := by decide +kernel
theorem dX1_numberStanding_37 : decode cX1_numberStanding 37 = .ok (.istore_n 2, 1) := by decide +kernel
theorem dX1_numberStanding_38 : decode cX1_numberStanding 38 = .ok (.iinc 3 1, 3) := by decide +kernel
theorem dX1_numberStanding_41 : decode cX1_numberStanding 41 = .ok (.goto (-37), 3) := by decide +kernel
theorem dX1_numberStanding_44 : decode cX1_numberStanding 44 = .ok (.iload_n 2, 1) := by decide +kernel
theorem dX1_numberStanding_45 : decode cX1_numberStanding 45 = .ok (.ireturn, 1) := by decide +kernel
set_option maxRecDepth 20000 in
theorem ggX1_numberAtFoot_X1_number : GoodIn wsX1_numberAtFoot wsX1_number := goodIn_r _ [6, 7, 8, 18, 19, 20, 21, 22, 23, 24, 25, 26, 27, 28, 29] (by decide +kernel) (by decide +kernel)
set_option maxRecDepth 20000 in
theorem gX1_numberAtFoot_X1_number : GoodIn wsX1_numberAtFoot (wsV RX1 80 RX1 yX1_number wsX1_number) := goodIn_app (goodIn_of _ (by decide +kernel)) ggX1_numberAtFoot_X1_number
set_option maxRecDepth 20000 in
theorem ggX1_numberAtFoot_X1_numberStanding : GoodIn wsX1_numberAtFoot wsX1_numberStanding := goodIn_r _ [12, 7, 8, 13, 14, 15, 5, 16, 1, 17, 18, 19, 20, 21, 22, 23, 24, 25, 26, 27, 28, 29] (by decide +kernel) (by decide +kernel)
set_option maxRecDepth 20000 in
theorem gX1_numberAtFoot_X1_numberStanding : GoodIn wsX1_numberAtFoot (wsV RX1 83 RX1 yX1_numberStanding wsX1_numberStanding) := goodIn_app (goodIn_of _ (by decide +kernel)) ggX1_numberAtFoot_X1_numberStanding
theorem dX1_numberAtFoot_0 : decode cX1_numberAtFoot 0 = .ok (.aload_n 0, 1) := by decide +kernel
theorem dX1_numberAtFoot_1 : decode cX1_numberAtFoot 1 = .ok (.getfield 46, 3) := by decide +kernel
theorem dX1_numberAtFoot_4 : decode cX1_numberAtFoot 4 = .ok (.ifCond .eq 17, 3) := by decide +kernel
theorem dX1_numberAtFoot_7 : decode cX1_numberAtFoot 7 = .ok (.aload_n 0, 1) := by decide +kernel
theorem dX1_numberAtFoot_8 : decode cX1_numberAtFoot 8 = .ok (.iload_n 1, 1) := by decide +kernel
theorem dX1_numberAtFoot_9 : decode cX1_numberAtFoot 9 = .ok (.invokevirtual 80, 3) := by decide +kernel
theorem dX1_numberAtFoot_12 : decode cX1_numberAtFoot 12 = .ok (.aload_n 0, 1) := by decide +kernel
theorem dX1_numberAtFoot_13 : decode cX1_numberAtFoot 13 = .ok (.iload_n 1, 1) := by decide +kernel
theorem dX1_numberAtFoot_14 : decode cX1_numberAtFoot 14 = .ok (.invokevirtual 83, 3) := by decide +kernel
theorem dX1_numberAtFoot_17 : decode cX1_numberAtFoot 17 = .ok (.isub, 1) := by decide +kernel
theorem dX1_numberAtFoot_18 : decode cX1_numberAtFoot 18 = .ok (.goto 4, 3) := by decide +kernel
theorem dX1_numberAtFoot_21 : decode cX1_numberAtFoot 21 = .ok (.iconst 0, 1) := by decide +kernel
theorem dX1_numberAtFoot_22 : decode cX1_numberAtFoot 22 = .ok (.ireturn, 1) := by decide +kernel
set_option maxRecDepth 20000 in
theorem ggX1_allAtFoot_X1_numberAtFoot : GoodIn wsX1_allAtFoot wsX1_numberAtFoot := goodIn_r _ [7, 8, 9, 10, 11, 6, 12, 13, 14, 15, 16, 17, 18, 19, 20, 21, 22, 23, 24, 25, 26, 27, 28, 29, 30, 31, 32, 33, 34, 35] (by decide +kernel) (by decide +kernel)
set_option maxRecDepth 20000 in
theorem gX1_allAtFoot_X1_numberAtFoot : GoodIn wsX1_allAtFoot (wsV RX1 88 RX1 yX1_numberAtFoot wsX1_numberAtFoot) := goodIn_app (goodIn_of _ (by decide +kernel)) ggX1_allAtFoot_X1_numberAtFoot
theorem dX1_allAtFoot_0 : decode cX1_allAtFoot 0 = .ok (.iconst 0, 1) := by decide +kernel
theorem dX1_allAtFoot_1 : decode cX1_allAtFoot 1 = .ok (.istore_n 1, 1) := by decide +kernel
theorem dX1_allAtFoot_2 : decode cX1_allAtFoot 2 = .ok (.iconst 0, 1) := by decide +kernel
theorem dX1_allAtFoot_3 : decode cX1_allAtFoot 3 = .ok (.istore_n 2, 1) := by decide +kernel
theorem dX1_allAtFoot_4 : decode cX1_allAtFoot 4 = .ok (.iload_n 2, 1) := by decide +kernel
theorem dX1_allAtFoot_5 : decode cX1_allAtFoot 5 = .ok (.aload_n 0, 1) := by decide +kernel
theorem dX1_allAtFoot_6 : decode cX1_allAtFoot 6 = .ok (.getfield 34, 3) := by decide +kernel
theorem dX1_allAtFoot_9 : decode cX1_allAtFoot 9 = .ok (.getfield 86, 3) := by decide +kernel
theorem dX1_allAtFoot_12 : decode cX1_allAtFoot 12 = .ok (.if_icmp .ge 17, 3) := by decide +kernel
theorem dX1_allAtFoot_15 : decode cX1_allAtFoot 15 = .ok (.iload_n 1, 1) := by decide +kernel
theorem dX1_allAtFoot_16 : decode cX1_allAtFoot 16 = .ok (.aload_n 0, 1) := by decide +kernel
theorem dX1_allAtFoot_17 : decode cX1_allAtFoot 17 = .ok (.iload_n 2, 1) := by decide +kernel
theorem dX1_allAtFoot_18 : decode cX1_allAtFoot 18 = .ok (.invokevirtual 88, 3) := by decide +kernel
theorem dX1_allAtFoot_21 : decode cX1_allAtFoot 21 = .ok (.iadd, 1) := by decide +kernel
theorem dX1_allAtFoot_22 : decode cX1_allAtFoot 22 = .ok (.istore_n 1, 1) := by decide +kernel
theorem dX1_allAtFoot_23 : decode cX1_allAtFoot 23 = .ok (.iinc 2 1, 3) := by decide +kernel
theorem dX1_allAtFoot_26 : decode cX1_allAtFoot 26 = .ok (.goto (-22), 3) := by decide +kernel
theorem dX1_allAtFoot_29 : decode cX1_allAtFoot 29 = .ok (.iload_n 1, 1) := by decide +kernel
theorem dX1_allAtFoot_30 : decode cX1_allAtFoot 30 = .ok (.ireturn, 1) := by decide +kernel
set_option maxRecDepth 20000 in
theorem ggX1_raise_X1_layAnew : GoodIn wsX1_raise wsX1_layAnew := goodIn_r _ [8, 2, 3, 9, 10, 11, 12, 13, 14, 15, 16, 17, 18, 19, 20, 21] (by decide +kernel) (by decide +kernel)
set_option maxRecDepth 20000 in
theorem gX1_raise_X1_layAnew : GoodIn wsX1_raise (wsV RX1 91 RX1 yX1_layAnew wsX1_layAnew) := goodIn_app (goodIn_of _ (by decide +kernel)) ggX1_raise_X1_layAnew
theorem dX1_raise_0 : decode cX1_raise 0 = .ok (.aload_n 0, 1) := by decide +kernel
theorem dX1_raise_1 : decode cX1_raise 1 = .ok (.iconst 1, 1) := by decide +kernel
theorem dX1_raise_2 : decode cX1_raise 2 = .ok (.putfield 46, 3) := by decide +kernel
theorem dX1_raise_5 : decode cX1_raise 5 = .ok (.iconst 0, 1) := by decide +kernel
theorem dX1_raise_6 : decode cX1_raise 6 = .ok (.istore_n 1, 1) := by decide +kernel
theorem dX1_raise_7 : decode cX1_raise 7 = .ok (.iload_n 1, 1) := by decide +kernel
theorem dX1_raise_8 : decode cX1_raise 8 = .ok (.aload_n 0, 1) := by decide +kernel
theorem dX1_raise_9 : decode cX1_raise 9 = .ok (.getfield 42, 3) := by decide +kernel
theorem dX1_raise_12 : decode cX1_raise 12 = .ok (.if_icmp .ge 16, 3) := by decide +kernel
theorem dX1_raise_15 : decode cX1_raise 15 = .ok (.aload_n 0, 1) := by decide +kernel
theorem dX1_raise_16 : decode cX1_raise 16 = .ok (.getfield 27, 3) := by decide +kernel
theorem dX1_raise_19 : decode cX1_raise 19 = .ok (.iload_n 1, 1) := by decide +kernel
theorem dX1_raise_20 : decode cX1_raise 20 = .ok (.iconst 0, 1) := by decide +kernel
theorem dX1_raise_21 : decode cX1_raise 21 = .ok (.bastore, 1) := by decide +kernel
theorem dX1_raise_22 : decode cX1_raise 22 = .ok (.iinc 1 1, 3) := by decide +kernel
theorem dX1_raise_25 : decode cX1_raise 25 = .ok (.goto (-18), 3) := by decide +kernel
theorem dX1_raise_28 : decode cX1_raise 28 = .ok (.aload_n 0, 1) := by decide +kernel
theorem dX1_raise_29 : decode cX1_raise 29 = .ok (.invokevirtual 91, 3) := by decide +kernel
theorem dX1_raise_32 : decode cX1_raise 32 = .ok (.pop, 1) := by decide +kernel
theorem dX1_raise_33 : decode cX1_raise 33 = .ok (.return_, 1) := by decide +kernel
theorem dX1_layAnew_0 : decode cX1_layAnew 0 = .ok (.iconst 0, 1) := by decide +kernel
theorem dX1_layAnew_1 : decode cX1_layAnew 1 = .ok (.istore_n 1, 1) := by decide +kernel
theorem dX1_layAnew_2 : decode cX1_layAnew 2 = .ok (.iconst 0, 1) := by decide +kernel
theorem dX1_layAnew_3 : decode cX1_layAnew 3 = .ok (.istore_n 2, 1) := by decide +kernel
theorem dX1_layAnew_4 : decode cX1_layAnew 4 = .ok (.iload_n 2, 1) := by decide +kernel
theorem dX1_layAnew_5 : decode cX1_layAnew 5 = .ok (.aload_n 0, 1) := by decide +kernel
theorem dX1_layAnew_6 : decode cX1_layAnew 6 = .ok (.getfield 42, 3) := by decide +kernel
theorem dX1_layAnew_9 : decode cX1_layAnew 9 = .ok (.if_icmp .ge 36, 3) := by decide +kernel
theorem dX1_layAnew_12 : decode cX1_layAnew 12 = .ok (.aload_n 0, 1) := by decide +kernel
theorem dX1_layAnew_13 : decode cX1_layAnew 13 = .ok (.getfield 27, 3) := by decide +kernel
theorem dX1_layAnew_16 : decode cX1_layAnew 16 = .ok (.iload_n 2, 1) := by decide +kernel
theorem dX1_layAnew_17 : decode cX1_layAnew 17 = .ok (.baload, 1) := by decide +kernel
theorem dX1_layAnew_18 : decode cX1_layAnew 18 = .ok (.ifCond .ne 21, 3) := by decide +kernel
theorem dX1_layAnew_21 : decode cX1_layAnew 21 = .ok (.aload_n 0, 1) := by decide +kernel
theorem dX1_layAnew_22 : decode cX1_layAnew 22 = .ok (.getfield 27, 3) := by decide +kernel
theorem dX1_layAnew_25 : decode cX1_layAnew 25 = .ok (.iload_n 2, 1) := by decide +kernel
theorem dX1_layAnew_26 : decode cX1_layAnew 26 = .ok (.iconst 1, 1) := by decide +kernel
theorem dX1_layAnew_27 : decode cX1_layAnew 27 = .ok (.bastore, 1) := by decide +kernel
theorem dX1_layAnew_28 : decode cX1_layAnew 28 = .ok (.aload_n 0, 1) := by decide +kernel
theorem dX1_layAnew_29 : decode cX1_layAnew 29 = .ok (.getfield 21, 3) := by decide +kernel
theorem dX1_layAnew_32 : decode cX1_layAnew 32 = .ok (.iload_n 2, 1) := by decide +kernel
theorem dX1_layAnew_33 : decode cX1_layAnew 33 = .ok (.bipush 99, 2) := by decide +kernel
theorem dX1_layAnew_35 : decode cX1_layAnew 35 = .ok (.iastore, 1) := by decide +kernel
theorem dX1_layAnew_36 : decode cX1_layAnew 36 = .ok (.iinc 1 1, 3) := by decide +kernel
theorem dX1_layAnew_39 : decode cX1_layAnew 39 = .ok (.iinc 2 1, 3) := by decide +kernel
theorem dX1_layAnew_42 : decode cX1_layAnew 42 = .ok (.goto (-38), 3) := by decide +kernel
theorem dX1_layAnew_45 : decode cX1_layAnew 45 = .ok (.iload_n 1, 1) := by decide +kernel
theorem dX1_layAnew_46 : decode cX1_layAnew 46 = .ok (.ireturn, 1) := by decide +kernel
set_option maxRecDepth 20000 in
theorem ggX1_loosen_X1_standsBeside : GoodIn wsX1_loosen wsX1_standsBeside := goodIn_r _ [12, 1, 13, 2, 14, 15, 16, 17, 18, 19, 20, 21, 22, 23, 24, 25] (by decide +kernel) (by decide +kernel)
set_option maxRecDepth 20000 in
theorem gX1_loosen_X1_standsBeside : GoodIn wsX1_loosen (wsV RX1 95 RX1 yX1_standsBeside wsX1_standsBeside) := goodIn_app (goodIn_of _ (by decide +kernel)) ggX1_loosen_X1_standsBeside
theorem dX1_loosen_0 : decode cX1_loosen 0 = .ok (.iconst 0, 1) := by decide +kernel
theorem dX1_loosen_1 : decode cX1_loosen 1 = .ok (.istore_n 2, 1) := by decide +kernel
theorem dX1_loosen_2 : decode cX1_loosen 2 = .ok (.iload_n 2, 1) := by decide +kernel
theorem dX1_loosen_3 : decode cX1_loosen 3 = .ok (.aload_n 0, 1) := by decide +kernel
theorem dX1_loosen_4 : decode cX1_loosen 4 = .ok (.getfield 42, 3) := by decide +kernel
theorem dX1_loosen_7 : decode cX1_loosen 7 = .ok (.if_icmp .ge 74, 3) := by decide +kernel
theorem dX1_loosen_10 : decode cX1_loosen 10 = .ok (.aload_n 0, 1) := by decide +kernel
theorem dX1_loosen_11 : decode cX1_loosen 11 = .ok (.getfield 27, 3) := by decide +kernel
theorem dX1_loosen_14 : decode cX1_loosen 14 = .ok (.iload_n 2, 1) := by decide +kernel
theorem dX1_loosen_15 : decode cX1_loosen 15 = .ok (.baload, 1) := by decide +kernel
theorem dX1_loosen_16 : decode cX1_loosen 16 = .ok (.ifCond .eq 59, 3) := by decide +kernel
theorem dX1_loosen_19 : decode cX1_loosen 19 = .ok (.aload_n 0, 1) := by decide +kernel
theorem dX1_loosen_20 : decode cX1_loosen 20 = .ok (.iload_n 2, 1) := by decide +kernel
theorem dX1_loosen_21 : decode cX1_loosen 21 = .ok (.iload_n 2, 1) := by decide +kernel
theorem dX1_loosen_22 : decode cX1_loosen 22 = .ok (.iconst 1, 1) := by decide +kernel
theorem dX1_loosen_23 : decode cX1_loosen 23 = .ok (.isub, 1) := by decide +kernel
theorem dX1_loosen_24 : decode cX1_loosen 24 = .ok (.invokevirtual 95, 3) := by decide +kernel
theorem dX1_loosen_27 : decode cX1_loosen 27 = .ok (.ifCond .eq 7, 3) := by decide +kernel
theorem dX1_loosen_30 : decode cX1_loosen 30 = .ok (.iconst 0, 1) := by decide +kernel
theorem dX1_loosen_31 : decode cX1_loosen 31 = .ok (.goto 4, 3) := by decide +kernel
theorem dX1_loosen_34 : decode cX1_loosen 34 = .ok (.iconst 1, 1) := by decide +kernel
theorem dX1_loosen_35 : decode cX1_loosen 35 = .ok (.aload_n 0, 1) := by decide +kernel
theorem dX1_loosen_36 : decode cX1_loosen 36 = .ok (.iload_n 2, 1) := by decide +kernel
theorem dX1_loosen_37 : decode cX1_loosen 37 = .ok (.iload_n 2, 1) := by decide +kernel
theorem dX1_loosen_38 : decode cX1_loosen 38 = .ok (.iconst 1, 1) := by decide +kernel
theorem dX1_loosen_39 : decode cX1_loosen 39 = .ok (.iadd, 1) := by decide +kernel
theorem dX1_loosen_40 : decode cX1_loosen 40 = .ok (.invokevirtual 95, 3) := by decide +kernel
theorem dX1_loosen_43 : decode cX1_loosen 43 = .ok (.ifCond .eq 7, 3) := by decide +kernel
theorem dX1_loosen_46 : decode cX1_loosen 46 = .ok (.iconst 0, 1) := by decide +kernel
theorem dX1_loosen_47 : decode cX1_loosen 47 = .ok (.goto 4, 3) := by decide +kernel
theorem dX1_loosen_50 : decode cX1_loosen 50 = .ok (.iconst 1, 1) := by decide +kernel
theorem dX1_loosen_51 : decode cX1_loosen 51 = .ok (.iadd, 1) := by decide +kernel
theorem dX1_loosen_52 : decode cX1_loosen 52 = .ok (.istore_n 3, 1) := by decide +kernel
theorem dX1_loosen_53 : decode cX1_loosen 53 = .ok (.aload_n 0, 1) := by decide +kernel
theorem dX1_loosen_54 : decode cX1_loosen 54 = .ok (.getfield 21, 3) := by decide +kernel
theorem dX1_loosen_57 : decode cX1_loosen 57 = .ok (.iload_n 2, 1) := by decide +kernel
theorem dX1_loosen_58 : decode cX1_loosen 58 = .ok (.iconst 0, 1) := by decide +kernel
theorem dX1_loosen_59 : decode cX1_loosen 59 = .ok (.aload_n 0, 1) := by decide +kernel
theorem dX1_loosen_60 : decode cX1_loosen 60 = .ok (.getfield 21, 3) := by decide +kernel
theorem dX1_loosen_63 : decode cX1_loosen 63 = .ok (.iload_n 2, 1) := by decide +kernel
theorem dX1_loosen_64 : decode cX1_loosen 64 = .ok (.iaload, 1) := by decide +kernel
theorem dX1_loosen_65 : decode cX1_loosen 65 = .ok (.iload_n 1, 1) := by decide +kernel
theorem dX1_loosen_66 : decode cX1_loosen 66 = .ok (.iconst 1, 1) := by decide +kernel
theorem dX1_loosen_67 : decode cX1_loosen 67 = .ok (.iload_n 3, 1) := by decide +kernel
theorem dX1_loosen_68 : decode cX1_loosen 68 = .ok (.iadd, 1) := by decide +kernel
theorem dX1_loosen_69 : decode cX1_loosen 69 = .ok (.imul, 1) := by decide +kernel
theorem dX1_loosen_70 : decode cX1_loosen 70 = .ok (.isub, 1) := by decide +kernel
theorem dX1_loosen_71 : decode cX1_loosen 71 = .ok (.invokestatic 67, 3) := by decide +kernel
theorem dX1_loosen_74 : decode cX1_loosen 74 = .ok (.iastore, 1) := by decide +kernel
theorem dX1_loosen_75 : decode cX1_loosen 75 = .ok (.iinc 2 1, 3) := by decide +kernel
theorem dX1_loosen_78 : decode cX1_loosen 78 = .ok (.goto (-76), 3) := by decide +kernel
theorem dX1_loosen_81 : decode cX1_loosen 81 = .ok (.return_, 1) := by decide +kernel
theorem dX1_standsBeside_0 : decode cX1_standsBeside 0 = .ok (.iload_n 2, 1) := by decide +kernel
theorem dX1_standsBeside_1 : decode cX1_standsBeside 1 = .ok (.ifCond .lt 39, 3) := by decide +kernel
theorem dX1_standsBeside_4 : decode cX1_standsBeside 4 = .ok (.iload_n 2, 1) := by decide +kernel
theorem dX1_standsBeside_5 : decode cX1_standsBeside 5 = .ok (.aload_n 0, 1) := by decide +kernel
theorem dX1_standsBeside_6 : decode cX1_standsBeside 6 = .ok (.getfield 42, 3) := by decide +kernel
theorem dX1_standsBeside_9 : decode cX1_standsBeside 9 = .ok (.if_icmp .ge 31, 3) := by decide +kernel
theorem dX1_standsBeside_12 : decode cX1_standsBeside 12 = .ok (.aload_n 0, 1) := by decide +kernel
theorem dX1_standsBeside_13 : decode cX1_standsBeside 13 = .ok (.getfield 15, 3) := by decide +kernel
theorem dX1_standsBeside_16 : decode cX1_standsBeside 16 = .ok (.iload_n 2, 1) := by decide +kernel
theorem dX1_standsBeside_17 : decode cX1_standsBeside 17 = .ok (.iaload, 1) := by decide +kernel
theorem dX1_standsBeside_18 : decode cX1_standsBeside 18 = .ok (.aload_n 0, 1) := by decide +kernel
theorem dX1_standsBeside_19 : decode cX1_standsBeside 19 = .ok (.getfield 15, 3) := by decide +kernel
theorem dX1_standsBeside_22 : decode cX1_standsBeside 22 = .ok (.iload_n 1, 1) := by decide +kernel
theorem dX1_standsBeside_23 : decode cX1_standsBeside 23 = .ok (.iaload, 1) := by decide +kernel
theorem dX1_standsBeside_24 : decode cX1_standsBeside 24 = .ok (.if_icmp .ne 16, 3) := by decide +kernel
theorem dX1_standsBeside_27 : decode cX1_standsBeside 27 = .ok (.aload_n 0, 1) := by decide +kernel
theorem dX1_standsBeside_28 : decode cX1_standsBeside 28 = .ok (.getfield 27, 3) := by decide +kernel
theorem dX1_standsBeside_31 : decode cX1_standsBeside 31 = .ok (.iload_n 2, 1) := by decide +kernel
theorem dX1_standsBeside_32 : decode cX1_standsBeside 32 = .ok (.baload, 1) := by decide +kernel
theorem dX1_standsBeside_33 : decode cX1_standsBeside 33 = .ok (.ifCond .eq 7, 3) := by decide +kernel
theorem dX1_standsBeside_36 : decode cX1_standsBeside 36 = .ok (.iconst 1, 1) := by decide +kernel
theorem dX1_standsBeside_37 : decode cX1_standsBeside 37 = .ok (.goto 4, 3) := by decide +kernel
theorem dX1_standsBeside_40 : decode cX1_standsBeside 40 = .ok (.iconst 0, 1) := by decide +kernel
theorem dX1_standsBeside_41 : decode cX1_standsBeside 41 = .ok (.ireturn, 1) := by decide +kernel
set_option maxRecDepth 20000 in
theorem ggX1_letSlip_J7_fill_53178 : GoodIn wsX1_letSlip wsJ7_fill_53178 := goodIn_r _ [9] (by decide +kernel) (by decide +kernel)
set_option maxRecDepth 20000 in
theorem gX1_letSlip_J7_fill_53178 : GoodIn wsX1_letSlip (va_wsS RX1 99 yJ7_fill_53178 wsJ7_fill_53178) := goodIn_app (goodIn_of _ (by decide +kernel)) ggX1_letSlip_J7_fill_53178
set_option maxRecDepth 20000 in
theorem ggX1_letSlip_X1_isBorne : GoodIn wsX1_letSlip wsX1_isBorne := goodIn_r _ [14, 5, 1, 15, 16, 17, 18, 13, 19, 20, 21, 22, 23, 24, 25, 26, 27, 28, 29, 30, 31, 32, 33, 34, 35, 36, 37, 38, 39, 40, 41, 42, 43, 44, 45, 46, 47, 48, 49, 50, 51, 52] (by decide +kernel) (by decide +kernel)
set_option maxRecDepth 20000 in
theorem gX1_letSlip_X1_isBorne : GoodIn wsX1_letSlip (wsV RX1 105 RX1 yX1_isBorne wsX1_isBorne) := goodIn_app (goodIn_of _ (by decide +kernel)) ggX1_letSlip_X1_isBorne
set_option maxRecDepth 20000 in
theorem ggX1_letSlip_X1_placesOf : GoodIn wsX1_letSlip wsX1_placesOf := goodIn_r _ [19, 15, 20, 21, 22, 13, 23, 24, 25, 26, 34, 35, 36, 37, 38, 39, 40, 41, 42, 43, 44, 45, 46, 47, 48, 49, 50, 51, 52] (by decide +kernel) (by decide +kernel)
set_option maxRecDepth 20000 in
theorem gX1_letSlip_X1_placesOf : GoodIn wsX1_letSlip (wsV RX1 108 RX1 yX1_placesOf wsX1_placesOf) := goodIn_app (goodIn_of _ (by decide +kernel)) ggX1_letSlip_X1_placesOf
theorem dX1_letSlip_0 : decode cX1_letSlip 0 = .ok (.iconst 0, 1) := by decide +kernel
theorem dX1_letSlip_1 : decode cX1_letSlip 1 = .ok (.istore_n 1, 1) := by decide +kernel
theorem dX1_letSlip_2 : decode cX1_letSlip 2 = .ok (.aload_n 0, 1) := by decide +kernel
theorem dX1_letSlip_3 : decode cX1_letSlip 3 = .ok (.getfield 31, 3) := by decide +kernel
theorem dX1_letSlip_6 : decode cX1_letSlip 6 = .ok (.iconst 0, 1) := by decide +kernel
theorem dX1_letSlip_7 : decode cX1_letSlip 7 = .ok (.invokestatic 99, 3) := by decide +kernel
theorem dX1_letSlip_10 : decode cX1_letSlip 10 = .ok (.iconst 0, 1) := by decide +kernel
theorem dX1_letSlip_11 : decode cX1_letSlip 11 = .ok (.istore_n 2, 1) := by decide +kernel
theorem dX1_letSlip_12 : decode cX1_letSlip 12 = .ok (.iload_n 2, 1) := by decide +kernel
theorem dX1_letSlip_13 : decode cX1_letSlip 13 = .ok (.aload_n 0, 1) := by decide +kernel
theorem dX1_letSlip_14 : decode cX1_letSlip 14 = .ok (.getfield 42, 3) := by decide +kernel
theorem dX1_letSlip_17 : decode cX1_letSlip 17 = .ok (.if_icmp .ge 73, 3) := by decide +kernel
theorem dX1_letSlip_20 : decode cX1_letSlip 20 = .ok (.aload_n 0, 1) := by decide +kernel
theorem dX1_letSlip_21 : decode cX1_letSlip 21 = .ok (.getfield 27, 3) := by decide +kernel
theorem dX1_letSlip_24 : decode cX1_letSlip 24 = .ok (.iload_n 2, 1) := by decide +kernel
theorem dX1_letSlip_25 : decode cX1_letSlip 25 = .ok (.baload, 1) := by decide +kernel
theorem dX1_letSlip_26 : decode cX1_letSlip 26 = .ok (.ifCond .eq 30, 3) := by decide +kernel
theorem dX1_letSlip_29 : decode cX1_letSlip 29 = .ok (.aload_n 0, 1) := by decide +kernel
theorem dX1_letSlip_30 : decode cX1_letSlip 30 = .ok (.getfield 21, 3) := by decide +kernel
theorem dX1_letSlip_33 : decode cX1_letSlip 33 = .ok (.iload_n 2, 1) := by decide +kernel
theorem dX1_letSlip_34 : decode cX1_letSlip 34 = .ok (.iaload, 1) := by decide +kernel
theorem dX1_letSlip_35 : decode cX1_letSlip 35 = .ok (.ifCond .eq 11, 3) := by decide +kernel
theorem dX1_letSlip_38 : decode cX1_letSlip 38 = .ok (.aload_n 0, 1) := by decide +kernel
theorem dX1_letSlip_39 : decode cX1_letSlip 39 = .ok (.iload_n 2, 1) := by decide +kernel
theorem dX1_letSlip_40 : decode cX1_letSlip 40 = .ok (.invokevirtual 105, 3) := by decide +kernel
theorem dX1_letSlip_43 : decode cX1_letSlip 43 = .ok (.ifCond .ne 13, 3) := by decide +kernel
theorem dX1_letSlip_46 : decode cX1_letSlip 46 = .ok (.aload_n 0, 1) := by decide +kernel
theorem dX1_letSlip_47 : decode cX1_letSlip 47 = .ok (.getfield 27, 3) := by decide +kernel
theorem dX1_letSlip_50 : decode cX1_letSlip 50 = .ok (.iload_n 2, 1) := by decide +kernel
theorem dX1_letSlip_51 : decode cX1_letSlip 51 = .ok (.iconst 0, 1) := by decide +kernel
theorem dX1_letSlip_52 : decode cX1_letSlip 52 = .ok (.bastore, 1) := by decide +kernel
theorem dX1_letSlip_53 : decode cX1_letSlip 53 = .ok (.iinc 1 1, 3) := by decide +kernel
theorem dX1_letSlip_56 : decode cX1_letSlip 56 = .ok (.aload_n 0, 1) := by decide +kernel
theorem dX1_letSlip_57 : decode cX1_letSlip 57 = .ok (.getfield 27, 3) := by decide +kernel
theorem dX1_letSlip_60 : decode cX1_letSlip 60 = .ok (.iload_n 2, 1) := by decide +kernel
theorem dX1_letSlip_61 : decode cX1_letSlip 61 = .ok (.baload, 1) := by decide +kernel
theorem dX1_letSlip_62 : decode cX1_letSlip 62 = .ok (.ifCond .eq 22, 3) := by decide +kernel
theorem dX1_letSlip_65 : decode cX1_letSlip 65 = .ok (.aload_n 0, 1) := by decide +kernel
theorem dX1_letSlip_66 : decode cX1_letSlip 66 = .ok (.getfield 31, 3) := by decide +kernel
theorem dX1_letSlip_69 : decode cX1_letSlip 69 = .ok (.aload_n 0, 1) := by decide +kernel
theorem dX1_letSlip_70 : decode cX1_letSlip 70 = .ok (.getfield 15, 3) := by decide +kernel
theorem dX1_letSlip_73 : decode cX1_letSlip 73 = .ok (.iload_n 2, 1) := by decide +kernel
theorem dX1_letSlip_74 : decode cX1_letSlip 74 = .ok (.iaload, 1) := by decide +kernel
theorem dX1_letSlip_75 : decode cX1_letSlip 75 = .ok (.dup2, 1) := by decide +kernel
theorem dX1_letSlip_76 : decode cX1_letSlip 76 = .ok (.iaload, 1) := by decide +kernel
theorem dX1_letSlip_77 : decode cX1_letSlip 77 = .ok (.aload_n 0, 1) := by decide +kernel
theorem dX1_letSlip_78 : decode cX1_letSlip 78 = .ok (.iload_n 2, 1) := by decide +kernel
theorem dX1_letSlip_79 : decode cX1_letSlip 79 = .ok (.invokevirtual 108, 3) := by decide +kernel
theorem dX1_letSlip_82 : decode cX1_letSlip 82 = .ok (.ior, 1) := by decide +kernel
theorem dX1_letSlip_83 : decode cX1_letSlip 83 = .ok (.iastore, 1) := by decide +kernel
theorem dX1_letSlip_84 : decode cX1_letSlip 84 = .ok (.iinc 2 1, 3) := by decide +kernel
theorem dX1_letSlip_87 : decode cX1_letSlip 87 = .ok (.goto (-75), 3) := by decide +kernel
theorem dX1_letSlip_90 : decode cX1_letSlip 90 = .ok (.iload_n 1, 1) := by decide +kernel
theorem dX1_letSlip_91 : decode cX1_letSlip 91 = .ok (.ireturn, 1) := by decide +kernel
set_option maxRecDepth 20000 in
theorem ggX1_isBorne_X1_placesOf : GoodIn wsX1_isBorne wsX1_placesOf := goodIn_r _ [8, 3, 9, 10, 11, 7, 12, 13, 14, 15, 23, 24, 25, 26, 27, 28, 29, 30, 31, 32, 33, 34, 35, 36, 37, 38, 39, 40, 41] (by decide +kernel) (by decide +kernel)
set_option maxRecDepth 20000 in
theorem gX1_isBorne_X1_placesOf : GoodIn wsX1_isBorne (wsV RX1 108 RX1 yX1_placesOf wsX1_placesOf) := goodIn_app (goodIn_of _ (by decide +kernel)) ggX1_isBorne_X1_placesOf
set_option maxRecDepth 20000 in
theorem ggX1_isBorne_J6_bitCount_0f7a4 : GoodIn wsX1_isBorne wsJ6_bitCount_0f7a4 := goodIn_r _ [19, 20, 21, 22] (by decide +kernel) (by decide +kernel)
set_option maxRecDepth 20000 in
theorem gX1_isBorne_J6_bitCount_0f7a4 : GoodIn wsX1_isBorne (va_wsS RX1 111 yJ6_bitCount_0f7a4 wsJ6_bitCount_0f7a4) := goodIn_app (goodIn_of _ (by decide +kernel)) ggX1_isBorne_J6_bitCount_0f7a4
set_option maxRecDepth 20000 in
theorem ggX1_isBorne_X1_end : GoodIn wsX1_isBorne wsX1_end := goodIn_r _ [12, 3, 13, 14, 15, 23, 24, 25, 26, 27, 28, 29, 30, 31, 32, 33, 34, 35, 36, 37, 38, 39, 40, 41] (by decide +kernel) (by decide +kernel)
set_option maxRecDepth 20000 in
theorem gX1_isBorne_X1_end : GoodIn wsX1_isBorne (wsV RX1 116 RX1 yX1_end wsX1_end) := goodIn_app (goodIn_of _ (by decide +kernel)) ggX1_isBorne_X1_end
theorem dX1_isBorne_0 : decode cX1_isBorne 0 = .ok (.aload_n 0, 1) := by decide +kernel
theorem dX1_isBorne_1 : decode cX1_isBorne 1 = .ok (.getfield 15, 3) := by decide +kernel
theorem dX1_isBorne_4 : decode cX1_isBorne 4 = .ok (.iload_n 1, 1) := by decide +kernel
theorem dX1_isBorne_5 : decode cX1_isBorne 5 = .ok (.iaload, 1) := by decide +kernel
theorem dX1_isBorne_6 : decode cX1_isBorne 6 = .ok (.iconst 1, 1) := by decide +kernel
theorem dX1_isBorne_7 : decode cX1_isBorne 7 = .ok (.isub, 1) := by decide +kernel
theorem dX1_isBorne_8 : decode cX1_isBorne 8 = .ok (.istore_n 2, 1) := by decide +kernel
theorem dX1_isBorne_9 : decode cX1_isBorne 9 = .ok (.iload_n 2, 1) := by decide +kernel
theorem dX1_isBorne_10 : decode cX1_isBorne 10 = .ok (.ifCond .lt 35, 3) := by decide +kernel
theorem dX1_isBorne_13 : decode cX1_isBorne 13 = .ok (.iconst 2, 1) := by decide +kernel
theorem dX1_isBorne_14 : decode cX1_isBorne 14 = .ok (.aload_n 0, 1) := by decide +kernel
theorem dX1_isBorne_15 : decode cX1_isBorne 15 = .ok (.iload_n 1, 1) := by decide +kernel
theorem dX1_isBorne_16 : decode cX1_isBorne 16 = .ok (.invokevirtual 108, 3) := by decide +kernel
theorem dX1_isBorne_19 : decode cX1_isBorne 19 = .ok (.aload_n 0, 1) := by decide +kernel
theorem dX1_isBorne_20 : decode cX1_isBorne 20 = .ok (.getfield 31, 3) := by decide +kernel
theorem dX1_isBorne_23 : decode cX1_isBorne 23 = .ok (.iload_n 2, 1) := by decide +kernel
theorem dX1_isBorne_24 : decode cX1_isBorne 24 = .ok (.iaload, 1) := by decide +kernel
theorem dX1_isBorne_25 : decode cX1_isBorne 25 = .ok (.iand, 1) := by decide +kernel
theorem dX1_isBorne_26 : decode cX1_isBorne 26 = .ok (.invokestatic 111, 3) := by decide +kernel
theorem dX1_isBorne_29 : decode cX1_isBorne 29 = .ok (.imul, 1) := by decide +kernel
theorem dX1_isBorne_30 : decode cX1_isBorne 30 = .ok (.aload_n 0, 1) := by decide +kernel
theorem dX1_isBorne_31 : decode cX1_isBorne 31 = .ok (.iload_n 1, 1) := by decide +kernel
theorem dX1_isBorne_32 : decode cX1_isBorne 32 = .ok (.invokevirtual 116, 3) := by decide +kernel
theorem dX1_isBorne_35 : decode cX1_isBorne 35 = .ok (.aload_n 0, 1) := by decide +kernel
theorem dX1_isBorne_36 : decode cX1_isBorne 36 = .ok (.getfield 18, 3) := by decide +kernel
theorem dX1_isBorne_39 : decode cX1_isBorne 39 = .ok (.iload_n 1, 1) := by decide +kernel
theorem dX1_isBorne_40 : decode cX1_isBorne 40 = .ok (.iaload, 1) := by decide +kernel
theorem dX1_isBorne_41 : decode cX1_isBorne 41 = .ok (.isub, 1) := by decide +kernel
theorem dX1_isBorne_42 : decode cX1_isBorne 42 = .ok (.if_icmp .lt 7, 3) := by decide +kernel
theorem dX1_isBorne_45 : decode cX1_isBorne 45 = .ok (.iconst 1, 1) := by decide +kernel
theorem dX1_isBorne_46 : decode cX1_isBorne 46 = .ok (.goto 4, 3) := by decide +kernel
theorem dX1_isBorne_49 : decode cX1_isBorne 49 = .ok (.iconst 0, 1) := by decide +kernel
theorem dX1_isBorne_50 : decode cX1_isBorne 50 = .ok (.ireturn, 1) := by decide +kernel
set_option maxRecDepth 20000 in
theorem ggX1_placesOf_X1_end : GoodIn wsX1_placesOf wsX1_end := goodIn_r _ [6, 1, 7, 8, 9, 10, 11, 12, 13, 14, 15, 16, 17, 18, 19, 20, 21, 22, 23, 24, 25, 26, 27, 28] (by decide +kernel) (by decide +kernel)
set_option maxRecDepth 20000 in
theorem gX1_placesOf_X1_end : GoodIn wsX1_placesOf (wsV RX1 116 RX1 yX1_end wsX1_end) := goodIn_app (goodIn_of _ (by decide +kernel)) ggX1_placesOf_X1_end
theorem dX1_placesOf_0 : decode cX1_placesOf 0 = .ok (.iconst 1, 1) := by decide +kernel
theorem dX1_placesOf_1 : decode cX1_placesOf 1 = .ok (.aload_n 0, 1) := by decide +kernel
theorem dX1_placesOf_2 : decode cX1_placesOf 2 = .ok (.iload_n 1, 1) := by decide +kernel
theorem dX1_placesOf_3 : decode cX1_placesOf 3 = .ok (.invokevirtual 116, 3) := by decide +kernel
theorem dX1_placesOf_6 : decode cX1_placesOf 6 = .ok (.ishl, 1) := by decide +kernel
theorem dX1_placesOf_7 : decode cX1_placesOf 7 = .ok (.iconst 1, 1) := by decide +kernel
theorem dX1_placesOf_8 : decode cX1_placesOf 8 = .ok (.aload_n 0, 1) := by decide +kernel
theorem dX1_placesOf_9 : decode cX1_placesOf 9 = .ok (.getfield 18, 3) := by decide +kernel
theorem dX1_placesOf_12 : decode cX1_placesOf 12 = .ok (.iload_n 1, 1) := by decide +kernel
theorem dX1_placesOf_13 : decode cX1_placesOf 13 = .ok (.iaload, 1) := by decide +kernel
theorem dX1_placesOf_14 : decode cX1_placesOf 14 = .ok (.ishl, 1) := by decide +kernel
theorem dX1_placesOf_15 : decode cX1_placesOf 15 = .ok (.isub, 1) := by decide +kernel
theorem dX1_placesOf_16 : decode cX1_placesOf 16 = .ok (.ireturn, 1) := by decide +kernel
theorem dX2_init_0 : decode cX2_init 0 = .ok (.aload_n 0, 1) := by decide +kernel
theorem dX2_init_1 : decode cX2_init 1 = .ok (.invokespecial 3, 3) := by decide +kernel
theorem dX2_init_4 : decode cX2_init 4 = .ok (.aload_n 0, 1) := by decide +kernel
theorem dX2_init_5 : decode cX2_init 5 = .ok (.bipush 8, 2) := by decide +kernel
theorem dX2_init_7 : decode cX2_init 7 = .ok (.newarray .int, 2) := by decide +kernel
theorem dX2_init_9 : decode cX2_init 9 = .ok (.putfield 9, 3) := by decide +kernel
theorem dX2_init_12 : decode cX2_init 12 = .ok (.aload_n 0, 1) := by decide +kernel
theorem dX2_init_13 : decode cX2_init 13 = .ok (.bipush 6, 2) := by decide +kernel
theorem dX2_init_15 : decode cX2_init 15 = .ok (.newarray .int, 2) := by decide +kernel
theorem dX2_init_17 : decode cX2_init 17 = .ok (.putfield 15, 3) := by decide +kernel
theorem dX2_init_20 : decode cX2_init 20 = .ok (.aload_n 0, 1) := by decide +kernel
theorem dX2_init_21 : decode cX2_init 21 = .ok (.aload_n 1, 1) := by decide +kernel
theorem dX2_init_22 : decode cX2_init 22 = .ok (.putfield 18, 3) := by decide +kernel
theorem dX2_init_25 : decode cX2_init 25 = .ok (.aload_n 0, 1) := by decide +kernel
theorem dX2_init_26 : decode cX2_init 26 = .ok (.aload_n 2, 1) := by decide +kernel
theorem dX2_init_27 : decode cX2_init 27 = .ok (.putfield 22, 3) := by decide +kernel
theorem dX2_init_30 : decode cX2_init 30 = .ok (.aload_n 0, 1) := by decide +kernel
theorem dX2_init_31 : decode cX2_init 31 = .ok (.aload_n 3, 1) := by decide +kernel
theorem dX2_init_32 : decode cX2_init 32 = .ok (.putfield 26, 3) := by decide +kernel
theorem dX2_init_35 : decode cX2_init 35 = .ok (.return_, 1) := by decide +kernel
set_option maxRecDepth 20000 in
theorem ggX2_firstWhole_X2_begin : GoodIn wsX2_firstWhole wsX2_begin := goodIn_r _ [14, 2, 4, 8, 5, 15, 16, 17, 18, 19, 20, 21, 22, 23, 24, 25, 26, 27, 28, 29, 30, 31, 32, 33, 34, 35, 36, 37, 104, 105, 106, 107, 108, 109, 110, 111, 133, 134, 135, 136, 137, 138, 139, 112, 113, 114, 115, 116, 117, 118, 119, 120, 121, 122, 123] (by decide +kernel) (by decide +kernel)
set_option maxRecDepth 20000 in
theorem gX2_firstWhole_X2_begin : GoodIn wsX2_firstWhole (wsV RX2 30 RX2 yX2_begin wsX2_begin) := goodIn_app (goodIn_of _ (by decide +kernel)) ggX2_firstWhole_X2_begin
set_option maxRecDepth 20000 in
theorem ggX2_firstWhole_X2_nextToTry : GoodIn wsX2_firstWhole wsX2_nextToTry := goodIn_r _ [41, 16, 17, 18, 42, 6, 8, 43, 44, 45, 46, 47, 48, 49, 50, 51, 52, 53, 54, 55, 56, 13, 57, 5, 58, 15, 7, 104, 105, 106, 107, 108, 109, 110, 111, 133, 134, 135, 136, 137, 138, 139, 124, 125, 126, 127, 128, 129, 130, 131, 132] (by decide +kernel) (by decide +kernel)
set_option maxRecDepth 20000 in
theorem gX2_firstWhole_X2_nextToTry : GoodIn wsX2_firstWhole (wsV RX2 33 RX2 yX2_nextToTry wsX2_nextToTry) := goodIn_app (goodIn_of _ (by decide +kernel)) ggX2_firstWhole_X2_nextToTry
set_option maxRecDepth 20000 in
theorem ggX2_firstWhole_X2_takeUp : GoodIn wsX2_firstWhole wsX2_takeUp := goodIn_r _ [62, 2, 3, 63, 64, 8, 65, 5, 15, 18, 66, 67, 68, 22, 69, 70, 71, 72, 73, 74, 75, 76, 13, 77, 6, 7, 104, 105, 106, 107, 108, 109, 110, 111, 112, 113, 114, 115, 116, 117, 118, 119, 120, 121, 122, 123, 133, 134, 135, 136, 137, 138, 139, 124, 125, 126, 127, 128, 129, 130, 131, 132] (by decide +kernel) (by decide +kernel)
set_option maxRecDepth 20000 in
theorem gX2_firstWhole_X2_takeUp : GoodIn wsX2_firstWhole (wsV RX2 44 RX2 yX2_takeUp wsX2_takeUp) := goodIn_app (goodIn_of _ (by decide +kernel)) ggX2_firstWhole_X2_takeUp
set_option maxRecDepth 20000 in
theorem ggX2_firstWhole_X2_lay : GoodIn wsX2_firstWhole wsX2_lay := goodIn_r _ [81, 2, 8, 5, 18, 16, 58, 15, 82, 83, 84, 22, 85, 24, 73, 86, 70, 74, 75, 76, 13, 77, 6, 7, 104, 105, 106, 107, 108, 109, 110, 111, 133, 134, 135, 136, 137, 138, 139, 112, 113, 114, 115, 116, 117, 118, 119, 120, 121, 122, 123, 124, 125, 126, 127, 128, 129, 130, 131, 132] (by decide +kernel) (by decide +kernel)
set_option maxRecDepth 20000 in
theorem gX2_firstWhole_X2_lay : GoodIn wsX2_firstWhole (wsV RX2 51 RX2 yX2_lay wsX2_lay) := goodIn_app (goodIn_of _ (by decide +kernel)) ggX2_firstWhole_X2_lay
set_option maxRecDepth 20000 in
theorem ggX2_firstWhole_X2_hasThroughsAsked : GoodIn wsX2_firstWhole wsX2_hasThroughsAsked := goodIn_r _ [90, 2, 3, 64, 8, 6, 91, 92, 93, 22, 94, 71, 95, 73, 96, 86, 97, 44, 45, 46, 47, 48, 49, 50, 51, 52, 53, 98, 99, 100, 101, 102, 103, 104, 105, 106, 107, 108, 109, 110, 111, 112, 113, 114, 115, 116, 117, 118, 119, 120, 121, 122, 123, 133, 134, 135, 136, 137, 138, 139, 124, 125, 126, 127, 128, 129, 130, 131, 132] (by decide +kernel) (by decide +kernel)
set_option maxRecDepth 20000 in
theorem gX2_firstWhole_X2_hasThroughsAsked : GoodIn wsX2_firstWhole (wsV RX2 63 RX2 yX2_hasThroughsAsked wsX2_hasThroughsAsked) := goodIn_app (goodIn_of _ (by decide +kernel)) ggX2_firstWhole_X2_hasThroughsAsked
theorem dX2_firstWhole_0 : decode cX2_firstWhole 0 = .ok (.aload_n 0, 1) := by decide +kernel
theorem dX2_firstWhole_1 : decode cX2_firstWhole 1 = .ok (.invokevirtual 30, 3) := by decide +kernel
theorem dX2_firstWhole_4 : decode cX2_firstWhole 4 = .ok (.aload_n 0, 1) := by decide +kernel
theorem dX2_firstWhole_5 : decode cX2_firstWhole 5 = .ok (.iconst 0, 1) := by decide +kernel
theorem dX2_firstWhole_6 : decode cX2_firstWhole 6 = .ok (.invokevirtual 33, 3) := by decide +kernel
theorem dX2_firstWhole_9 : decode cX2_firstWhole 9 = .ok (.istore_n 1, 1) := by decide +kernel
theorem dX2_firstWhole_10 : decode cX2_firstWhole 10 = .ok (.iconst 0, 1) := by decide +kernel
theorem dX2_firstWhole_11 : decode cX2_firstWhole 11 = .ok (.istore_n 2, 1) := by decide +kernel
theorem dX2_firstWhole_12 : decode cX2_firstWhole 12 = .ok (.iload_n 2, 1) := by decide +kernel
theorem dX2_firstWhole_13 : decode cX2_firstWhole 13 = .ok (.ldc 37, 2) := by decide +kernel
theorem dX2_firstWhole_15 : decode cX2_firstWhole 15 = .ok (.if_icmp .ge 148, 3) := by decide +kernel
theorem dX2_firstWhole_18 : decode cX2_firstWhole 18 = .ok (.iload_n 1, 1) := by decide +kernel
theorem dX2_firstWhole_19 : decode cX2_firstWhole 19 = .ok (.iconst (-1), 1) := by decide +kernel
theorem dX2_firstWhole_20 : decode cX2_firstWhole 20 = .ok (.if_icmp .ne 29, 3) := by decide +kernel
theorem dX2_firstWhole_23 : decode cX2_firstWhole 23 = .ok (.aload_n 0, 1) := by decide +kernel
theorem dX2_firstWhole_24 : decode cX2_firstWhole 24 = .ok (.getfield 26, 3) := by decide +kernel
theorem dX2_firstWhole_27 : decode cX2_firstWhole 27 = .ok (.getfield 38, 3) := by decide +kernel
theorem dX2_firstWhole_30 : decode cX2_firstWhole 30 = .ok (.ifCond .ne 5, 3) := by decide +kernel
theorem dX2_firstWhole_33 : decode cX2_firstWhole 33 = .ok (.iconst 0, 1) := by decide +kernel
theorem dX2_firstWhole_34 : decode cX2_firstWhole 34 = .ok (.ireturn, 1) := by decide +kernel
theorem dX2_firstWhole_35 : decode cX2_firstWhole 35 = .ok (.aload_n 0, 1) := by decide +kernel
theorem dX2_firstWhole_36 : decode cX2_firstWhole 36 = .ok (.aload_n 0, 1) := by decide +kernel
theorem dX2_firstWhole_37 : decode cX2_firstWhole 37 = .ok (.invokevirtual 44, 3) := by decide +kernel
theorem dX2_firstWhole_40 : decode cX2_firstWhole 40 = .ok (.iconst 1, 1) := by decide +kernel
theorem dX2_firstWhole_41 : decode cX2_firstWhole 41 = .ok (.iadd, 1) := by decide +kernel
theorem dX2_firstWhole_42 : decode cX2_firstWhole 42 = .ok (.invokevirtual 33, 3) := by decide +kernel
theorem dX2_firstWhole_45 : decode cX2_firstWhole 45 = .ok (.istore_n 1, 1) := by decide +kernel
theorem dX2_firstWhole_46 : decode cX2_firstWhole 46 = .ok (.goto 111, 3) := by decide +kernel
theorem dX2_firstWhole_49 : decode cX2_firstWhole 49 = .ok (.aload_n 0, 1) := by decide +kernel
theorem dX2_firstWhole_50 : decode cX2_firstWhole 50 = .ok (.getfield 48, 3) := by decide +kernel
theorem dX2_firstWhole_53 : decode cX2_firstWhole 53 = .ok (.sipush 20000, 3) := by decide +kernel
theorem dX2_firstWhole_56 : decode cX2_firstWhole 56 = .ok (.if_icmp .lt 6, 3) := by decide +kernel
theorem dX2_firstWhole_59 : decode cX2_firstWhole 59 = .ok (.bipush (-2), 2) := by decide +kernel
theorem dX2_firstWhole_61 : decode cX2_firstWhole 61 = .ok (.ireturn, 1) := by decide +kernel
theorem dX2_firstWhole_62 : decode cX2_firstWhole 62 = .ok (.aload_n 0, 1) := by decide +kernel
theorem dX2_firstWhole_63 : decode cX2_firstWhole 63 = .ok (.dup, 1) := by decide +kernel
theorem dX2_firstWhole_64 : decode cX2_firstWhole 64 = .ok (.getfield 48, 3) := by decide +kernel
theorem dX2_firstWhole_67 : decode cX2_firstWhole 67 = .ok (.iconst 1, 1) := by decide +kernel
theorem dX2_firstWhole_68 : decode cX2_firstWhole 68 = .ok (.iadd, 1) := by decide +kernel
theorem dX2_firstWhole_69 : decode cX2_firstWhole 69 = .ok (.putfield 48, 3) := by decide +kernel
theorem dX2_firstWhole_72 : decode cX2_firstWhole 72 = .ok (.aload_n 0, 1) := by decide +kernel
theorem dX2_firstWhole_73 : decode cX2_firstWhole 73 = .ok (.iload_n 1, 1) := by decide +kernel
theorem dX2_firstWhole_74 : decode cX2_firstWhole 74 = .ok (.invokevirtual 51, 3) := by decide +kernel
theorem dX2_firstWhole_77 : decode cX2_firstWhole 77 = .ok (.aload_n 0, 1) := by decide +kernel
theorem dX2_firstWhole_78 : decode cX2_firstWhole 78 = .ok (.getfield 55, 3) := by decide +kernel
theorem dX2_firstWhole_81 : decode cX2_firstWhole 81 = .ok (.aload_n 0, 1) := by decide +kernel
theorem dX2_firstWhole_82 : decode cX2_firstWhole 82 = .ok (.getfield 22, 3) := by decide +kernel
theorem dX2_firstWhole_85 : decode cX2_firstWhole 85 = .ok (.getfield 58, 3) := by decide +kernel
theorem dX2_firstWhole_88 : decode cX2_firstWhole 88 = .ok (.if_icmp .ge 12, 3) := by decide +kernel
theorem dX2_firstWhole_91 : decode cX2_firstWhole 91 = .ok (.aload_n 0, 1) := by decide +kernel
theorem dX2_firstWhole_92 : decode cX2_firstWhole 92 = .ok (.iconst 0, 1) := by decide +kernel
theorem dX2_firstWhole_93 : decode cX2_firstWhole 93 = .ok (.invokevirtual 33, 3) := by decide +kernel
theorem dX2_firstWhole_96 : decode cX2_firstWhole 96 = .ok (.istore_n 1, 1) := by decide +kernel
theorem dX2_firstWhole_97 : decode cX2_firstWhole 97 = .ok (.goto 60, 3) := by decide +kernel
theorem dX2_firstWhole_100 : decode cX2_firstWhole 100 = .ok (.aload_n 0, 1) := by decide +kernel
theorem dX2_firstWhole_101 : decode cX2_firstWhole 101 = .ok (.invokevirtual 63, 3) := by decide +kernel
theorem dX2_firstWhole_104 : decode cX2_firstWhole 104 = .ok (.ifCond .ne 8, 3) := by decide +kernel
theorem dX2_firstWhole_107 : decode cX2_firstWhole 107 = .ok (.iconst (-1), 1) := by decide +kernel
theorem dX2_firstWhole_108 : decode cX2_firstWhole 108 = .ok (.istore_n 1, 1) := by decide +kernel
theorem dX2_firstWhole_109 : decode cX2_firstWhole 109 = .ok (.goto 48, 3) := by decide +kernel
theorem dX2_firstWhole_112 : decode cX2_firstWhole 112 = .ok (.aload_n 0, 1) := by decide +kernel
theorem dX2_firstWhole_113 : decode cX2_firstWhole 113 = .ok (.getfield 67, 3) := by decide +kernel
theorem dX2_firstWhole_116 : decode cX2_firstWhole 116 = .ok (.iconst 1, 1) := by decide +kernel
theorem dX2_firstWhole_117 : decode cX2_firstWhole 117 = .ok (.iadd, 1) := by decide +kernel
theorem dX2_firstWhole_118 : decode cX2_firstWhole 118 = .ok (.aload_n 0, 1) := by decide +kernel
theorem dX2_firstWhole_119 : decode cX2_firstWhole 119 = .ok (.getfield 22, 3) := by decide +kernel
theorem dX2_firstWhole_122 : decode cX2_firstWhole 122 = .ok (.getfield 70, 3) := by decide +kernel
theorem dX2_firstWhole_125 : decode cX2_firstWhole 125 = .ok (.if_icmp .ne 11, 3) := by decide +kernel
theorem dX2_firstWhole_128 : decode cX2_firstWhole 128 = .ok (.aload_n 0, 1) := by decide +kernel
theorem dX2_firstWhole_129 : decode cX2_firstWhole 129 = .ok (.getfield 26, 3) := by decide +kernel
theorem dX2_firstWhole_132 : decode cX2_firstWhole 132 = .ok (.getfield 38, 3) := by decide +kernel
theorem dX2_firstWhole_135 : decode cX2_firstWhole 135 = .ok (.ireturn, 1) := by decide +kernel
theorem dX2_firstWhole_136 : decode cX2_firstWhole 136 = .ok (.aload_n 0, 1) := by decide +kernel
theorem dX2_firstWhole_137 : decode cX2_firstWhole 137 = .ok (.dup, 1) := by decide +kernel
theorem dX2_firstWhole_138 : decode cX2_firstWhole 138 = .ok (.getfield 67, 3) := by decide +kernel
theorem dX2_firstWhole_141 : decode cX2_firstWhole 141 = .ok (.iconst 1, 1) := by decide +kernel
theorem dX2_firstWhole_142 : decode cX2_firstWhole 142 = .ok (.iadd, 1) := by decide +kernel
theorem dX2_firstWhole_143 : decode cX2_firstWhole 143 = .ok (.putfield 67, 3) := by decide +kernel
theorem dX2_firstWhole_146 : decode cX2_firstWhole 146 = .ok (.aload_n 0, 1) := by decide +kernel
theorem dX2_firstWhole_147 : decode cX2_firstWhole 147 = .ok (.iconst 0, 1) := by decide +kernel
theorem dX2_firstWhole_148 : decode cX2_firstWhole 148 = .ok (.putfield 55, 3) := by decide +kernel
theorem dX2_firstWhole_151 : decode cX2_firstWhole 151 = .ok (.aload_n 0, 1) := by decide +kernel
theorem dX2_firstWhole_152 : decode cX2_firstWhole 152 = .ok (.iconst 0, 1) := by decide +kernel
theorem dX2_firstWhole_153 : decode cX2_firstWhole 153 = .ok (.invokevirtual 33, 3) := by decide +kernel
theorem dX2_firstWhole_156 : decode cX2_firstWhole 156 = .ok (.istore_n 1, 1) := by decide +kernel
theorem dX2_firstWhole_157 : decode cX2_firstWhole 157 = .ok (.iinc 2 1, 3) := by decide +kernel
theorem dX2_firstWhole_160 : decode cX2_firstWhole 160 = .ok (.goto (-148), 3) := by decide +kernel
theorem dX2_firstWhole_163 : decode cX2_firstWhole 163 = .ok (.bipush (-2), 2) := by decide +kernel
theorem dX2_firstWhole_165 : decode cX2_firstWhole 165 = .ok (.ireturn, 1) := by decide +kernel
set_option maxRecDepth 20000 in
theorem ggX2_begin_X1_forget : GoodIn wsX2_begin wsX1_forget := goodIn_r _ [13, 14, 15, 16, 43, 44, 45, 46, 47, 48, 49, 50, 51, 52, 53, 54] (by decide +kernel) (by decide +kernel)
set_option maxRecDepth 20000 in
theorem gX2_begin_X1_forget : GoodIn wsX2_begin (wsV RX2 73 RX1 yX1_forget wsX1_forget) := goodIn_app (goodIn_of _ (by decide +kernel)) ggX2_begin_X1_forget
set_option maxRecDepth 20000 in
theorem ggX2_begin_J7_fill_53178 : GoodIn wsX2_begin wsJ7_fill_53178 := goodIn_r _ [20] (by decide +kernel) (by decide +kernel)
set_option maxRecDepth 20000 in
theorem gX2_begin_J7_fill_53178 : GoodIn wsX2_begin (va_wsS RX2 76 yJ7_fill_53178 wsJ7_fill_53178) := goodIn_app (goodIn_of _ (by decide +kernel)) ggX2_begin_J7_fill_53178
set_option maxRecDepth 20000 in
theorem ggX2_begin_X4_inHeaps : GoodIn wsX2_begin wsX4_inHeaps := goodIn_r _ [25, 26, 27, 36, 37, 38, 39, 40, 41, 42] (by decide +kernel) (by decide +kernel)
set_option maxRecDepth 20000 in
theorem gX2_begin_X4_inHeaps : GoodIn wsX2_begin (wsV RX2 87 RX4 yX4_inHeaps wsX4_inHeaps) := goodIn_app (goodIn_of _ (by decide +kernel)) ggX2_begin_X4_inHeaps
theorem dX2_begin_0 : decode cX2_begin 0 = .ok (.aload_n 0, 1) := by decide +kernel
theorem dX2_begin_1 : decode cX2_begin 1 = .ok (.getfield 26, 3) := by decide +kernel
theorem dX2_begin_4 : decode cX2_begin 4 = .ok (.invokevirtual 73, 3) := by decide +kernel
theorem dX2_begin_7 : decode cX2_begin 7 = .ok (.aload_n 0, 1) := by decide +kernel
theorem dX2_begin_8 : decode cX2_begin 8 = .ok (.iconst 0, 1) := by decide +kernel
theorem dX2_begin_9 : decode cX2_begin 9 = .ok (.putfield 48, 3) := by decide +kernel
theorem dX2_begin_12 : decode cX2_begin 12 = .ok (.aload_n 0, 1) := by decide +kernel
theorem dX2_begin_13 : decode cX2_begin 13 = .ok (.iconst 0, 1) := by decide +kernel
theorem dX2_begin_14 : decode cX2_begin 14 = .ok (.putfield 67, 3) := by decide +kernel
theorem dX2_begin_17 : decode cX2_begin 17 = .ok (.aload_n 0, 1) := by decide +kernel
theorem dX2_begin_18 : decode cX2_begin 18 = .ok (.iconst 0, 1) := by decide +kernel
theorem dX2_begin_19 : decode cX2_begin 19 = .ok (.putfield 55, 3) := by decide +kernel
theorem dX2_begin_22 : decode cX2_begin 22 = .ok (.aload_n 0, 1) := by decide +kernel
theorem dX2_begin_23 : decode cX2_begin 23 = .ok (.getfield 15, 3) := by decide +kernel
theorem dX2_begin_26 : decode cX2_begin 26 = .ok (.iconst 0, 1) := by decide +kernel
theorem dX2_begin_27 : decode cX2_begin 27 = .ok (.invokestatic 76, 3) := by decide +kernel
theorem dX2_begin_30 : decode cX2_begin 30 = .ok (.iconst 0, 1) := by decide +kernel
theorem dX2_begin_31 : decode cX2_begin 31 = .ok (.istore_n 1, 1) := by decide +kernel
theorem dX2_begin_32 : decode cX2_begin 32 = .ok (.iload_n 1, 1) := by decide +kernel
theorem dX2_begin_33 : decode cX2_begin 33 = .ok (.aload_n 0, 1) := by decide +kernel
theorem dX2_begin_34 : decode cX2_begin 34 = .ok (.getfield 18, 3) := by decide +kernel
theorem dX2_begin_37 : decode cX2_begin 37 = .ok (.getfield 82, 3) := by decide +kernel
theorem dX2_begin_40 : decode cX2_begin 40 = .ok (.if_icmp .ge 23, 3) := by decide +kernel
theorem dX2_begin_43 : decode cX2_begin 43 = .ok (.aload_n 0, 1) := by decide +kernel
theorem dX2_begin_44 : decode cX2_begin 44 = .ok (.getfield 9, 3) := by decide +kernel
theorem dX2_begin_47 : decode cX2_begin 47 = .ok (.iload_n 1, 1) := by decide +kernel
theorem dX2_begin_48 : decode cX2_begin 48 = .ok (.aload_n 0, 1) := by decide +kernel
theorem dX2_begin_49 : decode cX2_begin 49 = .ok (.getfield 18, 3) := by decide +kernel
theorem dX2_begin_52 : decode cX2_begin 52 = .ok (.iload_n 1, 1) := by decide +kernel
theorem dX2_begin_53 : decode cX2_begin 53 = .ok (.invokevirtual 87, 3) := by decide +kernel
theorem dX2_begin_56 : decode cX2_begin 56 = .ok (.iastore, 1) := by decide +kernel
theorem dX2_begin_57 : decode cX2_begin 57 = .ok (.iinc 1 1, 3) := by decide +kernel
theorem dX2_begin_60 : decode cX2_begin 60 = .ok (.goto (-28), 3) := by decide +kernel
theorem dX2_begin_63 : decode cX2_begin 63 = .ok (.return_, 1) := by decide +kernel
set_option maxRecDepth 20000 in
theorem ggX2_nextToTry_X3_width : GoodIn wsX2_nextToTry wsX3_width := goodIn_r _ [11, 12, 13, 14, 15, 16, 17, 42, 43, 44, 45, 46, 47, 48, 49, 50] (by decide +kernel) (by decide +kernel)
set_option maxRecDepth 20000 in
theorem gX2_nextToTry_X3_width : GoodIn wsX2_nextToTry (wsV RX2 93 RX3 yX3_width wsX3_width) := goodIn_app (goodIn_of _ (by decide +kernel)) ggX2_nextToTry_X3_width
set_option maxRecDepth 20000 in
theorem ggX2_nextToTry_X2_endsWell : GoodIn wsX2_nextToTry wsX2_endsWell := goodIn_r _ [22, 23, 1, 24, 6, 25, 5, 26, 27, 28, 29, 30, 31, 32, 33, 34, 35, 36, 37, 38, 39, 40, 41, 42, 43, 44, 45, 46, 47, 48, 49, 50] (by decide +kernel) (by decide +kernel)
set_option maxRecDepth 20000 in
theorem gX2_nextToTry_X2_endsWell : GoodIn wsX2_nextToTry (wsV RX2 96 RX2 yX2_endsWell wsX2_endsWell) := goodIn_app (goodIn_of _ (by decide +kernel)) ggX2_nextToTry_X2_endsWell
theorem dX2_nextToTry_0 : decode cX2_nextToTry 0 = .ok (.iload_n 1, 1) := by decide +kernel
theorem dX2_nextToTry_1 : decode cX2_nextToTry 1 = .ok (.istore_n 2, 1) := by decide +kernel
theorem dX2_nextToTry_2 : decode cX2_nextToTry 2 = .ok (.iload_n 2, 1) := by decide +kernel
theorem dX2_nextToTry_3 : decode cX2_nextToTry 3 = .ok (.aload_n 0, 1) := by decide +kernel
theorem dX2_nextToTry_4 : decode cX2_nextToTry 4 = .ok (.getfield 18, 3) := by decide +kernel
theorem dX2_nextToTry_7 : decode cX2_nextToTry 7 = .ok (.getfield 82, 3) := by decide +kernel
theorem dX2_nextToTry_10 : decode cX2_nextToTry 10 = .ok (.if_icmp .ge 53, 3) := by decide +kernel
theorem dX2_nextToTry_13 : decode cX2_nextToTry 13 = .ok (.aload_n 0, 1) := by decide +kernel
theorem dX2_nextToTry_14 : decode cX2_nextToTry 14 = .ok (.getfield 9, 3) := by decide +kernel
theorem dX2_nextToTry_17 : decode cX2_nextToTry 17 = .ok (.iload_n 2, 1) := by decide +kernel
theorem dX2_nextToTry_18 : decode cX2_nextToTry 18 = .ok (.iaload, 1) := by decide +kernel
theorem dX2_nextToTry_19 : decode cX2_nextToTry 19 = .ok (.ifCond .le 38, 3) := by decide +kernel
theorem dX2_nextToTry_22 : decode cX2_nextToTry 22 = .ok (.aload_n 0, 1) := by decide +kernel
theorem dX2_nextToTry_23 : decode cX2_nextToTry 23 = .ok (.getfield 18, 3) := by decide +kernel
theorem dX2_nextToTry_26 : decode cX2_nextToTry 26 = .ok (.getfield 90, 3) := by decide +kernel
theorem dX2_nextToTry_29 : decode cX2_nextToTry 29 = .ok (.iload_n 2, 1) := by decide +kernel
theorem dX2_nextToTry_30 : decode cX2_nextToTry 30 = .ok (.iaload, 1) := by decide +kernel
theorem dX2_nextToTry_31 : decode cX2_nextToTry 31 = .ok (.aload_n 0, 1) := by decide +kernel
theorem dX2_nextToTry_32 : decode cX2_nextToTry 32 = .ok (.getfield 22, 3) := by decide +kernel
theorem dX2_nextToTry_35 : decode cX2_nextToTry 35 = .ok (.aload_n 0, 1) := by decide +kernel
theorem dX2_nextToTry_36 : decode cX2_nextToTry 36 = .ok (.getfield 67, 3) := by decide +kernel
theorem dX2_nextToTry_39 : decode cX2_nextToTry 39 = .ok (.invokevirtual 93, 3) := by decide +kernel
theorem dX2_nextToTry_42 : decode cX2_nextToTry 42 = .ok (.iconst 1, 1) := by decide +kernel
theorem dX2_nextToTry_43 : decode cX2_nextToTry 43 = .ok (.iadd, 1) := by decide +kernel
theorem dX2_nextToTry_44 : decode cX2_nextToTry 44 = .ok (.if_icmp .gt 13, 3) := by decide +kernel
theorem dX2_nextToTry_47 : decode cX2_nextToTry 47 = .ok (.aload_n 0, 1) := by decide +kernel
theorem dX2_nextToTry_48 : decode cX2_nextToTry 48 = .ok (.iload_n 2, 1) := by decide +kernel
theorem dX2_nextToTry_49 : decode cX2_nextToTry 49 = .ok (.invokevirtual 96, 3) := by decide +kernel
theorem dX2_nextToTry_52 : decode cX2_nextToTry 52 = .ok (.ifCond .eq 5, 3) := by decide +kernel
theorem dX2_nextToTry_55 : decode cX2_nextToTry 55 = .ok (.iload_n 2, 1) := by decide +kernel
theorem dX2_nextToTry_56 : decode cX2_nextToTry 56 = .ok (.ireturn, 1) := by decide +kernel
theorem dX2_nextToTry_57 : decode cX2_nextToTry 57 = .ok (.iinc 2 1, 3) := by decide +kernel
theorem dX2_nextToTry_60 : decode cX2_nextToTry 60 = .ok (.goto (-58), 3) := by decide +kernel
theorem dX2_nextToTry_63 : decode cX2_nextToTry 63 = .ok (.iconst (-1), 1) := by decide +kernel
theorem dX2_nextToTry_64 : decode cX2_nextToTry 64 = .ok (.ireturn, 1) := by decide +kernel
theorem dX2_endsWell_0 : decode cX2_endsWell 0 = .ok (.aload_n 0, 1) := by decide +kernel
theorem dX2_endsWell_1 : decode cX2_endsWell 1 = .ok (.getfield 55, 3) := by decide +kernel
theorem dX2_endsWell_4 : decode cX2_endsWell 4 = .ok (.aload_n 0, 1) := by decide +kernel
theorem dX2_endsWell_5 : decode cX2_endsWell 5 = .ok (.getfield 18, 3) := by decide +kernel
theorem dX2_endsWell_8 : decode cX2_endsWell 8 = .ok (.getfield 100, 3) := by decide +kernel
theorem dX2_endsWell_11 : decode cX2_endsWell 11 = .ok (.iload_n 1, 1) := by decide +kernel
theorem dX2_endsWell_12 : decode cX2_endsWell 12 = .ok (.iaload, 1) := by decide +kernel
theorem dX2_endsWell_13 : decode cX2_endsWell 13 = .ok (.iadd, 1) := by decide +kernel
theorem dX2_endsWell_14 : decode cX2_endsWell 14 = .ok (.istore_n 2, 1) := by decide +kernel
theorem dX2_endsWell_15 : decode cX2_endsWell 15 = .ok (.aload_n 0, 1) := by decide +kernel
theorem dX2_endsWell_16 : decode cX2_endsWell 16 = .ok (.getfield 67, 3) := by decide +kernel
theorem dX2_endsWell_19 : decode cX2_endsWell 19 = .ok (.ifCond .le 26, 3) := by decide +kernel
theorem dX2_endsWell_22 : decode cX2_endsWell 22 = .ok (.aload_n 0, 1) := by decide +kernel
theorem dX2_endsWell_23 : decode cX2_endsWell 23 = .ok (.getfield 15, 3) := by decide +kernel
theorem dX2_endsWell_26 : decode cX2_endsWell 26 = .ok (.aload_n 0, 1) := by decide +kernel
theorem dX2_endsWell_27 : decode cX2_endsWell 27 = .ok (.getfield 67, 3) := by decide +kernel
theorem dX2_endsWell_30 : decode cX2_endsWell 30 = .ok (.iconst 1, 1) := by decide +kernel
theorem dX2_endsWell_31 : decode cX2_endsWell 31 = .ok (.isub, 1) := by decide +kernel
theorem dX2_endsWell_32 : decode cX2_endsWell 32 = .ok (.iaload, 1) := by decide +kernel
theorem dX2_endsWell_33 : decode cX2_endsWell 33 = .ok (.iload_n 2, 1) := by decide +kernel
theorem dX2_endsWell_34 : decode cX2_endsWell 34 = .ok (.ishr, 1) := by decide +kernel
theorem dX2_endsWell_35 : decode cX2_endsWell 35 = .ok (.iconst 1, 1) := by decide +kernel
theorem dX2_endsWell_36 : decode cX2_endsWell 36 = .ok (.iand, 1) := by decide +kernel
theorem dX2_endsWell_37 : decode cX2_endsWell 37 = .ok (.iconst 1, 1) := by decide +kernel
theorem dX2_endsWell_38 : decode cX2_endsWell 38 = .ok (.if_icmp .ne 7, 3) := by decide +kernel
theorem dX2_endsWell_41 : decode cX2_endsWell 41 = .ok (.iconst 1, 1) := by decide +kernel
theorem dX2_endsWell_42 : decode cX2_endsWell 42 = .ok (.goto 4, 3) := by decide +kernel
theorem dX2_endsWell_45 : decode cX2_endsWell 45 = .ok (.iconst 0, 1) := by decide +kernel
theorem dX2_endsWell_46 : decode cX2_endsWell 46 = .ok (.istore_n 3, 1) := by decide +kernel
theorem dX2_endsWell_47 : decode cX2_endsWell 47 = .ok (.iload_n 2, 1) := by decide +kernel
theorem dX2_endsWell_48 : decode cX2_endsWell 48 = .ok (.aload_n 0, 1) := by decide +kernel
theorem dX2_endsWell_49 : decode cX2_endsWell 49 = .ok (.getfield 22, 3) := by decide +kernel
theorem dX2_endsWell_52 : decode cX2_endsWell 52 = .ok (.getfield 58, 3) := by decide +kernel
theorem dX2_endsWell_55 : decode cX2_endsWell 55 = .ok (.if_icmp .gt 11, 3) := by decide +kernel
theorem dX2_endsWell_58 : decode cX2_endsWell 58 = .ok (.iload_n 3, 1) := by decide +kernel
theorem dX2_endsWell_59 : decode cX2_endsWell 59 = .ok (.ifCond .ne 7, 3) := by decide +kernel
theorem dX2_endsWell_62 : decode cX2_endsWell 62 = .ok (.iconst 1, 1) := by decide +kernel
theorem dX2_endsWell_63 : decode cX2_endsWell 63 = .ok (.goto 4, 3) := by decide +kernel
theorem dX2_endsWell_66 : decode cX2_endsWell 66 = .ok (.iconst 0, 1) := by decide +kernel
theorem dX2_endsWell_67 : decode cX2_endsWell 67 = .ok (.ireturn, 1) := by decide +kernel
set_option maxRecDepth 20000 in
theorem ggX2_lay_X1_add : GoodIn wsX2_lay wsX1_add := goodIn_r _ [12, 13, 14, 15, 16, 39, 40, 41, 42, 43, 44, 45, 46, 47, 48, 49, 50] (by decide +kernel) (by decide +kernel)
set_option maxRecDepth 20000 in
theorem gX2_lay_X1_add : GoodIn wsX2_lay (wsV RX2 103 RX1 yX1_add wsX1_add) := goodIn_app (goodIn_of _ (by decide +kernel)) ggX2_lay_X1_add
set_option maxRecDepth 20000 in
theorem ggX2_lay_X2_jointAt : GoodIn wsX2_lay wsX2_jointAt := goodIn_r _ [21, 22, 23, 24, 25, 26, 27, 28, 29, 30, 31, 51, 52, 53, 54, 55, 56, 57, 58, 59] (by decide +kernel) (by decide +kernel)
set_option maxRecDepth 20000 in
theorem gX2_lay_X2_jointAt : GoodIn wsX2_lay (wsV RX2 107 RX2 yX2_jointAt wsX2_jointAt) := goodIn_app (goodIn_of _ (by decide +kernel)) ggX2_lay_X2_jointAt
theorem dX2_lay_0 : decode cX2_lay 0 = .ok (.aload_n 0, 1) := by decide +kernel
theorem dX2_lay_1 : decode cX2_lay 1 = .ok (.getfield 26, 3) := by decide +kernel
theorem dX2_lay_4 : decode cX2_lay 4 = .ok (.iload_n 1, 1) := by decide +kernel
theorem dX2_lay_5 : decode cX2_lay 5 = .ok (.aload_n 0, 1) := by decide +kernel
theorem dX2_lay_6 : decode cX2_lay 6 = .ok (.getfield 67, 3) := by decide +kernel
theorem dX2_lay_9 : decode cX2_lay 9 = .ok (.aload_n 0, 1) := by decide +kernel
theorem dX2_lay_10 : decode cX2_lay 10 = .ok (.getfield 55, 3) := by decide +kernel
theorem dX2_lay_13 : decode cX2_lay 13 = .ok (.invokevirtual 103, 3) := by decide +kernel
theorem dX2_lay_16 : decode cX2_lay 16 = .ok (.aload_n 0, 1) := by decide +kernel
theorem dX2_lay_17 : decode cX2_lay 17 = .ok (.getfield 9, 3) := by decide +kernel
theorem dX2_lay_20 : decode cX2_lay 20 = .ok (.iload_n 1, 1) := by decide +kernel
theorem dX2_lay_21 : decode cX2_lay 21 = .ok (.dup2, 1) := by decide +kernel
theorem dX2_lay_22 : decode cX2_lay 22 = .ok (.iaload, 1) := by decide +kernel
theorem dX2_lay_23 : decode cX2_lay 23 = .ok (.iconst 1, 1) := by decide +kernel
theorem dX2_lay_24 : decode cX2_lay 24 = .ok (.isub, 1) := by decide +kernel
theorem dX2_lay_25 : decode cX2_lay 25 = .ok (.iastore, 1) := by decide +kernel
theorem dX2_lay_26 : decode cX2_lay 26 = .ok (.aload_n 0, 1) := by decide +kernel
theorem dX2_lay_27 : decode cX2_lay 27 = .ok (.dup, 1) := by decide +kernel
theorem dX2_lay_28 : decode cX2_lay 28 = .ok (.getfield 55, 3) := by decide +kernel
theorem dX2_lay_31 : decode cX2_lay 31 = .ok (.aload_n 0, 1) := by decide +kernel
theorem dX2_lay_32 : decode cX2_lay 32 = .ok (.getfield 18, 3) := by decide +kernel
theorem dX2_lay_35 : decode cX2_lay 35 = .ok (.getfield 100, 3) := by decide +kernel
theorem dX2_lay_38 : decode cX2_lay 38 = .ok (.iload_n 1, 1) := by decide +kernel
theorem dX2_lay_39 : decode cX2_lay 39 = .ok (.iaload, 1) := by decide +kernel
theorem dX2_lay_40 : decode cX2_lay 40 = .ok (.iadd, 1) := by decide +kernel
theorem dX2_lay_41 : decode cX2_lay 41 = .ok (.putfield 55, 3) := by decide +kernel
theorem dX2_lay_44 : decode cX2_lay 44 = .ok (.aload_n 0, 1) := by decide +kernel
theorem dX2_lay_45 : decode cX2_lay 45 = .ok (.getfield 15, 3) := by decide +kernel
theorem dX2_lay_48 : decode cX2_lay 48 = .ok (.aload_n 0, 1) := by decide +kernel
theorem dX2_lay_49 : decode cX2_lay 49 = .ok (.getfield 67, 3) := by decide +kernel
theorem dX2_lay_52 : decode cX2_lay 52 = .ok (.dup2, 1) := by decide +kernel
theorem dX2_lay_53 : decode cX2_lay 53 = .ok (.iaload, 1) := by decide +kernel
theorem dX2_lay_54 : decode cX2_lay 54 = .ok (.aload_n 0, 1) := by decide +kernel
theorem dX2_lay_55 : decode cX2_lay 55 = .ok (.aload_n 0, 1) := by decide +kernel
theorem dX2_lay_56 : decode cX2_lay 56 = .ok (.getfield 55, 3) := by decide +kernel
theorem dX2_lay_59 : decode cX2_lay 59 = .ok (.invokevirtual 107, 3) := by decide +kernel
theorem dX2_lay_62 : decode cX2_lay 62 = .ok (.ixor, 1) := by decide +kernel
theorem dX2_lay_63 : decode cX2_lay 63 = .ok (.iastore, 1) := by decide +kernel
theorem dX2_lay_64 : decode cX2_lay 64 = .ok (.return_, 1) := by decide +kernel
set_option maxRecDepth 20000 in
theorem ggX2_takeUp_X1_end : GoodIn wsX2_takeUp wsX1_end := goodIn_r _ [14, 15, 16, 17, 18, 34, 35, 36, 37, 38, 39, 40, 41, 42, 43, 44, 45, 46, 47, 48, 49, 50, 51, 52] (by decide +kernel) (by decide +kernel)
set_option maxRecDepth 20000 in
theorem gX2_takeUp_X1_end : GoodIn wsX2_takeUp (wsV RX2 117 RX1 yX1_end wsX1_end) := goodIn_app (goodIn_of _ (by decide +kernel)) ggX2_takeUp_X1_end
set_option maxRecDepth 20000 in
theorem ggX2_takeUp_X2_jointAt : GoodIn wsX2_takeUp wsX2_jointAt := goodIn_r _ [23, 24, 25, 26, 27, 28, 29, 30, 31, 32, 33, 53, 54, 55, 56, 57, 58, 59, 60, 61] (by decide +kernel) (by decide +kernel)
set_option maxRecDepth 20000 in
theorem gX2_takeUp_X2_jointAt : GoodIn wsX2_takeUp (wsV RX2 107 RX2 yX2_jointAt wsX2_jointAt) := goodIn_app (goodIn_of _ (by decide +kernel)) ggX2_takeUp_X2_jointAt
theorem dX2_takeUp_0 : decode cX2_takeUp 0 = .ok (.aload_n 0, 1) := by decide +kernel
theorem dX2_takeUp_1 : decode cX2_takeUp 1 = .ok (.getfield 26, 3) := by decide +kernel
theorem dX2_takeUp_4 : decode cX2_takeUp 4 = .ok (.getfield 38, 3) := by decide +kernel
theorem dX2_takeUp_7 : decode cX2_takeUp 7 = .ok (.iconst 1, 1) := by decide +kernel
theorem dX2_takeUp_8 : decode cX2_takeUp 8 = .ok (.isub, 1) := by decide +kernel
theorem dX2_takeUp_9 : decode cX2_takeUp 9 = .ok (.istore_n 1, 1) := by decide +kernel
theorem dX2_takeUp_10 : decode cX2_takeUp 10 = .ok (.aload_n 0, 1) := by decide +kernel
theorem dX2_takeUp_11 : decode cX2_takeUp 11 = .ok (.getfield 26, 3) := by decide +kernel
theorem dX2_takeUp_14 : decode cX2_takeUp 14 = .ok (.getfield 110, 3) := by decide +kernel
theorem dX2_takeUp_17 : decode cX2_takeUp 17 = .ok (.iload_n 1, 1) := by decide +kernel
theorem dX2_takeUp_18 : decode cX2_takeUp 18 = .ok (.iaload, 1) := by decide +kernel
theorem dX2_takeUp_19 : decode cX2_takeUp 19 = .ok (.istore_n 2, 1) := by decide +kernel
theorem dX2_takeUp_20 : decode cX2_takeUp 20 = .ok (.aload_n 0, 1) := by decide +kernel
theorem dX2_takeUp_21 : decode cX2_takeUp 21 = .ok (.aload_n 0, 1) := by decide +kernel
theorem dX2_takeUp_22 : decode cX2_takeUp 22 = .ok (.getfield 26, 3) := by decide +kernel
theorem dX2_takeUp_25 : decode cX2_takeUp 25 = .ok (.getfield 112, 3) := by decide +kernel
theorem dX2_takeUp_28 : decode cX2_takeUp 28 = .ok (.iload_n 1, 1) := by decide +kernel
theorem dX2_takeUp_29 : decode cX2_takeUp 29 = .ok (.iaload, 1) := by decide +kernel
theorem dX2_takeUp_30 : decode cX2_takeUp 30 = .ok (.putfield 67, 3) := by decide +kernel
theorem dX2_takeUp_33 : decode cX2_takeUp 33 = .ok (.aload_n 0, 1) := by decide +kernel
theorem dX2_takeUp_34 : decode cX2_takeUp 34 = .ok (.aload_n 0, 1) := by decide +kernel
theorem dX2_takeUp_35 : decode cX2_takeUp 35 = .ok (.getfield 26, 3) := by decide +kernel
theorem dX2_takeUp_38 : decode cX2_takeUp 38 = .ok (.getfield 114, 3) := by decide +kernel
theorem dX2_takeUp_41 : decode cX2_takeUp 41 = .ok (.iload_n 1, 1) := by decide +kernel
theorem dX2_takeUp_42 : decode cX2_takeUp 42 = .ok (.iaload, 1) := by decide +kernel
theorem dX2_takeUp_43 : decode cX2_takeUp 43 = .ok (.putfield 55, 3) := by decide +kernel
theorem dX2_takeUp_46 : decode cX2_takeUp 46 = .ok (.aload_n 0, 1) := by decide +kernel
theorem dX2_takeUp_47 : decode cX2_takeUp 47 = .ok (.getfield 15, 3) := by decide +kernel
theorem dX2_takeUp_50 : decode cX2_takeUp 50 = .ok (.aload_n 0, 1) := by decide +kernel
theorem dX2_takeUp_51 : decode cX2_takeUp 51 = .ok (.getfield 67, 3) := by decide +kernel
theorem dX2_takeUp_54 : decode cX2_takeUp 54 = .ok (.dup2, 1) := by decide +kernel
theorem dX2_takeUp_55 : decode cX2_takeUp 55 = .ok (.iaload, 1) := by decide +kernel
theorem dX2_takeUp_56 : decode cX2_takeUp 56 = .ok (.aload_n 0, 1) := by decide +kernel
theorem dX2_takeUp_57 : decode cX2_takeUp 57 = .ok (.aload_n 0, 1) := by decide +kernel
theorem dX2_takeUp_58 : decode cX2_takeUp 58 = .ok (.getfield 26, 3) := by decide +kernel
theorem dX2_takeUp_61 : decode cX2_takeUp 61 = .ok (.iload_n 1, 1) := by decide +kernel
theorem dX2_takeUp_62 : decode cX2_takeUp 62 = .ok (.invokevirtual 117, 3) := by decide +kernel
theorem dX2_takeUp_65 : decode cX2_takeUp 65 = .ok (.invokevirtual 107, 3) := by decide +kernel
theorem dX2_takeUp_68 : decode cX2_takeUp 68 = .ok (.ixor, 1) := by decide +kernel
theorem dX2_takeUp_69 : decode cX2_takeUp 69 = .ok (.iastore, 1) := by decide +kernel
theorem dX2_takeUp_70 : decode cX2_takeUp 70 = .ok (.aload_n 0, 1) := by decide +kernel
theorem dX2_takeUp_71 : decode cX2_takeUp 71 = .ok (.getfield 9, 3) := by decide +kernel
theorem dX2_takeUp_74 : decode cX2_takeUp 74 = .ok (.iload_n 2, 1) := by decide +kernel
theorem dX2_takeUp_75 : decode cX2_takeUp 75 = .ok (.dup2, 1) := by decide +kernel
theorem dX2_takeUp_76 : decode cX2_takeUp 76 = .ok (.iaload, 1) := by decide +kernel
theorem dX2_takeUp_77 : decode cX2_takeUp 77 = .ok (.iconst 1, 1) := by decide +kernel
theorem dX2_takeUp_78 : decode cX2_takeUp 78 = .ok (.iadd, 1) := by decide +kernel
theorem dX2_takeUp_79 : decode cX2_takeUp 79 = .ok (.iastore, 1) := by decide +kernel
theorem dX2_takeUp_80 : decode cX2_takeUp 80 = .ok (.aload_n 0, 1) := by decide +kernel
theorem dX2_takeUp_81 : decode cX2_takeUp 81 = .ok (.getfield 26, 3) := by decide +kernel
theorem dX2_takeUp_84 : decode cX2_takeUp 84 = .ok (.iload_n 1, 1) := by decide +kernel
theorem dX2_takeUp_85 : decode cX2_takeUp 85 = .ok (.putfield 38, 3) := by decide +kernel
theorem dX2_takeUp_88 : decode cX2_takeUp 88 = .ok (.iload_n 2, 1) := by decide +kernel
theorem dX2_takeUp_89 : decode cX2_takeUp 89 = .ok (.ireturn, 1) := by decide +kernel
theorem dX2_jointAt_0 : decode cX2_jointAt 0 = .ok (.iload_n 1, 1) := by decide +kernel
theorem dX2_jointAt_1 : decode cX2_jointAt 1 = .ok (.aload_n 0, 1) := by decide +kernel
theorem dX2_jointAt_2 : decode cX2_jointAt 2 = .ok (.getfield 22, 3) := by decide +kernel
theorem dX2_jointAt_5 : decode cX2_jointAt 5 = .ok (.getfield 58, 3) := by decide +kernel
theorem dX2_jointAt_8 : decode cX2_jointAt 8 = .ok (.if_icmp .ge 9, 3) := by decide +kernel
theorem dX2_jointAt_11 : decode cX2_jointAt 11 = .ok (.iconst 1, 1) := by decide +kernel
theorem dX2_jointAt_12 : decode cX2_jointAt 12 = .ok (.iload_n 1, 1) := by decide +kernel
theorem dX2_jointAt_13 : decode cX2_jointAt 13 = .ok (.ishl, 1) := by decide +kernel
theorem dX2_jointAt_14 : decode cX2_jointAt 14 = .ok (.goto 4, 3) := by decide +kernel
theorem dX2_jointAt_17 : decode cX2_jointAt 17 = .ok (.iconst 0, 1) := by decide +kernel
theorem dX2_jointAt_18 : decode cX2_jointAt 18 = .ok (.ireturn, 1) := by decide +kernel
set_option maxRecDepth 20000 in
theorem ggX2_hasThroughsAsked_X1_isThroughStone : GoodIn wsX2_hasThroughsAsked wsX1_isThroughStone := goodIn_r _ [10, 11, 12, 13, 14, 15, 16, 17, 18, 19, 20, 21, 22, 23, 24, 25, 26, 41, 42, 43, 44, 45, 46, 47, 48, 49, 50, 51, 52, 53, 54, 55, 56, 57, 58, 59, 60, 61, 62, 63, 64, 65, 66, 67, 68] (by decide +kernel) (by decide +kernel)
set_option maxRecDepth 20000 in
theorem gX2_hasThroughsAsked_X1_isThroughStone : GoodIn wsX2_hasThroughsAsked (wsV RX2 120 RX1 yX1_isThroughStone wsX1_isThroughStone) := goodIn_app (goodIn_of _ (by decide +kernel)) ggX2_hasThroughsAsked_X1_isThroughStone
set_option maxRecDepth 20000 in
theorem ggX2_hasThroughsAsked_X3_throughsAsked : GoodIn wsX2_hasThroughsAsked wsX3_throughsAsked := goodIn_r _ [30, 31, 32, 60, 61, 62, 63, 64, 65, 66, 67, 68] (by decide +kernel) (by decide +kernel)
set_option maxRecDepth 20000 in
theorem gX2_hasThroughsAsked_X3_throughsAsked : GoodIn wsX2_hasThroughsAsked (wsV RX2 123 RX3 yX3_throughsAsked wsX3_throughsAsked) := goodIn_app (goodIn_of _ (by decide +kernel)) ggX2_hasThroughsAsked_X3_throughsAsked
theorem dX2_hasThroughsAsked_0 : decode cX2_hasThroughsAsked 0 = .ok (.iconst 0, 1) := by decide +kernel
theorem dX2_hasThroughsAsked_1 : decode cX2_hasThroughsAsked 1 = .ok (.istore_n 1, 1) := by decide +kernel
theorem dX2_hasThroughsAsked_2 : decode cX2_hasThroughsAsked 2 = .ok (.aload_n 0, 1) := by decide +kernel
theorem dX2_hasThroughsAsked_3 : decode cX2_hasThroughsAsked 3 = .ok (.getfield 26, 3) := by decide +kernel
theorem dX2_hasThroughsAsked_6 : decode cX2_hasThroughsAsked 6 = .ok (.getfield 38, 3) := by decide +kernel
theorem dX2_hasThroughsAsked_9 : decode cX2_hasThroughsAsked 9 = .ok (.iconst 1, 1) := by decide +kernel
theorem dX2_hasThroughsAsked_10 : decode cX2_hasThroughsAsked 10 = .ok (.isub, 1) := by decide +kernel
theorem dX2_hasThroughsAsked_11 : decode cX2_hasThroughsAsked 11 = .ok (.istore_n 2, 1) := by decide +kernel
theorem dX2_hasThroughsAsked_12 : decode cX2_hasThroughsAsked 12 = .ok (.iload_n 2, 1) := by decide +kernel
theorem dX2_hasThroughsAsked_13 : decode cX2_hasThroughsAsked 13 = .ok (.ifCond .lt 44, 3) := by decide +kernel
theorem dX2_hasThroughsAsked_16 : decode cX2_hasThroughsAsked 16 = .ok (.aload_n 0, 1) := by decide +kernel
theorem dX2_hasThroughsAsked_17 : decode cX2_hasThroughsAsked 17 = .ok (.getfield 26, 3) := by decide +kernel
theorem dX2_hasThroughsAsked_20 : decode cX2_hasThroughsAsked 20 = .ok (.getfield 112, 3) := by decide +kernel
theorem dX2_hasThroughsAsked_23 : decode cX2_hasThroughsAsked 23 = .ok (.iload_n 2, 1) := by decide +kernel
theorem dX2_hasThroughsAsked_24 : decode cX2_hasThroughsAsked 24 = .ok (.iaload, 1) := by decide +kernel
theorem dX2_hasThroughsAsked_25 : decode cX2_hasThroughsAsked 25 = .ok (.aload_n 0, 1) := by decide +kernel
theorem dX2_hasThroughsAsked_26 : decode cX2_hasThroughsAsked 26 = .ok (.getfield 67, 3) := by decide +kernel
theorem dX2_hasThroughsAsked_29 : decode cX2_hasThroughsAsked 29 = .ok (.if_icmp .ne 28, 3) := by decide +kernel
theorem dX2_hasThroughsAsked_32 : decode cX2_hasThroughsAsked 32 = .ok (.iload_n 1, 1) := by decide +kernel
theorem dX2_hasThroughsAsked_33 : decode cX2_hasThroughsAsked 33 = .ok (.aload_n 0, 1) := by decide +kernel
theorem dX2_hasThroughsAsked_34 : decode cX2_hasThroughsAsked 34 = .ok (.getfield 26, 3) := by decide +kernel
theorem dX2_hasThroughsAsked_37 : decode cX2_hasThroughsAsked 37 = .ok (.iload_n 2, 1) := by decide +kernel
theorem dX2_hasThroughsAsked_38 : decode cX2_hasThroughsAsked 38 = .ok (.invokevirtual 120, 3) := by decide +kernel
theorem dX2_hasThroughsAsked_41 : decode cX2_hasThroughsAsked 41 = .ok (.ifCond .eq 7, 3) := by decide +kernel
theorem dX2_hasThroughsAsked_44 : decode cX2_hasThroughsAsked 44 = .ok (.iconst 1, 1) := by decide +kernel
theorem dX2_hasThroughsAsked_45 : decode cX2_hasThroughsAsked 45 = .ok (.goto 4, 3) := by decide +kernel
theorem dX2_hasThroughsAsked_48 : decode cX2_hasThroughsAsked 48 = .ok (.iconst 0, 1) := by decide +kernel
theorem dX2_hasThroughsAsked_49 : decode cX2_hasThroughsAsked 49 = .ok (.iadd, 1) := by decide +kernel
theorem dX2_hasThroughsAsked_50 : decode cX2_hasThroughsAsked 50 = .ok (.istore_n 1, 1) := by decide +kernel
theorem dX2_hasThroughsAsked_51 : decode cX2_hasThroughsAsked 51 = .ok (.iinc 2 (-1), 3) := by decide +kernel
theorem dX2_hasThroughsAsked_54 : decode cX2_hasThroughsAsked 54 = .ok (.goto (-42), 3) := by decide +kernel
theorem dX2_hasThroughsAsked_57 : decode cX2_hasThroughsAsked 57 = .ok (.iload_n 1, 1) := by decide +kernel
theorem dX2_hasThroughsAsked_58 : decode cX2_hasThroughsAsked 58 = .ok (.aload_n 0, 1) := by decide +kernel
theorem dX2_hasThroughsAsked_59 : decode cX2_hasThroughsAsked 59 = .ok (.getfield 22, 3) := by decide +kernel
theorem dX2_hasThroughsAsked_62 : decode cX2_hasThroughsAsked 62 = .ok (.aload_n 0, 1) := by decide +kernel
theorem dX2_hasThroughsAsked_63 : decode cX2_hasThroughsAsked 63 = .ok (.getfield 67, 3) := by decide +kernel
theorem dX2_hasThroughsAsked_66 : decode cX2_hasThroughsAsked 66 = .ok (.invokevirtual 123, 3) := by decide +kernel
theorem dX2_hasThroughsAsked_69 : decode cX2_hasThroughsAsked 69 = .ok (.if_icmp .lt 7, 3) := by decide +kernel
theorem dX2_hasThroughsAsked_72 : decode cX2_hasThroughsAsked 72 = .ok (.iconst 1, 1) := by decide +kernel
theorem dX2_hasThroughsAsked_73 : decode cX2_hasThroughsAsked 73 = .ok (.goto 4, 3) := by decide +kernel
theorem dX2_hasThroughsAsked_76 : decode cX2_hasThroughsAsked 76 = .ok (.iconst 0, 1) := by decide +kernel
theorem dX2_hasThroughsAsked_77 : decode cX2_hasThroughsAsked 77 = .ok (.ireturn, 1) := by decide +kernel
theorem dX3_init_0 : decode cX3_init 0 = .ok (.aload_n 0, 1) := by decide +kernel
theorem dX3_init_1 : decode cX3_init 1 = .ok (.invokespecial 1, 3) := by decide +kernel
theorem dX3_init_4 : decode cX3_init 4 = .ok (.return_, 1) := by decide +kernel
theorem dX3_tell_0 : decode cX3_tell 0 = .ok (.aload_n 0, 1) := by decide +kernel
theorem dX3_tell_1 : decode cX3_tell 1 = .ok (.iconst 1, 1) := by decide +kernel
theorem dX3_tell_2 : decode cX3_tell 2 = .ok (.putfield 7, 3) := by decide +kernel
theorem dX3_tell_5 : decode cX3_tell 5 = .ok (.aload_n 0, 1) := by decide +kernel
theorem dX3_tell_6 : decode cX3_tell 6 = .ok (.iload_n 1, 1) := by decide +kernel
theorem dX3_tell_7 : decode cX3_tell 7 = .ok (.putfield 13, 3) := by decide +kernel
theorem dX3_tell_10 : decode cX3_tell 10 = .ok (.aload_n 0, 1) := by decide +kernel
theorem dX3_tell_11 : decode cX3_tell 11 = .ok (.iload_n 2, 1) := by decide +kernel
theorem dX3_tell_12 : decode cX3_tell 12 = .ok (.putfield 17, 3) := by decide +kernel
theorem dX3_tell_15 : decode cX3_tell 15 = .ok (.aload_n 0, 1) := by decide +kernel
theorem dX3_tell_16 : decode cX3_tell 16 = .ok (.iload_n 3, 1) := by decide +kernel
theorem dX3_tell_17 : decode cX3_tell 17 = .ok (.putfield 20, 3) := by decide +kernel
theorem dX3_tell_20 : decode cX3_tell 20 = .ok (.aload_n 0, 1) := by decide +kernel
theorem dX3_tell_21 : decode cX3_tell 21 = .ok (.iload 4, 2) := by decide +kernel
theorem dX3_tell_23 : decode cX3_tell 23 = .ok (.putfield 23, 3) := by decide +kernel
theorem dX3_tell_26 : decode cX3_tell 26 = .ok (.aload_n 0, 1) := by decide +kernel
theorem dX3_tell_27 : decode cX3_tell 27 = .ok (.iload 5, 2) := by decide +kernel
theorem dX3_tell_29 : decode cX3_tell 29 = .ok (.putfield 26, 3) := by decide +kernel
theorem dX3_tell_32 : decode cX3_tell 32 = .ok (.aload_n 0, 1) := by decide +kernel
theorem dX3_tell_33 : decode cX3_tell 33 = .ok (.iload 6, 2) := by decide +kernel
theorem dX3_tell_35 : decode cX3_tell 35 = .ok (.putfield 29, 3) := by decide +kernel
theorem dX3_tell_38 : decode cX3_tell 38 = .ok (.aload_n 0, 1) := by decide +kernel
theorem dX3_tell_39 : decode cX3_tell 39 = .ok (.iconst 0, 1) := by decide +kernel
theorem dX3_tell_40 : decode cX3_tell 40 = .ok (.putfield 32, 3) := by decide +kernel
theorem dX3_tell_43 : decode cX3_tell 43 = .ok (.aload_n 0, 1) := by decide +kernel
theorem dX3_tell_44 : decode cX3_tell 44 = .ok (.iconst 0, 1) := by decide +kernel
theorem dX3_tell_45 : decode cX3_tell 45 = .ok (.putfield 35, 3) := by decide +kernel
theorem dX3_tell_48 : decode cX3_tell 48 = .ok (.return_, 1) := by decide +kernel
theorem dX3_width_0 : decode cX3_width 0 = .ok (.iconst 1, 1) := by decide +kernel
theorem dX3_width_1 : decode cX3_width 1 = .ok (.aload_n 0, 1) := by decide +kernel
theorem dX3_width_2 : decode cX3_width 2 = .ok (.getfield 26, 3) := by decide +kernel
theorem dX3_width_5 : decode cX3_width 5 = .ok (.iload_n 1, 1) := by decide +kernel
theorem dX3_width_6 : decode cX3_width 6 = .ok (.aload_n 0, 1) := by decide +kernel
theorem dX3_width_7 : decode cX3_width 7 = .ok (.getfield 29, 3) := by decide +kernel
theorem dX3_width_10 : decode cX3_width 10 = .ok (.imul, 1) := by decide +kernel
theorem dX3_width_11 : decode cX3_width 11 = .ok (.isub, 1) := by decide +kernel
theorem dX3_width_12 : decode cX3_width 12 = .ok (.invokestatic 38, 3) := by decide +kernel
theorem dX3_width_15 : decode cX3_width 15 = .ok (.ireturn, 1) := by decide +kernel
theorem dX3_throughsAsked_0 : decode cX3_throughsAsked 0 = .ok (.aload_n 0, 1) := by decide +kernel
theorem dX3_throughsAsked_1 : decode cX3_throughsAsked 1 = .ok (.getfield 32, 3) := by decide +kernel
theorem dX3_throughsAsked_4 : decode cX3_throughsAsked 4 = .ok (.iload_n 1, 1) := by decide +kernel
theorem dX3_throughsAsked_5 : decode cX3_throughsAsked 5 = .ok (.ishr, 1) := by decide +kernel
theorem dX3_throughsAsked_6 : decode cX3_throughsAsked 6 = .ok (.iconst 1, 1) := by decide +kernel
theorem dX3_throughsAsked_7 : decode cX3_throughsAsked 7 = .ok (.iand, 1) := by decide +kernel
theorem dX3_throughsAsked_8 : decode cX3_throughsAsked 8 = .ok (.iconst 1, 1) := by decide +kernel
theorem dX3_throughsAsked_9 : decode cX3_throughsAsked 9 = .ok (.if_icmp .ne 10, 3) := by decide +kernel
theorem dX3_throughsAsked_12 : decode cX3_throughsAsked 12 = .ok (.aload_n 0, 1) := by decide +kernel
theorem dX3_throughsAsked_13 : decode cX3_throughsAsked 13 = .ok (.getfield 35, 3) := by decide +kernel
theorem dX3_throughsAsked_16 : decode cX3_throughsAsked 16 = .ok (.goto 4, 3) := by decide +kernel
theorem dX3_throughsAsked_19 : decode cX3_throughsAsked 19 = .ok (.iconst 0, 1) := by decide +kernel
theorem dX3_throughsAsked_20 : decode cX3_throughsAsked 20 = .ok (.ireturn, 1) := by decide +kernel
theorem dX4_init_0 : decode cX4_init 0 = .ok (.aload_n 0, 1) := by decide +kernel
theorem dX4_init_1 : decode cX4_init 1 = .ok (.invokespecial 3, 3) := by decide +kernel
theorem dX4_init_4 : decode cX4_init 4 = .ok (.aload_n 0, 1) := by decide +kernel
theorem dX4_init_5 : decode cX4_init 5 = .ok (.bipush 8, 2) := by decide +kernel
theorem dX4_init_7 : decode cX4_init 7 = .ok (.newarray .int, 2) := by decide +kernel
theorem dX4_init_9 : decode cX4_init 9 = .ok (.putfield 9, 3) := by decide +kernel
theorem dX4_init_12 : decode cX4_init 12 = .ok (.aload_n 0, 1) := by decide +kernel
theorem dX4_init_13 : decode cX4_init 13 = .ok (.bipush 8, 2) := by decide +kernel
theorem dX4_init_15 : decode cX4_init 15 = .ok (.newarray .int, 2) := by decide +kernel
theorem dX4_init_17 : decode cX4_init 17 = .ok (.putfield 15, 3) := by decide +kernel
theorem dX4_init_20 : decode cX4_init 20 = .ok (.aload_n 0, 1) := by decide +kernel
theorem dX4_init_21 : decode cX4_init 21 = .ok (.iconst 5, 1) := by decide +kernel
theorem dX4_init_22 : decode cX4_init 22 = .ok (.newarray .int, 2) := by decide +kernel
theorem dX4_init_24 : decode cX4_init 24 = .ok (.putfield 18, 3) := by decide +kernel
theorem dX4_init_27 : decode cX4_init 27 = .ok (.aload_n 0, 1) := by decide +kernel
theorem dX4_init_28 : decode cX4_init 28 = .ok (.iconst 5, 1) := by decide +kernel
theorem dX4_init_29 : decode cX4_init 29 = .ok (.newarray .int, 2) := by decide +kernel
theorem dX4_init_31 : decode cX4_init 31 = .ok (.putfield 21, 3) := by decide +kernel
theorem dX4_init_34 : decode cX4_init 34 = .ok (.aload_n 0, 1) := by decide +kernel
theorem dX4_init_35 : decode cX4_init 35 = .ok (.iconst 5, 1) := by decide +kernel
theorem dX4_init_36 : decode cX4_init 36 = .ok (.bipush 8, 2) := by decide +kernel
theorem dX4_init_38 : decode cX4_init 38 = .ok (.multianewarray 24 2, 4) := by decide +kernel
theorem dX4_init_42 : decode cX4_init 42 = .ok (.putfield 26, 3) := by decide +kernel
theorem dX4_init_45 : decode cX4_init 45 = .ok (.return_, 1) := by decide +kernel
theorem dX4_hasKind_0 : decode cX4_hasKind 0 = .ok (.iload_n 1, 1) := by decide +kernel
theorem dX4_hasKind_1 : decode cX4_hasKind 1 = .ok (.ifCond .lt 15, 3) := by decide +kernel
theorem dX4_hasKind_4 : decode cX4_hasKind 4 = .ok (.iload_n 1, 1) := by decide +kernel
theorem dX4_hasKind_5 : decode cX4_hasKind 5 = .ok (.aload_n 0, 1) := by decide +kernel
theorem dX4_hasKind_6 : decode cX4_hasKind 6 = .ok (.getfield 29, 3) := by decide +kernel
theorem dX4_hasKind_9 : decode cX4_hasKind 9 = .ok (.if_icmp .ge 7, 3) := by decide +kernel
theorem dX4_hasKind_12 : decode cX4_hasKind 12 = .ok (.iconst 1, 1) := by decide +kernel
theorem dX4_hasKind_13 : decode cX4_hasKind 13 = .ok (.goto 4, 3) := by decide +kernel
theorem dX4_hasKind_16 : decode cX4_hasKind 16 = .ok (.iconst 0, 1) := by decide +kernel
theorem dX4_hasKind_17 : decode cX4_hasKind 17 = .ok (.ireturn, 1) := by decide +kernel
theorem dX4_hasHeap_0 : decode cX4_hasHeap 0 = .ok (.iload_n 1, 1) := by decide +kernel
theorem dX4_hasHeap_1 : decode cX4_hasHeap 1 = .ok (.ifCond .lt 15, 3) := by decide +kernel
theorem dX4_hasHeap_4 : decode cX4_hasHeap 4 = .ok (.iload_n 1, 1) := by decide +kernel
theorem dX4_hasHeap_5 : decode cX4_hasHeap 5 = .ok (.aload_n 0, 1) := by decide +kernel
theorem dX4_hasHeap_6 : decode cX4_hasHeap 6 = .ok (.getfield 33, 3) := by decide +kernel
theorem dX4_hasHeap_9 : decode cX4_hasHeap 9 = .ok (.if_icmp .ge 7, 3) := by decide +kernel
theorem dX4_hasHeap_12 : decode cX4_hasHeap 12 = .ok (.iconst 1, 1) := by decide +kernel
theorem dX4_hasHeap_13 : decode cX4_hasHeap 13 = .ok (.goto 4, 3) := by decide +kernel
theorem dX4_hasHeap_16 : decode cX4_hasHeap 16 = .ok (.iconst 0, 1) := by decide +kernel
theorem dX4_hasHeap_17 : decode cX4_hasHeap 17 = .ok (.ireturn, 1) := by decide +kernel
theorem dX4_addKind_0 : decode cX4_addKind 0 = .ok (.aload_n 0, 1) := by decide +kernel
theorem dX4_addKind_1 : decode cX4_addKind 1 = .ok (.getfield 29, 3) := by decide +kernel
theorem dX4_addKind_4 : decode cX4_addKind 4 = .ok (.bipush 8, 2) := by decide +kernel
theorem dX4_addKind_6 : decode cX4_addKind 6 = .ok (.if_icmp .lt 5, 3) := by decide +kernel
theorem dX4_addKind_9 : decode cX4_addKind 9 = .ok (.iconst (-1), 1) := by decide +kernel
theorem dX4_addKind_10 : decode cX4_addKind 10 = .ok (.ireturn, 1) := by decide +kernel
theorem dX4_addKind_11 : decode cX4_addKind 11 = .ok (.aload_n 0, 1) := by decide +kernel
theorem dX4_addKind_12 : decode cX4_addKind 12 = .ok (.getfield 9, 3) := by decide +kernel
theorem dX4_addKind_15 : decode cX4_addKind 15 = .ok (.aload_n 0, 1) := by decide +kernel
theorem dX4_addKind_16 : decode cX4_addKind 16 = .ok (.getfield 29, 3) := by decide +kernel
theorem dX4_addKind_19 : decode cX4_addKind 19 = .ok (.iload_n 1, 1) := by decide +kernel
theorem dX4_addKind_20 : decode cX4_addKind 20 = .ok (.iastore, 1) := by decide +kernel
theorem dX4_addKind_21 : decode cX4_addKind 21 = .ok (.aload_n 0, 1) := by decide +kernel
theorem dX4_addKind_22 : decode cX4_addKind 22 = .ok (.getfield 15, 3) := by decide +kernel
theorem dX4_addKind_25 : decode cX4_addKind 25 = .ok (.aload_n 0, 1) := by decide +kernel
theorem dX4_addKind_26 : decode cX4_addKind 26 = .ok (.getfield 29, 3) := by decide +kernel
theorem dX4_addKind_29 : decode cX4_addKind 29 = .ok (.iload_n 2, 1) := by decide +kernel
theorem dX4_addKind_30 : decode cX4_addKind 30 = .ok (.iastore, 1) := by decide +kernel
theorem dX4_addKind_31 : decode cX4_addKind 31 = .ok (.aload_n 0, 1) := by decide +kernel
theorem dX4_addKind_32 : decode cX4_addKind 32 = .ok (.dup, 1) := by decide +kernel
theorem dX4_addKind_33 : decode cX4_addKind 33 = .ok (.getfield 29, 3) := by decide +kernel
theorem dX4_addKind_36 : decode cX4_addKind 36 = .ok (.iconst 1, 1) := by decide +kernel
theorem dX4_addKind_37 : decode cX4_addKind 37 = .ok (.iadd, 1) := by decide +kernel
theorem dX4_addKind_38 : decode cX4_addKind 38 = .ok (.putfield 29, 3) := by decide +kernel
theorem dX4_addKind_41 : decode cX4_addKind 41 = .ok (.aload_n 0, 1) := by decide +kernel
theorem dX4_addKind_42 : decode cX4_addKind 42 = .ok (.getfield 29, 3) := by decide +kernel
theorem dX4_addKind_45 : decode cX4_addKind 45 = .ok (.iconst 1, 1) := by decide +kernel
theorem dX4_addKind_46 : decode cX4_addKind 46 = .ok (.isub, 1) := by decide +kernel
theorem dX4_addKind_47 : decode cX4_addKind 47 = .ok (.ireturn, 1) := by decide +kernel
theorem dX4_addHeap_0 : decode cX4_addHeap 0 = .ok (.aload_n 0, 1) := by decide +kernel
theorem dX4_addHeap_1 : decode cX4_addHeap 1 = .ok (.getfield 33, 3) := by decide +kernel
theorem dX4_addHeap_4 : decode cX4_addHeap 4 = .ok (.iconst 5, 1) := by decide +kernel
theorem dX4_addHeap_5 : decode cX4_addHeap 5 = .ok (.if_icmp .lt 5, 3) := by decide +kernel
theorem dX4_addHeap_8 : decode cX4_addHeap 8 = .ok (.iconst (-1), 1) := by decide +kernel
theorem dX4_addHeap_9 : decode cX4_addHeap 9 = .ok (.ireturn, 1) := by decide +kernel
theorem dX4_addHeap_10 : decode cX4_addHeap 10 = .ok (.aload_n 0, 1) := by decide +kernel
theorem dX4_addHeap_11 : decode cX4_addHeap 11 = .ok (.getfield 18, 3) := by decide +kernel
theorem dX4_addHeap_14 : decode cX4_addHeap 14 = .ok (.aload_n 0, 1) := by decide +kernel
theorem dX4_addHeap_15 : decode cX4_addHeap 15 = .ok (.getfield 33, 3) := by decide +kernel
theorem dX4_addHeap_18 : decode cX4_addHeap 18 = .ok (.iload_n 1, 1) := by decide +kernel
theorem dX4_addHeap_19 : decode cX4_addHeap 19 = .ok (.iastore, 1) := by decide +kernel
theorem dX4_addHeap_20 : decode cX4_addHeap 20 = .ok (.aload_n 0, 1) := by decide +kernel
theorem dX4_addHeap_21 : decode cX4_addHeap 21 = .ok (.getfield 21, 3) := by decide +kernel
theorem dX4_addHeap_24 : decode cX4_addHeap 24 = .ok (.aload_n 0, 1) := by decide +kernel
theorem dX4_addHeap_25 : decode cX4_addHeap 25 = .ok (.getfield 33, 3) := by decide +kernel
theorem dX4_addHeap_28 : decode cX4_addHeap 28 = .ok (.iload_n 2, 1) := by decide +kernel
theorem dX4_addHeap_29 : decode cX4_addHeap 29 = .ok (.iastore, 1) := by decide +kernel
theorem dX4_addHeap_30 : decode cX4_addHeap 30 = .ok (.aload_n 0, 1) := by decide +kernel
theorem dX4_addHeap_31 : decode cX4_addHeap 31 = .ok (.dup, 1) := by decide +kernel
theorem dX4_addHeap_32 : decode cX4_addHeap 32 = .ok (.getfield 33, 3) := by decide +kernel
theorem dX4_addHeap_35 : decode cX4_addHeap 35 = .ok (.iconst 1, 1) := by decide +kernel
theorem dX4_addHeap_36 : decode cX4_addHeap 36 = .ok (.iadd, 1) := by decide +kernel
theorem dX4_addHeap_37 : decode cX4_addHeap 37 = .ok (.putfield 33, 3) := by decide +kernel
theorem dX4_addHeap_40 : decode cX4_addHeap 40 = .ok (.aload_n 0, 1) := by decide +kernel
theorem dX4_addHeap_41 : decode cX4_addHeap 41 = .ok (.getfield 33, 3) := by decide +kernel
theorem dX4_addHeap_44 : decode cX4_addHeap 44 = .ok (.iconst 1, 1) := by decide +kernel
theorem dX4_addHeap_45 : decode cX4_addHeap 45 = .ok (.isub, 1) := by decide +kernel
theorem dX4_addHeap_46 : decode cX4_addHeap 46 = .ok (.ireturn, 1) := by decide +kernel
theorem dX4_inHeaps_0 : decode cX4_inHeaps 0 = .ok (.iconst 0, 1) := by decide +kernel
theorem dX4_inHeaps_1 : decode cX4_inHeaps 1 = .ok (.istore_n 2, 1) := by decide +kernel
theorem dX4_inHeaps_2 : decode cX4_inHeaps 2 = .ok (.iconst 0, 1) := by decide +kernel
theorem dX4_inHeaps_3 : decode cX4_inHeaps 3 = .ok (.istore_n 3, 1) := by decide +kernel
theorem dX4_inHeaps_4 : decode cX4_inHeaps 4 = .ok (.iload_n 3, 1) := by decide +kernel
theorem dX4_inHeaps_5 : decode cX4_inHeaps 5 = .ok (.aload_n 0, 1) := by decide +kernel
theorem dX4_inHeaps_6 : decode cX4_inHeaps 6 = .ok (.getfield 33, 3) := by decide +kernel
theorem dX4_inHeaps_9 : decode cX4_inHeaps 9 = .ok (.if_icmp .ge 20, 3) := by decide +kernel
theorem dX4_inHeaps_12 : decode cX4_inHeaps 12 = .ok (.iload_n 2, 1) := by decide +kernel
theorem dX4_inHeaps_13 : decode cX4_inHeaps 13 = .ok (.aload_n 0, 1) := by decide +kernel
theorem dX4_inHeaps_14 : decode cX4_inHeaps 14 = .ok (.getfield 26, 3) := by decide +kernel
theorem dX4_inHeaps_17 : decode cX4_inHeaps 17 = .ok (.iload_n 3, 1) := by decide +kernel
theorem dX4_inHeaps_18 : decode cX4_inHeaps 18 = .ok (.aaload, 1) := by decide +kernel
theorem dX4_inHeaps_19 : decode cX4_inHeaps 19 = .ok (.iload_n 1, 1) := by decide +kernel
theorem dX4_inHeaps_20 : decode cX4_inHeaps 20 = .ok (.iaload, 1) := by decide +kernel
theorem dX4_inHeaps_21 : decode cX4_inHeaps 21 = .ok (.iadd, 1) := by decide +kernel
theorem dX4_inHeaps_22 : decode cX4_inHeaps 22 = .ok (.istore_n 2, 1) := by decide +kernel
theorem dX4_inHeaps_23 : decode cX4_inHeaps 23 = .ok (.iinc 3 1, 3) := by decide +kernel
theorem dX4_inHeaps_26 : decode cX4_inHeaps 26 = .ok (.goto (-22), 3) := by decide +kernel
theorem dX4_inHeaps_29 : decode cX4_inHeaps 29 = .ok (.iload_n 2, 1) := by decide +kernel
theorem dX4_inHeaps_30 : decode cX4_inHeaps 30 = .ok (.ireturn, 1) := by decide +kernel
end
section
set_option maxRecDepth 20000 in
theorem ggX5_init_X4_init : GoodIn wsX5_init wsX4_init := goodIn_r _ [25, 26, 2, 3, 27, 28, 29, 30, 31, 32, 33, 75, 76, 77, 78, 79, 80, 81] (by decide +kernel) (by decide +kernel)
set_option maxRecDepth 20000 in
theorem gX5_init_X4_init_n11 : GoodIn wsX5_init (wsX4_init) := ggX5_init_X4_init
set_option maxRecDepth 20000 in
theorem ggX5_init_X3_init : GoodIn wsX5_init wsX3_init := goodIn_r _ [35, 36, 2, 3] (by decide +kernel) (by decide +kernel)
set_option maxRecDepth 20000 in
theorem gX5_init_X3_init_n18 : GoodIn wsX5_init (wsX3_init) := ggX5_init_X3_init
set_option maxRecDepth 20000 in
theorem ggX5_init_X1_init : GoodIn wsX5_init wsX1_init := goodIn_r _ [39, 40, 2, 3, 27, 41, 42, 43, 44, 45, 46, 47, 48, 49, 50, 96, 97, 98, 99, 100, 101, 102, 103, 104, 105, 106, 107] (by decide +kernel) (by decide +kernel)
set_option maxRecDepth 20000 in
theorem gX5_init_X1_init : GoodIn wsX5_init (wsX1_init) := ggX5_init_X1_init
set_option maxRecDepth 20000 in
theorem ggX5_init_X2_init : GoodIn wsX5_init wsX2_init := goodIn_r _ [53, 54, 2, 3, 27, 55, 56, 57, 58, 59, 108, 109, 110, 111, 112, 113, 114, 115] (by decide +kernel) (by decide +kernel)
set_option maxRecDepth 20000 in
theorem gX5_init_X2_init : GoodIn wsX5_init (wsX2_init) := ggX5_init_X2_init
set_option maxRecDepth 20000 in
theorem ggX5_init_X0_init : GoodIn wsX5_init wsX0_init := goodIn_r _ [62, 63, 2, 3, 64, 27, 65, 66, 67, 68, 69, 70, 71, 72, 73, 74, 116, 117, 118, 119, 120, 121, 122, 123, 124, 125] (by decide +kernel) (by decide +kernel)
set_option maxRecDepth 20000 in
theorem gX5_init_X0_init : GoodIn wsX5_init (wsX0_init) := ggX5_init_X0_init
theorem dX5_init_0 : decode cX5_init 0 = .ok (.aload_n 0, 1) := by decide +kernel
theorem dX5_init_1 : decode cX5_init 1 = .ok (.invokespecial 3, 3) := by decide +kernel
theorem dX5_init_4 : decode cX5_init 4 = .ok (.aload_n 0, 1) := by decide +kernel
theorem dX5_init_5 : decode cX5_init 5 = .ok (.new 9, 3) := by decide +kernel
theorem dX5_init_8 : decode cX5_init 8 = .ok (.dup, 1) := by decide +kernel
theorem dX5_init_9 : decode cX5_init 9 = .ok (.invokespecial 11, 3) := by decide +kernel
theorem dX5_init_12 : decode cX5_init 12 = .ok (.putfield 12, 3) := by decide +kernel
theorem dX5_init_15 : decode cX5_init 15 = .ok (.aload_n 0, 1) := by decide +kernel
theorem dX5_init_16 : decode cX5_init 16 = .ok (.new 16, 3) := by decide +kernel
theorem dX5_init_19 : decode cX5_init 19 = .ok (.dup, 1) := by decide +kernel
theorem dX5_init_20 : decode cX5_init 20 = .ok (.invokespecial 18, 3) := by decide +kernel
theorem dX5_init_23 : decode cX5_init 23 = .ok (.putfield 19, 3) := by decide +kernel
theorem dX5_init_26 : decode cX5_init 26 = .ok (.aload_n 0, 1) := by decide +kernel
theorem dX5_init_27 : decode cX5_init 27 = .ok (.new 23, 3) := by decide +kernel
theorem dX5_init_30 : decode cX5_init 30 = .ok (.dup, 1) := by decide +kernel
theorem dX5_init_31 : decode cX5_init 31 = .ok (.aload_n 0, 1) := by decide +kernel
theorem dX5_init_32 : decode cX5_init 32 = .ok (.getfield 12, 3) := by decide +kernel
theorem dX5_init_35 : decode cX5_init 35 = .ok (.aload_n 0, 1) := by decide +kernel
theorem dX5_init_36 : decode cX5_init 36 = .ok (.getfield 19, 3) := by decide +kernel
theorem dX5_init_39 : decode cX5_init 39 = .ok (.invokespecial 25, 3) := by decide +kernel
theorem dX5_init_42 : decode cX5_init 42 = .ok (.putfield 28, 3) := by decide +kernel
theorem dX5_init_45 : decode cX5_init 45 = .ok (.aload_n 0, 1) := by decide +kernel
theorem dX5_init_46 : decode cX5_init 46 = .ok (.new 32, 3) := by decide +kernel
theorem dX5_init_49 : decode cX5_init 49 = .ok (.dup, 1) := by decide +kernel
theorem dX5_init_50 : decode cX5_init 50 = .ok (.aload_n 0, 1) := by decide +kernel
theorem dX5_init_51 : decode cX5_init 51 = .ok (.getfield 12, 3) := by decide +kernel
theorem dX5_init_54 : decode cX5_init 54 = .ok (.aload_n 0, 1) := by decide +kernel
theorem dX5_init_55 : decode cX5_init 55 = .ok (.getfield 19, 3) := by decide +kernel
theorem dX5_init_58 : decode cX5_init 58 = .ok (.aload_n 0, 1) := by decide +kernel
theorem dX5_init_59 : decode cX5_init 59 = .ok (.getfield 28, 3) := by decide +kernel
theorem dX5_init_62 : decode cX5_init 62 = .ok (.invokespecial 34, 3) := by decide +kernel
theorem dX5_init_65 : decode cX5_init 65 = .ok (.putfield 37, 3) := by decide +kernel
theorem dX5_init_68 : decode cX5_init 68 = .ok (.aload_n 0, 1) := by decide +kernel
theorem dX5_init_69 : decode cX5_init 69 = .ok (.new 41, 3) := by decide +kernel
theorem dX5_init_72 : decode cX5_init 72 = .ok (.dup, 1) := by decide +kernel
theorem dX5_init_73 : decode cX5_init 73 = .ok (.aload_n 0, 1) := by decide +kernel
theorem dX5_init_74 : decode cX5_init 74 = .ok (.getfield 12, 3) := by decide +kernel
theorem dX5_init_77 : decode cX5_init 77 = .ok (.aload_n 0, 1) := by decide +kernel
theorem dX5_init_78 : decode cX5_init 78 = .ok (.getfield 19, 3) := by decide +kernel
theorem dX5_init_81 : decode cX5_init 81 = .ok (.aload_n 0, 1) := by decide +kernel
theorem dX5_init_82 : decode cX5_init 82 = .ok (.getfield 28, 3) := by decide +kernel
theorem dX5_init_85 : decode cX5_init 85 = .ok (.invokespecial 43, 3) := by decide +kernel
theorem dX5_init_88 : decode cX5_init 88 = .ok (.putfield 44, 3) := by decide +kernel
theorem dX5_init_91 : decode cX5_init 91 = .ok (.return_, 1) := by decide +kernel
set_option maxRecDepth 20000 in
theorem ggX5_kind_X5_within : GoodIn wsX5_kind wsX5_within := goodIn_r _ [8] (by decide +kernel) (by decide +kernel)
set_option maxRecDepth 20000 in
theorem gX5_kind_X5_within : GoodIn wsX5_kind (va_wsS RX5 56 yX5_within wsX5_within) := goodIn_app (goodIn_of _ (by decide +kernel)) ggX5_kind_X5_within
set_option maxRecDepth 20000 in
theorem ggX5_kind_X1_forget : GoodIn wsX5_kind wsX1_forget := goodIn_r _ [13, 14, 15, 16, 30, 31, 32, 33, 34, 35, 36, 37, 38, 39, 40, 41] (by decide +kernel) (by decide +kernel)
set_option maxRecDepth 20000 in
theorem gX5_kind_X1_forget : GoodIn wsX5_kind (wsV RX5 60 RX1 yX1_forget wsX1_forget) := goodIn_app (goodIn_of _ (by decide +kernel)) ggX5_kind_X1_forget
set_option maxRecDepth 20000 in
theorem ggX5_kind_X4_addKind : GoodIn wsX5_kind wsX4_addKind := goodIn_r _ [21, 22, 23, 24, 42, 43, 44, 45, 46, 47, 48] (by decide +kernel) (by decide +kernel)
set_option maxRecDepth 20000 in
theorem gX5_kind_X4_addKind : GoodIn wsX5_kind (wsV RX5 63 RX4 yX4_addKind wsX4_addKind) := goodIn_app (goodIn_of _ (by decide +kernel)) ggX5_kind_X4_addKind
theorem dX5_kind_0 : decode cX5_kind 0 = .ok (.aload_n 0, 1) := by decide +kernel
theorem dX5_kind_1 : decode cX5_kind 1 = .ok (.getfield 28, 3) := by decide +kernel
theorem dX5_kind_4 : decode cX5_kind 4 = .ok (.getfield 48, 3) := by decide +kernel
theorem dX5_kind_7 : decode cX5_kind 7 = .ok (.ifCond .ne 15, 3) := by decide +kernel
theorem dX5_kind_10 : decode cX5_kind 10 = .ok (.aload_n 0, 1) := by decide +kernel
theorem dX5_kind_11 : decode cX5_kind 11 = .ok (.getfield 12, 3) := by decide +kernel
theorem dX5_kind_14 : decode cX5_kind 14 = .ok (.getfield 52, 3) := by decide +kernel
theorem dX5_kind_17 : decode cX5_kind 17 = .ok (.bipush 8, 2) := by decide +kernel
theorem dX5_kind_19 : decode cX5_kind 19 = .ok (.if_icmp .lt 5, 3) := by decide +kernel
theorem dX5_kind_22 : decode cX5_kind 22 = .ok (.iconst (-1), 1) := by decide +kernel
theorem dX5_kind_23 : decode cX5_kind 23 = .ok (.ireturn, 1) := by decide +kernel
theorem dX5_kind_24 : decode cX5_kind 24 = .ok (.iload_n 1, 1) := by decide +kernel
theorem dX5_kind_25 : decode cX5_kind 25 = .ok (.iconst 1, 1) := by decide +kernel
theorem dX5_kind_26 : decode cX5_kind 26 = .ok (.bipush 6, 2) := by decide +kernel
theorem dX5_kind_28 : decode cX5_kind 28 = .ok (.invokestatic 56, 3) := by decide +kernel
theorem dX5_kind_31 : decode cX5_kind 31 = .ok (.ifCond .eq 12, 3) := by decide +kernel
theorem dX5_kind_34 : decode cX5_kind 34 = .ok (.iload_n 2, 1) := by decide +kernel
theorem dX5_kind_35 : decode cX5_kind 35 = .ok (.iconst 1, 1) := by decide +kernel
theorem dX5_kind_36 : decode cX5_kind 36 = .ok (.iconst 4, 1) := by decide +kernel
theorem dX5_kind_37 : decode cX5_kind 37 = .ok (.invokestatic 56, 3) := by decide +kernel
theorem dX5_kind_40 : decode cX5_kind 40 = .ok (.ifCond .ne 5, 3) := by decide +kernel
theorem dX5_kind_43 : decode cX5_kind 43 = .ok (.iconst (-1), 1) := by decide +kernel
theorem dX5_kind_44 : decode cX5_kind 44 = .ok (.ireturn, 1) := by decide +kernel
theorem dX5_kind_45 : decode cX5_kind 45 = .ok (.aload_n 0, 1) := by decide +kernel
theorem dX5_kind_46 : decode cX5_kind 46 = .ok (.getfield 28, 3) := by decide +kernel
theorem dX5_kind_49 : decode cX5_kind 49 = .ok (.invokevirtual 60, 3) := by decide +kernel
theorem dX5_kind_52 : decode cX5_kind 52 = .ok (.aload_n 0, 1) := by decide +kernel
theorem dX5_kind_53 : decode cX5_kind 53 = .ok (.getfield 12, 3) := by decide +kernel
theorem dX5_kind_56 : decode cX5_kind 56 = .ok (.iload_n 1, 1) := by decide +kernel
theorem dX5_kind_57 : decode cX5_kind 57 = .ok (.iload_n 2, 1) := by decide +kernel
theorem dX5_kind_58 : decode cX5_kind 58 = .ok (.invokevirtual 63, 3) := by decide +kernel
theorem dX5_kind_61 : decode cX5_kind 61 = .ok (.ireturn, 1) := by decide +kernel
set_option maxRecDepth 20000 in
theorem ggX5_heap_X5_onTheMap : GoodIn wsX5_heap wsX5_onTheMap := goodIn_r _ [8, 9, 10, 7, 11] (by decide +kernel) (by decide +kernel)
set_option maxRecDepth 20000 in
theorem gX5_heap_X5_onTheMap : GoodIn wsX5_heap (va_wsS RX5 70 yX5_onTheMap wsX5_onTheMap) := goodIn_app (goodIn_of _ (by decide +kernel)) ggX5_heap_X5_onTheMap
set_option maxRecDepth 20000 in
theorem ggX5_heap_X1_forget : GoodIn wsX5_heap wsX1_forget := goodIn_r _ [16, 17, 18, 19, 33, 34, 35, 36, 37, 38, 39, 40, 41, 42, 43, 44] (by decide +kernel) (by decide +kernel)
set_option maxRecDepth 20000 in
theorem gX5_heap_X1_forget : GoodIn wsX5_heap (wsV RX5 60 RX1 yX1_forget wsX1_forget) := goodIn_app (goodIn_of _ (by decide +kernel)) ggX5_heap_X1_forget
set_option maxRecDepth 20000 in
theorem ggX5_heap_X4_addHeap : GoodIn wsX5_heap wsX4_addHeap := goodIn_r _ [24, 25, 26, 27, 45, 46, 47, 48, 49, 50, 51] (by decide +kernel) (by decide +kernel)
set_option maxRecDepth 20000 in
theorem gX5_heap_X4_addHeap : GoodIn wsX5_heap (wsV RX5 74 RX4 yX4_addHeap wsX4_addHeap) := goodIn_app (goodIn_of _ (by decide +kernel)) ggX5_heap_X4_addHeap
theorem dX5_heap_0 : decode cX5_heap 0 = .ok (.aload_n 0, 1) := by decide +kernel
theorem dX5_heap_1 : decode cX5_heap 1 = .ok (.getfield 28, 3) := by decide +kernel
theorem dX5_heap_4 : decode cX5_heap 4 = .ok (.getfield 48, 3) := by decide +kernel
theorem dX5_heap_7 : decode cX5_heap 7 = .ok (.ifCond .ne 22, 3) := by decide +kernel
theorem dX5_heap_10 : decode cX5_heap 10 = .ok (.aload_n 0, 1) := by decide +kernel
theorem dX5_heap_11 : decode cX5_heap 11 = .ok (.getfield 12, 3) := by decide +kernel
theorem dX5_heap_14 : decode cX5_heap 14 = .ok (.getfield 67, 3) := by decide +kernel
theorem dX5_heap_17 : decode cX5_heap 17 = .ok (.iconst 5, 1) := by decide +kernel
theorem dX5_heap_18 : decode cX5_heap 18 = .ok (.if_icmp .ge 11, 3) := by decide +kernel
theorem dX5_heap_21 : decode cX5_heap 21 = .ok (.iload_n 1, 1) := by decide +kernel
theorem dX5_heap_22 : decode cX5_heap 22 = .ok (.iload_n 2, 1) := by decide +kernel
theorem dX5_heap_23 : decode cX5_heap 23 = .ok (.invokestatic 70, 3) := by decide +kernel
theorem dX5_heap_26 : decode cX5_heap 26 = .ok (.ifCond .ne 5, 3) := by decide +kernel
theorem dX5_heap_29 : decode cX5_heap 29 = .ok (.iconst (-1), 1) := by decide +kernel
theorem dX5_heap_30 : decode cX5_heap 30 = .ok (.ireturn, 1) := by decide +kernel
theorem dX5_heap_31 : decode cX5_heap 31 = .ok (.aload_n 0, 1) := by decide +kernel
theorem dX5_heap_32 : decode cX5_heap 32 = .ok (.getfield 28, 3) := by decide +kernel
theorem dX5_heap_35 : decode cX5_heap 35 = .ok (.invokevirtual 60, 3) := by decide +kernel
theorem dX5_heap_38 : decode cX5_heap 38 = .ok (.aload_n 0, 1) := by decide +kernel
theorem dX5_heap_39 : decode cX5_heap 39 = .ok (.getfield 12, 3) := by decide +kernel
theorem dX5_heap_42 : decode cX5_heap 42 = .ok (.iload_n 1, 1) := by decide +kernel
theorem dX5_heap_43 : decode cX5_heap 43 = .ok (.iload_n 2, 1) := by decide +kernel
theorem dX5_heap_44 : decode cX5_heap 44 = .ok (.invokevirtual 74, 3) := by decide +kernel
theorem dX5_heap_47 : decode cX5_heap 47 = .ok (.ireturn, 1) := by decide +kernel
set_option maxRecDepth 20000 in
theorem ggX5_stones_X4_hasHeap : GoodIn wsX5_stones wsX4_hasHeap := goodIn_r _ [9, 10, 45, 46, 47, 48, 49, 50, 51] (by decide +kernel) (by decide +kernel)
set_option maxRecDepth 20000 in
theorem gX5_stones_X4_hasHeap : GoodIn wsX5_stones (wsV RX5 77 RX4 yX4_hasHeap wsX4_hasHeap) := goodIn_app (goodIn_of _ (by decide +kernel)) ggX5_stones_X4_hasHeap
set_option maxRecDepth 20000 in
theorem ggX5_stones_X4_hasKind : GoodIn wsX5_stones wsX4_hasKind := goodIn_r _ [14, 15, 45, 46, 47, 48, 49, 50, 51] (by decide +kernel) (by decide +kernel)
set_option maxRecDepth 20000 in
theorem gX5_stones_X4_hasKind : GoodIn wsX5_stones (wsV RX5 81 RX4 yX4_hasKind wsX4_hasKind) := goodIn_app (goodIn_of _ (by decide +kernel)) ggX5_stones_X4_hasKind
set_option maxRecDepth 20000 in
theorem ggX5_stones_X5_within : GoodIn wsX5_stones wsX5_within := goodIn_r _ [19] (by decide +kernel) (by decide +kernel)
set_option maxRecDepth 20000 in
theorem gX5_stones_X5_within : GoodIn wsX5_stones (va_wsS RX5 56 yX5_within wsX5_within) := goodIn_app (goodIn_of _ (by decide +kernel)) ggX5_stones_X5_within
set_option maxRecDepth 20000 in
theorem ggX5_stones_X1_forget : GoodIn wsX5_stones wsX1_forget := goodIn_r _ [24, 25, 26, 27, 33, 34, 35, 36, 37, 38, 39, 40, 41, 42, 43, 44] (by decide +kernel) (by decide +kernel)
set_option maxRecDepth 20000 in
theorem gX5_stones_X1_forget : GoodIn wsX5_stones (wsV RX5 60 RX1 yX1_forget wsX1_forget) := goodIn_app (goodIn_of _ (by decide +kernel)) ggX5_stones_X1_forget
theorem dX5_stones_0 : decode cX5_stones 0 = .ok (.aload_n 0, 1) := by decide +kernel
theorem dX5_stones_1 : decode cX5_stones 1 = .ok (.getfield 28, 3) := by decide +kernel
theorem dX5_stones_4 : decode cX5_stones 4 = .ok (.getfield 48, 3) := by decide +kernel
theorem dX5_stones_7 : decode cX5_stones 7 = .ok (.ifCond .ne 35, 3) := by decide +kernel
theorem dX5_stones_10 : decode cX5_stones 10 = .ok (.aload_n 0, 1) := by decide +kernel
theorem dX5_stones_11 : decode cX5_stones 11 = .ok (.getfield 12, 3) := by decide +kernel
theorem dX5_stones_14 : decode cX5_stones 14 = .ok (.iload_n 1, 1) := by decide +kernel
theorem dX5_stones_15 : decode cX5_stones 15 = .ok (.invokevirtual 77, 3) := by decide +kernel
theorem dX5_stones_18 : decode cX5_stones 18 = .ok (.ifCond .eq 24, 3) := by decide +kernel
theorem dX5_stones_21 : decode cX5_stones 21 = .ok (.aload_n 0, 1) := by decide +kernel
theorem dX5_stones_22 : decode cX5_stones 22 = .ok (.getfield 12, 3) := by decide +kernel
theorem dX5_stones_25 : decode cX5_stones 25 = .ok (.iload_n 2, 1) := by decide +kernel
theorem dX5_stones_26 : decode cX5_stones 26 = .ok (.invokevirtual 81, 3) := by decide +kernel
theorem dX5_stones_29 : decode cX5_stones 29 = .ok (.ifCond .eq 13, 3) := by decide +kernel
theorem dX5_stones_32 : decode cX5_stones 32 = .ok (.iload_n 3, 1) := by decide +kernel
theorem dX5_stones_33 : decode cX5_stones 33 = .ok (.iconst 0, 1) := by decide +kernel
theorem dX5_stones_34 : decode cX5_stones 34 = .ok (.bipush 60, 2) := by decide +kernel
theorem dX5_stones_36 : decode cX5_stones 36 = .ok (.invokestatic 56, 3) := by decide +kernel
theorem dX5_stones_39 : decode cX5_stones 39 = .ok (.ifCond .ne 5, 3) := by decide +kernel
theorem dX5_stones_42 : decode cX5_stones 42 = .ok (.iconst 0, 1) := by decide +kernel
theorem dX5_stones_43 : decode cX5_stones 43 = .ok (.ireturn, 1) := by decide +kernel
theorem dX5_stones_44 : decode cX5_stones 44 = .ok (.aload_n 0, 1) := by decide +kernel
theorem dX5_stones_45 : decode cX5_stones 45 = .ok (.getfield 28, 3) := by decide +kernel
theorem dX5_stones_48 : decode cX5_stones 48 = .ok (.invokevirtual 60, 3) := by decide +kernel
theorem dX5_stones_51 : decode cX5_stones 51 = .ok (.aload_n 0, 1) := by decide +kernel
theorem dX5_stones_52 : decode cX5_stones 52 = .ok (.getfield 12, 3) := by decide +kernel
theorem dX5_stones_55 : decode cX5_stones 55 = .ok (.getfield 84, 3) := by decide +kernel
theorem dX5_stones_58 : decode cX5_stones 58 = .ok (.iload_n 1, 1) := by decide +kernel
theorem dX5_stones_59 : decode cX5_stones 59 = .ok (.aaload, 1) := by decide +kernel
theorem dX5_stones_60 : decode cX5_stones 60 = .ok (.iload_n 2, 1) := by decide +kernel
theorem dX5_stones_61 : decode cX5_stones 61 = .ok (.iload_n 3, 1) := by decide +kernel
theorem dX5_stones_62 : decode cX5_stones 62 = .ok (.iastore, 1) := by decide +kernel
theorem dX5_stones_63 : decode cX5_stones 63 = .ok (.iconst 1, 1) := by decide +kernel
theorem dX5_stones_64 : decode cX5_stones 64 = .ok (.ireturn, 1) := by decide +kernel
set_option maxRecDepth 20000 in
theorem ggX5_wall_X5_onTheMap : GoodIn wsX5_wall wsX5_onTheMap := goodIn_r _ [7, 8, 9, 6, 10] (by decide +kernel) (by decide +kernel)
set_option maxRecDepth 20000 in
theorem gX5_wall_X5_onTheMap : GoodIn wsX5_wall (va_wsS RX5 70 yX5_onTheMap wsX5_onTheMap) := goodIn_app (goodIn_of _ (by decide +kernel)) ggX5_wall_X5_onTheMap
set_option maxRecDepth 20000 in
theorem ggX5_wall_X5_within : GoodIn wsX5_wall wsX5_within := goodIn_r _ [10] (by decide +kernel) (by decide +kernel)
set_option maxRecDepth 20000 in
theorem gX5_wall_X5_within : GoodIn wsX5_wall (va_wsS RX5 56 yX5_within wsX5_within) := goodIn_app (goodIn_of _ (by decide +kernel)) ggX5_wall_X5_within
set_option maxRecDepth 20000 in
theorem ggX5_wall_X1_forget : GoodIn wsX5_wall wsX1_forget := goodIn_r _ [15, 16, 17, 18, 38, 39, 40, 41, 42, 43, 44, 45, 46, 47, 48, 49] (by decide +kernel) (by decide +kernel)
set_option maxRecDepth 20000 in
theorem gX5_wall_X1_forget : GoodIn wsX5_wall (wsV RX5 60 RX1 yX1_forget wsX1_forget) := goodIn_app (goodIn_of _ (by decide +kernel)) ggX5_wall_X1_forget
set_option maxRecDepth 20000 in
theorem ggX5_wall_X3_tell : GoodIn wsX5_wall wsX3_tell := goodIn_r _ [23, 24, 25, 26, 27, 28, 29, 30, 31, 32, 50, 51, 52, 53, 54, 55, 56, 57, 58] (by decide +kernel) (by decide +kernel)
set_option maxRecDepth 20000 in
theorem gX5_wall_X3_tell : GoodIn wsX5_wall (wsV RX5 88 RX3 yX3_tell wsX3_tell) := goodIn_app (goodIn_of _ (by decide +kernel)) ggX5_wall_X3_tell
theorem dX5_wall_0 : decode cX5_wall 0 = .ok (.aload_n 0, 1) := by decide +kernel
theorem dX5_wall_1 : decode cX5_wall 1 = .ok (.getfield 28, 3) := by decide +kernel
theorem dX5_wall_4 : decode cX5_wall 4 = .ok (.getfield 48, 3) := by decide +kernel
theorem dX5_wall_7 : decode cX5_wall 7 = .ok (.ifCond .ne 21, 3) := by decide +kernel
theorem dX5_wall_10 : decode cX5_wall 10 = .ok (.iload_n 1, 1) := by decide +kernel
theorem dX5_wall_11 : decode cX5_wall 11 = .ok (.iload_n 2, 1) := by decide +kernel
theorem dX5_wall_12 : decode cX5_wall 12 = .ok (.invokestatic 70, 3) := by decide +kernel
theorem dX5_wall_15 : decode cX5_wall 15 = .ok (.ifCond .eq 13, 3) := by decide +kernel
theorem dX5_wall_18 : decode cX5_wall 18 = .ok (.iload_n 3, 1) := by decide +kernel
theorem dX5_wall_19 : decode cX5_wall 19 = .ok (.iconst 2, 1) := by decide +kernel
theorem dX5_wall_20 : decode cX5_wall 20 = .ok (.bipush 24, 2) := by decide +kernel
theorem dX5_wall_22 : decode cX5_wall 22 = .ok (.invokestatic 56, 3) := by decide +kernel
theorem dX5_wall_25 : decode cX5_wall 25 = .ok (.ifCond .ne 5, 3) := by decide +kernel
theorem dX5_wall_28 : decode cX5_wall 28 = .ok (.iconst 0, 1) := by decide +kernel
theorem dX5_wall_29 : decode cX5_wall 29 = .ok (.ireturn, 1) := by decide +kernel
theorem dX5_wall_30 : decode cX5_wall 30 = .ok (.iload 4, 2) := by decide +kernel
theorem dX5_wall_32 : decode cX5_wall 32 = .ok (.iconst 1, 1) := by decide +kernel
theorem dX5_wall_33 : decode cX5_wall 33 = .ok (.bipush 6, 2) := by decide +kernel
theorem dX5_wall_35 : decode cX5_wall 35 = .ok (.invokestatic 56, 3) := by decide +kernel
theorem dX5_wall_38 : decode cX5_wall 38 = .ok (.ifCond .eq 23, 3) := by decide +kernel
theorem dX5_wall_41 : decode cX5_wall 41 = .ok (.iload 5, 2) := by decide +kernel
theorem dX5_wall_43 : decode cX5_wall 43 = .ok (.iconst 1, 1) := by decide +kernel
theorem dX5_wall_44 : decode cX5_wall 44 = .ok (.iconst 4, 1) := by decide +kernel
theorem dX5_wall_45 : decode cX5_wall 45 = .ok (.invokestatic 56, 3) := by decide +kernel
theorem dX5_wall_48 : decode cX5_wall 48 = .ok (.ifCond .eq 13, 3) := by decide +kernel
theorem dX5_wall_51 : decode cX5_wall 51 = .ok (.iload 6, 2) := by decide +kernel
theorem dX5_wall_53 : decode cX5_wall 53 = .ok (.iconst 0, 1) := by decide +kernel
theorem dX5_wall_54 : decode cX5_wall 54 = .ok (.iconst 1, 1) := by decide +kernel
theorem dX5_wall_55 : decode cX5_wall 55 = .ok (.invokestatic 56, 3) := by decide +kernel
theorem dX5_wall_58 : decode cX5_wall 58 = .ok (.ifCond .ne 5, 3) := by decide +kernel
theorem dX5_wall_61 : decode cX5_wall 61 = .ok (.iconst 0, 1) := by decide +kernel
theorem dX5_wall_62 : decode cX5_wall 62 = .ok (.ireturn, 1) := by decide +kernel
theorem dX5_wall_63 : decode cX5_wall 63 = .ok (.aload_n 0, 1) := by decide +kernel
theorem dX5_wall_64 : decode cX5_wall 64 = .ok (.getfield 28, 3) := by decide +kernel
theorem dX5_wall_67 : decode cX5_wall 67 = .ok (.invokevirtual 60, 3) := by decide +kernel
theorem dX5_wall_70 : decode cX5_wall 70 = .ok (.aload_n 0, 1) := by decide +kernel
theorem dX5_wall_71 : decode cX5_wall 71 = .ok (.getfield 19, 3) := by decide +kernel
theorem dX5_wall_74 : decode cX5_wall 74 = .ok (.iload_n 1, 1) := by decide +kernel
theorem dX5_wall_75 : decode cX5_wall 75 = .ok (.iload_n 2, 1) := by decide +kernel
theorem dX5_wall_76 : decode cX5_wall 76 = .ok (.iload_n 3, 1) := by decide +kernel
theorem dX5_wall_77 : decode cX5_wall 77 = .ok (.iload 4, 2) := by decide +kernel
theorem dX5_wall_79 : decode cX5_wall 79 = .ok (.iload 5, 2) := by decide +kernel
theorem dX5_wall_81 : decode cX5_wall 81 = .ok (.iload 6, 2) := by decide +kernel
theorem dX5_wall_83 : decode cX5_wall 83 = .ok (.invokevirtual 88, 3) := by decide +kernel
theorem dX5_wall_86 : decode cX5_wall 86 = .ok (.iconst 1, 1) := by decide +kernel
theorem dX5_wall_87 : decode cX5_wall 87 = .ok (.ireturn, 1) := by decide +kernel
set_option maxRecDepth 20000 in
theorem ggX5_through_X5_within : GoodIn wsX5_through wsX5_within := goodIn_r _ [11] (by decide +kernel) (by decide +kernel)
set_option maxRecDepth 20000 in
theorem gX5_through_X5_within : GoodIn wsX5_through (va_wsS RX5 56 yX5_within wsX5_within) := goodIn_app (goodIn_of _ (by decide +kernel)) ggX5_through_X5_within
set_option maxRecDepth 20000 in
theorem ggX5_through_X1_forget : GoodIn wsX5_through wsX1_forget := goodIn_r _ [16, 17, 18, 19, 34, 35, 36, 37, 38, 39, 40, 41, 42, 43, 44, 45] (by decide +kernel) (by decide +kernel)
set_option maxRecDepth 20000 in
theorem gX5_through_X1_forget : GoodIn wsX5_through (wsV RX5 60 RX1 yX1_forget wsX1_forget) := goodIn_app (goodIn_of _ (by decide +kernel)) ggX5_through_X1_forget
theorem dX5_through_0 : decode cX5_through 0 = .ok (.aload_n 0, 1) := by decide +kernel
theorem dX5_through_1 : decode cX5_through 1 = .ok (.getfield 19, 3) := by decide +kernel
theorem dX5_through_4 : decode cX5_through 4 = .ok (.getfield 92, 3) := by decide +kernel
theorem dX5_through_7 : decode cX5_through 7 = .ok (.ifCond .eq 13, 3) := by decide +kernel
theorem dX5_through_10 : decode cX5_through 10 = .ok (.aload_n 0, 1) := by decide +kernel
theorem dX5_through_11 : decode cX5_through 11 = .ok (.getfield 28, 3) := by decide +kernel
theorem dX5_through_14 : decode cX5_through 14 = .ok (.getfield 48, 3) := by decide +kernel
theorem dX5_through_17 : decode cX5_through 17 = .ok (.ifCond .eq 5, 3) := by decide +kernel
theorem dX5_through_20 : decode cX5_through 20 = .ok (.iconst 0, 1) := by decide +kernel
theorem dX5_through_21 : decode cX5_through 21 = .ok (.ireturn, 1) := by decide +kernel
theorem dX5_through_22 : decode cX5_through 22 = .ok (.iload_n 1, 1) := by decide +kernel
theorem dX5_through_23 : decode cX5_through 23 = .ok (.iconst 0, 1) := by decide +kernel
theorem dX5_through_24 : decode cX5_through 24 = .ok (.iconst 1, 1) := by decide +kernel
theorem dX5_through_25 : decode cX5_through 25 = .ok (.aload_n 0, 1) := by decide +kernel
theorem dX5_through_26 : decode cX5_through 26 = .ok (.getfield 19, 3) := by decide +kernel
theorem dX5_through_29 : decode cX5_through 29 = .ok (.getfield 95, 3) := by decide +kernel
theorem dX5_through_32 : decode cX5_through 32 = .ok (.ishl, 1) := by decide +kernel
theorem dX5_through_33 : decode cX5_through 33 = .ok (.iconst 1, 1) := by decide +kernel
theorem dX5_through_34 : decode cX5_through 34 = .ok (.isub, 1) := by decide +kernel
theorem dX5_through_35 : decode cX5_through 35 = .ok (.invokestatic 56, 3) := by decide +kernel
theorem dX5_through_38 : decode cX5_through 38 = .ok (.ifCond .eq 12, 3) := by decide +kernel
theorem dX5_through_41 : decode cX5_through 41 = .ok (.iload_n 2, 1) := by decide +kernel
theorem dX5_through_42 : decode cX5_through 42 = .ok (.iconst 0, 1) := by decide +kernel
theorem dX5_through_43 : decode cX5_through 43 = .ok (.iconst 3, 1) := by decide +kernel
theorem dX5_through_44 : decode cX5_through 44 = .ok (.invokestatic 56, 3) := by decide +kernel
theorem dX5_through_47 : decode cX5_through 47 = .ok (.ifCond .ne 5, 3) := by decide +kernel
theorem dX5_through_50 : decode cX5_through 50 = .ok (.iconst 0, 1) := by decide +kernel
theorem dX5_through_51 : decode cX5_through 51 = .ok (.ireturn, 1) := by decide +kernel
theorem dX5_through_52 : decode cX5_through 52 = .ok (.aload_n 0, 1) := by decide +kernel
theorem dX5_through_53 : decode cX5_through 53 = .ok (.getfield 28, 3) := by decide +kernel
theorem dX5_through_56 : decode cX5_through 56 = .ok (.invokevirtual 60, 3) := by decide +kernel
theorem dX5_through_59 : decode cX5_through 59 = .ok (.aload_n 0, 1) := by decide +kernel
theorem dX5_through_60 : decode cX5_through 60 = .ok (.getfield 19, 3) := by decide +kernel
theorem dX5_through_63 : decode cX5_through 63 = .ok (.iload_n 1, 1) := by decide +kernel
theorem dX5_through_64 : decode cX5_through 64 = .ok (.putfield 98, 3) := by decide +kernel
theorem dX5_through_67 : decode cX5_through 67 = .ok (.aload_n 0, 1) := by decide +kernel
theorem dX5_through_68 : decode cX5_through 68 = .ok (.getfield 19, 3) := by decide +kernel
theorem dX5_through_71 : decode cX5_through 71 = .ok (.iload_n 2, 1) := by decide +kernel
theorem dX5_through_72 : decode cX5_through 72 = .ok (.putfield 101, 3) := by decide +kernel
theorem dX5_through_75 : decode cX5_through 75 = .ok (.iconst 1, 1) := by decide +kernel
theorem dX5_through_76 : decode cX5_through 76 = .ok (.ireturn, 1) := by decide +kernel
set_option maxRecDepth 20000 in
theorem ggX5_plan_X2_firstWhole : GoodIn wsX5_plan wsX2_firstWhole := goodIn_r _ [11, 12, 13, 14, 15, 16, 17, 18, 19, 20, 21, 22, 23, 10, 24, 25, 26, 27, 28, 29, 30, 31, 32, 33, 34, 35, 36, 37, 38, 39, 40, 41, 42, 43, 44, 45, 46, 47, 48, 49, 50, 51, 52, 53, 54, 55, 56, 57, 58, 59, 60, 61, 62, 63, 64, 65, 66, 67, 68, 69, 70, 71, 72, 73, 74, 75, 76, 77, 78, 79, 80, 81, 82, 83, 84, 85, 86, 87, 88, 89, 90, 91, 92, 93, 94, 95, 96, 97, 98, 99, 100, 101, 102, 103, 104, 105, 106, 107, 108, 109, 110, 111, 112, 113, 154, 155, 156, 157, 158, 159, 160, 161, 142, 143, 144, 145, 146, 147, 148, 149, 150, 151, 152, 153, 133, 134, 135, 136, 137, 138, 139, 140, 141, 162, 163, 164, 165, 166, 167, 168] (by decide +kernel) (by decide +kernel)
set_option maxRecDepth 20000 in
theorem gX5_plan_X2_firstWhole : GoodIn wsX5_plan (wsV RX5 104 RX2 yX2_firstWhole wsX2_firstWhole) := goodIn_app (goodIn_of _ (by decide +kernel)) ggX5_plan_X2_firstWhole
set_option maxRecDepth 20000 in
theorem ggX5_plan_X1_forget : GoodIn wsX5_plan wsX1_forget := goodIn_r _ [33, 34, 35, 36, 142, 143, 144, 145, 146, 147, 148, 149, 150, 151, 152, 153] (by decide +kernel) (by decide +kernel)
set_option maxRecDepth 20000 in
theorem gX5_plan_X1_forget : GoodIn wsX5_plan (wsV RX5 60 RX1 yX1_forget wsX1_forget) := goodIn_app (goodIn_of _ (by decide +kernel)) ggX5_plan_X1_forget
set_option maxRecDepth 20000 in
theorem ggX5_plan_X0_rememberHeaps : GoodIn wsX5_plan wsX0_rememberHeaps := goodIn_r _ [119, 120, 121, 122, 123, 124, 125, 126, 127, 169, 170, 171, 172, 173, 174, 175, 176, 177, 178, 162, 163, 164, 165, 166, 167, 168] (by decide +kernel) (by decide +kernel)
set_option maxRecDepth 20000 in
theorem gX5_plan_X0_rememberHeaps : GoodIn wsX5_plan (wsV RX5 108 RX0 yX0_rememberHeaps wsX0_rememberHeaps) := goodIn_app (goodIn_of _ (by decide +kernel)) ggX5_plan_X0_rememberHeaps
theorem dX5_plan_0 : decode cX5_plan 0 = .ok (.aload_n 0, 1) := by decide +kernel
theorem dX5_plan_1 : decode cX5_plan 1 = .ok (.getfield 19, 3) := by decide +kernel
theorem dX5_plan_4 : decode cX5_plan 4 = .ok (.getfield 92, 3) := by decide +kernel
theorem dX5_plan_7 : decode cX5_plan 7 = .ok (.ifCond .eq 13, 3) := by decide +kernel
theorem dX5_plan_10 : decode cX5_plan 10 = .ok (.aload_n 0, 1) := by decide +kernel
theorem dX5_plan_11 : decode cX5_plan 11 = .ok (.getfield 28, 3) := by decide +kernel
theorem dX5_plan_14 : decode cX5_plan 14 = .ok (.getfield 48, 3) := by decide +kernel
theorem dX5_plan_17 : decode cX5_plan 17 = .ok (.ifCond .eq 5, 3) := by decide +kernel
theorem dX5_plan_20 : decode cX5_plan 20 = .ok (.iconst (-1), 1) := by decide +kernel
theorem dX5_plan_21 : decode cX5_plan 21 = .ok (.ireturn, 1) := by decide +kernel
theorem dX5_plan_22 : decode cX5_plan 22 = .ok (.aload_n 0, 1) := by decide +kernel
theorem dX5_plan_23 : decode cX5_plan 23 = .ok (.getfield 37, 3) := by decide +kernel
theorem dX5_plan_26 : decode cX5_plan 26 = .ok (.invokevirtual 104, 3) := by decide +kernel
theorem dX5_plan_29 : decode cX5_plan 29 = .ok (.istore_n 1, 1) := by decide +kernel
theorem dX5_plan_30 : decode cX5_plan 30 = .ok (.iload_n 1, 1) := by decide +kernel
theorem dX5_plan_31 : decode cX5_plan 31 = .ok (.ifCond .gt 13, 3) := by decide +kernel
theorem dX5_plan_34 : decode cX5_plan 34 = .ok (.aload_n 0, 1) := by decide +kernel
theorem dX5_plan_35 : decode cX5_plan 35 = .ok (.getfield 28, 3) := by decide +kernel
theorem dX5_plan_38 : decode cX5_plan 38 = .ok (.invokevirtual 60, 3) := by decide +kernel
theorem dX5_plan_41 : decode cX5_plan 41 = .ok (.goto 10, 3) := by decide +kernel
theorem dX5_plan_44 : decode cX5_plan 44 = .ok (.aload_n 0, 1) := by decide +kernel
theorem dX5_plan_45 : decode cX5_plan 45 = .ok (.getfield 44, 3) := by decide +kernel
theorem dX5_plan_48 : decode cX5_plan 48 = .ok (.invokevirtual 108, 3) := by decide +kernel
theorem dX5_plan_51 : decode cX5_plan 51 = .ok (.iload_n 1, 1) := by decide +kernel
theorem dX5_plan_52 : decode cX5_plan 52 = .ok (.ireturn, 1) := by decide +kernel
set_option maxRecDepth 20000 in
theorem ggX5_stone_X1_hearting : GoodIn wsX5_stone wsX1_hearting := goodIn_r _ [17, 18, 19, 20, 21, 22, 23, 24, 25, 26, 27, 28, 29, 30, 31, 32, 33, 34, 35, 51, 52, 53, 54, 55, 56, 57, 58, 59, 60, 61, 62, 63, 64, 65, 66, 67, 68, 69, 70, 71, 72, 73, 74, 75, 76, 77, 78] (by decide +kernel) (by decide +kernel)
set_option maxRecDepth 20000 in
theorem gX5_stone_X1_hearting : GoodIn wsX5_stone (wsV RX5 129 RX1 yX1_hearting wsX1_hearting) := goodIn_app (goodIn_of _ (by decide +kernel)) ggX5_stone_X1_hearting
set_option maxRecDepth 20000 in
theorem ggX5_stone_X1_isThroughStone : GoodIn wsX5_stone wsX1_isThroughStone := goodIn_r _ [39, 19, 23, 18, 21, 22, 28, 29, 30, 31, 32, 33, 34, 35, 25, 26, 27, 51, 52, 53, 54, 55, 56, 57, 58, 59, 60, 61, 62, 63, 64, 65, 66, 67, 68, 69, 70, 71, 72, 73, 74, 75, 76, 77, 78] (by decide +kernel) (by decide +kernel)
set_option maxRecDepth 20000 in
theorem gX5_stone_X1_isThroughStone : GoodIn wsX5_stone (wsV RX5 133 RX1 yX1_isThroughStone wsX1_isThroughStone) := goodIn_app (goodIn_of _ (by decide +kernel)) ggX5_stone_X1_isThroughStone
set_option maxRecDepth 20000 in
theorem ggX5_stone_X1_isStanding : GoodIn wsX5_stone wsX1_isStanding := goodIn_r _ [43, 44, 45, 51, 52, 53, 54, 55, 56, 57, 58, 59, 60, 61, 62] (by decide +kernel) (by decide +kernel)
set_option maxRecDepth 20000 in
theorem gX5_stone_X1_isStanding : GoodIn wsX5_stone (wsV RX5 139 RX1 yX1_isStanding wsX1_isStanding) := goodIn_app (goodIn_of _ (by decide +kernel)) ggX5_stone_X1_isStanding
theorem dX5_stone_0 : decode cX5_stone 0 = .ok (.iload_n 1, 1) := by decide +kernel
theorem dX5_stone_1 : decode cX5_stone 1 = .ok (.ifCond .lt 14, 3) := by decide +kernel
theorem dX5_stone_4 : decode cX5_stone 4 = .ok (.iload_n 1, 1) := by decide +kernel
theorem dX5_stone_5 : decode cX5_stone 5 = .ok (.aload_n 0, 1) := by decide +kernel
theorem dX5_stone_6 : decode cX5_stone 6 = .ok (.getfield 28, 3) := by decide +kernel
theorem dX5_stone_9 : decode cX5_stone 9 = .ok (.getfield 111, 3) := by decide +kernel
theorem dX5_stone_12 : decode cX5_stone 12 = .ok (.if_icmp .lt 13, 3) := by decide +kernel
theorem dX5_stone_15 : decode cX5_stone 15 = .ok (.new 114, 3) := by decide +kernel
theorem dX5_stone_18 : decode cX5_stone 18 = .ok (.dup, 1) := by decide +kernel
theorem dX5_stone_19 : decode cX5_stone 19 = .ok (.ldc 116, 2) := by decide +kernel
theorem dX5_stone_21 : decode cX5_stone 21 = .ok (.invokespecial 118, 3) := by decide +kernel
theorem dX5_stone_24 : decode cX5_stone 24 = .ok (.athrow, 1) := by decide +kernel
theorem dX5_stone_25 : decode cX5_stone 25 = .ok (.iload_n 2, 1) := by decide +kernel
theorem dX5_stone_26 : decode cX5_stone 26 = .ok (.tableswitch 167 0 7 #[46, 56, 66, 76, 85, 102, 126, 143], 46) := by decide +kernel
theorem dX5_stone_72 : decode cX5_stone 72 = .ok (.aload_n 0, 1) := by decide +kernel
theorem dX5_stone_73 : decode cX5_stone 73 = .ok (.getfield 28, 3) := by decide +kernel
theorem dX5_stone_76 : decode cX5_stone 76 = .ok (.getfield 121, 3) := by decide +kernel
theorem dX5_stone_79 : decode cX5_stone 79 = .ok (.iload_n 1, 1) := by decide +kernel
theorem dX5_stone_80 : decode cX5_stone 80 = .ok (.iaload, 1) := by decide +kernel
theorem dX5_stone_81 : decode cX5_stone 81 = .ok (.ireturn, 1) := by decide +kernel
theorem dX5_stone_82 : decode cX5_stone 82 = .ok (.aload_n 0, 1) := by decide +kernel
theorem dX5_stone_83 : decode cX5_stone 83 = .ok (.getfield 28, 3) := by decide +kernel
theorem dX5_stone_86 : decode cX5_stone 86 = .ok (.getfield 124, 3) := by decide +kernel
theorem dX5_stone_89 : decode cX5_stone 89 = .ok (.iload_n 1, 1) := by decide +kernel
theorem dX5_stone_90 : decode cX5_stone 90 = .ok (.iaload, 1) := by decide +kernel
theorem dX5_stone_91 : decode cX5_stone 91 = .ok (.ireturn, 1) := by decide +kernel
theorem dX5_stone_92 : decode cX5_stone 92 = .ok (.aload_n 0, 1) := by decide +kernel
theorem dX5_stone_93 : decode cX5_stone 93 = .ok (.getfield 28, 3) := by decide +kernel
theorem dX5_stone_96 : decode cX5_stone 96 = .ok (.getfield 126, 3) := by decide +kernel
theorem dX5_stone_99 : decode cX5_stone 99 = .ok (.iload_n 1, 1) := by decide +kernel
theorem dX5_stone_100 : decode cX5_stone 100 = .ok (.iaload, 1) := by decide +kernel
theorem dX5_stone_101 : decode cX5_stone 101 = .ok (.ireturn, 1) := by decide +kernel
theorem dX5_stone_102 : decode cX5_stone 102 = .ok (.aload_n 0, 1) := by decide +kernel
theorem dX5_stone_103 : decode cX5_stone 103 = .ok (.getfield 28, 3) := by decide +kernel
theorem dX5_stone_106 : decode cX5_stone 106 = .ok (.iload_n 1, 1) := by decide +kernel
theorem dX5_stone_107 : decode cX5_stone 107 = .ok (.invokevirtual 129, 3) := by decide +kernel
theorem dX5_stone_110 : decode cX5_stone 110 = .ok (.ireturn, 1) := by decide +kernel
theorem dX5_stone_111 : decode cX5_stone 111 = .ok (.aload_n 0, 1) := by decide +kernel
theorem dX5_stone_112 : decode cX5_stone 112 = .ok (.getfield 28, 3) := by decide +kernel
theorem dX5_stone_115 : decode cX5_stone 115 = .ok (.iload_n 1, 1) := by decide +kernel
theorem dX5_stone_116 : decode cX5_stone 116 = .ok (.invokevirtual 133, 3) := by decide +kernel
theorem dX5_stone_119 : decode cX5_stone 119 = .ok (.ifCond .eq 7, 3) := by decide +kernel
theorem dX5_stone_122 : decode cX5_stone 122 = .ok (.iconst 1, 1) := by decide +kernel
theorem dX5_stone_123 : decode cX5_stone 123 = .ok (.goto 4, 3) := by decide +kernel
theorem dX5_stone_126 : decode cX5_stone 126 = .ok (.iconst 0, 1) := by decide +kernel
theorem dX5_stone_127 : decode cX5_stone 127 = .ok (.ireturn, 1) := by decide +kernel
theorem dX5_stone_128 : decode cX5_stone 128 = .ok (.aload_n 0, 1) := by decide +kernel
theorem dX5_stone_129 : decode cX5_stone 129 = .ok (.getfield 28, 3) := by decide +kernel
theorem dX5_stone_132 : decode cX5_stone 132 = .ok (.getfield 48, 3) := by decide +kernel
theorem dX5_stone_135 : decode cX5_stone 135 = .ok (.ifCond .eq 15, 3) := by decide +kernel
theorem dX5_stone_138 : decode cX5_stone 138 = .ok (.aload_n 0, 1) := by decide +kernel
theorem dX5_stone_139 : decode cX5_stone 139 = .ok (.getfield 28, 3) := by decide +kernel
theorem dX5_stone_142 : decode cX5_stone 142 = .ok (.getfield 136, 3) := by decide +kernel
theorem dX5_stone_145 : decode cX5_stone 145 = .ok (.iload_n 1, 1) := by decide +kernel
theorem dX5_stone_146 : decode cX5_stone 146 = .ok (.iaload, 1) := by decide +kernel
theorem dX5_stone_147 : decode cX5_stone 147 = .ok (.goto 4, 3) := by decide +kernel
theorem dX5_stone_150 : decode cX5_stone 150 = .ok (.iconst 0, 1) := by decide +kernel
theorem dX5_stone_151 : decode cX5_stone 151 = .ok (.ireturn, 1) := by decide +kernel
theorem dX5_stone_152 : decode cX5_stone 152 = .ok (.aload_n 0, 1) := by decide +kernel
theorem dX5_stone_153 : decode cX5_stone 153 = .ok (.getfield 28, 3) := by decide +kernel
theorem dX5_stone_156 : decode cX5_stone 156 = .ok (.iload_n 1, 1) := by decide +kernel
theorem dX5_stone_157 : decode cX5_stone 157 = .ok (.invokevirtual 139, 3) := by decide +kernel
theorem dX5_stone_160 : decode cX5_stone 160 = .ok (.ifCond .eq 7, 3) := by decide +kernel
theorem dX5_stone_163 : decode cX5_stone 163 = .ok (.iconst 1, 1) := by decide +kernel
theorem dX5_stone_164 : decode cX5_stone 164 = .ok (.goto 4, 3) := by decide +kernel
theorem dX5_stone_167 : decode cX5_stone 167 = .ok (.iconst 0, 1) := by decide +kernel
theorem dX5_stone_168 : decode cX5_stone 168 = .ok (.ireturn, 1) := by decide +kernel
theorem dX5_stone_169 : decode cX5_stone 169 = .ok (.aload_n 0, 1) := by decide +kernel
theorem dX5_stone_170 : decode cX5_stone 170 = .ok (.getfield 28, 3) := by decide +kernel
theorem dX5_stone_173 : decode cX5_stone 173 = .ok (.getfield 48, 3) := by decide +kernel
theorem dX5_stone_176 : decode cX5_stone 176 = .ok (.ifCond .eq 15, 3) := by decide +kernel
theorem dX5_stone_179 : decode cX5_stone 179 = .ok (.aload_n 0, 1) := by decide +kernel
theorem dX5_stone_180 : decode cX5_stone 180 = .ok (.getfield 28, 3) := by decide +kernel
theorem dX5_stone_183 : decode cX5_stone 183 = .ok (.getfield 142, 3) := by decide +kernel
theorem dX5_stone_186 : decode cX5_stone 186 = .ok (.iload_n 1, 1) := by decide +kernel
theorem dX5_stone_187 : decode cX5_stone 187 = .ok (.iaload, 1) := by decide +kernel
theorem dX5_stone_188 : decode cX5_stone 188 = .ok (.goto 4, 3) := by decide +kernel
theorem dX5_stone_191 : decode cX5_stone 191 = .ok (.iconst (-1), 1) := by decide +kernel
theorem dX5_stone_192 : decode cX5_stone 192 = .ok (.ireturn, 1) := by decide +kernel
theorem dX5_stone_193 : decode cX5_stone 193 = .ok (.new 145, 3) := by decide +kernel
theorem dX5_stone_196 : decode cX5_stone 196 = .ok (.dup, 1) := by decide +kernel
theorem dX5_stone_197 : decode cX5_stone 197 = .ok (.ldc 147, 2) := by decide +kernel
theorem dX5_stone_199 : decode cX5_stone 199 = .ok (.invokespecial 149, 3) := by decide +kernel
theorem dX5_stone_202 : decode cX5_stone 202 = .ok (.athrow, 1) := by decide +kernel
set_option maxRecDepth 20000 in
theorem ggX5_over_X1_end : GoodIn wsX5_over wsX1_end := goodIn_r _ [9, 10, 11, 12, 13, 19, 20, 21, 22, 23, 24, 25, 26, 27, 28, 29, 30, 31, 32, 33, 34, 35, 36, 37] (by decide +kernel) (by decide +kernel)
set_option maxRecDepth 20000 in
theorem gX5_over_X1_end : GoodIn wsX5_over (wsV RX5 150 RX1 yX1_end wsX1_end) := goodIn_app (goodIn_of _ (by decide +kernel)) ggX5_over_X1_end
theorem dX5_over_0 : decode cX5_over 0 = .ok (.iconst 0, 1) := by decide +kernel
theorem dX5_over_1 : decode cX5_over 1 = .ok (.istore_n 3, 1) := by decide +kernel
theorem dX5_over_2 : decode cX5_over 2 = .ok (.iload_n 3, 1) := by decide +kernel
theorem dX5_over_3 : decode cX5_over 3 = .ok (.aload_n 0, 1) := by decide +kernel
theorem dX5_over_4 : decode cX5_over 4 = .ok (.getfield 28, 3) := by decide +kernel
theorem dX5_over_7 : decode cX5_over 7 = .ok (.getfield 111, 3) := by decide +kernel
theorem dX5_over_10 : decode cX5_over 10 = .ok (.if_icmp .ge 49, 3) := by decide +kernel
theorem dX5_over_13 : decode cX5_over 13 = .ok (.aload_n 0, 1) := by decide +kernel
theorem dX5_over_14 : decode cX5_over 14 = .ok (.getfield 28, 3) := by decide +kernel
theorem dX5_over_17 : decode cX5_over 17 = .ok (.getfield 124, 3) := by decide +kernel
theorem dX5_over_20 : decode cX5_over 20 = .ok (.iload_n 3, 1) := by decide +kernel
theorem dX5_over_21 : decode cX5_over 21 = .ok (.iaload, 1) := by decide +kernel
theorem dX5_over_22 : decode cX5_over 22 = .ok (.iload_n 1, 1) := by decide +kernel
theorem dX5_over_23 : decode cX5_over 23 = .ok (.if_icmp .ne 30, 3) := by decide +kernel
theorem dX5_over_26 : decode cX5_over 26 = .ok (.iload_n 2, 1) := by decide +kernel
theorem dX5_over_27 : decode cX5_over 27 = .ok (.aload_n 0, 1) := by decide +kernel
theorem dX5_over_28 : decode cX5_over 28 = .ok (.getfield 28, 3) := by decide +kernel
theorem dX5_over_31 : decode cX5_over 31 = .ok (.getfield 126, 3) := by decide +kernel
theorem dX5_over_34 : decode cX5_over 34 = .ok (.iload_n 3, 1) := by decide +kernel
theorem dX5_over_35 : decode cX5_over 35 = .ok (.iaload, 1) := by decide +kernel
theorem dX5_over_36 : decode cX5_over 36 = .ok (.if_icmp .lt 17, 3) := by decide +kernel
theorem dX5_over_39 : decode cX5_over 39 = .ok (.iload_n 2, 1) := by decide +kernel
theorem dX5_over_40 : decode cX5_over 40 = .ok (.aload_n 0, 1) := by decide +kernel
theorem dX5_over_41 : decode cX5_over 41 = .ok (.getfield 28, 3) := by decide +kernel
theorem dX5_over_44 : decode cX5_over 44 = .ok (.iload_n 3, 1) := by decide +kernel
theorem dX5_over_45 : decode cX5_over 45 = .ok (.invokevirtual 150, 3) := by decide +kernel
theorem dX5_over_48 : decode cX5_over 48 = .ok (.if_icmp .ge 5, 3) := by decide +kernel
theorem dX5_over_51 : decode cX5_over 51 = .ok (.iload_n 3, 1) := by decide +kernel
theorem dX5_over_52 : decode cX5_over 52 = .ok (.ireturn, 1) := by decide +kernel
theorem dX5_over_53 : decode cX5_over 53 = .ok (.iinc 3 1, 3) := by decide +kernel
theorem dX5_over_56 : decode cX5_over 56 = .ok (.goto (-54), 3) := by decide +kernel
theorem dX5_over_59 : decode cX5_over 59 = .ok (.iconst (-1), 1) := by decide +kernel
theorem dX5_over_60 : decode cX5_over 60 = .ok (.ireturn, 1) := by decide +kernel
set_option maxRecDepth 20000 in
theorem ggX5_least_X0_leastToil : GoodIn wsX5_least wsX0_leastToil := goodIn_r _ [9, 10, 11, 12, 13, 14, 8, 15, 16, 17, 18, 19, 20, 21, 22, 23, 24, 25, 26, 27, 28, 29, 30, 31, 32, 33, 34, 35, 36, 37, 38, 39, 40, 41, 42, 43, 44, 45, 46, 47, 48, 49, 50, 51, 52, 53, 54, 55, 56, 57, 58, 59, 60, 61, 62, 63, 64, 65, 66, 67, 68, 69, 70, 71, 72, 73, 74, 75, 76, 77, 78, 79, 97, 98, 99, 100, 101, 102, 103, 104, 105, 106, 107, 108, 109, 110, 111, 112, 113, 85, 86, 87, 88, 89, 90, 91, 92, 93, 94, 95, 96, 114, 115, 116, 117, 118, 119, 120, 121, 122] (by decide +kernel) (by decide +kernel)
set_option maxRecDepth 20000 in
theorem gX5_least_X0_leastToil : GoodIn wsX5_least (wsV RX5 155 RX0 yX0_leastToil wsX0_leastToil) := goodIn_app (goodIn_of _ (by decide +kernel)) ggX5_least_X0_leastToil
theorem dX5_least_0 : decode cX5_least 0 = .ok (.aload_n 0, 1) := by decide +kernel
theorem dX5_least_1 : decode cX5_least 1 = .ok (.getfield 28, 3) := by decide +kernel
theorem dX5_least_4 : decode cX5_least 4 = .ok (.getfield 111, 3) := by decide +kernel
theorem dX5_least_7 : decode cX5_least 7 = .ok (.ifCond .ne 9, 3) := by decide +kernel
theorem dX5_least_10 : decode cX5_least 10 = .ok (.ldc2_w 153, 3) := by decide +kernel
theorem dX5_least_13 : decode cX5_least 13 = .ok (.goto 10, 3) := by decide +kernel
theorem dX5_least_16 : decode cX5_least 16 = .ok (.aload_n 0, 1) := by decide +kernel
theorem dX5_least_17 : decode cX5_least 17 = .ok (.getfield 44, 3) := by decide +kernel
theorem dX5_least_20 : decode cX5_least 20 = .ok (.invokevirtual 155, 3) := by decide +kernel
theorem dX5_least_23 : decode cX5_least 23 = .ok (.lreturn, 1) := by decide +kernel
set_option maxRecDepth 20000 in
theorem ggX5_saved_X4_hasHeap : GoodIn wsX5_saved wsX4_hasHeap := goodIn_r _ [10, 11, 108, 109, 110, 111, 112, 113, 114] (by decide +kernel) (by decide +kernel)
set_option maxRecDepth 20000 in
theorem gX5_saved_X4_hasHeap : GoodIn wsX5_saved (wsV RX5 77 RX4 yX4_hasHeap wsX4_hasHeap) := goodIn_app (goodIn_of _ (by decide +kernel)) ggX5_saved_X4_hasHeap
set_option maxRecDepth 20000 in
theorem ggX5_saved_X4_hasKind : GoodIn wsX5_saved wsX4_hasKind := goodIn_r _ [15, 16, 108, 109, 110, 111, 112, 113, 114] (by decide +kernel) (by decide +kernel)
set_option maxRecDepth 20000 in
theorem gX5_saved_X4_hasKind : GoodIn wsX5_saved (wsV RX5 81 RX4 yX4_hasKind wsX4_hasKind) := goodIn_app (goodIn_of _ (by decide +kernel)) ggX5_saved_X4_hasKind
set_option maxRecDepth 20000 in
theorem ggX5_saved_X0_toilSaved : GoodIn wsX5_saved wsX0_toilSaved := goodIn_r _ [21, 22, 23, 24, 20, 25, 26, 27, 28, 29, 30, 31, 32, 33, 34, 35, 36, 37, 38, 39, 40, 41, 42, 43, 44, 45, 46, 47, 48, 49, 50, 51, 52, 53, 54, 55, 56, 57, 58, 59, 60, 61, 62, 63, 64, 65, 66, 67, 68, 69, 70, 71, 72, 73, 74, 75, 76, 77, 78, 79, 80, 81, 82, 83, 84, 85, 86, 87, 88, 89, 90, 115, 116, 117, 118, 119, 120, 121, 122, 123, 124, 108, 109, 110, 111, 112, 113, 114, 96, 97, 98, 99, 100, 101, 102, 103, 104, 105, 106, 107, 125, 126, 127, 128, 129, 130, 131, 132, 133] (by decide +kernel) (by decide +kernel)
set_option maxRecDepth 20000 in
theorem gX5_saved_X0_toilSaved : GoodIn wsX5_saved (wsV RX5 159 RX0 yX0_toilSaved wsX0_toilSaved) := goodIn_app (goodIn_of _ (by decide +kernel)) ggX5_saved_X0_toilSaved
theorem dX5_saved_0 : decode cX5_saved 0 = .ok (.aload_n 0, 1) := by decide +kernel
theorem dX5_saved_1 : decode cX5_saved 1 = .ok (.getfield 28, 3) := by decide +kernel
theorem dX5_saved_4 : decode cX5_saved 4 = .ok (.getfield 111, 3) := by decide +kernel
theorem dX5_saved_7 : decode cX5_saved 7 = .ok (.ifCond .eq 25, 3) := by decide +kernel
theorem dX5_saved_10 : decode cX5_saved 10 = .ok (.aload_n 0, 1) := by decide +kernel
theorem dX5_saved_11 : decode cX5_saved 11 = .ok (.getfield 12, 3) := by decide +kernel
theorem dX5_saved_14 : decode cX5_saved 14 = .ok (.iload_n 1, 1) := by decide +kernel
theorem dX5_saved_15 : decode cX5_saved 15 = .ok (.invokevirtual 77, 3) := by decide +kernel
theorem dX5_saved_18 : decode cX5_saved 18 = .ok (.ifCond .eq 14, 3) := by decide +kernel
theorem dX5_saved_21 : decode cX5_saved 21 = .ok (.aload_n 0, 1) := by decide +kernel
theorem dX5_saved_22 : decode cX5_saved 22 = .ok (.getfield 12, 3) := by decide +kernel
theorem dX5_saved_25 : decode cX5_saved 25 = .ok (.iload_n 2, 1) := by decide +kernel
theorem dX5_saved_26 : decode cX5_saved 26 = .ok (.invokevirtual 81, 3) := by decide +kernel
theorem dX5_saved_29 : decode cX5_saved 29 = .ok (.ifCond .ne 7, 3) := by decide +kernel
theorem dX5_saved_32 : decode cX5_saved 32 = .ok (.ldc2_w 153, 3) := by decide +kernel
theorem dX5_saved_35 : decode cX5_saved 35 = .ok (.lreturn, 1) := by decide +kernel
theorem dX5_saved_36 : decode cX5_saved 36 = .ok (.aload_n 0, 1) := by decide +kernel
theorem dX5_saved_37 : decode cX5_saved 37 = .ok (.getfield 44, 3) := by decide +kernel
theorem dX5_saved_40 : decode cX5_saved 40 = .ok (.iload_n 1, 1) := by decide +kernel
theorem dX5_saved_41 : decode cX5_saved 41 = .ok (.iload_n 2, 1) := by decide +kernel
theorem dX5_saved_42 : decode cX5_saved 42 = .ok (.invokevirtual 159, 3) := by decide +kernel
theorem dX5_saved_45 : decode cX5_saved 45 = .ok (.lreturn, 1) := by decide +kernel
set_option maxRecDepth 20000 in
theorem ggX5_build_X0_carryAll : GoodIn wsX5_build wsX0_carryAll := goodIn_r _ [10, 11, 12, 13, 14, 15, 16, 17, 18, 19, 20, 9, 21, 22, 23, 24, 25, 26, 27, 28, 29, 30, 31, 32, 33, 34, 35, 36, 37, 38, 39, 40, 41, 72, 73, 74, 75, 76, 77, 78, 79, 80, 81, 60, 61, 62, 63, 64, 65, 66, 67, 68, 69, 70, 71, 82, 83, 84, 85, 86, 87, 88, 89, 90, 91, 92, 93, 94, 95, 96, 97] (by decide +kernel) (by decide +kernel)
set_option maxRecDepth 20000 in
theorem gX5_build_X0_carryAll : GoodIn wsX5_build (wsV RX5 163 RX0 yX0_carryAll wsX0_carryAll) := goodIn_app (goodIn_of _ (by decide +kernel)) ggX5_build_X0_carryAll
set_option maxRecDepth 20000 in
theorem ggX5_build_X1_raise : GoodIn wsX5_build wsX1_raise := goodIn_r _ [46, 47, 48, 49, 50, 51, 52, 45, 53, 54, 60, 61, 62, 63, 64, 65, 66, 67, 68, 69, 70, 71] (by decide +kernel) (by decide +kernel)
set_option maxRecDepth 20000 in
theorem gX5_build_X1_raise : GoodIn wsX5_build (wsV RX5 166 RX1 yX1_raise wsX1_raise) := goodIn_app (goodIn_of _ (by decide +kernel)) ggX5_build_X1_raise
theorem dX5_build_0 : decode cX5_build 0 = .ok (.aload_n 0, 1) := by decide +kernel
theorem dX5_build_1 : decode cX5_build 1 = .ok (.getfield 28, 3) := by decide +kernel
theorem dX5_build_4 : decode cX5_build 4 = .ok (.getfield 111, 3) := by decide +kernel
theorem dX5_build_7 : decode cX5_build 7 = .ok (.ifCond .eq 13, 3) := by decide +kernel
theorem dX5_build_10 : decode cX5_build 10 = .ok (.aload_n 0, 1) := by decide +kernel
theorem dX5_build_11 : decode cX5_build 11 = .ok (.getfield 28, 3) := by decide +kernel
theorem dX5_build_14 : decode cX5_build 14 = .ok (.getfield 48, 3) := by decide +kernel
theorem dX5_build_17 : decode cX5_build 17 = .ok (.ifCond .eq 7, 3) := by decide +kernel
theorem dX5_build_20 : decode cX5_build 20 = .ok (.ldc2_w 153, 3) := by decide +kernel
theorem dX5_build_23 : decode cX5_build 23 = .ok (.lreturn, 1) := by decide +kernel
theorem dX5_build_24 : decode cX5_build 24 = .ok (.aload_n 0, 1) := by decide +kernel
theorem dX5_build_25 : decode cX5_build 25 = .ok (.getfield 44, 3) := by decide +kernel
theorem dX5_build_28 : decode cX5_build 28 = .ok (.invokevirtual 163, 3) := by decide +kernel
theorem dX5_build_31 : decode cX5_build 31 = .ok (.lstore_n 1, 1) := by decide +kernel
theorem dX5_build_32 : decode cX5_build 32 = .ok (.aload_n 0, 1) := by decide +kernel
theorem dX5_build_33 : decode cX5_build 33 = .ok (.getfield 28, 3) := by decide +kernel
theorem dX5_build_36 : decode cX5_build 36 = .ok (.invokevirtual 166, 3) := by decide +kernel
theorem dX5_build_39 : decode cX5_build 39 = .ok (.lload_n 1, 1) := by decide +kernel
theorem dX5_build_40 : decode cX5_build 40 = .ok (.lreturn, 1) := by decide +kernel
set_option maxRecDepth 20000 in
theorem ggX5_frost_X5_within : GoodIn wsX5_frost wsX5_within := goodIn_r _ [7] (by decide +kernel) (by decide +kernel)
set_option maxRecDepth 20000 in
theorem gX5_frost_X5_within : GoodIn wsX5_frost (va_wsS RX5 56 yX5_within wsX5_within) := goodIn_app (goodIn_of _ (by decide +kernel)) ggX5_frost_X5_within
set_option maxRecDepth 20000 in
theorem ggX5_frost_X1_loosen : GoodIn wsX5_frost wsX1_loosen := goodIn_r _ [12, 13, 14, 15, 16, 17, 18, 19, 20, 21, 22, 11, 23, 24, 62, 63, 64, 65, 66, 67, 68, 69, 70, 71, 72, 73] (by decide +kernel) (by decide +kernel)
set_option maxRecDepth 20000 in
theorem gX5_frost_X1_loosen : GoodIn wsX5_frost (wsV RX5 172 RX1 yX1_loosen wsX1_loosen) := goodIn_app (goodIn_of _ (by decide +kernel)) ggX5_frost_X1_loosen
set_option maxRecDepth 20000 in
theorem ggX5_frost_X1_letSlip : GoodIn wsX5_frost wsX1_letSlip := goodIn_r _ [28, 29, 13, 14, 15, 24, 30, 31, 32, 33, 34, 35, 36, 11, 37, 38, 39, 40, 41, 42, 43, 44, 45, 46, 47, 48, 49, 50, 51, 52, 53, 54, 55, 56, 62, 63, 64, 65, 66, 67, 68, 69, 70, 71, 72, 73, 74, 75, 76, 77, 78, 79, 80] (by decide +kernel) (by decide +kernel)
set_option maxRecDepth 20000 in
theorem gX5_frost_X1_letSlip : GoodIn wsX5_frost (wsV RX5 176 RX1 yX1_letSlip wsX1_letSlip) := goodIn_app (goodIn_of _ (by decide +kernel)) ggX5_frost_X1_letSlip
theorem dX5_frost_0 : decode cX5_frost 0 = .ok (.aload_n 0, 1) := by decide +kernel
theorem dX5_frost_1 : decode cX5_frost 1 = .ok (.getfield 28, 3) := by decide +kernel
theorem dX5_frost_4 : decode cX5_frost 4 = .ok (.getfield 48, 3) := by decide +kernel
theorem dX5_frost_7 : decode cX5_frost 7 = .ok (.ifCond .eq 13, 3) := by decide +kernel
theorem dX5_frost_10 : decode cX5_frost 10 = .ok (.iload_n 1, 1) := by decide +kernel
theorem dX5_frost_11 : decode cX5_frost 11 = .ok (.iconst 0, 1) := by decide +kernel
theorem dX5_frost_12 : decode cX5_frost 12 = .ok (.bipush 50, 2) := by decide +kernel
theorem dX5_frost_14 : decode cX5_frost 14 = .ok (.invokestatic 56, 3) := by decide +kernel
theorem dX5_frost_17 : decode cX5_frost 17 = .ok (.ifCond .ne 5, 3) := by decide +kernel
theorem dX5_frost_20 : decode cX5_frost 20 = .ok (.iconst (-1), 1) := by decide +kernel
theorem dX5_frost_21 : decode cX5_frost 21 = .ok (.ireturn, 1) := by decide +kernel
theorem dX5_frost_22 : decode cX5_frost 22 = .ok (.aload_n 0, 1) := by decide +kernel
theorem dX5_frost_23 : decode cX5_frost 23 = .ok (.getfield 28, 3) := by decide +kernel
theorem dX5_frost_26 : decode cX5_frost 26 = .ok (.dup, 1) := by decide +kernel
theorem dX5_frost_27 : decode cX5_frost 27 = .ok (.getfield 169, 3) := by decide +kernel
theorem dX5_frost_30 : decode cX5_frost 30 = .ok (.iconst 1, 1) := by decide +kernel
theorem dX5_frost_31 : decode cX5_frost 31 = .ok (.iadd, 1) := by decide +kernel
theorem dX5_frost_32 : decode cX5_frost 32 = .ok (.putfield 169, 3) := by decide +kernel
theorem dX5_frost_35 : decode cX5_frost 35 = .ok (.aload_n 0, 1) := by decide +kernel
theorem dX5_frost_36 : decode cX5_frost 36 = .ok (.getfield 28, 3) := by decide +kernel
theorem dX5_frost_39 : decode cX5_frost 39 = .ok (.iload_n 1, 1) := by decide +kernel
theorem dX5_frost_40 : decode cX5_frost 40 = .ok (.invokevirtual 172, 3) := by decide +kernel
theorem dX5_frost_43 : decode cX5_frost 43 = .ok (.aload_n 0, 1) := by decide +kernel
theorem dX5_frost_44 : decode cX5_frost 44 = .ok (.getfield 28, 3) := by decide +kernel
theorem dX5_frost_47 : decode cX5_frost 47 = .ok (.invokevirtual 176, 3) := by decide +kernel
theorem dX5_frost_50 : decode cX5_frost 50 = .ok (.ireturn, 1) := by decide +kernel
set_option maxRecDepth 20000 in
theorem ggX5_mend_X1_layAnew : GoodIn wsX5_mend wsX1_layAnew := goodIn_r _ [7, 8, 9, 10, 16, 17, 18, 19, 20, 21, 22, 23, 24, 25, 26, 27] (by decide +kernel) (by decide +kernel)
set_option maxRecDepth 20000 in
theorem gX5_mend_X1_layAnew : GoodIn wsX5_mend (wsV RX5 179 RX1 yX1_layAnew wsX1_layAnew) := goodIn_app (goodIn_of _ (by decide +kernel)) ggX5_mend_X1_layAnew
theorem dX5_mend_0 : decode cX5_mend 0 = .ok (.aload_n 0, 1) := by decide +kernel
theorem dX5_mend_1 : decode cX5_mend 1 = .ok (.getfield 28, 3) := by decide +kernel
theorem dX5_mend_4 : decode cX5_mend 4 = .ok (.getfield 48, 3) := by decide +kernel
theorem dX5_mend_7 : decode cX5_mend 7 = .ok (.ifCond .eq 13, 3) := by decide +kernel
theorem dX5_mend_10 : decode cX5_mend 10 = .ok (.aload_n 0, 1) := by decide +kernel
theorem dX5_mend_11 : decode cX5_mend 11 = .ok (.getfield 28, 3) := by decide +kernel
theorem dX5_mend_14 : decode cX5_mend 14 = .ok (.invokevirtual 179, 3) := by decide +kernel
theorem dX5_mend_17 : decode cX5_mend 17 = .ok (.goto 4, 3) := by decide +kernel
theorem dX5_mend_20 : decode cX5_mend 20 = .ok (.iconst (-1), 1) := by decide +kernel
theorem dX5_mend_21 : decode cX5_mend 21 = .ok (.ireturn, 1) := by decide +kernel
set_option maxRecDepth 20000 in
theorem ggX5_take_X4_hasHeap : GoodIn wsX5_take wsX4_hasHeap := goodIn_r _ [11, 12, 43, 44, 45, 46, 47, 48, 49] (by decide +kernel) (by decide +kernel)
set_option maxRecDepth 20000 in
theorem gX5_take_X4_hasHeap : GoodIn wsX5_take (wsV RX5 77 RX4 yX4_hasHeap wsX4_hasHeap) := goodIn_app (goodIn_of _ (by decide +kernel)) ggX5_take_X4_hasHeap
set_option maxRecDepth 20000 in
theorem ggX5_take_X1_number : GoodIn wsX5_take wsX1_number := goodIn_r _ [17, 18, 19, 31, 32, 33, 34, 35, 36, 37, 38, 39, 40, 41, 42] (by decide +kernel) (by decide +kernel)
set_option maxRecDepth 20000 in
theorem gX5_take_X1_number : GoodIn wsX5_take (wsV RX5 182 RX1 yX1_number wsX1_number) := goodIn_app (goodIn_of _ (by decide +kernel)) ggX5_take_X1_number
set_option maxRecDepth 20000 in
theorem ggX5_take_X1_forget : GoodIn wsX5_take wsX1_forget := goodIn_r _ [23, 18, 24, 25, 31, 32, 33, 34, 35, 36, 37, 38, 39, 40, 41, 42] (by decide +kernel) (by decide +kernel)
set_option maxRecDepth 20000 in
theorem gX5_take_X1_forget : GoodIn wsX5_take (wsV RX5 60 RX1 yX1_forget wsX1_forget) := goodIn_app (goodIn_of _ (by decide +kernel)) ggX5_take_X1_forget
theorem dX5_take_0 : decode cX5_take 0 = .ok (.aload_n 0, 1) := by decide +kernel
theorem dX5_take_1 : decode cX5_take 1 = .ok (.getfield 28, 3) := by decide +kernel
theorem dX5_take_4 : decode cX5_take 4 = .ok (.getfield 48, 3) := by decide +kernel
theorem dX5_take_7 : decode cX5_take 7 = .ok (.ifCond .eq 14, 3) := by decide +kernel
theorem dX5_take_10 : decode cX5_take 10 = .ok (.aload_n 0, 1) := by decide +kernel
theorem dX5_take_11 : decode cX5_take 11 = .ok (.getfield 12, 3) := by decide +kernel
theorem dX5_take_14 : decode cX5_take 14 = .ok (.iload_n 1, 1) := by decide +kernel
theorem dX5_take_15 : decode cX5_take 15 = .ok (.invokevirtual 77, 3) := by decide +kernel
theorem dX5_take_18 : decode cX5_take 18 = .ok (.ifCond .ne 5, 3) := by decide +kernel
theorem dX5_take_21 : decode cX5_take 21 = .ok (.iconst (-1), 1) := by decide +kernel
theorem dX5_take_22 : decode cX5_take 22 = .ok (.ireturn, 1) := by decide +kernel
theorem dX5_take_23 : decode cX5_take 23 = .ok (.iconst 0, 1) := by decide +kernel
theorem dX5_take_24 : decode cX5_take 24 = .ok (.istore_n 2, 1) := by decide +kernel
theorem dX5_take_25 : decode cX5_take 25 = .ok (.iload_n 2, 1) := by decide +kernel
theorem dX5_take_26 : decode cX5_take 26 = .ok (.aload_n 0, 1) := by decide +kernel
theorem dX5_take_27 : decode cX5_take 27 = .ok (.getfield 12, 3) := by decide +kernel
theorem dX5_take_30 : decode cX5_take 30 = .ok (.getfield 52, 3) := by decide +kernel
theorem dX5_take_33 : decode cX5_take 33 = .ok (.if_icmp .ge 36, 3) := by decide +kernel
theorem dX5_take_36 : decode cX5_take 36 = .ok (.aload_n 0, 1) := by decide +kernel
theorem dX5_take_37 : decode cX5_take 37 = .ok (.getfield 12, 3) := by decide +kernel
theorem dX5_take_40 : decode cX5_take 40 = .ok (.getfield 84, 3) := by decide +kernel
theorem dX5_take_43 : decode cX5_take 43 = .ok (.iload_n 1, 1) := by decide +kernel
theorem dX5_take_44 : decode cX5_take 44 = .ok (.aaload, 1) := by decide +kernel
theorem dX5_take_45 : decode cX5_take 45 = .ok (.iload_n 2, 1) := by decide +kernel
theorem dX5_take_46 : decode cX5_take 46 = .ok (.iaload, 1) := by decide +kernel
theorem dX5_take_47 : decode cX5_take 47 = .ok (.aload_n 0, 1) := by decide +kernel
theorem dX5_take_48 : decode cX5_take 48 = .ok (.getfield 28, 3) := by decide +kernel
theorem dX5_take_51 : decode cX5_take 51 = .ok (.iload_n 2, 1) := by decide +kernel
theorem dX5_take_52 : decode cX5_take 52 = .ok (.invokevirtual 182, 3) := by decide +kernel
theorem dX5_take_55 : decode cX5_take 55 = .ok (.iadd, 1) := by decide +kernel
theorem dX5_take_56 : decode cX5_take 56 = .ok (.bipush 60, 2) := by decide +kernel
theorem dX5_take_58 : decode cX5_take 58 = .ok (.if_icmp .le 5, 3) := by decide +kernel
theorem dX5_take_61 : decode cX5_take 61 = .ok (.iconst (-1), 1) := by decide +kernel
theorem dX5_take_62 : decode cX5_take 62 = .ok (.ireturn, 1) := by decide +kernel
theorem dX5_take_63 : decode cX5_take 63 = .ok (.iinc 2 1, 3) := by decide +kernel
theorem dX5_take_66 : decode cX5_take 66 = .ok (.goto (-41), 3) := by decide +kernel
theorem dX5_take_69 : decode cX5_take 69 = .ok (.iconst 0, 1) := by decide +kernel
theorem dX5_take_70 : decode cX5_take 70 = .ok (.istore_n 2, 1) := by decide +kernel
theorem dX5_take_71 : decode cX5_take 71 = .ok (.iload_n 2, 1) := by decide +kernel
theorem dX5_take_72 : decode cX5_take 72 = .ok (.aload_n 0, 1) := by decide +kernel
theorem dX5_take_73 : decode cX5_take 73 = .ok (.getfield 12, 3) := by decide +kernel
theorem dX5_take_76 : decode cX5_take 76 = .ok (.getfield 52, 3) := by decide +kernel
theorem dX5_take_79 : decode cX5_take 79 = .ok (.if_icmp .ge 31, 3) := by decide +kernel
theorem dX5_take_82 : decode cX5_take 82 = .ok (.aload_n 0, 1) := by decide +kernel
theorem dX5_take_83 : decode cX5_take 83 = .ok (.getfield 12, 3) := by decide +kernel
theorem dX5_take_86 : decode cX5_take 86 = .ok (.getfield 84, 3) := by decide +kernel
theorem dX5_take_89 : decode cX5_take 89 = .ok (.iload_n 1, 1) := by decide +kernel
theorem dX5_take_90 : decode cX5_take 90 = .ok (.aaload, 1) := by decide +kernel
theorem dX5_take_91 : decode cX5_take 91 = .ok (.iload_n 2, 1) := by decide +kernel
theorem dX5_take_92 : decode cX5_take 92 = .ok (.dup2, 1) := by decide +kernel
theorem dX5_take_93 : decode cX5_take 93 = .ok (.iaload, 1) := by decide +kernel
theorem dX5_take_94 : decode cX5_take 94 = .ok (.aload_n 0, 1) := by decide +kernel
theorem dX5_take_95 : decode cX5_take 95 = .ok (.getfield 28, 3) := by decide +kernel
theorem dX5_take_98 : decode cX5_take 98 = .ok (.iload_n 2, 1) := by decide +kernel
theorem dX5_take_99 : decode cX5_take 99 = .ok (.invokevirtual 182, 3) := by decide +kernel
theorem dX5_take_102 : decode cX5_take 102 = .ok (.iadd, 1) := by decide +kernel
theorem dX5_take_103 : decode cX5_take 103 = .ok (.iastore, 1) := by decide +kernel
theorem dX5_take_104 : decode cX5_take 104 = .ok (.iinc 2 1, 3) := by decide +kernel
theorem dX5_take_107 : decode cX5_take 107 = .ok (.goto (-36), 3) := by decide +kernel
theorem dX5_take_110 : decode cX5_take 110 = .ok (.aload_n 0, 1) := by decide +kernel
theorem dX5_take_111 : decode cX5_take 111 = .ok (.getfield 28, 3) := by decide +kernel
theorem dX5_take_114 : decode cX5_take 114 = .ok (.getfield 111, 3) := by decide +kernel
theorem dX5_take_117 : decode cX5_take 117 = .ok (.istore_n 2, 1) := by decide +kernel
theorem dX5_take_118 : decode cX5_take 118 = .ok (.aload_n 0, 1) := by decide +kernel
theorem dX5_take_119 : decode cX5_take 119 = .ok (.getfield 28, 3) := by decide +kernel
theorem dX5_take_122 : decode cX5_take 122 = .ok (.invokevirtual 60, 3) := by decide +kernel
theorem dX5_take_125 : decode cX5_take 125 = .ok (.iload_n 2, 1) := by decide +kernel
theorem dX5_take_126 : decode cX5_take 126 = .ok (.ireturn, 1) := by decide +kernel
set_option maxRecDepth 20000 in
theorem ggX5_count_X4_hasKind : GoodIn wsX5_count wsX4_hasKind := goodIn_r _ [9, 10, 49, 50, 51, 52, 53, 54, 55] (by decide +kernel) (by decide +kernel)
set_option maxRecDepth 20000 in
theorem gX5_count_X4_hasKind : GoodIn wsX5_count (wsV RX5 81 RX4 yX4_hasKind wsX4_hasKind) := goodIn_app (goodIn_of _ (by decide +kernel)) ggX5_count_X4_hasKind
set_option maxRecDepth 20000 in
theorem ggX5_count_X4_hasHeap : GoodIn wsX5_count wsX4_hasHeap := goodIn_r _ [14, 15, 49, 50, 51, 52, 53, 54, 55] (by decide +kernel) (by decide +kernel)
set_option maxRecDepth 20000 in
theorem gX5_count_X4_hasHeap : GoodIn wsX5_count (wsV RX5 77 RX4 yX4_hasHeap wsX4_hasHeap) := goodIn_app (goodIn_of _ (by decide +kernel)) ggX5_count_X4_hasHeap
set_option maxRecDepth 20000 in
theorem ggX5_count_X1_numberStanding : GoodIn wsX5_count wsX1_numberStanding := goodIn_r _ [20, 21, 22, 23, 24, 25, 19, 26, 27, 28, 56, 57, 58, 59, 60, 61, 62, 63, 64, 65, 66, 67] (by decide +kernel) (by decide +kernel)
set_option maxRecDepth 20000 in
theorem gX5_count_X1_numberStanding : GoodIn wsX5_count (wsV RX5 185 RX1 yX1_numberStanding wsX1_numberStanding) := goodIn_app (goodIn_of _ (by decide +kernel)) ggX5_count_X1_numberStanding
set_option maxRecDepth 20000 in
theorem ggX5_count_X1_numberAtFoot : GoodIn wsX5_count wsX1_numberAtFoot := goodIn_r _ [32, 27, 33, 34, 35, 19, 36, 21, 22, 37, 17, 18, 20, 23, 24, 25, 26, 28, 56, 57, 58, 59, 60, 61, 62, 63, 64, 65, 66, 67] (by decide +kernel) (by decide +kernel)
set_option maxRecDepth 20000 in
theorem gX5_count_X1_numberAtFoot : GoodIn wsX5_count (wsV RX5 188 RX1 yX1_numberAtFoot wsX1_numberAtFoot) := goodIn_app (goodIn_of _ (by decide +kernel)) ggX5_count_X1_numberAtFoot
set_option maxRecDepth 20000 in
theorem ggX5_count_X4_inHeaps : GoodIn wsX5_count wsX4_inHeaps := goodIn_r _ [41, 15, 42, 49, 50, 51, 52, 53, 54, 55] (by decide +kernel) (by decide +kernel)
set_option maxRecDepth 20000 in
theorem gX5_count_X4_inHeaps : GoodIn wsX5_count (wsV RX5 191 RX4 yX4_inHeaps wsX4_inHeaps) := goodIn_app (goodIn_of _ (by decide +kernel)) ggX5_count_X4_inHeaps
set_option maxRecDepth 20000 in
theorem ggX5_count_X1_number : GoodIn wsX5_count wsX1_number := goodIn_r _ [36, 21, 22, 56, 57, 58, 59, 60, 61, 62, 63, 64, 65, 66, 67] (by decide +kernel) (by decide +kernel)
set_option maxRecDepth 20000 in
theorem gX5_count_X1_number : GoodIn wsX5_count (wsV RX5 182 RX1 yX1_number wsX1_number) := goodIn_app (goodIn_of _ (by decide +kernel)) ggX5_count_X1_number
theorem dX5_count_0 : decode cX5_count 0 = .ok (.aload_n 0, 1) := by decide +kernel
theorem dX5_count_1 : decode cX5_count 1 = .ok (.getfield 12, 3) := by decide +kernel
theorem dX5_count_4 : decode cX5_count 4 = .ok (.iload_n 2, 1) := by decide +kernel
theorem dX5_count_5 : decode cX5_count 5 = .ok (.invokevirtual 81, 3) := by decide +kernel
theorem dX5_count_8 : decode cX5_count 8 = .ok (.ifCond .ne 5, 3) := by decide +kernel
theorem dX5_count_11 : decode cX5_count 11 = .ok (.iconst (-1), 1) := by decide +kernel
theorem dX5_count_12 : decode cX5_count 12 = .ok (.ireturn, 1) := by decide +kernel
theorem dX5_count_13 : decode cX5_count 13 = .ok (.aload_n 0, 1) := by decide +kernel
theorem dX5_count_14 : decode cX5_count 14 = .ok (.getfield 12, 3) := by decide +kernel
theorem dX5_count_17 : decode cX5_count 17 = .ok (.iload_n 1, 1) := by decide +kernel
theorem dX5_count_18 : decode cX5_count 18 = .ok (.invokevirtual 77, 3) := by decide +kernel
theorem dX5_count_21 : decode cX5_count 21 = .ok (.ifCond .eq 15, 3) := by decide +kernel
theorem dX5_count_24 : decode cX5_count 24 = .ok (.aload_n 0, 1) := by decide +kernel
theorem dX5_count_25 : decode cX5_count 25 = .ok (.getfield 12, 3) := by decide +kernel
theorem dX5_count_28 : decode cX5_count 28 = .ok (.getfield 84, 3) := by decide +kernel
theorem dX5_count_31 : decode cX5_count 31 = .ok (.iload_n 1, 1) := by decide +kernel
theorem dX5_count_32 : decode cX5_count 32 = .ok (.aaload, 1) := by decide +kernel
theorem dX5_count_33 : decode cX5_count 33 = .ok (.iload_n 2, 1) := by decide +kernel
theorem dX5_count_34 : decode cX5_count 34 = .ok (.iaload, 1) := by decide +kernel
theorem dX5_count_35 : decode cX5_count 35 = .ok (.ireturn, 1) := by decide +kernel
theorem dX5_count_36 : decode cX5_count 36 = .ok (.iload_n 1, 1) := by decide +kernel
theorem dX5_count_37 : decode cX5_count 37 = .ok (.tableswitch 77 5 7 #[27, 36, 45], 27) := by decide +kernel
theorem dX5_count_64 : decode cX5_count 64 = .ok (.aload_n 0, 1) := by decide +kernel
theorem dX5_count_65 : decode cX5_count 65 = .ok (.getfield 28, 3) := by decide +kernel
theorem dX5_count_68 : decode cX5_count 68 = .ok (.iload_n 2, 1) := by decide +kernel
theorem dX5_count_69 : decode cX5_count 69 = .ok (.invokevirtual 185, 3) := by decide +kernel
theorem dX5_count_72 : decode cX5_count 72 = .ok (.ireturn, 1) := by decide +kernel
theorem dX5_count_73 : decode cX5_count 73 = .ok (.aload_n 0, 1) := by decide +kernel
theorem dX5_count_74 : decode cX5_count 74 = .ok (.getfield 28, 3) := by decide +kernel
theorem dX5_count_77 : decode cX5_count 77 = .ok (.iload_n 2, 1) := by decide +kernel
theorem dX5_count_78 : decode cX5_count 78 = .ok (.invokevirtual 188, 3) := by decide +kernel
theorem dX5_count_81 : decode cX5_count 81 = .ok (.ireturn, 1) := by decide +kernel
theorem dX5_count_82 : decode cX5_count 82 = .ok (.aload_n 0, 1) := by decide +kernel
theorem dX5_count_83 : decode cX5_count 83 = .ok (.getfield 12, 3) := by decide +kernel
theorem dX5_count_86 : decode cX5_count 86 = .ok (.iload_n 2, 1) := by decide +kernel
theorem dX5_count_87 : decode cX5_count 87 = .ok (.invokevirtual 191, 3) := by decide +kernel
theorem dX5_count_90 : decode cX5_count 90 = .ok (.aload_n 0, 1) := by decide +kernel
theorem dX5_count_91 : decode cX5_count 91 = .ok (.getfield 28, 3) := by decide +kernel
theorem dX5_count_94 : decode cX5_count 94 = .ok (.getfield 48, 3) := by decide +kernel
theorem dX5_count_97 : decode cX5_count 97 = .ok (.ifCond .eq 14, 3) := by decide +kernel
theorem dX5_count_100 : decode cX5_count 100 = .ok (.aload_n 0, 1) := by decide +kernel
theorem dX5_count_101 : decode cX5_count 101 = .ok (.getfield 28, 3) := by decide +kernel
theorem dX5_count_104 : decode cX5_count 104 = .ok (.iload_n 2, 1) := by decide +kernel
theorem dX5_count_105 : decode cX5_count 105 = .ok (.invokevirtual 182, 3) := by decide +kernel
theorem dX5_count_108 : decode cX5_count 108 = .ok (.goto 4, 3) := by decide +kernel
theorem dX5_count_111 : decode cX5_count 111 = .ok (.iconst 0, 1) := by decide +kernel
theorem dX5_count_112 : decode cX5_count 112 = .ok (.iadd, 1) := by decide +kernel
theorem dX5_count_113 : decode cX5_count 113 = .ok (.ireturn, 1) := by decide +kernel
theorem dX5_count_114 : decode cX5_count 114 = .ok (.iconst (-1), 1) := by decide +kernel
theorem dX5_count_115 : decode cX5_count 115 = .ok (.ireturn, 1) := by decide +kernel
set_option maxRecDepth 20000 in
theorem ggX5_look_X1_heartingInAll : GoodIn wsX5_look wsX1_heartingInAll := goodIn_r _ [14, 15, 16, 17, 18, 13, 19, 20, 21, 22, 23, 24, 25, 26, 27, 28, 29, 30, 31, 32, 33, 34, 35, 36, 37, 73, 74, 75, 76, 77, 78, 79, 80, 81, 82, 83, 84, 66, 67, 68, 69, 70, 71, 72, 93, 94, 95, 96, 97, 98, 99, 100, 101] (by decide +kernel) (by decide +kernel)
set_option maxRecDepth 20000 in
theorem gX5_look_X1_heartingInAll : GoodIn wsX5_look (wsV RX5 197 RX1 yX1_heartingInAll wsX1_heartingInAll) := goodIn_app (goodIn_of _ (by decide +kernel)) ggX5_look_X1_heartingInAll
set_option maxRecDepth 20000 in
theorem ggX5_look_X1_allAtFoot : GoodIn wsX5_look wsX1_allAtFoot := goodIn_r _ [41, 21, 42, 43, 44, 45, 13, 46, 47, 48, 49, 50, 51, 15, 20, 52, 53, 54, 55, 56, 57, 58, 59, 60, 73, 74, 75, 76, 77, 78, 79, 80, 81, 82, 83, 84, 66, 67, 68, 69, 70, 71, 72] (by decide +kernel) (by decide +kernel)
set_option maxRecDepth 20000 in
theorem gX5_look_X1_allAtFoot : GoodIn wsX5_look (wsV RX5 200 RX1 yX1_allAtFoot wsX1_allAtFoot) := goodIn_app (goodIn_of _ (by decide +kernel)) ggX5_look_X1_allAtFoot
theorem dX5_look_0 : decode cX5_look 0 = .ok (.iload_n 1, 1) := by decide +kernel
theorem dX5_look_1 : decode cX5_look 1 = .ok (.tableswitch 119 0 7 #[47, 55, 63, 71, 87, 95, 103, 111], 47) := by decide +kernel
theorem dX5_look_48 : decode cX5_look 48 = .ok (.aload_n 0, 1) := by decide +kernel
theorem dX5_look_49 : decode cX5_look 49 = .ok (.getfield 12, 3) := by decide +kernel
theorem dX5_look_52 : decode cX5_look 52 = .ok (.getfield 52, 3) := by decide +kernel
theorem dX5_look_55 : decode cX5_look 55 = .ok (.ireturn, 1) := by decide +kernel
theorem dX5_look_56 : decode cX5_look 56 = .ok (.aload_n 0, 1) := by decide +kernel
theorem dX5_look_57 : decode cX5_look 57 = .ok (.getfield 12, 3) := by decide +kernel
theorem dX5_look_60 : decode cX5_look 60 = .ok (.getfield 67, 3) := by decide +kernel
theorem dX5_look_63 : decode cX5_look 63 = .ok (.ireturn, 1) := by decide +kernel
theorem dX5_look_64 : decode cX5_look 64 = .ok (.aload_n 0, 1) := by decide +kernel
theorem dX5_look_65 : decode cX5_look 65 = .ok (.getfield 28, 3) := by decide +kernel
theorem dX5_look_68 : decode cX5_look 68 = .ok (.getfield 111, 3) := by decide +kernel
theorem dX5_look_71 : decode cX5_look 71 = .ok (.ireturn, 1) := by decide +kernel
theorem dX5_look_72 : decode cX5_look 72 = .ok (.aload_n 0, 1) := by decide +kernel
theorem dX5_look_73 : decode cX5_look 73 = .ok (.getfield 28, 3) := by decide +kernel
theorem dX5_look_76 : decode cX5_look 76 = .ok (.getfield 48, 3) := by decide +kernel
theorem dX5_look_79 : decode cX5_look 79 = .ok (.ifCond .eq 7, 3) := by decide +kernel
theorem dX5_look_82 : decode cX5_look 82 = .ok (.iconst 1, 1) := by decide +kernel
theorem dX5_look_83 : decode cX5_look 83 = .ok (.goto 4, 3) := by decide +kernel
theorem dX5_look_86 : decode cX5_look 86 = .ok (.iconst 0, 1) := by decide +kernel
theorem dX5_look_87 : decode cX5_look 87 = .ok (.ireturn, 1) := by decide +kernel
theorem dX5_look_88 : decode cX5_look 88 = .ok (.aload_n 0, 1) := by decide +kernel
theorem dX5_look_89 : decode cX5_look 89 = .ok (.getfield 37, 3) := by decide +kernel
theorem dX5_look_92 : decode cX5_look 92 = .ok (.getfield 194, 3) := by decide +kernel
theorem dX5_look_95 : decode cX5_look 95 = .ok (.ireturn, 1) := by decide +kernel
theorem dX5_look_96 : decode cX5_look 96 = .ok (.aload_n 0, 1) := by decide +kernel
theorem dX5_look_97 : decode cX5_look 97 = .ok (.getfield 28, 3) := by decide +kernel
theorem dX5_look_100 : decode cX5_look 100 = .ok (.invokevirtual 197, 3) := by decide +kernel
theorem dX5_look_103 : decode cX5_look 103 = .ok (.ireturn, 1) := by decide +kernel
theorem dX5_look_104 : decode cX5_look 104 = .ok (.aload_n 0, 1) := by decide +kernel
theorem dX5_look_105 : decode cX5_look 105 = .ok (.getfield 28, 3) := by decide +kernel
theorem dX5_look_108 : decode cX5_look 108 = .ok (.invokevirtual 200, 3) := by decide +kernel
theorem dX5_look_111 : decode cX5_look 111 = .ok (.ireturn, 1) := by decide +kernel
theorem dX5_look_112 : decode cX5_look 112 = .ok (.aload_n 0, 1) := by decide +kernel
theorem dX5_look_113 : decode cX5_look 113 = .ok (.getfield 28, 3) := by decide +kernel
theorem dX5_look_116 : decode cX5_look 116 = .ok (.getfield 169, 3) := by decide +kernel
theorem dX5_look_119 : decode cX5_look 119 = .ok (.ireturn, 1) := by decide +kernel
theorem dX5_look_120 : decode cX5_look 120 = .ok (.iconst (-1), 1) := by decide +kernel
theorem dX5_look_121 : decode cX5_look 121 = .ok (.ireturn, 1) := by decide +kernel
theorem dX5_within_0 : decode cX5_within 0 = .ok (.iload_n 0, 1) := by decide +kernel
theorem dX5_within_1 : decode cX5_within 1 = .ok (.iload_n 1, 1) := by decide +kernel
theorem dX5_within_2 : decode cX5_within 2 = .ok (.if_icmp .lt 12, 3) := by decide +kernel
theorem dX5_within_5 : decode cX5_within 5 = .ok (.iload_n 0, 1) := by decide +kernel
theorem dX5_within_6 : decode cX5_within 6 = .ok (.iload_n 2, 1) := by decide +kernel
theorem dX5_within_7 : decode cX5_within 7 = .ok (.if_icmp .gt 7, 3) := by decide +kernel
theorem dX5_within_10 : decode cX5_within 10 = .ok (.iconst 1, 1) := by decide +kernel
theorem dX5_within_11 : decode cX5_within 11 = .ok (.goto 4, 3) := by decide +kernel
theorem dX5_within_14 : decode cX5_within 14 = .ok (.iconst 0, 1) := by decide +kernel
theorem dX5_within_15 : decode cX5_within 15 = .ok (.ireturn, 1) := by decide +kernel
set_option maxRecDepth 20000 in
theorem ggX5_onTheMap_X5_within : GoodIn wsX5_onTheMap wsX5_within := goodIn_r _ [4] (by decide +kernel) (by decide +kernel)
set_option maxRecDepth 20000 in
theorem gX5_onTheMap_X5_within : GoodIn wsX5_onTheMap (va_wsS RX5 56 yX5_within wsX5_within) := goodIn_app (goodIn_of _ (by decide +kernel)) ggX5_onTheMap_X5_within
theorem dX5_onTheMap_0 : decode cX5_onTheMap 0 = .ok (.iload_n 0, 1) := by decide +kernel
theorem dX5_onTheMap_1 : decode cX5_onTheMap 1 = .ok (.bipush (-100), 2) := by decide +kernel
theorem dX5_onTheMap_3 : decode cX5_onTheMap 3 = .ok (.bipush 100, 2) := by decide +kernel
theorem dX5_onTheMap_5 : decode cX5_onTheMap 5 = .ok (.invokestatic 56, 3) := by decide +kernel
theorem dX5_onTheMap_8 : decode cX5_onTheMap 8 = .ok (.ifCond .eq 18, 3) := by decide +kernel
theorem dX5_onTheMap_11 : decode cX5_onTheMap 11 = .ok (.iload_n 1, 1) := by decide +kernel
theorem dX5_onTheMap_12 : decode cX5_onTheMap 12 = .ok (.bipush (-100), 2) := by decide +kernel
theorem dX5_onTheMap_14 : decode cX5_onTheMap 14 = .ok (.bipush 100, 2) := by decide +kernel
theorem dX5_onTheMap_16 : decode cX5_onTheMap 16 = .ok (.invokestatic 56, 3) := by decide +kernel
theorem dX5_onTheMap_19 : decode cX5_onTheMap 19 = .ok (.ifCond .eq 7, 3) := by decide +kernel
theorem dX5_onTheMap_22 : decode cX5_onTheMap 22 = .ok (.iconst 1, 1) := by decide +kernel
theorem dX5_onTheMap_23 : decode cX5_onTheMap 23 = .ok (.goto 4, 3) := by decide +kernel
theorem dX5_onTheMap_26 : decode cX5_onTheMap 26 = .ok (.iconst 0, 1) := by decide +kernel
theorem dX5_onTheMap_27 : decode cX5_onTheMap 27 = .ok (.ireturn, 1) := by decide +kernel
theorem dJ6_bitCount_0f7a4_0 : decode cJ6_bitCount_0f7a4 0 = .ok (.iload_n 0, 1) := by decide +kernel
theorem dJ6_bitCount_0f7a4_1 : decode cJ6_bitCount_0f7a4 1 = .ok (.iload_n 0, 1) := by decide +kernel
theorem dJ6_bitCount_0f7a4_2 : decode cJ6_bitCount_0f7a4 2 = .ok (.iconst 1, 1) := by decide +kernel
theorem dJ6_bitCount_0f7a4_3 : decode cJ6_bitCount_0f7a4 3 = .ok (.iushr, 1) := by decide +kernel
theorem dJ6_bitCount_0f7a4_4 : decode cJ6_bitCount_0f7a4 4 = .ok (.ldc_w 265, 3) := by decide +kernel
theorem dJ6_bitCount_0f7a4_7 : decode cJ6_bitCount_0f7a4 7 = .ok (.iand, 1) := by decide +kernel
theorem dJ6_bitCount_0f7a4_8 : decode cJ6_bitCount_0f7a4 8 = .ok (.isub, 1) := by decide +kernel
theorem dJ6_bitCount_0f7a4_9 : decode cJ6_bitCount_0f7a4 9 = .ok (.istore_n 0, 1) := by decide +kernel
theorem dJ6_bitCount_0f7a4_10 : decode cJ6_bitCount_0f7a4 10 = .ok (.iload_n 0, 1) := by decide +kernel
theorem dJ6_bitCount_0f7a4_11 : decode cJ6_bitCount_0f7a4 11 = .ok (.ldc_w 266, 3) := by decide +kernel
theorem dJ6_bitCount_0f7a4_14 : decode cJ6_bitCount_0f7a4 14 = .ok (.iand, 1) := by decide +kernel
theorem dJ6_bitCount_0f7a4_15 : decode cJ6_bitCount_0f7a4 15 = .ok (.iload_n 0, 1) := by decide +kernel
theorem dJ6_bitCount_0f7a4_16 : decode cJ6_bitCount_0f7a4 16 = .ok (.iconst 2, 1) := by decide +kernel
theorem dJ6_bitCount_0f7a4_17 : decode cJ6_bitCount_0f7a4 17 = .ok (.iushr, 1) := by decide +kernel
theorem dJ6_bitCount_0f7a4_18 : decode cJ6_bitCount_0f7a4 18 = .ok (.ldc_w 266, 3) := by decide +kernel
theorem dJ6_bitCount_0f7a4_21 : decode cJ6_bitCount_0f7a4 21 = .ok (.iand, 1) := by decide +kernel
theorem dJ6_bitCount_0f7a4_22 : decode cJ6_bitCount_0f7a4 22 = .ok (.iadd, 1) := by decide +kernel
theorem dJ6_bitCount_0f7a4_23 : decode cJ6_bitCount_0f7a4 23 = .ok (.istore_n 0, 1) := by decide +kernel
theorem dJ6_bitCount_0f7a4_24 : decode cJ6_bitCount_0f7a4 24 = .ok (.iload_n 0, 1) := by decide +kernel
theorem dJ6_bitCount_0f7a4_25 : decode cJ6_bitCount_0f7a4 25 = .ok (.iload_n 0, 1) := by decide +kernel
theorem dJ6_bitCount_0f7a4_26 : decode cJ6_bitCount_0f7a4 26 = .ok (.iconst 4, 1) := by decide +kernel
theorem dJ6_bitCount_0f7a4_27 : decode cJ6_bitCount_0f7a4 27 = .ok (.iushr, 1) := by decide +kernel
theorem dJ6_bitCount_0f7a4_28 : decode cJ6_bitCount_0f7a4 28 = .ok (.iadd, 1) := by decide +kernel
theorem dJ6_bitCount_0f7a4_29 : decode cJ6_bitCount_0f7a4 29 = .ok (.ldc_w 267, 3) := by decide +kernel
theorem dJ6_bitCount_0f7a4_32 : decode cJ6_bitCount_0f7a4 32 = .ok (.iand, 1) := by decide +kernel
theorem dJ6_bitCount_0f7a4_33 : decode cJ6_bitCount_0f7a4 33 = .ok (.istore_n 0, 1) := by decide +kernel
theorem dJ6_bitCount_0f7a4_34 : decode cJ6_bitCount_0f7a4 34 = .ok (.iload_n 0, 1) := by decide +kernel
theorem dJ6_bitCount_0f7a4_35 : decode cJ6_bitCount_0f7a4 35 = .ok (.iload_n 0, 1) := by decide +kernel
theorem dJ6_bitCount_0f7a4_36 : decode cJ6_bitCount_0f7a4 36 = .ok (.bipush 8, 2) := by decide +kernel
theorem dJ6_bitCount_0f7a4_38 : decode cJ6_bitCount_0f7a4 38 = .ok (.iushr, 1) := by decide +kernel
theorem dJ6_bitCount_0f7a4_39 : decode cJ6_bitCount_0f7a4 39 = .ok (.iadd, 1) := by decide +kernel
theorem dJ6_bitCount_0f7a4_40 : decode cJ6_bitCount_0f7a4 40 = .ok (.istore_n 0, 1) := by decide +kernel
theorem dJ6_bitCount_0f7a4_41 : decode cJ6_bitCount_0f7a4 41 = .ok (.iload_n 0, 1) := by decide +kernel
theorem dJ6_bitCount_0f7a4_42 : decode cJ6_bitCount_0f7a4 42 = .ok (.iload_n 0, 1) := by decide +kernel
theorem dJ6_bitCount_0f7a4_43 : decode cJ6_bitCount_0f7a4 43 = .ok (.bipush 16, 2) := by decide +kernel
theorem dJ6_bitCount_0f7a4_45 : decode cJ6_bitCount_0f7a4 45 = .ok (.iushr, 1) := by decide +kernel
theorem dJ6_bitCount_0f7a4_46 : decode cJ6_bitCount_0f7a4 46 = .ok (.iadd, 1) := by decide +kernel
theorem dJ6_bitCount_0f7a4_47 : decode cJ6_bitCount_0f7a4 47 = .ok (.istore_n 0, 1) := by decide +kernel
theorem dJ6_bitCount_0f7a4_48 : decode cJ6_bitCount_0f7a4 48 = .ok (.iload_n 0, 1) := by decide +kernel
theorem dJ6_bitCount_0f7a4_49 : decode cJ6_bitCount_0f7a4 49 = .ok (.bipush 63, 2) := by decide +kernel
theorem dJ6_bitCount_0f7a4_51 : decode cJ6_bitCount_0f7a4 51 = .ok (.iand, 1) := by decide +kernel
theorem dJ6_bitCount_0f7a4_52 : decode cJ6_bitCount_0f7a4 52 = .ok (.ireturn, 1) := by decide +kernel
theorem dJ9_abs_0f7a4_0 : decode cJ9_abs_0f7a4 0 = .ok (.iload_n 0, 1) := by decide +kernel
theorem dJ9_abs_0f7a4_1 : decode cJ9_abs_0f7a4 1 = .ok (.ifCond .ge 8, 3) := by decide +kernel
theorem dJ9_abs_0f7a4_4 : decode cJ9_abs_0f7a4 4 = .ok (.iload_n 0, 1) := by decide +kernel
theorem dJ9_abs_0f7a4_5 : decode cJ9_abs_0f7a4 5 = .ok (.ineg, 1) := by decide +kernel
theorem dJ9_abs_0f7a4_6 : decode cJ9_abs_0f7a4 6 = .ok (.goto 4, 3) := by decide +kernel
theorem dJ9_abs_0f7a4_9 : decode cJ9_abs_0f7a4 9 = .ok (.iload_n 0, 1) := by decide +kernel
theorem dJ9_abs_0f7a4_10 : decode cJ9_abs_0f7a4 10 = .ok (.ireturn, 1) := by decide +kernel
theorem dJ9_max_7cf53_0 : decode cJ9_max_7cf53 0 = .ok (.iload_n 0, 1) := by decide +kernel
theorem dJ9_max_7cf53_1 : decode cJ9_max_7cf53 1 = .ok (.iload_n 1, 1) := by decide +kernel
theorem dJ9_max_7cf53_2 : decode cJ9_max_7cf53 2 = .ok (.if_icmp .lt 7, 3) := by decide +kernel
theorem dJ9_max_7cf53_5 : decode cJ9_max_7cf53 5 = .ok (.iload_n 0, 1) := by decide +kernel
theorem dJ9_max_7cf53_6 : decode cJ9_max_7cf53 6 = .ok (.goto 4, 3) := by decide +kernel
theorem dJ9_max_7cf53_9 : decode cJ9_max_7cf53 9 = .ok (.iload_n 1, 1) := by decide +kernel
theorem dJ9_max_7cf53_10 : decode cJ9_max_7cf53 10 = .ok (.ireturn, 1) := by decide +kernel
theorem dJ7_fill_53178_0 : decode cJ7_fill_53178 0 = .ok (.iconst 0, 1) := by decide +kernel
theorem dJ7_fill_53178_1 : decode cJ7_fill_53178 1 = .ok (.istore_n 2, 1) := by decide +kernel
theorem dJ7_fill_53178_2 : decode cJ7_fill_53178 2 = .ok (.aload_n 0, 1) := by decide +kernel
theorem dJ7_fill_53178_3 : decode cJ7_fill_53178 3 = .ok (.arraylength, 1) := by decide +kernel
theorem dJ7_fill_53178_4 : decode cJ7_fill_53178 4 = .ok (.istore_n 3, 1) := by decide +kernel
theorem dJ7_fill_53178_5 : decode cJ7_fill_53178 5 = .ok (.iload_n 2, 1) := by decide +kernel
theorem dJ7_fill_53178_6 : decode cJ7_fill_53178 6 = .ok (.iload_n 3, 1) := by decide +kernel
theorem dJ7_fill_53178_7 : decode cJ7_fill_53178 7 = .ok (.if_icmp .ge 13, 3) := by decide +kernel
theorem dJ7_fill_53178_10 : decode cJ7_fill_53178 10 = .ok (.aload_n 0, 1) := by decide +kernel
theorem dJ7_fill_53178_11 : decode cJ7_fill_53178 11 = .ok (.iload_n 2, 1) := by decide +kernel
theorem dJ7_fill_53178_12 : decode cJ7_fill_53178 12 = .ok (.iload_n 1, 1) := by decide +kernel
theorem dJ7_fill_53178_13 : decode cJ7_fill_53178 13 = .ok (.iastore, 1) := by decide +kernel
theorem dJ7_fill_53178_14 : decode cJ7_fill_53178 14 = .ok (.iinc 2 1, 3) := by decide +kernel
theorem dJ7_fill_53178_17 : decode cJ7_fill_53178 17 = .ok (.goto (-12), 3) := by decide +kernel
theorem dJ7_fill_53178_20 : decode cJ7_fill_53178 20 = .ok (.return_, 1) := by decide +kernel
end
section
theorem dX6_init_0 : decode cX6_init 0 = .ok (.aload_n 0, 1) := by decide +kernel
theorem dX6_init_1 : decode cX6_init 1 = .ok (.invokespecial 1, 3) := by decide +kernel
theorem dX6_init_4 : decode cX6_init 4 = .ok (.aload_n 0, 1) := by decide +kernel
theorem dX6_init_5 : decode cX6_init 5 = .ok (.bipush 8, 2) := by decide +kernel
theorem dX6_init_7 : decode cX6_init 7 = .ok (.newarray .int, 2) := by decide +kernel
theorem dX6_init_9 : decode cX6_init 9 = .ok (.putfield 7, 3) := by decide +kernel
theorem dX6_init_12 : decode cX6_init 12 = .ok (.aload_n 0, 1) := by decide +kernel
theorem dX6_init_13 : decode cX6_init 13 = .ok (.bipush 8, 2) := by decide +kernel
theorem dX6_init_15 : decode cX6_init 15 = .ok (.newarray .int, 2) := by decide +kernel
theorem dX6_init_17 : decode cX6_init 17 = .ok (.putfield 13, 3) := by decide +kernel
theorem dX6_init_20 : decode cX6_init 20 = .ok (.aload_n 0, 1) := by decide +kernel
theorem dX6_init_21 : decode cX6_init 21 = .ok (.iconst 5, 1) := by decide +kernel
theorem dX6_init_22 : decode cX6_init 22 = .ok (.newarray .int, 2) := by decide +kernel
theorem dX6_init_24 : decode cX6_init 24 = .ok (.putfield 16, 3) := by decide +kernel
theorem dX6_init_27 : decode cX6_init 27 = .ok (.aload_n 0, 1) := by decide +kernel
theorem dX6_init_28 : decode cX6_init 28 = .ok (.iconst 5, 1) := by decide +kernel
theorem dX6_init_29 : decode cX6_init 29 = .ok (.newarray .int, 2) := by decide +kernel
theorem dX6_init_31 : decode cX6_init 31 = .ok (.putfield 19, 3) := by decide +kernel
theorem dX6_init_34 : decode cX6_init 34 = .ok (.aload_n 0, 1) := by decide +kernel
theorem dX6_init_35 : decode cX6_init 35 = .ok (.bipush 40, 2) := by decide +kernel
theorem dX6_init_37 : decode cX6_init 37 = .ok (.newarray .int, 2) := by decide +kernel
theorem dX6_init_39 : decode cX6_init 39 = .ok (.putfield 22, 3) := by decide +kernel
theorem dX6_init_42 : decode cX6_init 42 = .ok (.aload_n 0, 1) := by decide +kernel
theorem dX6_init_43 : decode cX6_init 43 = .ok (.bipush 40, 2) := by decide +kernel
theorem dX6_init_45 : decode cX6_init 45 = .ok (.newarray .int, 2) := by decide +kernel
theorem dX6_init_47 : decode cX6_init 47 = .ok (.putfield 25, 3) := by decide +kernel
theorem dX6_init_50 : decode cX6_init 50 = .ok (.aload_n 0, 1) := by decide +kernel
theorem dX6_init_51 : decode cX6_init 51 = .ok (.sipush 150, 3) := by decide +kernel
theorem dX6_init_54 : decode cX6_init 54 = .ok (.newarray .int, 2) := by decide +kernel
theorem dX6_init_56 : decode cX6_init 56 = .ok (.putfield 28, 3) := by decide +kernel
theorem dX6_init_59 : decode cX6_init 59 = .ok (.aload_n 0, 1) := by decide +kernel
theorem dX6_init_60 : decode cX6_init 60 = .ok (.sipush 150, 3) := by decide +kernel
theorem dX6_init_63 : decode cX6_init 63 = .ok (.newarray .int, 2) := by decide +kernel
theorem dX6_init_65 : decode cX6_init 65 = .ok (.putfield 31, 3) := by decide +kernel
theorem dX6_init_68 : decode cX6_init 68 = .ok (.aload_n 0, 1) := by decide +kernel
theorem dX6_init_69 : decode cX6_init 69 = .ok (.sipush 150, 3) := by decide +kernel
theorem dX6_init_72 : decode cX6_init 72 = .ok (.newarray .int, 2) := by decide +kernel
theorem dX6_init_74 : decode cX6_init 74 = .ok (.putfield 34, 3) := by decide +kernel
theorem dX6_init_77 : decode cX6_init 77 = .ok (.aload_n 0, 1) := by decide +kernel
theorem dX6_init_78 : decode cX6_init 78 = .ok (.sipush 150, 3) := by decide +kernel
theorem dX6_init_81 : decode cX6_init 81 = .ok (.newarray .int, 2) := by decide +kernel
theorem dX6_init_83 : decode cX6_init 83 = .ok (.putfield 37, 3) := by decide +kernel
theorem dX6_init_86 : decode cX6_init 86 = .ok (.aload_n 0, 1) := by decide +kernel
theorem dX6_init_87 : decode cX6_init 87 = .ok (.sipush 150, 3) := by decide +kernel
theorem dX6_init_90 : decode cX6_init 90 = .ok (.newarray .boolean, 2) := by decide +kernel
theorem dX6_init_92 : decode cX6_init 92 = .ok (.putfield 40, 3) := by decide +kernel
theorem dX6_init_95 : decode cX6_init 95 = .ok (.aload_n 0, 1) := by decide +kernel
theorem dX6_init_96 : decode cX6_init 96 = .ok (.sipush 150, 3) := by decide +kernel
theorem dX6_init_99 : decode cX6_init 99 = .ok (.newarray .int, 2) := by decide +kernel
theorem dX6_init_101 : decode cX6_init 101 = .ok (.putfield 44, 3) := by decide +kernel
theorem dX6_init_104 : decode cX6_init 104 = .ok (.aload_n 0, 1) := by decide +kernel
theorem dX6_init_105 : decode cX6_init 105 = .ok (.bipush 8, 2) := by decide +kernel
theorem dX6_init_107 : decode cX6_init 107 = .ok (.newarray .int, 2) := by decide +kernel
theorem dX6_init_109 : decode cX6_init 109 = .ok (.putfield 47, 3) := by decide +kernel
theorem dX6_init_112 : decode cX6_init 112 = .ok (.aload_n 0, 1) := by decide +kernel
theorem dX6_init_113 : decode cX6_init 113 = .ok (.sipush 150, 3) := by decide +kernel
theorem dX6_init_116 : decode cX6_init 116 = .ok (.newarray .int, 2) := by decide +kernel
theorem dX6_init_118 : decode cX6_init 118 = .ok (.putfield 50, 3) := by decide +kernel
theorem dX6_init_121 : decode cX6_init 121 = .ok (.aload_n 0, 1) := by decide +kernel
theorem dX6_init_122 : decode cX6_init 122 = .ok (.sipush 150, 3) := by decide +kernel
theorem dX6_init_125 : decode cX6_init 125 = .ok (.newarray .int, 2) := by decide +kernel
theorem dX6_init_127 : decode cX6_init 127 = .ok (.putfield 53, 3) := by decide +kernel
theorem dX6_init_130 : decode cX6_init 130 = .ok (.aload_n 0, 1) := by decide +kernel
theorem dX6_init_131 : decode cX6_init 131 = .ok (.iconst 5, 1) := by decide +kernel
theorem dX6_init_132 : decode cX6_init 132 = .ok (.newarray .int, 2) := by decide +kernel
theorem dX6_init_134 : decode cX6_init 134 = .ok (.putfield 56, 3) := by decide +kernel
theorem dX6_init_137 : decode cX6_init 137 = .ok (.aload_n 0, 1) := by decide +kernel
theorem dX6_init_138 : decode cX6_init 138 = .ok (.iconst 5, 1) := by decide +kernel
theorem dX6_init_139 : decode cX6_init 139 = .ok (.newarray .long, 2) := by decide +kernel
theorem dX6_init_141 : decode cX6_init 141 = .ok (.putfield 59, 3) := by decide +kernel
theorem dX6_init_144 : decode cX6_init 144 = .ok (.aload_n 0, 1) := by decide +kernel
theorem dX6_init_145 : decode cX6_init 145 = .ok (.iconst 5, 1) := by decide +kernel
theorem dX6_init_146 : decode cX6_init 146 = .ok (.newarray .int, 2) := by decide +kernel
theorem dX6_init_148 : decode cX6_init 148 = .ok (.putfield 63, 3) := by decide +kernel
theorem dX6_init_151 : decode cX6_init 151 = .ok (.aload_n 0, 1) := by decide +kernel
theorem dX6_init_152 : decode cX6_init 152 = .ok (.sipush 150, 3) := by decide +kernel
theorem dX6_init_155 : decode cX6_init 155 = .ok (.newarray .boolean, 2) := by decide +kernel
theorem dX6_init_157 : decode cX6_init 157 = .ok (.putfield 66, 3) := by decide +kernel
theorem dX6_init_160 : decode cX6_init 160 = .ok (.aload_n 0, 1) := by decide +kernel
theorem dX6_init_161 : decode cX6_init 161 = .ok (.sipush 150, 3) := by decide +kernel
theorem dX6_init_164 : decode cX6_init 164 = .ok (.newarray .int, 2) := by decide +kernel
theorem dX6_init_166 : decode cX6_init 166 = .ok (.putfield 69, 3) := by decide +kernel
theorem dX6_init_169 : decode cX6_init 169 = .ok (.return_, 1) := by decide +kernel
theorem dX6_thrown_0 : decode cX6_thrown 0 = .ok (.aload_n 0, 1) := by decide +kernel
theorem dX6_thrown_1 : decode cX6_thrown 1 = .ok (.getfield 72, 3) := by decide +kernel
theorem dX6_thrown_4 : decode cX6_thrown 4 = .ok (.ireturn, 1) := by decide +kernel
theorem dX6_isPlace_0 : decode cX6_isPlace 0 = .ok (.iload_n 0, 1) := by decide +kernel
theorem dX6_isPlace_1 : decode cX6_isPlace 1 = .ok (.bipush (-100), 2) := by decide +kernel
theorem dX6_isPlace_3 : decode cX6_isPlace 3 = .ok (.if_icmp .lt 25, 3) := by decide +kernel
theorem dX6_isPlace_6 : decode cX6_isPlace 6 = .ok (.iload_n 0, 1) := by decide +kernel
theorem dX6_isPlace_7 : decode cX6_isPlace 7 = .ok (.bipush 100, 2) := by decide +kernel
theorem dX6_isPlace_9 : decode cX6_isPlace 9 = .ok (.if_icmp .gt 19, 3) := by decide +kernel
theorem dX6_isPlace_12 : decode cX6_isPlace 12 = .ok (.iload_n 1, 1) := by decide +kernel
theorem dX6_isPlace_13 : decode cX6_isPlace 13 = .ok (.bipush (-100), 2) := by decide +kernel
theorem dX6_isPlace_15 : decode cX6_isPlace 15 = .ok (.if_icmp .lt 13, 3) := by decide +kernel
theorem dX6_isPlace_18 : decode cX6_isPlace 18 = .ok (.iload_n 1, 1) := by decide +kernel
theorem dX6_isPlace_19 : decode cX6_isPlace 19 = .ok (.bipush 100, 2) := by decide +kernel
theorem dX6_isPlace_21 : decode cX6_isPlace 21 = .ok (.if_icmp .gt 7, 3) := by decide +kernel
theorem dX6_isPlace_24 : decode cX6_isPlace 24 = .ok (.iconst 1, 1) := by decide +kernel
theorem dX6_isPlace_25 : decode cX6_isPlace 25 = .ok (.goto 4, 3) := by decide +kernel
theorem dX6_isPlace_28 : decode cX6_isPlace 28 = .ok (.iconst 0, 1) := by decide +kernel
theorem dX6_isPlace_29 : decode cX6_isPlace 29 = .ok (.ireturn, 1) := by decide +kernel
theorem dX6_noPlan_0 : decode cX6_noPlan 0 = .ok (.aload_n 0, 1) := by decide +kernel
theorem dX6_noPlan_1 : decode cX6_noPlan 1 = .ok (.iconst 0, 1) := by decide +kernel
theorem dX6_noPlan_2 : decode cX6_noPlan 2 = .ok (.putfield 76, 3) := by decide +kernel
theorem dX6_noPlan_5 : decode cX6_noPlan 5 = .ok (.aload_n 0, 1) := by decide +kernel
theorem dX6_noPlan_6 : decode cX6_noPlan 6 = .ok (.iconst 0, 1) := by decide +kernel
theorem dX6_noPlan_7 : decode cX6_noPlan 7 = .ok (.putfield 80, 3) := by decide +kernel
theorem dX6_noPlan_10 : decode cX6_noPlan 10 = .ok (.return_, 1) := by decide +kernel
set_option maxRecDepth 20000 in
theorem ggX6_kind_X6_noPlan : GoodIn wsX6_kind wsX6_noPlan := goodIn_r _ [10, 11, 12, 13, 14, 15, 16, 17, 18, 19, 20, 21, 22, 23, 24, 25, 26, 27, 28, 29, 30, 31, 32, 33, 34, 35, 36, 37, 38, 39, 40, 41, 42, 43, 44, 45, 46, 47, 48, 49] (by decide +kernel) (by decide +kernel)
set_option maxRecDepth 20000 in
theorem gX6_kind_X6_noPlan : GoodIn wsX6_kind (wsV RX6 89 RX6 yX6_noPlan wsX6_noPlan) := goodIn_app (goodIn_of _ (by decide +kernel)) ggX6_kind_X6_noPlan
theorem dX6_kind_0 : decode cX6_kind 0 = .ok (.aload_n 0, 1) := by decide +kernel
theorem dX6_kind_1 : decode cX6_kind 1 = .ok (.iconst 0, 1) := by decide +kernel
theorem dX6_kind_2 : decode cX6_kind 2 = .ok (.putfield 72, 3) := by decide +kernel
theorem dX6_kind_5 : decode cX6_kind 5 = .ok (.aload_n 0, 1) := by decide +kernel
theorem dX6_kind_6 : decode cX6_kind 6 = .ok (.getfield 83, 3) := by decide +kernel
theorem dX6_kind_9 : decode cX6_kind 9 = .ok (.ifCond .ne 33, 3) := by decide +kernel
theorem dX6_kind_12 : decode cX6_kind 12 = .ok (.aload_n 0, 1) := by decide +kernel
theorem dX6_kind_13 : decode cX6_kind 13 = .ok (.getfield 86, 3) := by decide +kernel
theorem dX6_kind_16 : decode cX6_kind 16 = .ok (.bipush 8, 2) := by decide +kernel
theorem dX6_kind_18 : decode cX6_kind 18 = .ok (.if_icmp .eq 24, 3) := by decide +kernel
theorem dX6_kind_21 : decode cX6_kind 21 = .ok (.iload_n 1, 1) := by decide +kernel
theorem dX6_kind_22 : decode cX6_kind 22 = .ok (.iconst 1, 1) := by decide +kernel
theorem dX6_kind_23 : decode cX6_kind 23 = .ok (.if_icmp .lt 19, 3) := by decide +kernel
theorem dX6_kind_26 : decode cX6_kind 26 = .ok (.iload_n 1, 1) := by decide +kernel
theorem dX6_kind_27 : decode cX6_kind 27 = .ok (.bipush 6, 2) := by decide +kernel
theorem dX6_kind_29 : decode cX6_kind 29 = .ok (.if_icmp .gt 13, 3) := by decide +kernel
theorem dX6_kind_32 : decode cX6_kind 32 = .ok (.iload_n 2, 1) := by decide +kernel
theorem dX6_kind_33 : decode cX6_kind 33 = .ok (.iconst 1, 1) := by decide +kernel
theorem dX6_kind_34 : decode cX6_kind 34 = .ok (.if_icmp .lt 8, 3) := by decide +kernel
theorem dX6_kind_37 : decode cX6_kind 37 = .ok (.iload_n 2, 1) := by decide +kernel
theorem dX6_kind_38 : decode cX6_kind 38 = .ok (.iconst 4, 1) := by decide +kernel
theorem dX6_kind_39 : decode cX6_kind 39 = .ok (.if_icmp .le 5, 3) := by decide +kernel
theorem dX6_kind_42 : decode cX6_kind 42 = .ok (.iconst (-1), 1) := by decide +kernel
theorem dX6_kind_43 : decode cX6_kind 43 = .ok (.ireturn, 1) := by decide +kernel
theorem dX6_kind_44 : decode cX6_kind 44 = .ok (.aload_n 0, 1) := by decide +kernel
theorem dX6_kind_45 : decode cX6_kind 45 = .ok (.getfield 7, 3) := by decide +kernel
theorem dX6_kind_48 : decode cX6_kind 48 = .ok (.aload_n 0, 1) := by decide +kernel
theorem dX6_kind_49 : decode cX6_kind 49 = .ok (.getfield 86, 3) := by decide +kernel
theorem dX6_kind_52 : decode cX6_kind 52 = .ok (.iload_n 1, 1) := by decide +kernel
theorem dX6_kind_53 : decode cX6_kind 53 = .ok (.iastore, 1) := by decide +kernel
theorem dX6_kind_54 : decode cX6_kind 54 = .ok (.aload_n 0, 1) := by decide +kernel
theorem dX6_kind_55 : decode cX6_kind 55 = .ok (.getfield 13, 3) := by decide +kernel
theorem dX6_kind_58 : decode cX6_kind 58 = .ok (.aload_n 0, 1) := by decide +kernel
theorem dX6_kind_59 : decode cX6_kind 59 = .ok (.getfield 86, 3) := by decide +kernel
theorem dX6_kind_62 : decode cX6_kind 62 = .ok (.iload_n 2, 1) := by decide +kernel
theorem dX6_kind_63 : decode cX6_kind 63 = .ok (.iastore, 1) := by decide +kernel
theorem dX6_kind_64 : decode cX6_kind 64 = .ok (.aload_n 0, 1) := by decide +kernel
theorem dX6_kind_65 : decode cX6_kind 65 = .ok (.dup, 1) := by decide +kernel
theorem dX6_kind_66 : decode cX6_kind 66 = .ok (.getfield 86, 3) := by decide +kernel
theorem dX6_kind_69 : decode cX6_kind 69 = .ok (.iconst 1, 1) := by decide +kernel
theorem dX6_kind_70 : decode cX6_kind 70 = .ok (.iadd, 1) := by decide +kernel
theorem dX6_kind_71 : decode cX6_kind 71 = .ok (.putfield 86, 3) := by decide +kernel
theorem dX6_kind_74 : decode cX6_kind 74 = .ok (.aload_n 0, 1) := by decide +kernel
theorem dX6_kind_75 : decode cX6_kind 75 = .ok (.invokevirtual 89, 3) := by decide +kernel
theorem dX6_kind_78 : decode cX6_kind 78 = .ok (.aload_n 0, 1) := by decide +kernel
theorem dX6_kind_79 : decode cX6_kind 79 = .ok (.getfield 86, 3) := by decide +kernel
theorem dX6_kind_82 : decode cX6_kind 82 = .ok (.iconst 1, 1) := by decide +kernel
theorem dX6_kind_83 : decode cX6_kind 83 = .ok (.isub, 1) := by decide +kernel
theorem dX6_kind_84 : decode cX6_kind 84 = .ok (.ireturn, 1) := by decide +kernel
set_option maxRecDepth 20000 in
theorem ggX6_heap_X6_isPlace : GoodIn wsX6_heap wsX6_isPlace := goodIn_r _ [9] (by decide +kernel) (by decide +kernel)
set_option maxRecDepth 20000 in
theorem gX6_heap_X6_isPlace : GoodIn wsX6_heap (va_wsS RX6 95 yX6_isPlace wsX6_isPlace) := goodIn_app (goodIn_of _ (by decide +kernel)) ggX6_heap_X6_isPlace
set_option maxRecDepth 20000 in
theorem ggX6_heap_X6_noPlan : GoodIn wsX6_heap wsX6_noPlan := goodIn_r _ [13, 14, 15, 16, 17, 18, 19, 20, 21, 22, 23, 24, 25, 26, 27, 28, 29, 30, 31, 32, 33, 34, 35, 36, 37, 38, 39, 40, 41, 42, 43, 44, 45, 46, 47, 48, 49, 50, 51, 52] (by decide +kernel) (by decide +kernel)
set_option maxRecDepth 20000 in
theorem gX6_heap_X6_noPlan : GoodIn wsX6_heap (wsV RX6 89 RX6 yX6_noPlan wsX6_noPlan) := goodIn_app (goodIn_of _ (by decide +kernel)) ggX6_heap_X6_noPlan
theorem dX6_heap_0 : decode cX6_heap 0 = .ok (.aload_n 0, 1) := by decide +kernel
theorem dX6_heap_1 : decode cX6_heap 1 = .ok (.iconst 0, 1) := by decide +kernel
theorem dX6_heap_2 : decode cX6_heap 2 = .ok (.putfield 72, 3) := by decide +kernel
theorem dX6_heap_5 : decode cX6_heap 5 = .ok (.aload_n 0, 1) := by decide +kernel
theorem dX6_heap_6 : decode cX6_heap 6 = .ok (.getfield 83, 3) := by decide +kernel
theorem dX6_heap_9 : decode cX6_heap 9 = .ok (.ifCond .ne 19, 3) := by decide +kernel
theorem dX6_heap_12 : decode cX6_heap 12 = .ok (.aload_n 0, 1) := by decide +kernel
theorem dX6_heap_13 : decode cX6_heap 13 = .ok (.getfield 92, 3) := by decide +kernel
theorem dX6_heap_16 : decode cX6_heap 16 = .ok (.iconst 5, 1) := by decide +kernel
theorem dX6_heap_17 : decode cX6_heap 17 = .ok (.if_icmp .eq 11, 3) := by decide +kernel
theorem dX6_heap_20 : decode cX6_heap 20 = .ok (.iload_n 1, 1) := by decide +kernel
theorem dX6_heap_21 : decode cX6_heap 21 = .ok (.iload_n 2, 1) := by decide +kernel
theorem dX6_heap_22 : decode cX6_heap 22 = .ok (.invokestatic 95, 3) := by decide +kernel
theorem dX6_heap_25 : decode cX6_heap 25 = .ok (.ifCond .ne 5, 3) := by decide +kernel
theorem dX6_heap_28 : decode cX6_heap 28 = .ok (.iconst (-1), 1) := by decide +kernel
theorem dX6_heap_29 : decode cX6_heap 29 = .ok (.ireturn, 1) := by decide +kernel
theorem dX6_heap_30 : decode cX6_heap 30 = .ok (.aload_n 0, 1) := by decide +kernel
theorem dX6_heap_31 : decode cX6_heap 31 = .ok (.getfield 16, 3) := by decide +kernel
theorem dX6_heap_34 : decode cX6_heap 34 = .ok (.aload_n 0, 1) := by decide +kernel
theorem dX6_heap_35 : decode cX6_heap 35 = .ok (.getfield 92, 3) := by decide +kernel
theorem dX6_heap_38 : decode cX6_heap 38 = .ok (.iload_n 1, 1) := by decide +kernel
theorem dX6_heap_39 : decode cX6_heap 39 = .ok (.iastore, 1) := by decide +kernel
theorem dX6_heap_40 : decode cX6_heap 40 = .ok (.aload_n 0, 1) := by decide +kernel
theorem dX6_heap_41 : decode cX6_heap 41 = .ok (.getfield 19, 3) := by decide +kernel
theorem dX6_heap_44 : decode cX6_heap 44 = .ok (.aload_n 0, 1) := by decide +kernel
theorem dX6_heap_45 : decode cX6_heap 45 = .ok (.getfield 92, 3) := by decide +kernel
theorem dX6_heap_48 : decode cX6_heap 48 = .ok (.iload_n 2, 1) := by decide +kernel
theorem dX6_heap_49 : decode cX6_heap 49 = .ok (.iastore, 1) := by decide +kernel
theorem dX6_heap_50 : decode cX6_heap 50 = .ok (.aload_n 0, 1) := by decide +kernel
theorem dX6_heap_51 : decode cX6_heap 51 = .ok (.dup, 1) := by decide +kernel
theorem dX6_heap_52 : decode cX6_heap 52 = .ok (.getfield 92, 3) := by decide +kernel
theorem dX6_heap_55 : decode cX6_heap 55 = .ok (.iconst 1, 1) := by decide +kernel
theorem dX6_heap_56 : decode cX6_heap 56 = .ok (.iadd, 1) := by decide +kernel
theorem dX6_heap_57 : decode cX6_heap 57 = .ok (.putfield 92, 3) := by decide +kernel
theorem dX6_heap_60 : decode cX6_heap 60 = .ok (.aload_n 0, 1) := by decide +kernel
theorem dX6_heap_61 : decode cX6_heap 61 = .ok (.invokevirtual 89, 3) := by decide +kernel
theorem dX6_heap_64 : decode cX6_heap 64 = .ok (.aload_n 0, 1) := by decide +kernel
theorem dX6_heap_65 : decode cX6_heap 65 = .ok (.getfield 92, 3) := by decide +kernel
theorem dX6_heap_68 : decode cX6_heap 68 = .ok (.iconst 1, 1) := by decide +kernel
theorem dX6_heap_69 : decode cX6_heap 69 = .ok (.isub, 1) := by decide +kernel
theorem dX6_heap_70 : decode cX6_heap 70 = .ok (.ireturn, 1) := by decide +kernel
set_option maxRecDepth 20000 in
theorem ggX6_stones_X6_noPlan : GoodIn wsX6_stones wsX6_noPlan := goodIn_r _ [10, 11, 12, 13, 14, 15, 16, 17, 18, 19, 20, 21, 22, 23, 24, 25, 26, 27, 28, 29, 30, 31, 32, 33, 34, 35, 36, 37, 38, 39, 40, 41, 42, 43, 44, 45, 46, 47, 48, 49] (by decide +kernel) (by decide +kernel)
set_option maxRecDepth 20000 in
theorem gX6_stones_X6_noPlan : GoodIn wsX6_stones (wsV RX6 89 RX6 yX6_noPlan wsX6_noPlan) := goodIn_app (goodIn_of _ (by decide +kernel)) ggX6_stones_X6_noPlan
theorem dX6_stones_0 : decode cX6_stones 0 = .ok (.aload_n 0, 1) := by decide +kernel
theorem dX6_stones_1 : decode cX6_stones 1 = .ok (.iconst 0, 1) := by decide +kernel
theorem dX6_stones_2 : decode cX6_stones 2 = .ok (.putfield 72, 3) := by decide +kernel
theorem dX6_stones_5 : decode cX6_stones 5 = .ok (.aload_n 0, 1) := by decide +kernel
theorem dX6_stones_6 : decode cX6_stones 6 = .ok (.getfield 83, 3) := by decide +kernel
theorem dX6_stones_9 : decode cX6_stones 9 = .ok (.ifCond .ne 37, 3) := by decide +kernel
theorem dX6_stones_12 : decode cX6_stones 12 = .ok (.iload_n 1, 1) := by decide +kernel
theorem dX6_stones_13 : decode cX6_stones 13 = .ok (.ifCond .lt 33, 3) := by decide +kernel
theorem dX6_stones_16 : decode cX6_stones 16 = .ok (.iload_n 1, 1) := by decide +kernel
theorem dX6_stones_17 : decode cX6_stones 17 = .ok (.aload_n 0, 1) := by decide +kernel
theorem dX6_stones_18 : decode cX6_stones 18 = .ok (.getfield 92, 3) := by decide +kernel
theorem dX6_stones_21 : decode cX6_stones 21 = .ok (.if_icmp .ge 25, 3) := by decide +kernel
theorem dX6_stones_24 : decode cX6_stones 24 = .ok (.iload_n 2, 1) := by decide +kernel
theorem dX6_stones_25 : decode cX6_stones 25 = .ok (.ifCond .lt 21, 3) := by decide +kernel
theorem dX6_stones_28 : decode cX6_stones 28 = .ok (.iload_n 2, 1) := by decide +kernel
theorem dX6_stones_29 : decode cX6_stones 29 = .ok (.aload_n 0, 1) := by decide +kernel
theorem dX6_stones_30 : decode cX6_stones 30 = .ok (.getfield 86, 3) := by decide +kernel
theorem dX6_stones_33 : decode cX6_stones 33 = .ok (.if_icmp .ge 13, 3) := by decide +kernel
theorem dX6_stones_36 : decode cX6_stones 36 = .ok (.iload_n 3, 1) := by decide +kernel
theorem dX6_stones_37 : decode cX6_stones 37 = .ok (.ifCond .lt 9, 3) := by decide +kernel
theorem dX6_stones_40 : decode cX6_stones 40 = .ok (.iload_n 3, 1) := by decide +kernel
theorem dX6_stones_41 : decode cX6_stones 41 = .ok (.bipush 60, 2) := by decide +kernel
theorem dX6_stones_43 : decode cX6_stones 43 = .ok (.if_icmp .le 5, 3) := by decide +kernel
theorem dX6_stones_46 : decode cX6_stones 46 = .ok (.iconst 0, 1) := by decide +kernel
theorem dX6_stones_47 : decode cX6_stones 47 = .ok (.ireturn, 1) := by decide +kernel
theorem dX6_stones_48 : decode cX6_stones 48 = .ok (.aload_n 0, 1) := by decide +kernel
theorem dX6_stones_49 : decode cX6_stones 49 = .ok (.getfield 22, 3) := by decide +kernel
theorem dX6_stones_52 : decode cX6_stones 52 = .ok (.bipush 8, 2) := by decide +kernel
theorem dX6_stones_54 : decode cX6_stones 54 = .ok (.iload_n 1, 1) := by decide +kernel
theorem dX6_stones_55 : decode cX6_stones 55 = .ok (.imul, 1) := by decide +kernel
theorem dX6_stones_56 : decode cX6_stones 56 = .ok (.iload_n 2, 1) := by decide +kernel
theorem dX6_stones_57 : decode cX6_stones 57 = .ok (.iadd, 1) := by decide +kernel
theorem dX6_stones_58 : decode cX6_stones 58 = .ok (.iload_n 3, 1) := by decide +kernel
theorem dX6_stones_59 : decode cX6_stones 59 = .ok (.iastore, 1) := by decide +kernel
theorem dX6_stones_60 : decode cX6_stones 60 = .ok (.aload_n 0, 1) := by decide +kernel
theorem dX6_stones_61 : decode cX6_stones 61 = .ok (.invokevirtual 89, 3) := by decide +kernel
theorem dX6_stones_64 : decode cX6_stones 64 = .ok (.iconst 1, 1) := by decide +kernel
theorem dX6_stones_65 : decode cX6_stones 65 = .ok (.ireturn, 1) := by decide +kernel
set_option maxRecDepth 20000 in
theorem ggX6_wall_X6_isPlace : GoodIn wsX6_wall wsX6_isPlace := goodIn_r _ [15] (by decide +kernel) (by decide +kernel)
set_option maxRecDepth 20000 in
theorem gX6_wall_X6_isPlace : GoodIn wsX6_wall (va_wsS RX6 95 yX6_isPlace wsX6_isPlace) := goodIn_app (goodIn_of _ (by decide +kernel)) ggX6_wall_X6_isPlace
set_option maxRecDepth 20000 in
theorem ggX6_wall_X6_noPlan : GoodIn wsX6_wall wsX6_noPlan := goodIn_r _ [19, 20, 21, 22, 23, 24, 25, 26, 27, 28, 29, 30, 31, 32, 33, 34, 35, 36, 37, 38, 39, 40, 41, 42, 43, 44, 45, 46, 47, 48, 49, 50, 51, 52, 53, 54, 55, 56, 57, 58] (by decide +kernel) (by decide +kernel)
set_option maxRecDepth 20000 in
theorem gX6_wall_X6_noPlan : GoodIn wsX6_wall (wsV RX6 89 RX6 yX6_noPlan wsX6_noPlan) := goodIn_app (goodIn_of _ (by decide +kernel)) ggX6_wall_X6_noPlan
theorem dX6_wall_0 : decode cX6_wall 0 = .ok (.aload_n 0, 1) := by decide +kernel
theorem dX6_wall_1 : decode cX6_wall 1 = .ok (.iconst 0, 1) := by decide +kernel
theorem dX6_wall_2 : decode cX6_wall 2 = .ok (.putfield 72, 3) := by decide +kernel
theorem dX6_wall_5 : decode cX6_wall 5 = .ok (.aload_n 0, 1) := by decide +kernel
theorem dX6_wall_6 : decode cX6_wall 6 = .ok (.getfield 83, 3) := by decide +kernel
theorem dX6_wall_9 : decode cX6_wall 9 = .ok (.ifCond .ne 58, 3) := by decide +kernel
theorem dX6_wall_12 : decode cX6_wall 12 = .ok (.iload_n 1, 1) := by decide +kernel
theorem dX6_wall_13 : decode cX6_wall 13 = .ok (.iload_n 2, 1) := by decide +kernel
theorem dX6_wall_14 : decode cX6_wall 14 = .ok (.invokestatic 95, 3) := by decide +kernel
theorem dX6_wall_17 : decode cX6_wall 17 = .ok (.ifCond .eq 50, 3) := by decide +kernel
theorem dX6_wall_20 : decode cX6_wall 20 = .ok (.iload_n 3, 1) := by decide +kernel
theorem dX6_wall_21 : decode cX6_wall 21 = .ok (.iconst 2, 1) := by decide +kernel
theorem dX6_wall_22 : decode cX6_wall 22 = .ok (.if_icmp .lt 45, 3) := by decide +kernel
theorem dX6_wall_25 : decode cX6_wall 25 = .ok (.iload_n 3, 1) := by decide +kernel
theorem dX6_wall_26 : decode cX6_wall 26 = .ok (.bipush 24, 2) := by decide +kernel
theorem dX6_wall_28 : decode cX6_wall 28 = .ok (.if_icmp .gt 39, 3) := by decide +kernel
theorem dX6_wall_31 : decode cX6_wall 31 = .ok (.iload 4, 2) := by decide +kernel
theorem dX6_wall_33 : decode cX6_wall 33 = .ok (.iconst 1, 1) := by decide +kernel
theorem dX6_wall_34 : decode cX6_wall 34 = .ok (.if_icmp .lt 33, 3) := by decide +kernel
theorem dX6_wall_37 : decode cX6_wall 37 = .ok (.iload 4, 2) := by decide +kernel
theorem dX6_wall_39 : decode cX6_wall 39 = .ok (.bipush 6, 2) := by decide +kernel
theorem dX6_wall_41 : decode cX6_wall 41 = .ok (.if_icmp .gt 26, 3) := by decide +kernel
theorem dX6_wall_44 : decode cX6_wall 44 = .ok (.iload 5, 2) := by decide +kernel
theorem dX6_wall_46 : decode cX6_wall 46 = .ok (.iconst 1, 1) := by decide +kernel
theorem dX6_wall_47 : decode cX6_wall 47 = .ok (.if_icmp .lt 20, 3) := by decide +kernel
theorem dX6_wall_50 : decode cX6_wall 50 = .ok (.iload 5, 2) := by decide +kernel
theorem dX6_wall_52 : decode cX6_wall 52 = .ok (.iconst 4, 1) := by decide +kernel
theorem dX6_wall_53 : decode cX6_wall 53 = .ok (.if_icmp .gt 14, 3) := by decide +kernel
theorem dX6_wall_56 : decode cX6_wall 56 = .ok (.iload 6, 2) := by decide +kernel
theorem dX6_wall_58 : decode cX6_wall 58 = .ok (.ifCond .lt 9, 3) := by decide +kernel
theorem dX6_wall_61 : decode cX6_wall 61 = .ok (.iload 6, 2) := by decide +kernel
theorem dX6_wall_63 : decode cX6_wall 63 = .ok (.iconst 1, 1) := by decide +kernel
theorem dX6_wall_64 : decode cX6_wall 64 = .ok (.if_icmp .le 5, 3) := by decide +kernel
theorem dX6_wall_67 : decode cX6_wall 67 = .ok (.iconst 0, 1) := by decide +kernel
theorem dX6_wall_68 : decode cX6_wall 68 = .ok (.ireturn, 1) := by decide +kernel
theorem dX6_wall_69 : decode cX6_wall 69 = .ok (.aload_n 0, 1) := by decide +kernel
theorem dX6_wall_70 : decode cX6_wall 70 = .ok (.iconst 1, 1) := by decide +kernel
theorem dX6_wall_71 : decode cX6_wall 71 = .ok (.putfield 99, 3) := by decide +kernel
theorem dX6_wall_74 : decode cX6_wall 74 = .ok (.aload_n 0, 1) := by decide +kernel
theorem dX6_wall_75 : decode cX6_wall 75 = .ok (.iload_n 1, 1) := by decide +kernel
theorem dX6_wall_76 : decode cX6_wall 76 = .ok (.putfield 102, 3) := by decide +kernel
theorem dX6_wall_79 : decode cX6_wall 79 = .ok (.aload_n 0, 1) := by decide +kernel
theorem dX6_wall_80 : decode cX6_wall 80 = .ok (.iload_n 2, 1) := by decide +kernel
theorem dX6_wall_81 : decode cX6_wall 81 = .ok (.putfield 105, 3) := by decide +kernel
theorem dX6_wall_84 : decode cX6_wall 84 = .ok (.aload_n 0, 1) := by decide +kernel
theorem dX6_wall_85 : decode cX6_wall 85 = .ok (.iload_n 3, 1) := by decide +kernel
theorem dX6_wall_86 : decode cX6_wall 86 = .ok (.putfield 108, 3) := by decide +kernel
theorem dX6_wall_89 : decode cX6_wall 89 = .ok (.aload_n 0, 1) := by decide +kernel
theorem dX6_wall_90 : decode cX6_wall 90 = .ok (.iload 4, 2) := by decide +kernel
theorem dX6_wall_92 : decode cX6_wall 92 = .ok (.putfield 111, 3) := by decide +kernel
theorem dX6_wall_95 : decode cX6_wall 95 = .ok (.aload_n 0, 1) := by decide +kernel
theorem dX6_wall_96 : decode cX6_wall 96 = .ok (.iload 5, 2) := by decide +kernel
theorem dX6_wall_98 : decode cX6_wall 98 = .ok (.putfield 114, 3) := by decide +kernel
theorem dX6_wall_101 : decode cX6_wall 101 = .ok (.aload_n 0, 1) := by decide +kernel
theorem dX6_wall_102 : decode cX6_wall 102 = .ok (.iload 6, 2) := by decide +kernel
theorem dX6_wall_104 : decode cX6_wall 104 = .ok (.putfield 117, 3) := by decide +kernel
theorem dX6_wall_107 : decode cX6_wall 107 = .ok (.aload_n 0, 1) := by decide +kernel
theorem dX6_wall_108 : decode cX6_wall 108 = .ok (.iconst 0, 1) := by decide +kernel
theorem dX6_wall_109 : decode cX6_wall 109 = .ok (.putfield 120, 3) := by decide +kernel
theorem dX6_wall_112 : decode cX6_wall 112 = .ok (.aload_n 0, 1) := by decide +kernel
theorem dX6_wall_113 : decode cX6_wall 113 = .ok (.iconst 0, 1) := by decide +kernel
theorem dX6_wall_114 : decode cX6_wall 114 = .ok (.putfield 123, 3) := by decide +kernel
theorem dX6_wall_117 : decode cX6_wall 117 = .ok (.aload_n 0, 1) := by decide +kernel
theorem dX6_wall_118 : decode cX6_wall 118 = .ok (.invokevirtual 89, 3) := by decide +kernel
theorem dX6_wall_121 : decode cX6_wall 121 = .ok (.iconst 1, 1) := by decide +kernel
theorem dX6_wall_122 : decode cX6_wall 122 = .ok (.ireturn, 1) := by decide +kernel
set_option maxRecDepth 20000 in
theorem ggX6_through_X6_noPlan : GoodIn wsX6_through wsX6_noPlan := goodIn_r _ [11, 12, 13, 14, 15, 16, 17, 18, 19, 20, 21, 22, 23, 24, 25, 26, 27, 28, 29, 30, 31, 32, 33, 34, 35, 36, 37, 38, 39, 40, 41, 42, 43, 44, 45, 46, 47, 48, 49, 50] (by decide +kernel) (by decide +kernel)
set_option maxRecDepth 20000 in
theorem gX6_through_X6_noPlan : GoodIn wsX6_through (wsV RX6 89 RX6 yX6_noPlan wsX6_noPlan) := goodIn_app (goodIn_of _ (by decide +kernel)) ggX6_through_X6_noPlan
theorem dX6_through_0 : decode cX6_through 0 = .ok (.aload_n 0, 1) := by decide +kernel
theorem dX6_through_1 : decode cX6_through 1 = .ok (.iconst 0, 1) := by decide +kernel
theorem dX6_through_2 : decode cX6_through 2 = .ok (.putfield 72, 3) := by decide +kernel
theorem dX6_through_5 : decode cX6_through 5 = .ok (.aload_n 0, 1) := by decide +kernel
theorem dX6_through_6 : decode cX6_through 6 = .ok (.getfield 83, 3) := by decide +kernel
theorem dX6_through_9 : decode cX6_through 9 = .ok (.ifCond .ne 33, 3) := by decide +kernel
theorem dX6_through_12 : decode cX6_through 12 = .ok (.aload_n 0, 1) := by decide +kernel
theorem dX6_through_13 : decode cX6_through 13 = .ok (.getfield 99, 3) := by decide +kernel
theorem dX6_through_16 : decode cX6_through 16 = .ok (.ifCond .eq 26, 3) := by decide +kernel
theorem dX6_through_19 : decode cX6_through 19 = .ok (.iload_n 1, 1) := by decide +kernel
theorem dX6_through_20 : decode cX6_through 20 = .ok (.ifCond .lt 22, 3) := by decide +kernel
theorem dX6_through_23 : decode cX6_through 23 = .ok (.iload_n 1, 1) := by decide +kernel
theorem dX6_through_24 : decode cX6_through 24 = .ok (.iconst 1, 1) := by decide +kernel
theorem dX6_through_25 : decode cX6_through 25 = .ok (.aload_n 0, 1) := by decide +kernel
theorem dX6_through_26 : decode cX6_through 26 = .ok (.getfield 111, 3) := by decide +kernel
theorem dX6_through_29 : decode cX6_through 29 = .ok (.ishl, 1) := by decide +kernel
theorem dX6_through_30 : decode cX6_through 30 = .ok (.if_icmp .ge 12, 3) := by decide +kernel
theorem dX6_through_33 : decode cX6_through 33 = .ok (.iload_n 2, 1) := by decide +kernel
theorem dX6_through_34 : decode cX6_through 34 = .ok (.ifCond .lt 8, 3) := by decide +kernel
theorem dX6_through_37 : decode cX6_through 37 = .ok (.iload_n 2, 1) := by decide +kernel
theorem dX6_through_38 : decode cX6_through 38 = .ok (.iconst 3, 1) := by decide +kernel
theorem dX6_through_39 : decode cX6_through 39 = .ok (.if_icmp .le 5, 3) := by decide +kernel
theorem dX6_through_42 : decode cX6_through 42 = .ok (.iconst 0, 1) := by decide +kernel
theorem dX6_through_43 : decode cX6_through 43 = .ok (.ireturn, 1) := by decide +kernel
theorem dX6_through_44 : decode cX6_through 44 = .ok (.aload_n 0, 1) := by decide +kernel
theorem dX6_through_45 : decode cX6_through 45 = .ok (.iload_n 1, 1) := by decide +kernel
theorem dX6_through_46 : decode cX6_through 46 = .ok (.putfield 120, 3) := by decide +kernel
theorem dX6_through_49 : decode cX6_through 49 = .ok (.aload_n 0, 1) := by decide +kernel
theorem dX6_through_50 : decode cX6_through 50 = .ok (.iload_n 2, 1) := by decide +kernel
theorem dX6_through_51 : decode cX6_through 51 = .ok (.putfield 123, 3) := by decide +kernel
theorem dX6_through_54 : decode cX6_through 54 = .ok (.aload_n 0, 1) := by decide +kernel
theorem dX6_through_55 : decode cX6_through 55 = .ok (.invokevirtual 89, 3) := by decide +kernel
theorem dX6_through_58 : decode cX6_through 58 = .ok (.iconst 1, 1) := by decide +kernel
theorem dX6_through_59 : decode cX6_through 59 = .ok (.ireturn, 1) := by decide +kernel
theorem dX6_width_0 : decode cX6_width 0 = .ok (.aload_n 0, 1) := by decide +kernel
theorem dX6_width_1 : decode cX6_width 1 = .ok (.getfield 114, 3) := by decide +kernel
theorem dX6_width_4 : decode cX6_width 4 = .ok (.iload_n 1, 1) := by decide +kernel
theorem dX6_width_5 : decode cX6_width 5 = .ok (.aload_n 0, 1) := by decide +kernel
theorem dX6_width_6 : decode cX6_width 6 = .ok (.getfield 117, 3) := by decide +kernel
theorem dX6_width_9 : decode cX6_width 9 = .ok (.imul, 1) := by decide +kernel
theorem dX6_width_10 : decode cX6_width 10 = .ok (.isub, 1) := by decide +kernel
theorem dX6_width_11 : decode cX6_width 11 = .ok (.iconst 1, 1) := by decide +kernel
theorem dX6_width_12 : decode cX6_width 12 = .ok (.if_icmp .ge 7, 3) := by decide +kernel
theorem dX6_width_15 : decode cX6_width 15 = .ok (.iconst 1, 1) := by decide +kernel
theorem dX6_width_16 : decode cX6_width 16 = .ok (.goto 14, 3) := by decide +kernel
theorem dX6_width_19 : decode cX6_width 19 = .ok (.aload_n 0, 1) := by decide +kernel
theorem dX6_width_20 : decode cX6_width 20 = .ok (.getfield 114, 3) := by decide +kernel
theorem dX6_width_23 : decode cX6_width 23 = .ok (.iload_n 1, 1) := by decide +kernel
theorem dX6_width_24 : decode cX6_width 24 = .ok (.aload_n 0, 1) := by decide +kernel
theorem dX6_width_25 : decode cX6_width 25 = .ok (.getfield 117, 3) := by decide +kernel
theorem dX6_width_28 : decode cX6_width 28 = .ok (.imul, 1) := by decide +kernel
theorem dX6_width_29 : decode cX6_width 29 = .ok (.isub, 1) := by decide +kernel
theorem dX6_width_30 : decode cX6_width 30 = .ok (.ireturn, 1) := by decide +kernel
theorem dX6_inHeaps_0 : decode cX6_inHeaps 0 = .ok (.iconst 0, 1) := by decide +kernel
theorem dX6_inHeaps_1 : decode cX6_inHeaps 1 = .ok (.istore_n 2, 1) := by decide +kernel
theorem dX6_inHeaps_2 : decode cX6_inHeaps 2 = .ok (.iconst 0, 1) := by decide +kernel
theorem dX6_inHeaps_3 : decode cX6_inHeaps 3 = .ok (.istore_n 3, 1) := by decide +kernel
theorem dX6_inHeaps_4 : decode cX6_inHeaps 4 = .ok (.iload_n 3, 1) := by decide +kernel
theorem dX6_inHeaps_5 : decode cX6_inHeaps 5 = .ok (.aload_n 0, 1) := by decide +kernel
theorem dX6_inHeaps_6 : decode cX6_inHeaps 6 = .ok (.getfield 92, 3) := by decide +kernel
theorem dX6_inHeaps_9 : decode cX6_inHeaps 9 = .ok (.if_icmp .ge 23, 3) := by decide +kernel
theorem dX6_inHeaps_12 : decode cX6_inHeaps 12 = .ok (.iload_n 2, 1) := by decide +kernel
theorem dX6_inHeaps_13 : decode cX6_inHeaps 13 = .ok (.aload_n 0, 1) := by decide +kernel
theorem dX6_inHeaps_14 : decode cX6_inHeaps 14 = .ok (.getfield 22, 3) := by decide +kernel
theorem dX6_inHeaps_17 : decode cX6_inHeaps 17 = .ok (.bipush 8, 2) := by decide +kernel
theorem dX6_inHeaps_19 : decode cX6_inHeaps 19 = .ok (.iload_n 3, 1) := by decide +kernel
theorem dX6_inHeaps_20 : decode cX6_inHeaps 20 = .ok (.imul, 1) := by decide +kernel
theorem dX6_inHeaps_21 : decode cX6_inHeaps 21 = .ok (.iload_n 1, 1) := by decide +kernel
theorem dX6_inHeaps_22 : decode cX6_inHeaps 22 = .ok (.iadd, 1) := by decide +kernel
theorem dX6_inHeaps_23 : decode cX6_inHeaps 23 = .ok (.iaload, 1) := by decide +kernel
theorem dX6_inHeaps_24 : decode cX6_inHeaps 24 = .ok (.iadd, 1) := by decide +kernel
theorem dX6_inHeaps_25 : decode cX6_inHeaps 25 = .ok (.istore_n 2, 1) := by decide +kernel
theorem dX6_inHeaps_26 : decode cX6_inHeaps 26 = .ok (.iinc 3 1, 3) := by decide +kernel
theorem dX6_inHeaps_29 : decode cX6_inHeaps 29 = .ok (.goto (-25), 3) := by decide +kernel
theorem dX6_inHeaps_32 : decode cX6_inHeaps 32 = .ok (.iload_n 2, 1) := by decide +kernel
theorem dX6_inHeaps_33 : decode cX6_inHeaps 33 = .ok (.ireturn, 1) := by decide +kernel
set_option maxRecDepth 20000 in
theorem ggX6_can_X6_width : GoodIn wsX6_can wsX6_width := goodIn_r _ [11, 12, 13, 20, 21, 22, 23, 24, 25, 26, 27, 28, 29, 30, 31, 32, 33, 34, 35, 36, 37, 38, 39, 40, 41, 42, 43, 44, 45, 46, 47, 48, 49, 50, 51, 52, 53, 54, 55, 56] (by decide +kernel) (by decide +kernel)
set_option maxRecDepth 20000 in
theorem gX6_can_X6_width : GoodIn wsX6_can (wsV RX6 126 RX6 yX6_width wsX6_width) := goodIn_app (goodIn_of _ (by decide +kernel)) ggX6_can_X6_width
set_option maxRecDepth 20000 in
theorem ggX6_can_X6_inHeaps : GoodIn wsX6_can wsX6_inHeaps := goodIn_r _ [17, 18, 19, 20, 21, 22, 23, 24, 25, 26, 27, 28, 29, 30, 31, 32, 33, 34, 35, 36, 37, 38, 39, 40, 41, 42, 43, 44, 45, 46, 47, 48, 49, 50, 51, 52, 53, 54, 55, 56] (by decide +kernel) (by decide +kernel)
set_option maxRecDepth 20000 in
theorem gX6_can_X6_inHeaps : GoodIn wsX6_can (wsV RX6 130 RX6 yX6_inHeaps wsX6_inHeaps) := goodIn_app (goodIn_of _ (by decide +kernel)) ggX6_can_X6_inHeaps
theorem dX6_can_0 : decode cX6_can 0 = .ok (.iload 4, 2) := by decide +kernel
theorem dX6_can_2 : decode cX6_can 2 = .ok (.aload_n 0, 1) := by decide +kernel
theorem dX6_can_3 : decode cX6_can 3 = .ok (.getfield 7, 3) := by decide +kernel
theorem dX6_can_6 : decode cX6_can 6 = .ok (.iload_n 1, 1) := by decide +kernel
theorem dX6_can_7 : decode cX6_can 7 = .ok (.iaload, 1) := by decide +kernel
theorem dX6_can_8 : decode cX6_can 8 = .ok (.iadd, 1) := by decide +kernel
theorem dX6_can_9 : decode cX6_can 9 = .ok (.istore 5, 2) := by decide +kernel
theorem dX6_can_11 : decode cX6_can 11 = .ok (.aload_n 0, 1) := by decide +kernel
theorem dX6_can_12 : decode cX6_can 12 = .ok (.getfield 13, 3) := by decide +kernel
theorem dX6_can_15 : decode cX6_can 15 = .ok (.iload_n 1, 1) := by decide +kernel
theorem dX6_can_16 : decode cX6_can 16 = .ok (.iaload, 1) := by decide +kernel
theorem dX6_can_17 : decode cX6_can 17 = .ok (.aload_n 0, 1) := by decide +kernel
theorem dX6_can_18 : decode cX6_can 18 = .ok (.iload_n 3, 1) := by decide +kernel
theorem dX6_can_19 : decode cX6_can 19 = .ok (.invokevirtual 126, 3) := by decide +kernel
theorem dX6_can_22 : decode cX6_can 22 = .ok (.iconst 1, 1) := by decide +kernel
theorem dX6_can_23 : decode cX6_can 23 = .ok (.iadd, 1) := by decide +kernel
theorem dX6_can_24 : decode cX6_can 24 = .ok (.if_icmp .gt 26, 3) := by decide +kernel
theorem dX6_can_27 : decode cX6_can 27 = .ok (.iload 5, 2) := by decide +kernel
theorem dX6_can_29 : decode cX6_can 29 = .ok (.aload_n 0, 1) := by decide +kernel
theorem dX6_can_30 : decode cX6_can 30 = .ok (.getfield 108, 3) := by decide +kernel
theorem dX6_can_33 : decode cX6_can 33 = .ok (.if_icmp .gt 17, 3) := by decide +kernel
theorem dX6_can_36 : decode cX6_can 36 = .ok (.aload_n 0, 1) := by decide +kernel
theorem dX6_can_37 : decode cX6_can 37 = .ok (.iload_n 1, 1) := by decide +kernel
theorem dX6_can_38 : decode cX6_can 38 = .ok (.invokevirtual 130, 3) := by decide +kernel
theorem dX6_can_41 : decode cX6_can 41 = .ok (.aload_n 0, 1) := by decide +kernel
theorem dX6_can_42 : decode cX6_can 42 = .ok (.getfield 47, 3) := by decide +kernel
theorem dX6_can_45 : decode cX6_can 45 = .ok (.iload_n 1, 1) := by decide +kernel
theorem dX6_can_46 : decode cX6_can 46 = .ok (.iaload, 1) := by decide +kernel
theorem dX6_can_47 : decode cX6_can 47 = .ok (.if_icmp .gt 5, 3) := by decide +kernel
theorem dX6_can_50 : decode cX6_can 50 = .ok (.iconst 0, 1) := by decide +kernel
theorem dX6_can_51 : decode cX6_can 51 = .ok (.ireturn, 1) := by decide +kernel
theorem dX6_can_52 : decode cX6_can 52 = .ok (.iconst 0, 1) := by decide +kernel
theorem dX6_can_53 : decode cX6_can 53 = .ok (.istore 6, 2) := by decide +kernel
theorem dX6_can_55 : decode cX6_can 55 = .ok (.iload 6, 2) := by decide +kernel
theorem dX6_can_57 : decode cX6_can 57 = .ok (.iload_n 2, 1) := by decide +kernel
theorem dX6_can_58 : decode cX6_can 58 = .ok (.if_icmp .ge 45, 3) := by decide +kernel
theorem dX6_can_61 : decode cX6_can 61 = .ok (.iload 5, 2) := by decide +kernel
theorem dX6_can_63 : decode cX6_can 63 = .ok (.aload_n 0, 1) := by decide +kernel
theorem dX6_can_64 : decode cX6_can 64 = .ok (.getfield 108, 3) := by decide +kernel
theorem dX6_can_67 : decode cX6_can 67 = .ok (.if_icmp .ge 36, 3) := by decide +kernel
theorem dX6_can_70 : decode cX6_can 70 = .ok (.aload_n 0, 1) := by decide +kernel
theorem dX6_can_71 : decode cX6_can 71 = .ok (.getfield 31, 3) := by decide +kernel
theorem dX6_can_74 : decode cX6_can 74 = .ok (.iload 6, 2) := by decide +kernel
theorem dX6_can_76 : decode cX6_can 76 = .ok (.iaload, 1) := by decide +kernel
theorem dX6_can_77 : decode cX6_can 77 = .ok (.iload_n 3, 1) := by decide +kernel
theorem dX6_can_78 : decode cX6_can 78 = .ok (.iconst 1, 1) := by decide +kernel
theorem dX6_can_79 : decode cX6_can 79 = .ok (.isub, 1) := by decide +kernel
theorem dX6_can_80 : decode cX6_can 80 = .ok (.if_icmp .ne 17, 3) := by decide +kernel
theorem dX6_can_83 : decode cX6_can 83 = .ok (.aload_n 0, 1) := by decide +kernel
theorem dX6_can_84 : decode cX6_can 84 = .ok (.getfield 34, 3) := by decide +kernel
theorem dX6_can_87 : decode cX6_can 87 = .ok (.iload 6, 2) := by decide +kernel
theorem dX6_can_89 : decode cX6_can 89 = .ok (.iaload, 1) := by decide +kernel
theorem dX6_can_90 : decode cX6_can 90 = .ok (.iload 5, 2) := by decide +kernel
theorem dX6_can_92 : decode cX6_can 92 = .ok (.if_icmp .ne 5, 3) := by decide +kernel
theorem dX6_can_95 : decode cX6_can 95 = .ok (.iconst 0, 1) := by decide +kernel
theorem dX6_can_96 : decode cX6_can 96 = .ok (.ireturn, 1) := by decide +kernel
theorem dX6_can_97 : decode cX6_can 97 = .ok (.iinc 6 1, 3) := by decide +kernel
theorem dX6_can_100 : decode cX6_can 100 = .ok (.goto (-45), 3) := by decide +kernel
theorem dX6_can_103 : decode cX6_can 103 = .ok (.iconst 1, 1) := by decide +kernel
theorem dX6_can_104 : decode cX6_can 104 = .ok (.ireturn, 1) := by decide +kernel
set_option maxRecDepth 20000 in
theorem ggX6_isFull_X6_width : GoodIn wsX6_isFull wsX6_width := goodIn_r _ [10, 11, 12, 13, 14, 15, 16, 17, 18, 19, 20, 21, 22, 23, 24, 25, 26, 27, 28, 29, 30, 31, 32, 33, 34, 35, 36, 37, 38, 39, 40, 41, 42, 43, 44, 45, 46, 47, 48, 49] (by decide +kernel) (by decide +kernel)
set_option maxRecDepth 20000 in
theorem gX6_isFull_X6_width : GoodIn wsX6_isFull (wsV RX6 126 RX6 yX6_width wsX6_width) := goodIn_app (goodIn_of _ (by decide +kernel)) ggX6_isFull_X6_width
theorem dX6_isFull_0 : decode cX6_isFull 0 = .ok (.aload_n 0, 1) := by decide +kernel
theorem dX6_isFull_1 : decode cX6_isFull 1 = .ok (.getfield 120, 3) := by decide +kernel
theorem dX6_isFull_4 : decode cX6_isFull 4 = .ok (.iload_n 1, 1) := by decide +kernel
theorem dX6_isFull_5 : decode cX6_isFull 5 = .ok (.ishr, 1) := by decide +kernel
theorem dX6_isFull_6 : decode cX6_isFull 6 = .ok (.iconst 1, 1) := by decide +kernel
theorem dX6_isFull_7 : decode cX6_isFull 7 = .ok (.iand, 1) := by decide +kernel
theorem dX6_isFull_8 : decode cX6_isFull 8 = .ok (.ifCond .ne 5, 3) := by decide +kernel
theorem dX6_isFull_11 : decode cX6_isFull 11 = .ok (.iconst 1, 1) := by decide +kernel
theorem dX6_isFull_12 : decode cX6_isFull 12 = .ok (.ireturn, 1) := by decide +kernel
theorem dX6_isFull_13 : decode cX6_isFull 13 = .ok (.iconst 0, 1) := by decide +kernel
theorem dX6_isFull_14 : decode cX6_isFull 14 = .ok (.istore_n 3, 1) := by decide +kernel
theorem dX6_isFull_15 : decode cX6_isFull 15 = .ok (.iconst 0, 1) := by decide +kernel
theorem dX6_isFull_16 : decode cX6_isFull 16 = .ok (.istore 4, 2) := by decide +kernel
theorem dX6_isFull_18 : decode cX6_isFull 18 = .ok (.iload 4, 2) := by decide +kernel
theorem dX6_isFull_20 : decode cX6_isFull 20 = .ok (.iload_n 2, 1) := by decide +kernel
theorem dX6_isFull_21 : decode cX6_isFull 21 = .ok (.if_icmp .ge 48, 3) := by decide +kernel
theorem dX6_isFull_24 : decode cX6_isFull 24 = .ok (.iload_n 3, 1) := by decide +kernel
theorem dX6_isFull_25 : decode cX6_isFull 25 = .ok (.aload_n 0, 1) := by decide +kernel
theorem dX6_isFull_26 : decode cX6_isFull 26 = .ok (.getfield 31, 3) := by decide +kernel
theorem dX6_isFull_29 : decode cX6_isFull 29 = .ok (.iload 4, 2) := by decide +kernel
theorem dX6_isFull_31 : decode cX6_isFull 31 = .ok (.iaload, 1) := by decide +kernel
theorem dX6_isFull_32 : decode cX6_isFull 32 = .ok (.iload_n 1, 1) := by decide +kernel
theorem dX6_isFull_33 : decode cX6_isFull 33 = .ok (.if_icmp .ne 27, 3) := by decide +kernel
theorem dX6_isFull_36 : decode cX6_isFull 36 = .ok (.aload_n 0, 1) := by decide +kernel
theorem dX6_isFull_37 : decode cX6_isFull 37 = .ok (.getfield 13, 3) := by decide +kernel
theorem dX6_isFull_40 : decode cX6_isFull 40 = .ok (.aload_n 0, 1) := by decide +kernel
theorem dX6_isFull_41 : decode cX6_isFull 41 = .ok (.getfield 28, 3) := by decide +kernel
theorem dX6_isFull_44 : decode cX6_isFull 44 = .ok (.iload 4, 2) := by decide +kernel
theorem dX6_isFull_46 : decode cX6_isFull 46 = .ok (.iaload, 1) := by decide +kernel
theorem dX6_isFull_47 : decode cX6_isFull 47 = .ok (.iaload, 1) := by decide +kernel
theorem dX6_isFull_48 : decode cX6_isFull 48 = .ok (.aload_n 0, 1) := by decide +kernel
theorem dX6_isFull_49 : decode cX6_isFull 49 = .ok (.iload_n 1, 1) := by decide +kernel
theorem dX6_isFull_50 : decode cX6_isFull 50 = .ok (.invokevirtual 126, 3) := by decide +kernel
theorem dX6_isFull_53 : decode cX6_isFull 53 = .ok (.if_icmp .lt 7, 3) := by decide +kernel
theorem dX6_isFull_56 : decode cX6_isFull 56 = .ok (.iconst 1, 1) := by decide +kernel
theorem dX6_isFull_57 : decode cX6_isFull 57 = .ok (.goto 4, 3) := by decide +kernel
theorem dX6_isFull_60 : decode cX6_isFull 60 = .ok (.iconst 0, 1) := by decide +kernel
theorem dX6_isFull_61 : decode cX6_isFull 61 = .ok (.iadd, 1) := by decide +kernel
theorem dX6_isFull_62 : decode cX6_isFull 62 = .ok (.istore_n 3, 1) := by decide +kernel
theorem dX6_isFull_63 : decode cX6_isFull 63 = .ok (.iinc 4 1, 3) := by decide +kernel
theorem dX6_isFull_66 : decode cX6_isFull 66 = .ok (.goto (-48), 3) := by decide +kernel
theorem dX6_isFull_69 : decode cX6_isFull 69 = .ok (.iload_n 3, 1) := by decide +kernel
theorem dX6_isFull_70 : decode cX6_isFull 70 = .ok (.aload_n 0, 1) := by decide +kernel
theorem dX6_isFull_71 : decode cX6_isFull 71 = .ok (.getfield 123, 3) := by decide +kernel
theorem dX6_isFull_74 : decode cX6_isFull 74 = .ok (.if_icmp .lt 7, 3) := by decide +kernel
theorem dX6_isFull_77 : decode cX6_isFull 77 = .ok (.iconst 1, 1) := by decide +kernel
theorem dX6_isFull_78 : decode cX6_isFull 78 = .ok (.goto 4, 3) := by decide +kernel
theorem dX6_isFull_81 : decode cX6_isFull 81 = .ok (.iconst 0, 1) := by decide +kernel
theorem dX6_isFull_82 : decode cX6_isFull 82 = .ok (.ireturn, 1) := by decide +kernel
set_option maxRecDepth 20000 in
theorem ggX6_plan_X6_noPlan : GoodIn wsX6_plan wsX6_noPlan := goodIn_r _ [22, 14, 15, 45, 46, 47, 48, 49, 50, 51, 52, 53, 54, 55, 56, 57, 58, 59, 60, 61, 62, 63, 64, 65, 66, 67, 68, 69, 70, 71, 72, 73, 74, 75, 76, 77, 78, 79, 80, 81] (by decide +kernel) (by decide +kernel)
set_option maxRecDepth 20000 in
theorem gX6_plan_X6_noPlan : GoodIn wsX6_plan (wsV RX6 89 RX6 yX6_noPlan wsX6_noPlan) := goodIn_app (goodIn_of _ (by decide +kernel)) ggX6_plan_X6_noPlan
set_option maxRecDepth 20000 in
theorem ggX6_plan_X6_can : GoodIn wsX6_plan wsX6_can := goodIn_r _ [26, 12, 27, 13, 5, 10, 11, 28, 29, 30, 21, 31, 32, 33, 34, 35, 36, 37, 38, 17, 45, 46, 47, 48, 49, 50, 51, 52, 53, 54, 55, 56, 57, 58, 59, 60, 61, 62, 63, 64, 65, 66, 67, 68, 69, 70, 71, 72, 73, 74, 75, 76, 77, 78, 79, 80, 81] (by decide +kernel) (by decide +kernel)
set_option maxRecDepth 20000 in
theorem gX6_plan_X6_can : GoodIn wsX6_plan (wsV RX6 136 RX6 yX6_can wsX6_can) := goodIn_app (goodIn_of _ (by decide +kernel)) ggX6_plan_X6_can
set_option maxRecDepth 20000 in
theorem ggX6_plan_X6_isFull : GoodIn wsX6_plan wsX6_isFull := goodIn_r _ [42, 43, 10, 27, 9, 44, 28, 29, 30, 21, 31, 32, 33, 45, 46, 47, 48, 49, 50, 51, 52, 53, 54, 55, 56, 57, 58, 59, 60, 61, 62, 63, 64, 65, 66, 67, 68, 69, 70, 71, 72, 73, 74, 75, 76, 77, 78, 79, 80, 81] (by decide +kernel) (by decide +kernel)
set_option maxRecDepth 20000 in
theorem gX6_plan_X6_isFull : GoodIn wsX6_plan (wsV RX6 140 RX6 yX6_isFull wsX6_isFull) := goodIn_app (goodIn_of _ (by decide +kernel)) ggX6_plan_X6_isFull
theorem dX6_plan_0 : decode cX6_plan 0 = .ok (.aload_n 0, 1) := by decide +kernel
theorem dX6_plan_1 : decode cX6_plan 1 = .ok (.iconst 0, 1) := by decide +kernel
theorem dX6_plan_2 : decode cX6_plan 2 = .ok (.putfield 72, 3) := by decide +kernel
theorem dX6_plan_5 : decode cX6_plan 5 = .ok (.aload_n 0, 1) := by decide +kernel
theorem dX6_plan_6 : decode cX6_plan 6 = .ok (.getfield 83, 3) := by decide +kernel
theorem dX6_plan_9 : decode cX6_plan 9 = .ok (.ifCond .ne 10, 3) := by decide +kernel
theorem dX6_plan_12 : decode cX6_plan 12 = .ok (.aload_n 0, 1) := by decide +kernel
theorem dX6_plan_13 : decode cX6_plan 13 = .ok (.getfield 99, 3) := by decide +kernel
theorem dX6_plan_16 : decode cX6_plan 16 = .ok (.ifCond .ne 5, 3) := by decide +kernel
theorem dX6_plan_19 : decode cX6_plan 19 = .ok (.iconst (-1), 1) := by decide +kernel
theorem dX6_plan_20 : decode cX6_plan 20 = .ok (.ireturn, 1) := by decide +kernel
theorem dX6_plan_21 : decode cX6_plan 21 = .ok (.aload_n 0, 1) := by decide +kernel
theorem dX6_plan_22 : decode cX6_plan 22 = .ok (.invokevirtual 89, 3) := by decide +kernel
theorem dX6_plan_25 : decode cX6_plan 25 = .ok (.aload_n 0, 1) := by decide +kernel
theorem dX6_plan_26 : decode cX6_plan 26 = .ok (.iconst 0, 1) := by decide +kernel
theorem dX6_plan_27 : decode cX6_plan 27 = .ok (.putfield 133, 3) := by decide +kernel
theorem dX6_plan_30 : decode cX6_plan 30 = .ok (.iconst 0, 1) := by decide +kernel
theorem dX6_plan_31 : decode cX6_plan 31 = .ok (.istore_n 1, 1) := by decide +kernel
theorem dX6_plan_32 : decode cX6_plan 32 = .ok (.iload_n 1, 1) := by decide +kernel
theorem dX6_plan_33 : decode cX6_plan 33 = .ok (.bipush 8, 2) := by decide +kernel
theorem dX6_plan_35 : decode cX6_plan 35 = .ok (.if_icmp .ge 16, 3) := by decide +kernel
theorem dX6_plan_38 : decode cX6_plan 38 = .ok (.aload_n 0, 1) := by decide +kernel
theorem dX6_plan_39 : decode cX6_plan 39 = .ok (.getfield 47, 3) := by decide +kernel
theorem dX6_plan_42 : decode cX6_plan 42 = .ok (.iload_n 1, 1) := by decide +kernel
theorem dX6_plan_43 : decode cX6_plan 43 = .ok (.iconst 0, 1) := by decide +kernel
theorem dX6_plan_44 : decode cX6_plan 44 = .ok (.iastore, 1) := by decide +kernel
theorem dX6_plan_45 : decode cX6_plan 45 = .ok (.iinc 1 1, 3) := by decide +kernel
theorem dX6_plan_48 : decode cX6_plan 48 = .ok (.goto (-16), 3) := by decide +kernel
theorem dX6_plan_51 : decode cX6_plan 51 = .ok (.iconst 0, 1) := by decide +kernel
theorem dX6_plan_52 : decode cX6_plan 52 = .ok (.istore_n 1, 1) := by decide +kernel
theorem dX6_plan_53 : decode cX6_plan 53 = .ok (.iconst 0, 1) := by decide +kernel
theorem dX6_plan_54 : decode cX6_plan 54 = .ok (.istore_n 2, 1) := by decide +kernel
theorem dX6_plan_55 : decode cX6_plan 55 = .ok (.iconst 0, 1) := by decide +kernel
theorem dX6_plan_56 : decode cX6_plan 56 = .ok (.istore_n 3, 1) := by decide +kernel
theorem dX6_plan_57 : decode cX6_plan 57 = .ok (.aload_n 0, 1) := by decide +kernel
theorem dX6_plan_58 : decode cX6_plan 58 = .ok (.getfield 50, 3) := by decide +kernel
theorem dX6_plan_61 : decode cX6_plan 61 = .ok (.iconst 0, 1) := by decide +kernel
theorem dX6_plan_62 : decode cX6_plan 62 = .ok (.iconst 0, 1) := by decide +kernel
theorem dX6_plan_63 : decode cX6_plan 63 = .ok (.iastore, 1) := by decide +kernel
theorem dX6_plan_64 : decode cX6_plan 64 = .ok (.iload_n 1, 1) := by decide +kernel
theorem dX6_plan_65 : decode cX6_plan 65 = .ok (.ifCond .lt 240, 3) := by decide +kernel
theorem dX6_plan_68 : decode cX6_plan 68 = .ok (.iload_n 2, 1) := by decide +kernel
theorem dX6_plan_69 : decode cX6_plan 69 = .ok (.aload_n 0, 1) := by decide +kernel
theorem dX6_plan_70 : decode cX6_plan 70 = .ok (.getfield 111, 3) := by decide +kernel
theorem dX6_plan_73 : decode cX6_plan 73 = .ok (.if_icmp .ge 232, 3) := by decide +kernel
theorem dX6_plan_76 : decode cX6_plan 76 = .ok (.aload_n 0, 1) := by decide +kernel
theorem dX6_plan_77 : decode cX6_plan 77 = .ok (.getfield 50, 3) := by decide +kernel
theorem dX6_plan_80 : decode cX6_plan 80 = .ok (.iload_n 1, 1) := by decide +kernel
theorem dX6_plan_81 : decode cX6_plan 81 = .ok (.iaload, 1) := by decide +kernel
theorem dX6_plan_82 : decode cX6_plan 82 = .ok (.istore 4, 2) := by decide +kernel
theorem dX6_plan_84 : decode cX6_plan 84 = .ok (.iload 4, 2) := by decide +kernel
theorem dX6_plan_86 : decode cX6_plan 86 = .ok (.aload_n 0, 1) := by decide +kernel
theorem dX6_plan_87 : decode cX6_plan 87 = .ok (.getfield 86, 3) := by decide +kernel
theorem dX6_plan_90 : decode cX6_plan 90 = .ok (.if_icmp .ge 21, 3) := by decide +kernel
theorem dX6_plan_93 : decode cX6_plan 93 = .ok (.aload_n 0, 1) := by decide +kernel
theorem dX6_plan_94 : decode cX6_plan 94 = .ok (.iload 4, 2) := by decide +kernel
theorem dX6_plan_96 : decode cX6_plan 96 = .ok (.iload_n 1, 1) := by decide +kernel
theorem dX6_plan_97 : decode cX6_plan 97 = .ok (.iload_n 2, 1) := by decide +kernel
theorem dX6_plan_98 : decode cX6_plan 98 = .ok (.iload_n 3, 1) := by decide +kernel
theorem dX6_plan_99 : decode cX6_plan 99 = .ok (.invokevirtual 136, 3) := by decide +kernel
theorem dX6_plan_102 : decode cX6_plan 102 = .ok (.ifCond .ne 9, 3) := by decide +kernel
theorem dX6_plan_105 : decode cX6_plan 105 = .ok (.iinc 4 1, 3) := by decide +kernel
theorem dX6_plan_108 : decode cX6_plan 108 = .ok (.goto (-24), 3) := by decide +kernel
theorem dX6_plan_111 : decode cX6_plan 111 = .ok (.iload 4, 2) := by decide +kernel
theorem dX6_plan_113 : decode cX6_plan 113 = .ok (.aload_n 0, 1) := by decide +kernel
theorem dX6_plan_114 : decode cX6_plan 114 = .ok (.getfield 86, 3) := by decide +kernel
theorem dX6_plan_117 : decode cX6_plan 117 = .ok (.if_icmp .ne 56, 3) := by decide +kernel
theorem dX6_plan_120 : decode cX6_plan 120 = .ok (.iinc 1 (-1), 3) := by decide +kernel
theorem dX6_plan_123 : decode cX6_plan 123 = .ok (.iload_n 1, 1) := by decide +kernel
theorem dX6_plan_124 : decode cX6_plan 124 = .ok (.ifCond .lt (-60), 3) := by decide +kernel
theorem dX6_plan_127 : decode cX6_plan 127 = .ok (.aload_n 0, 1) := by decide +kernel
theorem dX6_plan_128 : decode cX6_plan 128 = .ok (.getfield 47, 3) := by decide +kernel
theorem dX6_plan_131 : decode cX6_plan 131 = .ok (.aload_n 0, 1) := by decide +kernel
theorem dX6_plan_132 : decode cX6_plan 132 = .ok (.getfield 28, 3) := by decide +kernel
theorem dX6_plan_135 : decode cX6_plan 135 = .ok (.iload_n 1, 1) := by decide +kernel
theorem dX6_plan_136 : decode cX6_plan 136 = .ok (.iaload, 1) := by decide +kernel
theorem dX6_plan_137 : decode cX6_plan 137 = .ok (.dup2, 1) := by decide +kernel
theorem dX6_plan_138 : decode cX6_plan 138 = .ok (.iaload, 1) := by decide +kernel
theorem dX6_plan_139 : decode cX6_plan 139 = .ok (.iconst 1, 1) := by decide +kernel
theorem dX6_plan_140 : decode cX6_plan 140 = .ok (.isub, 1) := by decide +kernel
theorem dX6_plan_141 : decode cX6_plan 141 = .ok (.iastore, 1) := by decide +kernel
theorem dX6_plan_142 : decode cX6_plan 142 = .ok (.aload_n 0, 1) := by decide +kernel
theorem dX6_plan_143 : decode cX6_plan 143 = .ok (.getfield 31, 3) := by decide +kernel
theorem dX6_plan_146 : decode cX6_plan 146 = .ok (.iload_n 1, 1) := by decide +kernel
theorem dX6_plan_147 : decode cX6_plan 147 = .ok (.iaload, 1) := by decide +kernel
theorem dX6_plan_148 : decode cX6_plan 148 = .ok (.istore_n 2, 1) := by decide +kernel
theorem dX6_plan_149 : decode cX6_plan 149 = .ok (.aload_n 0, 1) := by decide +kernel
theorem dX6_plan_150 : decode cX6_plan 150 = .ok (.getfield 34, 3) := by decide +kernel
theorem dX6_plan_153 : decode cX6_plan 153 = .ok (.iload_n 1, 1) := by decide +kernel
theorem dX6_plan_154 : decode cX6_plan 154 = .ok (.iaload, 1) := by decide +kernel
theorem dX6_plan_155 : decode cX6_plan 155 = .ok (.istore_n 3, 1) := by decide +kernel
theorem dX6_plan_156 : decode cX6_plan 156 = .ok (.aload_n 0, 1) := by decide +kernel
theorem dX6_plan_157 : decode cX6_plan 157 = .ok (.getfield 50, 3) := by decide +kernel
theorem dX6_plan_160 : decode cX6_plan 160 = .ok (.iload_n 1, 1) := by decide +kernel
theorem dX6_plan_161 : decode cX6_plan 161 = .ok (.aload_n 0, 1) := by decide +kernel
theorem dX6_plan_162 : decode cX6_plan 162 = .ok (.getfield 28, 3) := by decide +kernel
theorem dX6_plan_165 : decode cX6_plan 165 = .ok (.iload_n 1, 1) := by decide +kernel
theorem dX6_plan_166 : decode cX6_plan 166 = .ok (.iaload, 1) := by decide +kernel
theorem dX6_plan_167 : decode cX6_plan 167 = .ok (.iconst 1, 1) := by decide +kernel
theorem dX6_plan_168 : decode cX6_plan 168 = .ok (.iadd, 1) := by decide +kernel
theorem dX6_plan_169 : decode cX6_plan 169 = .ok (.iastore, 1) := by decide +kernel
theorem dX6_plan_170 : decode cX6_plan 170 = .ok (.goto (-106), 3) := by decide +kernel
theorem dX6_plan_173 : decode cX6_plan 173 = .ok (.aload_n 0, 1) := by decide +kernel
theorem dX6_plan_174 : decode cX6_plan 174 = .ok (.getfield 133, 3) := by decide +kernel
theorem dX6_plan_177 : decode cX6_plan 177 = .ok (.sipush 20000, 3) := by decide +kernel
theorem dX6_plan_180 : decode cX6_plan 180 = .ok (.if_icmp .ne 6, 3) := by decide +kernel
theorem dX6_plan_183 : decode cX6_plan 183 = .ok (.bipush (-2), 2) := by decide +kernel
theorem dX6_plan_185 : decode cX6_plan 185 = .ok (.ireturn, 1) := by decide +kernel
theorem dX6_plan_186 : decode cX6_plan 186 = .ok (.aload_n 0, 1) := by decide +kernel
theorem dX6_plan_187 : decode cX6_plan 187 = .ok (.dup, 1) := by decide +kernel
theorem dX6_plan_188 : decode cX6_plan 188 = .ok (.getfield 133, 3) := by decide +kernel
theorem dX6_plan_191 : decode cX6_plan 191 = .ok (.iconst 1, 1) := by decide +kernel
theorem dX6_plan_192 : decode cX6_plan 192 = .ok (.iadd, 1) := by decide +kernel
theorem dX6_plan_193 : decode cX6_plan 193 = .ok (.putfield 133, 3) := by decide +kernel
theorem dX6_plan_196 : decode cX6_plan 196 = .ok (.aload_n 0, 1) := by decide +kernel
theorem dX6_plan_197 : decode cX6_plan 197 = .ok (.getfield 28, 3) := by decide +kernel
theorem dX6_plan_200 : decode cX6_plan 200 = .ok (.iload_n 1, 1) := by decide +kernel
theorem dX6_plan_201 : decode cX6_plan 201 = .ok (.iload 4, 2) := by decide +kernel
theorem dX6_plan_203 : decode cX6_plan 203 = .ok (.iastore, 1) := by decide +kernel
theorem dX6_plan_204 : decode cX6_plan 204 = .ok (.aload_n 0, 1) := by decide +kernel
theorem dX6_plan_205 : decode cX6_plan 205 = .ok (.getfield 31, 3) := by decide +kernel
theorem dX6_plan_208 : decode cX6_plan 208 = .ok (.iload_n 1, 1) := by decide +kernel
theorem dX6_plan_209 : decode cX6_plan 209 = .ok (.iload_n 2, 1) := by decide +kernel
theorem dX6_plan_210 : decode cX6_plan 210 = .ok (.iastore, 1) := by decide +kernel
theorem dX6_plan_211 : decode cX6_plan 211 = .ok (.aload_n 0, 1) := by decide +kernel
theorem dX6_plan_212 : decode cX6_plan 212 = .ok (.getfield 34, 3) := by decide +kernel
theorem dX6_plan_215 : decode cX6_plan 215 = .ok (.iload_n 1, 1) := by decide +kernel
theorem dX6_plan_216 : decode cX6_plan 216 = .ok (.iload_n 3, 1) := by decide +kernel
theorem dX6_plan_217 : decode cX6_plan 217 = .ok (.iastore, 1) := by decide +kernel
theorem dX6_plan_218 : decode cX6_plan 218 = .ok (.iload_n 3, 1) := by decide +kernel
theorem dX6_plan_219 : decode cX6_plan 219 = .ok (.aload_n 0, 1) := by decide +kernel
theorem dX6_plan_220 : decode cX6_plan 220 = .ok (.getfield 7, 3) := by decide +kernel
theorem dX6_plan_223 : decode cX6_plan 223 = .ok (.iload 4, 2) := by decide +kernel
theorem dX6_plan_225 : decode cX6_plan 225 = .ok (.iaload, 1) := by decide +kernel
theorem dX6_plan_226 : decode cX6_plan 226 = .ok (.iadd, 1) := by decide +kernel
theorem dX6_plan_227 : decode cX6_plan 227 = .ok (.aload_n 0, 1) := by decide +kernel
theorem dX6_plan_228 : decode cX6_plan 228 = .ok (.getfield 108, 3) := by decide +kernel
theorem dX6_plan_231 : decode cX6_plan 231 = .ok (.if_icmp .ne 27, 3) := by decide +kernel
theorem dX6_plan_234 : decode cX6_plan 234 = .ok (.aload_n 0, 1) := by decide +kernel
theorem dX6_plan_235 : decode cX6_plan 235 = .ok (.iload_n 2, 1) := by decide +kernel
theorem dX6_plan_236 : decode cX6_plan 236 = .ok (.iload_n 1, 1) := by decide +kernel
theorem dX6_plan_237 : decode cX6_plan 237 = .ok (.iconst 1, 1) := by decide +kernel
theorem dX6_plan_238 : decode cX6_plan 238 = .ok (.iadd, 1) := by decide +kernel
theorem dX6_plan_239 : decode cX6_plan 239 = .ok (.invokevirtual 140, 3) := by decide +kernel
theorem dX6_plan_242 : decode cX6_plan 242 = .ok (.ifCond .ne 16, 3) := by decide +kernel
theorem dX6_plan_245 : decode cX6_plan 245 = .ok (.aload_n 0, 1) := by decide +kernel
theorem dX6_plan_246 : decode cX6_plan 246 = .ok (.getfield 50, 3) := by decide +kernel
theorem dX6_plan_249 : decode cX6_plan 249 = .ok (.iload_n 1, 1) := by decide +kernel
theorem dX6_plan_250 : decode cX6_plan 250 = .ok (.iload 4, 2) := by decide +kernel
theorem dX6_plan_252 : decode cX6_plan 252 = .ok (.iconst 1, 1) := by decide +kernel
theorem dX6_plan_253 : decode cX6_plan 253 = .ok (.iadd, 1) := by decide +kernel
theorem dX6_plan_254 : decode cX6_plan 254 = .ok (.iastore, 1) := by decide +kernel
theorem dX6_plan_255 : decode cX6_plan 255 = .ok (.goto (-191), 3) := by decide +kernel
theorem dX6_plan_258 : decode cX6_plan 258 = .ok (.aload_n 0, 1) := by decide +kernel
theorem dX6_plan_259 : decode cX6_plan 259 = .ok (.getfield 47, 3) := by decide +kernel
theorem dX6_plan_262 : decode cX6_plan 262 = .ok (.iload 4, 2) := by decide +kernel
theorem dX6_plan_264 : decode cX6_plan 264 = .ok (.dup2, 1) := by decide +kernel
theorem dX6_plan_265 : decode cX6_plan 265 = .ok (.iaload, 1) := by decide +kernel
theorem dX6_plan_266 : decode cX6_plan 266 = .ok (.iconst 1, 1) := by decide +kernel
theorem dX6_plan_267 : decode cX6_plan 267 = .ok (.iadd, 1) := by decide +kernel
theorem dX6_plan_268 : decode cX6_plan 268 = .ok (.iastore, 1) := by decide +kernel
theorem dX6_plan_269 : decode cX6_plan 269 = .ok (.iload_n 3, 1) := by decide +kernel
theorem dX6_plan_270 : decode cX6_plan 270 = .ok (.aload_n 0, 1) := by decide +kernel
theorem dX6_plan_271 : decode cX6_plan 271 = .ok (.getfield 7, 3) := by decide +kernel
theorem dX6_plan_274 : decode cX6_plan 274 = .ok (.iload 4, 2) := by decide +kernel
theorem dX6_plan_276 : decode cX6_plan 276 = .ok (.iaload, 1) := by decide +kernel
theorem dX6_plan_277 : decode cX6_plan 277 = .ok (.iadd, 1) := by decide +kernel
theorem dX6_plan_278 : decode cX6_plan 278 = .ok (.istore_n 3, 1) := by decide +kernel
theorem dX6_plan_279 : decode cX6_plan 279 = .ok (.iload_n 3, 1) := by decide +kernel
theorem dX6_plan_280 : decode cX6_plan 280 = .ok (.aload_n 0, 1) := by decide +kernel
theorem dX6_plan_281 : decode cX6_plan 281 = .ok (.getfield 108, 3) := by decide +kernel
theorem dX6_plan_284 : decode cX6_plan 284 = .ok (.if_icmp .ne 8, 3) := by decide +kernel
theorem dX6_plan_287 : decode cX6_plan 287 = .ok (.iinc 2 1, 3) := by decide +kernel
theorem dX6_plan_290 : decode cX6_plan 290 = .ok (.iconst 0, 1) := by decide +kernel
theorem dX6_plan_291 : decode cX6_plan 291 = .ok (.istore_n 3, 1) := by decide +kernel
theorem dX6_plan_292 : decode cX6_plan 292 = .ok (.iinc 1 1, 3) := by decide +kernel
theorem dX6_plan_295 : decode cX6_plan 295 = .ok (.aload_n 0, 1) := by decide +kernel
theorem dX6_plan_296 : decode cX6_plan 296 = .ok (.getfield 50, 3) := by decide +kernel
theorem dX6_plan_299 : decode cX6_plan 299 = .ok (.iload_n 1, 1) := by decide +kernel
theorem dX6_plan_300 : decode cX6_plan 300 = .ok (.iconst 0, 1) := by decide +kernel
theorem dX6_plan_301 : decode cX6_plan 301 = .ok (.iastore, 1) := by decide +kernel
theorem dX6_plan_302 : decode cX6_plan 302 = .ok (.goto (-238), 3) := by decide +kernel
theorem dX6_plan_305 : decode cX6_plan 305 = .ok (.iload_n 1, 1) := by decide +kernel
theorem dX6_plan_306 : decode cX6_plan 306 = .ok (.ifCond .ge 5, 3) := by decide +kernel
theorem dX6_plan_309 : decode cX6_plan 309 = .ok (.iconst 0, 1) := by decide +kernel
theorem dX6_plan_310 : decode cX6_plan 310 = .ok (.ireturn, 1) := by decide +kernel
theorem dX6_plan_311 : decode cX6_plan 311 = .ok (.aload_n 0, 1) := by decide +kernel
theorem dX6_plan_312 : decode cX6_plan 312 = .ok (.iconst 1, 1) := by decide +kernel
theorem dX6_plan_313 : decode cX6_plan 313 = .ok (.putfield 76, 3) := by decide +kernel
theorem dX6_plan_316 : decode cX6_plan 316 = .ok (.aload_n 0, 1) := by decide +kernel
theorem dX6_plan_317 : decode cX6_plan 317 = .ok (.iload_n 1, 1) := by decide +kernel
theorem dX6_plan_318 : decode cX6_plan 318 = .ok (.putfield 80, 3) := by decide +kernel
theorem dX6_plan_321 : decode cX6_plan 321 = .ok (.iconst 0, 1) := by decide +kernel
theorem dX6_plan_322 : decode cX6_plan 322 = .ok (.istore 4, 2) := by decide +kernel
theorem dX6_plan_324 : decode cX6_plan 324 = .ok (.iload 4, 2) := by decide +kernel
theorem dX6_plan_326 : decode cX6_plan 326 = .ok (.bipush 40, 2) := by decide +kernel
theorem dX6_plan_328 : decode cX6_plan 328 = .ok (.if_icmp .ge 23, 3) := by decide +kernel
theorem dX6_plan_331 : decode cX6_plan 331 = .ok (.aload_n 0, 1) := by decide +kernel
theorem dX6_plan_332 : decode cX6_plan 332 = .ok (.getfield 25, 3) := by decide +kernel
theorem dX6_plan_335 : decode cX6_plan 335 = .ok (.iload 4, 2) := by decide +kernel
theorem dX6_plan_337 : decode cX6_plan 337 = .ok (.aload_n 0, 1) := by decide +kernel
theorem dX6_plan_338 : decode cX6_plan 338 = .ok (.getfield 22, 3) := by decide +kernel
theorem dX6_plan_341 : decode cX6_plan 341 = .ok (.iload 4, 2) := by decide +kernel
theorem dX6_plan_343 : decode cX6_plan 343 = .ok (.iaload, 1) := by decide +kernel
theorem dX6_plan_344 : decode cX6_plan 344 = .ok (.iastore, 1) := by decide +kernel
theorem dX6_plan_345 : decode cX6_plan 345 = .ok (.iinc 4 1, 3) := by decide +kernel
theorem dX6_plan_348 : decode cX6_plan 348 = .ok (.goto (-24), 3) := by decide +kernel
theorem dX6_plan_351 : decode cX6_plan 351 = .ok (.iload_n 1, 1) := by decide +kernel
theorem dX6_plan_352 : decode cX6_plan 352 = .ok (.ireturn, 1) := by decide +kernel
set_option maxRecDepth 20000 in
theorem ggX6_hearting_X6_width : GoodIn wsX6_hearting wsX6_width := goodIn_r _ [9, 10, 11, 12, 13, 14, 15, 16, 17, 18, 19, 20, 21, 22, 23, 24, 25, 26, 27, 28, 29, 30, 31, 32, 33, 34, 35, 36, 37, 38, 39, 40, 41, 42, 43, 44, 45, 46, 47, 48] (by decide +kernel) (by decide +kernel)
set_option maxRecDepth 20000 in
theorem gX6_hearting_X6_width : GoodIn wsX6_hearting (wsV RX6 126 RX6 yX6_width wsX6_width) := goodIn_app (goodIn_of _ (by decide +kernel)) ggX6_hearting_X6_width
theorem dX6_hearting_0 : decode cX6_hearting 0 = .ok (.aload_n 0, 1) := by decide +kernel
theorem dX6_hearting_1 : decode cX6_hearting 1 = .ok (.aload_n 0, 1) := by decide +kernel
theorem dX6_hearting_2 : decode cX6_hearting 2 = .ok (.getfield 31, 3) := by decide +kernel
theorem dX6_hearting_5 : decode cX6_hearting 5 = .ok (.iload_n 1, 1) := by decide +kernel
theorem dX6_hearting_6 : decode cX6_hearting 6 = .ok (.iaload, 1) := by decide +kernel
theorem dX6_hearting_7 : decode cX6_hearting 7 = .ok (.invokevirtual 126, 3) := by decide +kernel
theorem dX6_hearting_10 : decode cX6_hearting 10 = .ok (.aload_n 0, 1) := by decide +kernel
theorem dX6_hearting_11 : decode cX6_hearting 11 = .ok (.getfield 13, 3) := by decide +kernel
theorem dX6_hearting_14 : decode cX6_hearting 14 = .ok (.aload_n 0, 1) := by decide +kernel
theorem dX6_hearting_15 : decode cX6_hearting 15 = .ok (.getfield 28, 3) := by decide +kernel
theorem dX6_hearting_18 : decode cX6_hearting 18 = .ok (.iload_n 1, 1) := by decide +kernel
theorem dX6_hearting_19 : decode cX6_hearting 19 = .ok (.iaload, 1) := by decide +kernel
theorem dX6_hearting_20 : decode cX6_hearting 20 = .ok (.iaload, 1) := by decide +kernel
theorem dX6_hearting_21 : decode cX6_hearting 21 = .ok (.isub, 1) := by decide +kernel
theorem dX6_hearting_22 : decode cX6_hearting 22 = .ok (.istore_n 2, 1) := by decide +kernel
theorem dX6_hearting_23 : decode cX6_hearting 23 = .ok (.iload_n 2, 1) := by decide +kernel
theorem dX6_hearting_24 : decode cX6_hearting 24 = .ok (.ifCond .le 19, 3) := by decide +kernel
theorem dX6_hearting_27 : decode cX6_hearting 27 = .ok (.aload_n 0, 1) := by decide +kernel
theorem dX6_hearting_28 : decode cX6_hearting 28 = .ok (.getfield 7, 3) := by decide +kernel
theorem dX6_hearting_31 : decode cX6_hearting 31 = .ok (.aload_n 0, 1) := by decide +kernel
theorem dX6_hearting_32 : decode cX6_hearting 32 = .ok (.getfield 28, 3) := by decide +kernel
theorem dX6_hearting_35 : decode cX6_hearting 35 = .ok (.iload_n 1, 1) := by decide +kernel
theorem dX6_hearting_36 : decode cX6_hearting 36 = .ok (.iaload, 1) := by decide +kernel
theorem dX6_hearting_37 : decode cX6_hearting 37 = .ok (.iaload, 1) := by decide +kernel
theorem dX6_hearting_38 : decode cX6_hearting 38 = .ok (.iload_n 2, 1) := by decide +kernel
theorem dX6_hearting_39 : decode cX6_hearting 39 = .ok (.imul, 1) := by decide +kernel
theorem dX6_hearting_40 : decode cX6_hearting 40 = .ok (.goto 4, 3) := by decide +kernel
theorem dX6_hearting_43 : decode cX6_hearting 43 = .ok (.iconst 0, 1) := by decide +kernel
theorem dX6_hearting_44 : decode cX6_hearting 44 = .ok (.ireturn, 1) := by decide +kernel
theorem dX6_fails_0 : decode cX6_fails 0 = .ok (.aload_n 0, 1) := by decide +kernel
theorem dX6_fails_1 : decode cX6_fails 1 = .ok (.iload_n 1, 1) := by decide +kernel
theorem dX6_fails_2 : decode cX6_fails 2 = .ok (.putfield 72, 3) := by decide +kernel
theorem dX6_fails_5 : decode cX6_fails 5 = .ok (.iconst 0, 1) := by decide +kernel
theorem dX6_fails_6 : decode cX6_fails 6 = .ok (.ireturn, 1) := by decide +kernel
set_option maxRecDepth 20000 in
theorem ggX6_stone_X6_fails : GoodIn wsX6_stone wsX6_fails := goodIn_r _ [15, 1, 27, 28, 29, 30, 31, 32, 33, 34, 35, 36, 37, 38, 39, 40, 41, 42, 43, 44, 45, 46, 47, 48, 49, 50, 51, 52, 53, 54, 55, 56, 57, 58, 59, 60, 61, 62, 63] (by decide +kernel) (by decide +kernel)
set_option maxRecDepth 20000 in
theorem gX6_stone_X6_fails : GoodIn wsX6_stone (wsV RX6 143 RX6 yX6_fails wsX6_fails) := goodIn_app (goodIn_of _ (by decide +kernel)) ggX6_stone_X6_fails
set_option maxRecDepth 20000 in
theorem ggX6_stone_X6_hearting : GoodIn wsX6_stone wsX6_hearting := goodIn_r _ [19, 4, 6, 3, 20, 21, 22, 23, 14, 24, 25, 26, 27, 28, 29, 30, 31, 32, 33, 34, 35, 36, 37, 38, 39, 40, 41, 42, 43, 44, 45, 46, 47, 48, 49, 50, 51, 52, 53, 54, 55, 56, 57, 58, 59, 60, 61, 62, 63] (by decide +kernel) (by decide +kernel)
set_option maxRecDepth 20000 in
theorem gX6_stone_X6_hearting : GoodIn wsX6_stone (wsV RX6 146 RX6 yX6_hearting wsX6_hearting) := goodIn_app (goodIn_of _ (by decide +kernel)) ggX6_stone_X6_hearting
set_option maxRecDepth 20000 in
theorem ggX6_stone_X6_width : GoodIn wsX6_stone wsX6_width := goodIn_r _ [24, 25, 26, 27, 28, 29, 30, 31, 32, 33, 34, 35, 36, 37, 38, 39, 40, 41, 42, 43, 44, 45, 46, 47, 48, 49, 50, 51, 52, 53, 54, 55, 56, 57, 58, 59, 60, 61, 62, 63] (by decide +kernel) (by decide +kernel)
set_option maxRecDepth 20000 in
theorem gX6_stone_X6_width : GoodIn wsX6_stone (wsV RX6 126 RX6 yX6_width wsX6_width) := goodIn_app (goodIn_of _ (by decide +kernel)) ggX6_stone_X6_width
theorem dX6_stone_0 : decode cX6_stone 0 = .ok (.aload_n 0, 1) := by decide +kernel
theorem dX6_stone_1 : decode cX6_stone 1 = .ok (.iconst 0, 1) := by decide +kernel
theorem dX6_stone_2 : decode cX6_stone 2 = .ok (.putfield 72, 3) := by decide +kernel
theorem dX6_stone_5 : decode cX6_stone 5 = .ok (.iload_n 1, 1) := by decide +kernel
theorem dX6_stone_6 : decode cX6_stone 6 = .ok (.ifCond .lt 11, 3) := by decide +kernel
theorem dX6_stone_9 : decode cX6_stone 9 = .ok (.iload_n 1, 1) := by decide +kernel
theorem dX6_stone_10 : decode cX6_stone 10 = .ok (.aload_n 0, 1) := by decide +kernel
theorem dX6_stone_11 : decode cX6_stone 11 = .ok (.getfield 80, 3) := by decide +kernel
theorem dX6_stone_14 : decode cX6_stone 14 = .ok (.if_icmp .lt 9, 3) := by decide +kernel
theorem dX6_stone_17 : decode cX6_stone 17 = .ok (.aload_n 0, 1) := by decide +kernel
theorem dX6_stone_18 : decode cX6_stone 18 = .ok (.iconst 1, 1) := by decide +kernel
theorem dX6_stone_19 : decode cX6_stone 19 = .ok (.invokevirtual 143, 3) := by decide +kernel
theorem dX6_stone_22 : decode cX6_stone 22 = .ok (.ireturn, 1) := by decide +kernel
theorem dX6_stone_23 : decode cX6_stone 23 = .ok (.iload_n 2, 1) := by decide +kernel
theorem dX6_stone_24 : decode cX6_stone 24 = .ok (.tableswitch 163 0 7 #[48, 55, 62, 69, 75, 105, 123, 145], 48) := by decide +kernel
theorem dX6_stone_72 : decode cX6_stone 72 = .ok (.aload_n 0, 1) := by decide +kernel
theorem dX6_stone_73 : decode cX6_stone 73 = .ok (.getfield 28, 3) := by decide +kernel
theorem dX6_stone_76 : decode cX6_stone 76 = .ok (.iload_n 1, 1) := by decide +kernel
theorem dX6_stone_77 : decode cX6_stone 77 = .ok (.iaload, 1) := by decide +kernel
theorem dX6_stone_78 : decode cX6_stone 78 = .ok (.ireturn, 1) := by decide +kernel
theorem dX6_stone_79 : decode cX6_stone 79 = .ok (.aload_n 0, 1) := by decide +kernel
theorem dX6_stone_80 : decode cX6_stone 80 = .ok (.getfield 31, 3) := by decide +kernel
theorem dX6_stone_83 : decode cX6_stone 83 = .ok (.iload_n 1, 1) := by decide +kernel
theorem dX6_stone_84 : decode cX6_stone 84 = .ok (.iaload, 1) := by decide +kernel
theorem dX6_stone_85 : decode cX6_stone 85 = .ok (.ireturn, 1) := by decide +kernel
theorem dX6_stone_86 : decode cX6_stone 86 = .ok (.aload_n 0, 1) := by decide +kernel
theorem dX6_stone_87 : decode cX6_stone 87 = .ok (.getfield 34, 3) := by decide +kernel
theorem dX6_stone_90 : decode cX6_stone 90 = .ok (.iload_n 1, 1) := by decide +kernel
theorem dX6_stone_91 : decode cX6_stone 91 = .ok (.iaload, 1) := by decide +kernel
theorem dX6_stone_92 : decode cX6_stone 92 = .ok (.ireturn, 1) := by decide +kernel
theorem dX6_stone_93 : decode cX6_stone 93 = .ok (.aload_n 0, 1) := by decide +kernel
theorem dX6_stone_94 : decode cX6_stone 94 = .ok (.iload_n 1, 1) := by decide +kernel
theorem dX6_stone_95 : decode cX6_stone 95 = .ok (.invokevirtual 146, 3) := by decide +kernel
theorem dX6_stone_98 : decode cX6_stone 98 = .ok (.ireturn, 1) := by decide +kernel
theorem dX6_stone_99 : decode cX6_stone 99 = .ok (.aload_n 0, 1) := by decide +kernel
theorem dX6_stone_100 : decode cX6_stone 100 = .ok (.getfield 13, 3) := by decide +kernel
theorem dX6_stone_103 : decode cX6_stone 103 = .ok (.aload_n 0, 1) := by decide +kernel
theorem dX6_stone_104 : decode cX6_stone 104 = .ok (.getfield 28, 3) := by decide +kernel
theorem dX6_stone_107 : decode cX6_stone 107 = .ok (.iload_n 1, 1) := by decide +kernel
theorem dX6_stone_108 : decode cX6_stone 108 = .ok (.iaload, 1) := by decide +kernel
theorem dX6_stone_109 : decode cX6_stone 109 = .ok (.iaload, 1) := by decide +kernel
theorem dX6_stone_110 : decode cX6_stone 110 = .ok (.aload_n 0, 1) := by decide +kernel
theorem dX6_stone_111 : decode cX6_stone 111 = .ok (.aload_n 0, 1) := by decide +kernel
theorem dX6_stone_112 : decode cX6_stone 112 = .ok (.getfield 31, 3) := by decide +kernel
theorem dX6_stone_115 : decode cX6_stone 115 = .ok (.iload_n 1, 1) := by decide +kernel
theorem dX6_stone_116 : decode cX6_stone 116 = .ok (.iaload, 1) := by decide +kernel
theorem dX6_stone_117 : decode cX6_stone 117 = .ok (.invokevirtual 126, 3) := by decide +kernel
theorem dX6_stone_120 : decode cX6_stone 120 = .ok (.if_icmp .lt 7, 3) := by decide +kernel
theorem dX6_stone_123 : decode cX6_stone 123 = .ok (.iconst 1, 1) := by decide +kernel
theorem dX6_stone_124 : decode cX6_stone 124 = .ok (.goto 4, 3) := by decide +kernel
theorem dX6_stone_127 : decode cX6_stone 127 = .ok (.iconst 0, 1) := by decide +kernel
theorem dX6_stone_128 : decode cX6_stone 128 = .ok (.ireturn, 1) := by decide +kernel
theorem dX6_stone_129 : decode cX6_stone 129 = .ok (.aload_n 0, 1) := by decide +kernel
theorem dX6_stone_130 : decode cX6_stone 130 = .ok (.getfield 83, 3) := by decide +kernel
theorem dX6_stone_133 : decode cX6_stone 133 = .ok (.ifCond .eq 12, 3) := by decide +kernel
theorem dX6_stone_136 : decode cX6_stone 136 = .ok (.aload_n 0, 1) := by decide +kernel
theorem dX6_stone_137 : decode cX6_stone 137 = .ok (.getfield 37, 3) := by decide +kernel
theorem dX6_stone_140 : decode cX6_stone 140 = .ok (.iload_n 1, 1) := by decide +kernel
theorem dX6_stone_141 : decode cX6_stone 141 = .ok (.iaload, 1) := by decide +kernel
theorem dX6_stone_142 : decode cX6_stone 142 = .ok (.goto 4, 3) := by decide +kernel
theorem dX6_stone_145 : decode cX6_stone 145 = .ok (.iconst 0, 1) := by decide +kernel
theorem dX6_stone_146 : decode cX6_stone 146 = .ok (.ireturn, 1) := by decide +kernel
theorem dX6_stone_147 : decode cX6_stone 147 = .ok (.aload_n 0, 1) := by decide +kernel
theorem dX6_stone_148 : decode cX6_stone 148 = .ok (.getfield 83, 3) := by decide +kernel
theorem dX6_stone_151 : decode cX6_stone 151 = .ok (.ifCond .eq 16, 3) := by decide +kernel
theorem dX6_stone_154 : decode cX6_stone 154 = .ok (.aload_n 0, 1) := by decide +kernel
theorem dX6_stone_155 : decode cX6_stone 155 = .ok (.getfield 40, 3) := by decide +kernel
theorem dX6_stone_158 : decode cX6_stone 158 = .ok (.iload_n 1, 1) := by decide +kernel
theorem dX6_stone_159 : decode cX6_stone 159 = .ok (.baload, 1) := by decide +kernel
theorem dX6_stone_160 : decode cX6_stone 160 = .ok (.ifCond .eq 7, 3) := by decide +kernel
theorem dX6_stone_163 : decode cX6_stone 163 = .ok (.iconst 1, 1) := by decide +kernel
theorem dX6_stone_164 : decode cX6_stone 164 = .ok (.goto 4, 3) := by decide +kernel
theorem dX6_stone_167 : decode cX6_stone 167 = .ok (.iconst 0, 1) := by decide +kernel
theorem dX6_stone_168 : decode cX6_stone 168 = .ok (.ireturn, 1) := by decide +kernel
theorem dX6_stone_169 : decode cX6_stone 169 = .ok (.aload_n 0, 1) := by decide +kernel
theorem dX6_stone_170 : decode cX6_stone 170 = .ok (.getfield 83, 3) := by decide +kernel
theorem dX6_stone_173 : decode cX6_stone 173 = .ok (.ifCond .eq 12, 3) := by decide +kernel
theorem dX6_stone_176 : decode cX6_stone 176 = .ok (.aload_n 0, 1) := by decide +kernel
theorem dX6_stone_177 : decode cX6_stone 177 = .ok (.getfield 44, 3) := by decide +kernel
theorem dX6_stone_180 : decode cX6_stone 180 = .ok (.iload_n 1, 1) := by decide +kernel
theorem dX6_stone_181 : decode cX6_stone 181 = .ok (.iaload, 1) := by decide +kernel
theorem dX6_stone_182 : decode cX6_stone 182 = .ok (.goto 4, 3) := by decide +kernel
theorem dX6_stone_185 : decode cX6_stone 185 = .ok (.iconst (-1), 1) := by decide +kernel
theorem dX6_stone_186 : decode cX6_stone 186 = .ok (.ireturn, 1) := by decide +kernel
theorem dX6_stone_187 : decode cX6_stone 187 = .ok (.aload_n 0, 1) := by decide +kernel
theorem dX6_stone_188 : decode cX6_stone 188 = .ok (.iconst 2, 1) := by decide +kernel
theorem dX6_stone_189 : decode cX6_stone 189 = .ok (.invokevirtual 143, 3) := by decide +kernel
theorem dX6_stone_192 : decode cX6_stone 192 = .ok (.ireturn, 1) := by decide +kernel
theorem dX6_over_0 : decode cX6_over 0 = .ok (.aload_n 0, 1) := by decide +kernel
theorem dX6_over_1 : decode cX6_over 1 = .ok (.iconst 0, 1) := by decide +kernel
theorem dX6_over_2 : decode cX6_over 2 = .ok (.putfield 72, 3) := by decide +kernel
theorem dX6_over_5 : decode cX6_over 5 = .ok (.iconst 0, 1) := by decide +kernel
theorem dX6_over_6 : decode cX6_over 6 = .ok (.istore_n 3, 1) := by decide +kernel
theorem dX6_over_7 : decode cX6_over 7 = .ok (.iload_n 3, 1) := by decide +kernel
theorem dX6_over_8 : decode cX6_over 8 = .ok (.aload_n 0, 1) := by decide +kernel
theorem dX6_over_9 : decode cX6_over 9 = .ok (.getfield 80, 3) := by decide +kernel
theorem dX6_over_12 : decode cX6_over 12 = .ok (.if_icmp .ge 53, 3) := by decide +kernel
theorem dX6_over_15 : decode cX6_over 15 = .ok (.aload_n 0, 1) := by decide +kernel
theorem dX6_over_16 : decode cX6_over 16 = .ok (.getfield 31, 3) := by decide +kernel
theorem dX6_over_19 : decode cX6_over 19 = .ok (.iload_n 3, 1) := by decide +kernel
theorem dX6_over_20 : decode cX6_over 20 = .ok (.iaload, 1) := by decide +kernel
theorem dX6_over_21 : decode cX6_over 21 = .ok (.iload_n 1, 1) := by decide +kernel
theorem dX6_over_22 : decode cX6_over 22 = .ok (.if_icmp .ne 37, 3) := by decide +kernel
theorem dX6_over_25 : decode cX6_over 25 = .ok (.aload_n 0, 1) := by decide +kernel
theorem dX6_over_26 : decode cX6_over 26 = .ok (.getfield 34, 3) := by decide +kernel
theorem dX6_over_29 : decode cX6_over 29 = .ok (.iload_n 3, 1) := by decide +kernel
theorem dX6_over_30 : decode cX6_over 30 = .ok (.iaload, 1) := by decide +kernel
theorem dX6_over_31 : decode cX6_over 31 = .ok (.iload_n 2, 1) := by decide +kernel
theorem dX6_over_32 : decode cX6_over 32 = .ok (.if_icmp .gt 27, 3) := by decide +kernel
theorem dX6_over_35 : decode cX6_over 35 = .ok (.iload_n 2, 1) := by decide +kernel
theorem dX6_over_36 : decode cX6_over 36 = .ok (.aload_n 0, 1) := by decide +kernel
theorem dX6_over_37 : decode cX6_over 37 = .ok (.getfield 34, 3) := by decide +kernel
theorem dX6_over_40 : decode cX6_over 40 = .ok (.iload_n 3, 1) := by decide +kernel
theorem dX6_over_41 : decode cX6_over 41 = .ok (.iaload, 1) := by decide +kernel
theorem dX6_over_42 : decode cX6_over 42 = .ok (.aload_n 0, 1) := by decide +kernel
theorem dX6_over_43 : decode cX6_over 43 = .ok (.getfield 7, 3) := by decide +kernel
theorem dX6_over_46 : decode cX6_over 46 = .ok (.aload_n 0, 1) := by decide +kernel
theorem dX6_over_47 : decode cX6_over 47 = .ok (.getfield 28, 3) := by decide +kernel
theorem dX6_over_50 : decode cX6_over 50 = .ok (.iload_n 3, 1) := by decide +kernel
theorem dX6_over_51 : decode cX6_over 51 = .ok (.iaload, 1) := by decide +kernel
theorem dX6_over_52 : decode cX6_over 52 = .ok (.iaload, 1) := by decide +kernel
theorem dX6_over_53 : decode cX6_over 53 = .ok (.iadd, 1) := by decide +kernel
theorem dX6_over_54 : decode cX6_over 54 = .ok (.if_icmp .ge 5, 3) := by decide +kernel
theorem dX6_over_57 : decode cX6_over 57 = .ok (.iload_n 3, 1) := by decide +kernel
theorem dX6_over_58 : decode cX6_over 58 = .ok (.ireturn, 1) := by decide +kernel
theorem dX6_over_59 : decode cX6_over 59 = .ok (.iinc 3 1, 3) := by decide +kernel
theorem dX6_over_62 : decode cX6_over 62 = .ok (.goto (-55), 3) := by decide +kernel
theorem dX6_over_65 : decode cX6_over 65 = .ok (.iconst (-1), 1) := by decide +kernel
theorem dX6_over_66 : decode cX6_over 66 = .ok (.ireturn, 1) := by decide +kernel
theorem dX6_size_0 : decode cX6_size 0 = .ok (.iload_n 0, 1) := by decide +kernel
theorem dX6_size_1 : decode cX6_size 1 = .ok (.ifCond .ge 8, 3) := by decide +kernel
theorem dX6_size_4 : decode cX6_size 4 = .ok (.iload_n 0, 1) := by decide +kernel
theorem dX6_size_5 : decode cX6_size 5 = .ok (.ineg, 1) := by decide +kernel
theorem dX6_size_6 : decode cX6_size 6 = .ok (.goto 4, 3) := by decide +kernel
theorem dX6_size_9 : decode cX6_size 9 = .ok (.iload_n 0, 1) := by decide +kernel
theorem dX6_size_10 : decode cX6_size 10 = .ok (.ireturn, 1) := by decide +kernel
set_option maxRecDepth 20000 in
theorem ggX6_toil_X6_size : GoodIn wsX6_toil wsX6_size := goodIn_r _ [12] (by decide +kernel) (by decide +kernel)
set_option maxRecDepth 20000 in
theorem gX6_toil_X6_size : GoodIn wsX6_toil (va_wsS RX6 149 yX6_size wsX6_size) := goodIn_app (goodIn_of _ (by decide +kernel)) ggX6_toil_X6_size
theorem dX6_toil_0 : decode cX6_toil 0 = .ok (.aload_n 0, 1) := by decide +kernel
theorem dX6_toil_1 : decode cX6_toil 1 = .ok (.getfield 28, 3) := by decide +kernel
theorem dX6_toil_4 : decode cX6_toil 4 = .ok (.iload_n 1, 1) := by decide +kernel
theorem dX6_toil_5 : decode cX6_toil 5 = .ok (.iaload, 1) := by decide +kernel
theorem dX6_toil_6 : decode cX6_toil 6 = .ok (.istore_n 3, 1) := by decide +kernel
theorem dX6_toil_7 : decode cX6_toil 7 = .ok (.aload_n 0, 1) := by decide +kernel
theorem dX6_toil_8 : decode cX6_toil 8 = .ok (.getfield 7, 3) := by decide +kernel
theorem dX6_toil_11 : decode cX6_toil 11 = .ok (.iload_n 3, 1) := by decide +kernel
theorem dX6_toil_12 : decode cX6_toil 12 = .ok (.iaload, 1) := by decide +kernel
theorem dX6_toil_13 : decode cX6_toil 13 = .ok (.i2l, 1) := by decide +kernel
theorem dX6_toil_14 : decode cX6_toil 14 = .ok (.aload_n 0, 1) := by decide +kernel
theorem dX6_toil_15 : decode cX6_toil 15 = .ok (.getfield 13, 3) := by decide +kernel
theorem dX6_toil_18 : decode cX6_toil 18 = .ok (.iload_n 3, 1) := by decide +kernel
theorem dX6_toil_19 : decode cX6_toil 19 = .ok (.iaload, 1) := by decide +kernel
theorem dX6_toil_20 : decode cX6_toil 20 = .ok (.i2l, 1) := by decide +kernel
theorem dX6_toil_21 : decode cX6_toil 21 = .ok (.lmul, 1) := by decide +kernel
theorem dX6_toil_22 : decode cX6_toil 22 = .ok (.aload_n 0, 1) := by decide +kernel
theorem dX6_toil_23 : decode cX6_toil 23 = .ok (.getfield 16, 3) := by decide +kernel
theorem dX6_toil_26 : decode cX6_toil 26 = .ok (.iload_n 2, 1) := by decide +kernel
theorem dX6_toil_27 : decode cX6_toil 27 = .ok (.iaload, 1) := by decide +kernel
theorem dX6_toil_28 : decode cX6_toil 28 = .ok (.aload_n 0, 1) := by decide +kernel
theorem dX6_toil_29 : decode cX6_toil 29 = .ok (.getfield 102, 3) := by decide +kernel
theorem dX6_toil_32 : decode cX6_toil 32 = .ok (.isub, 1) := by decide +kernel
theorem dX6_toil_33 : decode cX6_toil 33 = .ok (.aload_n 0, 1) := by decide +kernel
theorem dX6_toil_34 : decode cX6_toil 34 = .ok (.getfield 34, 3) := by decide +kernel
theorem dX6_toil_37 : decode cX6_toil 37 = .ok (.iload_n 1, 1) := by decide +kernel
theorem dX6_toil_38 : decode cX6_toil 38 = .ok (.iaload, 1) := by decide +kernel
theorem dX6_toil_39 : decode cX6_toil 39 = .ok (.isub, 1) := by decide +kernel
theorem dX6_toil_40 : decode cX6_toil 40 = .ok (.invokestatic 149, 3) := by decide +kernel
theorem dX6_toil_43 : decode cX6_toil 43 = .ok (.aload_n 0, 1) := by decide +kernel
theorem dX6_toil_44 : decode cX6_toil 44 = .ok (.getfield 19, 3) := by decide +kernel
theorem dX6_toil_47 : decode cX6_toil 47 = .ok (.iload_n 2, 1) := by decide +kernel
theorem dX6_toil_48 : decode cX6_toil 48 = .ok (.iaload, 1) := by decide +kernel
theorem dX6_toil_49 : decode cX6_toil 49 = .ok (.aload_n 0, 1) := by decide +kernel
theorem dX6_toil_50 : decode cX6_toil 50 = .ok (.getfield 105, 3) := by decide +kernel
theorem dX6_toil_53 : decode cX6_toil 53 = .ok (.isub, 1) := by decide +kernel
theorem dX6_toil_54 : decode cX6_toil 54 = .ok (.invokestatic 149, 3) := by decide +kernel
theorem dX6_toil_57 : decode cX6_toil 57 = .ok (.iadd, 1) := by decide +kernel
theorem dX6_toil_58 : decode cX6_toil 58 = .ok (.i2l, 1) := by decide +kernel
theorem dX6_toil_59 : decode cX6_toil 59 = .ok (.lmul, 1) := by decide +kernel
theorem dX6_toil_60 : decode cX6_toil 60 = .ok (.lreturn, 1) := by decide +kernel
set_option maxRecDepth 20000 in
theorem ggX6_leastOf_X6_add : GoodIn wsX6_leastOf wsX6_add := goodIn_r _ [11, 1, 12, 13, 5, 2, 14, 15, 16, 10, 17, 6, 18, 19, 20, 21, 22, 23, 24, 25, 26, 27, 28, 29, 30, 31, 32, 33, 34, 35, 36, 37, 38, 39, 40, 41, 42, 43, 44, 45, 46, 47, 48, 49, 50, 51, 52, 53, 54, 55, 56, 57, 58, 59, 60, 61, 62, 63, 64] (by decide +kernel) (by decide +kernel)
set_option maxRecDepth 20000 in
theorem gX6_leastOf_X6_add : GoodIn wsX6_leastOf (wsV RX6 152 RX6 yX6_add wsX6_add) := goodIn_app (goodIn_of _ (by decide +kernel)) ggX6_leastOf_X6_add
theorem dX6_leastOf_0 : decode cX6_leastOf 0 = .ok (.iconst 0, 1) := by decide +kernel
theorem dX6_leastOf_1 : decode cX6_leastOf 1 = .ok (.istore 4, 2) := by decide +kernel
theorem dX6_leastOf_3 : decode cX6_leastOf 3 = .ok (.iload 4, 2) := by decide +kernel
theorem dX6_leastOf_5 : decode cX6_leastOf 5 = .ok (.aload_n 0, 1) := by decide +kernel
theorem dX6_leastOf_6 : decode cX6_leastOf 6 = .ok (.getfield 92, 3) := by decide +kernel
theorem dX6_leastOf_9 : decode cX6_leastOf 9 = .ok (.if_icmp .ge 40, 3) := by decide +kernel
theorem dX6_leastOf_12 : decode cX6_leastOf 12 = .ok (.aload_n 0, 1) := by decide +kernel
theorem dX6_leastOf_13 : decode cX6_leastOf 13 = .ok (.getfield 56, 3) := by decide +kernel
theorem dX6_leastOf_16 : decode cX6_leastOf 16 = .ok (.iload 4, 2) := by decide +kernel
theorem dX6_leastOf_18 : decode cX6_leastOf 18 = .ok (.aload_n 0, 1) := by decide +kernel
theorem dX6_leastOf_19 : decode cX6_leastOf 19 = .ok (.getfield 25, 3) := by decide +kernel
theorem dX6_leastOf_22 : decode cX6_leastOf 22 = .ok (.bipush 8, 2) := by decide +kernel
theorem dX6_leastOf_24 : decode cX6_leastOf 24 = .ok (.iload 4, 2) := by decide +kernel
theorem dX6_leastOf_26 : decode cX6_leastOf 26 = .ok (.imul, 1) := by decide +kernel
theorem dX6_leastOf_27 : decode cX6_leastOf 27 = .ok (.iload_n 1, 1) := by decide +kernel
theorem dX6_leastOf_28 : decode cX6_leastOf 28 = .ok (.iadd, 1) := by decide +kernel
theorem dX6_leastOf_29 : decode cX6_leastOf 29 = .ok (.iaload, 1) := by decide +kernel
theorem dX6_leastOf_30 : decode cX6_leastOf 30 = .ok (.iload 4, 2) := by decide +kernel
theorem dX6_leastOf_32 : decode cX6_leastOf 32 = .ok (.iload_n 3, 1) := by decide +kernel
theorem dX6_leastOf_33 : decode cX6_leastOf 33 = .ok (.if_icmp .ne 7, 3) := by decide +kernel
theorem dX6_leastOf_36 : decode cX6_leastOf 36 = .ok (.iload_n 2, 1) := by decide +kernel
theorem dX6_leastOf_37 : decode cX6_leastOf 37 = .ok (.goto 4, 3) := by decide +kernel
theorem dX6_leastOf_40 : decode cX6_leastOf 40 = .ok (.iconst 0, 1) := by decide +kernel
theorem dX6_leastOf_41 : decode cX6_leastOf 41 = .ok (.iadd, 1) := by decide +kernel
theorem dX6_leastOf_42 : decode cX6_leastOf 42 = .ok (.iastore, 1) := by decide +kernel
theorem dX6_leastOf_43 : decode cX6_leastOf 43 = .ok (.iinc 4 1, 3) := by decide +kernel
theorem dX6_leastOf_46 : decode cX6_leastOf 46 = .ok (.goto (-43), 3) := by decide +kernel
theorem dX6_leastOf_49 : decode cX6_leastOf 49 = .ok (.lconst 0, 1) := by decide +kernel
theorem dX6_leastOf_50 : decode cX6_leastOf 50 = .ok (.lstore 4, 2) := by decide +kernel
theorem dX6_leastOf_52 : decode cX6_leastOf 52 = .ok (.iconst 0, 1) := by decide +kernel
theorem dX6_leastOf_53 : decode cX6_leastOf 53 = .ok (.istore 6, 2) := by decide +kernel
theorem dX6_leastOf_55 : decode cX6_leastOf 55 = .ok (.iload 6, 2) := by decide +kernel
theorem dX6_leastOf_57 : decode cX6_leastOf 57 = .ok (.aload_n 0, 1) := by decide +kernel
theorem dX6_leastOf_58 : decode cX6_leastOf 58 = .ok (.getfield 80, 3) := by decide +kernel
theorem dX6_leastOf_61 : decode cX6_leastOf 61 = .ok (.if_icmp .ge 17, 3) := by decide +kernel
theorem dX6_leastOf_64 : decode cX6_leastOf 64 = .ok (.aload_n 0, 1) := by decide +kernel
theorem dX6_leastOf_65 : decode cX6_leastOf 65 = .ok (.getfield 53, 3) := by decide +kernel
theorem dX6_leastOf_68 : decode cX6_leastOf 68 = .ok (.iload 6, 2) := by decide +kernel
theorem dX6_leastOf_70 : decode cX6_leastOf 70 = .ok (.iconst (-1), 1) := by decide +kernel
theorem dX6_leastOf_71 : decode cX6_leastOf 71 = .ok (.iastore, 1) := by decide +kernel
theorem dX6_leastOf_72 : decode cX6_leastOf 72 = .ok (.iinc 6 1, 3) := by decide +kernel
theorem dX6_leastOf_75 : decode cX6_leastOf 75 = .ok (.goto (-20), 3) := by decide +kernel
theorem dX6_leastOf_78 : decode cX6_leastOf 78 = .ok (.iconst 0, 1) := by decide +kernel
theorem dX6_leastOf_79 : decode cX6_leastOf 79 = .ok (.istore 6, 2) := by decide +kernel
theorem dX6_leastOf_81 : decode cX6_leastOf 81 = .ok (.iload 6, 2) := by decide +kernel
theorem dX6_leastOf_83 : decode cX6_leastOf 83 = .ok (.aload_n 0, 1) := by decide +kernel
theorem dX6_leastOf_84 : decode cX6_leastOf 84 = .ok (.getfield 80, 3) := by decide +kernel
theorem dX6_leastOf_87 : decode cX6_leastOf 87 = .ok (.if_icmp .ge 32, 3) := by decide +kernel
theorem dX6_leastOf_90 : decode cX6_leastOf 90 = .ok (.aload_n 0, 1) := by decide +kernel
theorem dX6_leastOf_91 : decode cX6_leastOf 91 = .ok (.getfield 28, 3) := by decide +kernel
theorem dX6_leastOf_94 : decode cX6_leastOf 94 = .ok (.iload 6, 2) := by decide +kernel
theorem dX6_leastOf_96 : decode cX6_leastOf 96 = .ok (.iaload, 1) := by decide +kernel
theorem dX6_leastOf_97 : decode cX6_leastOf 97 = .ok (.iload_n 1, 1) := by decide +kernel
theorem dX6_leastOf_98 : decode cX6_leastOf 98 = .ok (.if_icmp .ne 15, 3) := by decide +kernel
theorem dX6_leastOf_101 : decode cX6_leastOf 101 = .ok (.lload 4, 2) := by decide +kernel
theorem dX6_leastOf_103 : decode cX6_leastOf 103 = .ok (.aload_n 0, 1) := by decide +kernel
theorem dX6_leastOf_104 : decode cX6_leastOf 104 = .ok (.iload 6, 2) := by decide +kernel
theorem dX6_leastOf_106 : decode cX6_leastOf 106 = .ok (.iload_n 1, 1) := by decide +kernel
theorem dX6_leastOf_107 : decode cX6_leastOf 107 = .ok (.invokevirtual 152, 3) := by decide +kernel
theorem dX6_leastOf_110 : decode cX6_leastOf 110 = .ok (.ladd, 1) := by decide +kernel
theorem dX6_leastOf_111 : decode cX6_leastOf 111 = .ok (.lstore 4, 2) := by decide +kernel
theorem dX6_leastOf_113 : decode cX6_leastOf 113 = .ok (.iinc 6 1, 3) := by decide +kernel
theorem dX6_leastOf_116 : decode cX6_leastOf 116 = .ok (.goto (-35), 3) := by decide +kernel
theorem dX6_leastOf_119 : decode cX6_leastOf 119 = .ok (.lload 4, 2) := by decide +kernel
theorem dX6_leastOf_121 : decode cX6_leastOf 121 = .ok (.lreturn, 1) := by decide +kernel
set_option maxRecDepth 20000 in
theorem ggX6_add_X6_toil : GoodIn wsX6_add wsX6_toil := goodIn_r _ [10, 11, 12, 13, 14, 15, 16, 17, 18, 19, 20, 9, 21, 22, 23, 24, 25, 26, 27, 28, 29, 30, 31, 32, 33, 34, 35, 36, 37, 38, 39, 40, 41, 42, 43, 44, 45, 46, 47, 48, 49, 50, 51, 52, 53, 54, 55, 56, 57, 58] (by decide +kernel) (by decide +kernel)
set_option maxRecDepth 20000 in
theorem gX6_add_X6_toil : GoodIn wsX6_add (wsV RX6 156 RX6 yX6_toil wsX6_toil) := goodIn_app (goodIn_of _ (by decide +kernel)) ggX6_add_X6_toil
theorem dX6_add_0 : decode cX6_add 0 = .ok (.iconst 0, 1) := by decide +kernel
theorem dX6_add_1 : decode cX6_add 1 = .ok (.istore_n 3, 1) := by decide +kernel
theorem dX6_add_2 : decode cX6_add 2 = .ok (.iload_n 3, 1) := by decide +kernel
theorem dX6_add_3 : decode cX6_add 3 = .ok (.aload_n 0, 1) := by decide +kernel
theorem dX6_add_4 : decode cX6_add 4 = .ok (.getfield 92, 3) := by decide +kernel
theorem dX6_add_7 : decode cX6_add 7 = .ok (.if_icmp .ge 28, 3) := by decide +kernel
theorem dX6_add_10 : decode cX6_add 10 = .ok (.aload_n 0, 1) := by decide +kernel
theorem dX6_add_11 : decode cX6_add 11 = .ok (.getfield 59, 3) := by decide +kernel
theorem dX6_add_14 : decode cX6_add 14 = .ok (.iload_n 3, 1) := by decide +kernel
theorem dX6_add_15 : decode cX6_add 15 = .ok (.aload_n 0, 1) := by decide +kernel
theorem dX6_add_16 : decode cX6_add 16 = .ok (.iload_n 1, 1) := by decide +kernel
theorem dX6_add_17 : decode cX6_add 17 = .ok (.iload_n 3, 1) := by decide +kernel
theorem dX6_add_18 : decode cX6_add 18 = .ok (.invokevirtual 156, 3) := by decide +kernel
theorem dX6_add_21 : decode cX6_add 21 = .ok (.lastore, 1) := by decide +kernel
theorem dX6_add_22 : decode cX6_add 22 = .ok (.aload_n 0, 1) := by decide +kernel
theorem dX6_add_23 : decode cX6_add 23 = .ok (.getfield 63, 3) := by decide +kernel
theorem dX6_add_26 : decode cX6_add 26 = .ok (.iload_n 3, 1) := by decide +kernel
theorem dX6_add_27 : decode cX6_add 27 = .ok (.iconst (-1), 1) := by decide +kernel
theorem dX6_add_28 : decode cX6_add 28 = .ok (.iastore, 1) := by decide +kernel
theorem dX6_add_29 : decode cX6_add 29 = .ok (.iinc 3 1, 3) := by decide +kernel
theorem dX6_add_32 : decode cX6_add 32 = .ok (.goto (-30), 3) := by decide +kernel
theorem dX6_add_35 : decode cX6_add 35 = .ok (.iconst 1, 1) := by decide +kernel
theorem dX6_add_36 : decode cX6_add 36 = .ok (.istore_n 3, 1) := by decide +kernel
theorem dX6_add_37 : decode cX6_add 37 = .ok (.iload_n 3, 1) := by decide +kernel
theorem dX6_add_38 : decode cX6_add 38 = .ok (.ifCond .eq 127, 3) := by decide +kernel
theorem dX6_add_41 : decode cX6_add 41 = .ok (.iconst 0, 1) := by decide +kernel
theorem dX6_add_42 : decode cX6_add 42 = .ok (.istore_n 3, 1) := by decide +kernel
theorem dX6_add_43 : decode cX6_add 43 = .ok (.iconst 0, 1) := by decide +kernel
theorem dX6_add_44 : decode cX6_add 44 = .ok (.istore 4, 2) := by decide +kernel
theorem dX6_add_46 : decode cX6_add 46 = .ok (.iload 4, 2) := by decide +kernel
theorem dX6_add_48 : decode cX6_add 48 = .ok (.iload_n 1, 1) := by decide +kernel
theorem dX6_add_49 : decode cX6_add 49 = .ok (.if_icmp .ge 113, 3) := by decide +kernel
theorem dX6_add_52 : decode cX6_add 52 = .ok (.aload_n 0, 1) := by decide +kernel
theorem dX6_add_53 : decode cX6_add 53 = .ok (.getfield 53, 3) := by decide +kernel
theorem dX6_add_56 : decode cX6_add 56 = .ok (.iload 4, 2) := by decide +kernel
theorem dX6_add_58 : decode cX6_add 58 = .ok (.iaload, 1) := by decide +kernel
theorem dX6_add_59 : decode cX6_add 59 = .ok (.ifCond .ge 6, 3) := by decide +kernel
theorem dX6_add_62 : decode cX6_add 62 = .ok (.goto 94, 3) := by decide +kernel
theorem dX6_add_65 : decode cX6_add 65 = .ok (.iconst 0, 1) := by decide +kernel
theorem dX6_add_66 : decode cX6_add 66 = .ok (.istore 5, 2) := by decide +kernel
theorem dX6_add_68 : decode cX6_add 68 = .ok (.iload 5, 2) := by decide +kernel
theorem dX6_add_70 : decode cX6_add 70 = .ok (.aload_n 0, 1) := by decide +kernel
theorem dX6_add_71 : decode cX6_add 71 = .ok (.getfield 92, 3) := by decide +kernel
theorem dX6_add_74 : decode cX6_add 74 = .ok (.if_icmp .ge 82, 3) := by decide +kernel
theorem dX6_add_77 : decode cX6_add 77 = .ok (.aload_n 0, 1) := by decide +kernel
theorem dX6_add_78 : decode cX6_add 78 = .ok (.getfield 59, 3) := by decide +kernel
theorem dX6_add_81 : decode cX6_add 81 = .ok (.aload_n 0, 1) := by decide +kernel
theorem dX6_add_82 : decode cX6_add 82 = .ok (.getfield 53, 3) := by decide +kernel
theorem dX6_add_85 : decode cX6_add 85 = .ok (.iload 4, 2) := by decide +kernel
theorem dX6_add_87 : decode cX6_add 87 = .ok (.iaload, 1) := by decide +kernel
theorem dX6_add_88 : decode cX6_add 88 = .ok (.laload, 1) := by decide +kernel
theorem dX6_add_89 : decode cX6_add 89 = .ok (.aload_n 0, 1) := by decide +kernel
theorem dX6_add_90 : decode cX6_add 90 = .ok (.iload 4, 2) := by decide +kernel
theorem dX6_add_92 : decode cX6_add 92 = .ok (.iload 5, 2) := by decide +kernel
theorem dX6_add_94 : decode cX6_add 94 = .ok (.invokevirtual 156, 3) := by decide +kernel
theorem dX6_add_97 : decode cX6_add 97 = .ok (.ladd, 1) := by decide +kernel
theorem dX6_add_98 : decode cX6_add 98 = .ok (.aload_n 0, 1) := by decide +kernel
theorem dX6_add_99 : decode cX6_add 99 = .ok (.iload 4, 2) := by decide +kernel
theorem dX6_add_101 : decode cX6_add 101 = .ok (.aload_n 0, 1) := by decide +kernel
theorem dX6_add_102 : decode cX6_add 102 = .ok (.getfield 53, 3) := by decide +kernel
theorem dX6_add_105 : decode cX6_add 105 = .ok (.iload 4, 2) := by decide +kernel
theorem dX6_add_107 : decode cX6_add 107 = .ok (.iaload, 1) := by decide +kernel
theorem dX6_add_108 : decode cX6_add 108 = .ok (.invokevirtual 156, 3) := by decide +kernel
theorem dX6_add_111 : decode cX6_add 111 = .ok (.lsub, 1) := by decide +kernel
theorem dX6_add_112 : decode cX6_add 112 = .ok (.lstore 6, 2) := by decide +kernel
theorem dX6_add_114 : decode cX6_add 114 = .ok (.lload 6, 2) := by decide +kernel
theorem dX6_add_116 : decode cX6_add 116 = .ok (.aload_n 0, 1) := by decide +kernel
theorem dX6_add_117 : decode cX6_add 117 = .ok (.getfield 59, 3) := by decide +kernel
theorem dX6_add_120 : decode cX6_add 120 = .ok (.iload 5, 2) := by decide +kernel
theorem dX6_add_122 : decode cX6_add 122 = .ok (.laload, 1) := by decide +kernel
theorem dX6_add_123 : decode cX6_add 123 = .ok (.lcmp, 1) := by decide +kernel
theorem dX6_add_124 : decode cX6_add 124 = .ok (.ifCond .lt 6, 3) := by decide +kernel
theorem dX6_add_127 : decode cX6_add 127 = .ok (.goto 23, 3) := by decide +kernel
theorem dX6_add_130 : decode cX6_add 130 = .ok (.aload_n 0, 1) := by decide +kernel
theorem dX6_add_131 : decode cX6_add 131 = .ok (.getfield 59, 3) := by decide +kernel
theorem dX6_add_134 : decode cX6_add 134 = .ok (.iload 5, 2) := by decide +kernel
theorem dX6_add_136 : decode cX6_add 136 = .ok (.lload 6, 2) := by decide +kernel
theorem dX6_add_138 : decode cX6_add 138 = .ok (.lastore, 1) := by decide +kernel
theorem dX6_add_139 : decode cX6_add 139 = .ok (.aload_n 0, 1) := by decide +kernel
theorem dX6_add_140 : decode cX6_add 140 = .ok (.getfield 63, 3) := by decide +kernel
theorem dX6_add_143 : decode cX6_add 143 = .ok (.iload 5, 2) := by decide +kernel
theorem dX6_add_145 : decode cX6_add 145 = .ok (.iload 4, 2) := by decide +kernel
theorem dX6_add_147 : decode cX6_add 147 = .ok (.iastore, 1) := by decide +kernel
theorem dX6_add_148 : decode cX6_add 148 = .ok (.iconst 1, 1) := by decide +kernel
theorem dX6_add_149 : decode cX6_add 149 = .ok (.istore_n 3, 1) := by decide +kernel
theorem dX6_add_150 : decode cX6_add 150 = .ok (.iinc 5 1, 3) := by decide +kernel
theorem dX6_add_153 : decode cX6_add 153 = .ok (.goto (-85), 3) := by decide +kernel
theorem dX6_add_156 : decode cX6_add 156 = .ok (.iinc 4 1, 3) := by decide +kernel
theorem dX6_add_159 : decode cX6_add 159 = .ok (.goto (-113), 3) := by decide +kernel
theorem dX6_add_162 : decode cX6_add 162 = .ok (.goto (-125), 3) := by decide +kernel
theorem dX6_add_165 : decode cX6_add 165 = .ok (.iconst (-1), 1) := by decide +kernel
theorem dX6_add_166 : decode cX6_add 166 = .ok (.istore 4, 2) := by decide +kernel
theorem dX6_add_168 : decode cX6_add 168 = .ok (.iconst 0, 1) := by decide +kernel
theorem dX6_add_169 : decode cX6_add 169 = .ok (.istore 5, 2) := by decide +kernel
theorem dX6_add_171 : decode cX6_add 171 = .ok (.iload 5, 2) := by decide +kernel
theorem dX6_add_173 : decode cX6_add 173 = .ok (.aload_n 0, 1) := by decide +kernel
theorem dX6_add_174 : decode cX6_add 174 = .ok (.getfield 92, 3) := by decide +kernel
theorem dX6_add_177 : decode cX6_add 177 = .ok (.if_icmp .ge 46, 3) := by decide +kernel
theorem dX6_add_180 : decode cX6_add 180 = .ok (.aload_n 0, 1) := by decide +kernel
theorem dX6_add_181 : decode cX6_add 181 = .ok (.getfield 56, 3) := by decide +kernel
theorem dX6_add_184 : decode cX6_add 184 = .ok (.iload 5, 2) := by decide +kernel
theorem dX6_add_186 : decode cX6_add 186 = .ok (.iaload, 1) := by decide +kernel
theorem dX6_add_187 : decode cX6_add 187 = .ok (.ifCond .le 30, 3) := by decide +kernel
theorem dX6_add_190 : decode cX6_add 190 = .ok (.iload 4, 2) := by decide +kernel
theorem dX6_add_192 : decode cX6_add 192 = .ok (.ifCond .lt 21, 3) := by decide +kernel
theorem dX6_add_195 : decode cX6_add 195 = .ok (.aload_n 0, 1) := by decide +kernel
theorem dX6_add_196 : decode cX6_add 196 = .ok (.getfield 59, 3) := by decide +kernel
theorem dX6_add_199 : decode cX6_add 199 = .ok (.iload 5, 2) := by decide +kernel
theorem dX6_add_201 : decode cX6_add 201 = .ok (.laload, 1) := by decide +kernel
theorem dX6_add_202 : decode cX6_add 202 = .ok (.aload_n 0, 1) := by decide +kernel
theorem dX6_add_203 : decode cX6_add 203 = .ok (.getfield 59, 3) := by decide +kernel
theorem dX6_add_206 : decode cX6_add 206 = .ok (.iload 4, 2) := by decide +kernel
theorem dX6_add_208 : decode cX6_add 208 = .ok (.laload, 1) := by decide +kernel
theorem dX6_add_209 : decode cX6_add 209 = .ok (.lcmp, 1) := by decide +kernel
theorem dX6_add_210 : decode cX6_add 210 = .ok (.ifCond .ge 7, 3) := by decide +kernel
theorem dX6_add_213 : decode cX6_add 213 = .ok (.iload 5, 2) := by decide +kernel
theorem dX6_add_215 : decode cX6_add 215 = .ok (.istore 4, 2) := by decide +kernel
theorem dX6_add_217 : decode cX6_add 217 = .ok (.iinc 5 1, 3) := by decide +kernel
theorem dX6_add_220 : decode cX6_add 220 = .ok (.goto (-49), 3) := by decide +kernel
theorem dX6_add_223 : decode cX6_add 223 = .ok (.aload_n 0, 1) := by decide +kernel
theorem dX6_add_224 : decode cX6_add 224 = .ok (.getfield 56, 3) := by decide +kernel
theorem dX6_add_227 : decode cX6_add 227 = .ok (.iload 4, 2) := by decide +kernel
theorem dX6_add_229 : decode cX6_add 229 = .ok (.dup2, 1) := by decide +kernel
theorem dX6_add_230 : decode cX6_add 230 = .ok (.iaload, 1) := by decide +kernel
theorem dX6_add_231 : decode cX6_add 231 = .ok (.iconst 1, 1) := by decide +kernel
theorem dX6_add_232 : decode cX6_add 232 = .ok (.isub, 1) := by decide +kernel
theorem dX6_add_233 : decode cX6_add 233 = .ok (.iastore, 1) := by decide +kernel
theorem dX6_add_234 : decode cX6_add 234 = .ok (.aload_n 0, 1) := by decide +kernel
theorem dX6_add_235 : decode cX6_add 235 = .ok (.getfield 59, 3) := by decide +kernel
theorem dX6_add_238 : decode cX6_add 238 = .ok (.iload 4, 2) := by decide +kernel
theorem dX6_add_240 : decode cX6_add 240 = .ok (.laload, 1) := by decide +kernel
theorem dX6_add_241 : decode cX6_add 241 = .ok (.lstore 5, 2) := by decide +kernel
theorem dX6_add_243 : decode cX6_add 243 = .ok (.iload 4, 2) := by decide +kernel
theorem dX6_add_245 : decode cX6_add 245 = .ok (.istore 7, 2) := by decide +kernel
theorem dX6_add_247 : decode cX6_add 247 = .ok (.aload_n 0, 1) := by decide +kernel
theorem dX6_add_248 : decode cX6_add 248 = .ok (.getfield 63, 3) := by decide +kernel
theorem dX6_add_251 : decode cX6_add 251 = .ok (.iload 7, 2) := by decide +kernel
theorem dX6_add_253 : decode cX6_add 253 = .ok (.iaload, 1) := by decide +kernel
theorem dX6_add_254 : decode cX6_add 254 = .ok (.ifCond .lt 37, 3) := by decide +kernel
theorem dX6_add_257 : decode cX6_add 257 = .ok (.aload_n 0, 1) := by decide +kernel
theorem dX6_add_258 : decode cX6_add 258 = .ok (.getfield 63, 3) := by decide +kernel
theorem dX6_add_261 : decode cX6_add 261 = .ok (.iload 7, 2) := by decide +kernel
theorem dX6_add_263 : decode cX6_add 263 = .ok (.iaload, 1) := by decide +kernel
theorem dX6_add_264 : decode cX6_add 264 = .ok (.istore 8, 2) := by decide +kernel
theorem dX6_add_266 : decode cX6_add 266 = .ok (.aload_n 0, 1) := by decide +kernel
theorem dX6_add_267 : decode cX6_add 267 = .ok (.getfield 53, 3) := by decide +kernel
theorem dX6_add_270 : decode cX6_add 270 = .ok (.iload 8, 2) := by decide +kernel
theorem dX6_add_272 : decode cX6_add 272 = .ok (.iaload, 1) := by decide +kernel
theorem dX6_add_273 : decode cX6_add 273 = .ok (.istore 9, 2) := by decide +kernel
theorem dX6_add_275 : decode cX6_add 275 = .ok (.aload_n 0, 1) := by decide +kernel
theorem dX6_add_276 : decode cX6_add 276 = .ok (.getfield 53, 3) := by decide +kernel
theorem dX6_add_279 : decode cX6_add 279 = .ok (.iload 8, 2) := by decide +kernel
theorem dX6_add_281 : decode cX6_add 281 = .ok (.iload 7, 2) := by decide +kernel
theorem dX6_add_283 : decode cX6_add 283 = .ok (.iastore, 1) := by decide +kernel
theorem dX6_add_284 : decode cX6_add 284 = .ok (.iload 9, 2) := by decide +kernel
theorem dX6_add_286 : decode cX6_add 286 = .ok (.istore 7, 2) := by decide +kernel
theorem dX6_add_288 : decode cX6_add 288 = .ok (.goto (-41), 3) := by decide +kernel
theorem dX6_add_291 : decode cX6_add 291 = .ok (.aload_n 0, 1) := by decide +kernel
theorem dX6_add_292 : decode cX6_add 292 = .ok (.getfield 53, 3) := by decide +kernel
theorem dX6_add_295 : decode cX6_add 295 = .ok (.iload_n 1, 1) := by decide +kernel
theorem dX6_add_296 : decode cX6_add 296 = .ok (.iload 7, 2) := by decide +kernel
theorem dX6_add_298 : decode cX6_add 298 = .ok (.iastore, 1) := by decide +kernel
theorem dX6_add_299 : decode cX6_add 299 = .ok (.lload 5, 2) := by decide +kernel
theorem dX6_add_301 : decode cX6_add 301 = .ok (.lreturn, 1) := by decide +kernel
set_option maxRecDepth 20000 in
theorem ggX6_leastAll_X6_leastOf : GoodIn wsX6_leastAll wsX6_leastOf := goodIn_r _ [6, 7, 8, 9, 10, 11, 12, 13, 14, 15, 5, 16, 17, 18, 19, 20, 21, 22, 23, 24, 25, 26, 27, 28, 29, 30, 31, 32, 33, 34, 35, 36, 37, 38, 39, 40, 41, 42, 43, 44, 45, 46, 47, 48, 49, 50, 51, 52, 53, 54, 55, 56, 57, 58, 59, 60, 61, 62, 63, 64, 65, 66, 67, 68, 69] (by decide +kernel) (by decide +kernel)
set_option maxRecDepth 20000 in
theorem gX6_leastAll_X6_leastOf : GoodIn wsX6_leastAll (wsV RX6 159 RX6 yX6_leastOf wsX6_leastOf) := goodIn_app (goodIn_of _ (by decide +kernel)) ggX6_leastAll_X6_leastOf
theorem dX6_leastAll_0 : decode cX6_leastAll 0 = .ok (.lconst 0, 1) := by decide +kernel
theorem dX6_leastAll_1 : decode cX6_leastAll 1 = .ok (.lstore_n 1, 1) := by decide +kernel
theorem dX6_leastAll_2 : decode cX6_leastAll 2 = .ok (.iconst 0, 1) := by decide +kernel
theorem dX6_leastAll_3 : decode cX6_leastAll 3 = .ok (.istore_n 3, 1) := by decide +kernel
theorem dX6_leastAll_4 : decode cX6_leastAll 4 = .ok (.iload_n 3, 1) := by decide +kernel
theorem dX6_leastAll_5 : decode cX6_leastAll 5 = .ok (.aload_n 0, 1) := by decide +kernel
theorem dX6_leastAll_6 : decode cX6_leastAll 6 = .ok (.getfield 86, 3) := by decide +kernel
theorem dX6_leastAll_9 : decode cX6_leastAll 9 = .ok (.if_icmp .ge 19, 3) := by decide +kernel
theorem dX6_leastAll_12 : decode cX6_leastAll 12 = .ok (.lload_n 1, 1) := by decide +kernel
theorem dX6_leastAll_13 : decode cX6_leastAll 13 = .ok (.aload_n 0, 1) := by decide +kernel
theorem dX6_leastAll_14 : decode cX6_leastAll 14 = .ok (.iload_n 3, 1) := by decide +kernel
theorem dX6_leastAll_15 : decode cX6_leastAll 15 = .ok (.iconst 0, 1) := by decide +kernel
theorem dX6_leastAll_16 : decode cX6_leastAll 16 = .ok (.iconst 0, 1) := by decide +kernel
theorem dX6_leastAll_17 : decode cX6_leastAll 17 = .ok (.invokevirtual 159, 3) := by decide +kernel
theorem dX6_leastAll_20 : decode cX6_leastAll 20 = .ok (.ladd, 1) := by decide +kernel
theorem dX6_leastAll_21 : decode cX6_leastAll 21 = .ok (.lstore_n 1, 1) := by decide +kernel
theorem dX6_leastAll_22 : decode cX6_leastAll 22 = .ok (.iinc 3 1, 3) := by decide +kernel
theorem dX6_leastAll_25 : decode cX6_leastAll 25 = .ok (.goto (-21), 3) := by decide +kernel
theorem dX6_leastAll_28 : decode cX6_leastAll 28 = .ok (.lload_n 1, 1) := by decide +kernel
theorem dX6_leastAll_29 : decode cX6_leastAll 29 = .ok (.lreturn, 1) := by decide +kernel
set_option maxRecDepth 20000 in
theorem ggX6_least_X6_leastAll : GoodIn wsX6_least wsX6_leastAll := goodIn_r _ [8, 9, 10, 11, 12, 7, 13, 14, 15, 16, 17, 18, 19, 20, 21, 22, 23, 24, 25, 26, 27, 28, 29, 30, 31, 32, 33, 34, 35, 36, 37, 38, 39, 40, 41, 42, 43, 44, 45, 46, 47, 48, 49, 50, 51, 52, 53, 54, 55, 56, 57, 58, 59, 60, 61, 62, 63, 64, 65, 66, 67, 68, 69, 70, 71, 72, 73, 74, 75, 76] (by decide +kernel) (by decide +kernel)
set_option maxRecDepth 20000 in
theorem gX6_least_X6_leastAll : GoodIn wsX6_least (wsV RX6 163 RX6 yX6_leastAll wsX6_leastAll) := goodIn_app (goodIn_of _ (by decide +kernel)) ggX6_least_X6_leastAll
theorem dX6_least_0 : decode cX6_least 0 = .ok (.aload_n 0, 1) := by decide +kernel
theorem dX6_least_1 : decode cX6_least 1 = .ok (.iconst 0, 1) := by decide +kernel
theorem dX6_least_2 : decode cX6_least 2 = .ok (.putfield 72, 3) := by decide +kernel
theorem dX6_least_5 : decode cX6_least 5 = .ok (.aload_n 0, 1) := by decide +kernel
theorem dX6_least_6 : decode cX6_least 6 = .ok (.getfield 76, 3) := by decide +kernel
theorem dX6_least_9 : decode cX6_least 9 = .ok (.ifCond .eq 10, 3) := by decide +kernel
theorem dX6_least_12 : decode cX6_least 12 = .ok (.aload_n 0, 1) := by decide +kernel
theorem dX6_least_13 : decode cX6_least 13 = .ok (.invokevirtual 163, 3) := by decide +kernel
theorem dX6_least_16 : decode cX6_least 16 = .ok (.goto 6, 3) := by decide +kernel
theorem dX6_least_19 : decode cX6_least 19 = .ok (.ldc2_w 167, 3) := by decide +kernel
theorem dX6_least_22 : decode cX6_least 22 = .ok (.lreturn, 1) := by decide +kernel
set_option maxRecDepth 20000 in
theorem ggX6_saved_X6_leastOf : GoodIn wsX6_saved wsX6_leastOf := goodIn_r _ [10, 3, 11, 12, 13, 14, 15, 16, 17, 18, 9, 19, 20, 21, 22, 23, 24, 25, 26, 27, 28, 29, 30, 31, 32, 33, 34, 35, 36, 37, 38, 39, 40, 41, 42, 43, 44, 45, 46, 47, 48, 49, 50, 51, 52, 53, 54, 55, 56, 57, 58, 59, 60, 61, 62, 63, 64, 65, 66, 67, 68, 69, 70, 71, 72] (by decide +kernel) (by decide +kernel)
set_option maxRecDepth 20000 in
theorem gX6_saved_X6_leastOf : GoodIn wsX6_saved (wsV RX6 159 RX6 yX6_leastOf wsX6_leastOf) := goodIn_app (goodIn_of _ (by decide +kernel)) ggX6_saved_X6_leastOf
theorem dX6_saved_0 : decode cX6_saved 0 = .ok (.aload_n 0, 1) := by decide +kernel
theorem dX6_saved_1 : decode cX6_saved 1 = .ok (.iconst 0, 1) := by decide +kernel
theorem dX6_saved_2 : decode cX6_saved 2 = .ok (.putfield 72, 3) := by decide +kernel
theorem dX6_saved_5 : decode cX6_saved 5 = .ok (.aload_n 0, 1) := by decide +kernel
theorem dX6_saved_6 : decode cX6_saved 6 = .ok (.getfield 76, 3) := by decide +kernel
theorem dX6_saved_9 : decode cX6_saved 9 = .ok (.ifCond .eq 27, 3) := by decide +kernel
theorem dX6_saved_12 : decode cX6_saved 12 = .ok (.iload_n 1, 1) := by decide +kernel
theorem dX6_saved_13 : decode cX6_saved 13 = .ok (.ifCond .lt 23, 3) := by decide +kernel
theorem dX6_saved_16 : decode cX6_saved 16 = .ok (.iload_n 1, 1) := by decide +kernel
theorem dX6_saved_17 : decode cX6_saved 17 = .ok (.aload_n 0, 1) := by decide +kernel
theorem dX6_saved_18 : decode cX6_saved 18 = .ok (.getfield 92, 3) := by decide +kernel
theorem dX6_saved_21 : decode cX6_saved 21 = .ok (.if_icmp .ge 15, 3) := by decide +kernel
theorem dX6_saved_24 : decode cX6_saved 24 = .ok (.iload_n 2, 1) := by decide +kernel
theorem dX6_saved_25 : decode cX6_saved 25 = .ok (.ifCond .lt 11, 3) := by decide +kernel
theorem dX6_saved_28 : decode cX6_saved 28 = .ok (.iload_n 2, 1) := by decide +kernel
theorem dX6_saved_29 : decode cX6_saved 29 = .ok (.aload_n 0, 1) := by decide +kernel
theorem dX6_saved_30 : decode cX6_saved 30 = .ok (.getfield 86, 3) := by decide +kernel
theorem dX6_saved_33 : decode cX6_saved 33 = .ok (.if_icmp .lt 7, 3) := by decide +kernel
theorem dX6_saved_36 : decode cX6_saved 36 = .ok (.ldc2_w 167, 3) := by decide +kernel
theorem dX6_saved_39 : decode cX6_saved 39 = .ok (.lreturn, 1) := by decide +kernel
theorem dX6_saved_40 : decode cX6_saved 40 = .ok (.aload_n 0, 1) := by decide +kernel
theorem dX6_saved_41 : decode cX6_saved 41 = .ok (.iload_n 2, 1) := by decide +kernel
theorem dX6_saved_42 : decode cX6_saved 42 = .ok (.iconst 0, 1) := by decide +kernel
theorem dX6_saved_43 : decode cX6_saved 43 = .ok (.iconst 0, 1) := by decide +kernel
theorem dX6_saved_44 : decode cX6_saved 44 = .ok (.invokevirtual 159, 3) := by decide +kernel
theorem dX6_saved_47 : decode cX6_saved 47 = .ok (.aload_n 0, 1) := by decide +kernel
theorem dX6_saved_48 : decode cX6_saved 48 = .ok (.iload_n 2, 1) := by decide +kernel
theorem dX6_saved_49 : decode cX6_saved 49 = .ok (.iconst 1, 1) := by decide +kernel
theorem dX6_saved_50 : decode cX6_saved 50 = .ok (.iload_n 1, 1) := by decide +kernel
theorem dX6_saved_51 : decode cX6_saved 51 = .ok (.invokevirtual 159, 3) := by decide +kernel
theorem dX6_saved_54 : decode cX6_saved 54 = .ok (.lsub, 1) := by decide +kernel
theorem dX6_saved_55 : decode cX6_saved 55 = .ok (.lreturn, 1) := by decide +kernel
set_option maxRecDepth 20000 in
theorem ggX6_build_X6_toil : GoodIn wsX6_build wsX6_toil := goodIn_r _ [17, 9, 18, 19, 20, 21, 22, 23, 24, 25, 26, 16, 27, 28, 29, 30, 31, 32, 33, 34, 35, 36, 37, 38, 39, 40, 41, 42, 43, 44, 45, 46, 47, 48, 49, 50, 51, 52, 53, 54, 55, 56, 57, 58, 59, 60, 61, 62, 63, 64] (by decide +kernel) (by decide +kernel)
set_option maxRecDepth 20000 in
theorem gX6_build_X6_toil : GoodIn wsX6_build (wsV RX6 156 RX6 yX6_toil wsX6_toil) := goodIn_app (goodIn_of _ (by decide +kernel)) ggX6_build_X6_toil
theorem dX6_build_0 : decode cX6_build 0 = .ok (.aload_n 0, 1) := by decide +kernel
theorem dX6_build_1 : decode cX6_build 1 = .ok (.iconst 0, 1) := by decide +kernel
theorem dX6_build_2 : decode cX6_build 2 = .ok (.putfield 72, 3) := by decide +kernel
theorem dX6_build_5 : decode cX6_build 5 = .ok (.aload_n 0, 1) := by decide +kernel
theorem dX6_build_6 : decode cX6_build 6 = .ok (.getfield 76, 3) := by decide +kernel
theorem dX6_build_9 : decode cX6_build 9 = .ok (.ifCond .eq 10, 3) := by decide +kernel
theorem dX6_build_12 : decode cX6_build 12 = .ok (.aload_n 0, 1) := by decide +kernel
theorem dX6_build_13 : decode cX6_build 13 = .ok (.getfield 83, 3) := by decide +kernel
theorem dX6_build_16 : decode cX6_build 16 = .ok (.ifCond .eq 7, 3) := by decide +kernel
theorem dX6_build_19 : decode cX6_build 19 = .ok (.ldc2_w 167, 3) := by decide +kernel
theorem dX6_build_22 : decode cX6_build 22 = .ok (.lreturn, 1) := by decide +kernel
theorem dX6_build_23 : decode cX6_build 23 = .ok (.aload_n 0, 1) := by decide +kernel
theorem dX6_build_24 : decode cX6_build 24 = .ok (.iconst 1, 1) := by decide +kernel
theorem dX6_build_25 : decode cX6_build 25 = .ok (.putfield 83, 3) := by decide +kernel
theorem dX6_build_28 : decode cX6_build 28 = .ok (.aload_n 0, 1) := by decide +kernel
theorem dX6_build_29 : decode cX6_build 29 = .ok (.iconst 0, 1) := by decide +kernel
theorem dX6_build_30 : decode cX6_build 30 = .ok (.putfield 169, 3) := by decide +kernel
theorem dX6_build_33 : decode cX6_build 33 = .ok (.lconst 0, 1) := by decide +kernel
theorem dX6_build_34 : decode cX6_build 34 = .ok (.lstore_n 1, 1) := by decide +kernel
theorem dX6_build_35 : decode cX6_build 35 = .ok (.iconst 0, 1) := by decide +kernel
theorem dX6_build_36 : decode cX6_build 36 = .ok (.istore_n 3, 1) := by decide +kernel
theorem dX6_build_37 : decode cX6_build 37 = .ok (.iload_n 3, 1) := by decide +kernel
theorem dX6_build_38 : decode cX6_build 38 = .ok (.aload_n 0, 1) := by decide +kernel
theorem dX6_build_39 : decode cX6_build 39 = .ok (.getfield 80, 3) := by decide +kernel
theorem dX6_build_42 : decode cX6_build 42 = .ok (.if_icmp .ge 131, 3) := by decide +kernel
theorem dX6_build_45 : decode cX6_build 45 = .ok (.iconst (-1), 1) := by decide +kernel
theorem dX6_build_46 : decode cX6_build 46 = .ok (.istore 4, 2) := by decide +kernel
theorem dX6_build_48 : decode cX6_build 48 = .ok (.iconst 0, 1) := by decide +kernel
theorem dX6_build_49 : decode cX6_build 49 = .ok (.istore 5, 2) := by decide +kernel
theorem dX6_build_51 : decode cX6_build 51 = .ok (.iload 5, 2) := by decide +kernel
theorem dX6_build_53 : decode cX6_build 53 = .ok (.aload_n 0, 1) := by decide +kernel
theorem dX6_build_54 : decode cX6_build 54 = .ok (.getfield 92, 3) := by decide +kernel
theorem dX6_build_57 : decode cX6_build 57 = .ok (.if_icmp .ge 56, 3) := by decide +kernel
theorem dX6_build_60 : decode cX6_build 60 = .ok (.aload_n 0, 1) := by decide +kernel
theorem dX6_build_61 : decode cX6_build 61 = .ok (.getfield 22, 3) := by decide +kernel
theorem dX6_build_64 : decode cX6_build 64 = .ok (.bipush 8, 2) := by decide +kernel
theorem dX6_build_66 : decode cX6_build 66 = .ok (.iload 5, 2) := by decide +kernel
theorem dX6_build_68 : decode cX6_build 68 = .ok (.imul, 1) := by decide +kernel
theorem dX6_build_69 : decode cX6_build 69 = .ok (.aload_n 0, 1) := by decide +kernel
theorem dX6_build_70 : decode cX6_build 70 = .ok (.getfield 28, 3) := by decide +kernel
theorem dX6_build_73 : decode cX6_build 73 = .ok (.iload_n 3, 1) := by decide +kernel
theorem dX6_build_74 : decode cX6_build 74 = .ok (.iaload, 1) := by decide +kernel
theorem dX6_build_75 : decode cX6_build 75 = .ok (.iadd, 1) := by decide +kernel
theorem dX6_build_76 : decode cX6_build 76 = .ok (.iaload, 1) := by decide +kernel
theorem dX6_build_77 : decode cX6_build 77 = .ok (.ifCond .le 30, 3) := by decide +kernel
theorem dX6_build_80 : decode cX6_build 80 = .ok (.iload 4, 2) := by decide +kernel
theorem dX6_build_82 : decode cX6_build 82 = .ok (.ifCond .lt 21, 3) := by decide +kernel
theorem dX6_build_85 : decode cX6_build 85 = .ok (.aload_n 0, 1) := by decide +kernel
theorem dX6_build_86 : decode cX6_build 86 = .ok (.iload_n 3, 1) := by decide +kernel
theorem dX6_build_87 : decode cX6_build 87 = .ok (.iload 5, 2) := by decide +kernel
theorem dX6_build_89 : decode cX6_build 89 = .ok (.invokevirtual 156, 3) := by decide +kernel
theorem dX6_build_92 : decode cX6_build 92 = .ok (.aload_n 0, 1) := by decide +kernel
theorem dX6_build_93 : decode cX6_build 93 = .ok (.iload_n 3, 1) := by decide +kernel
theorem dX6_build_94 : decode cX6_build 94 = .ok (.iload 4, 2) := by decide +kernel
theorem dX6_build_96 : decode cX6_build 96 = .ok (.invokevirtual 156, 3) := by decide +kernel
theorem dX6_build_99 : decode cX6_build 99 = .ok (.lcmp, 1) := by decide +kernel
theorem dX6_build_100 : decode cX6_build 100 = .ok (.ifCond .ge 7, 3) := by decide +kernel
theorem dX6_build_103 : decode cX6_build 103 = .ok (.iload 5, 2) := by decide +kernel
theorem dX6_build_105 : decode cX6_build 105 = .ok (.istore 4, 2) := by decide +kernel
theorem dX6_build_107 : decode cX6_build 107 = .ok (.iinc 5 1, 3) := by decide +kernel
theorem dX6_build_110 : decode cX6_build 110 = .ok (.goto (-59), 3) := by decide +kernel
theorem dX6_build_113 : decode cX6_build 113 = .ok (.aload_n 0, 1) := by decide +kernel
theorem dX6_build_114 : decode cX6_build 114 = .ok (.getfield 22, 3) := by decide +kernel
theorem dX6_build_117 : decode cX6_build 117 = .ok (.bipush 8, 2) := by decide +kernel
theorem dX6_build_119 : decode cX6_build 119 = .ok (.iload 4, 2) := by decide +kernel
theorem dX6_build_121 : decode cX6_build 121 = .ok (.imul, 1) := by decide +kernel
theorem dX6_build_122 : decode cX6_build 122 = .ok (.aload_n 0, 1) := by decide +kernel
theorem dX6_build_123 : decode cX6_build 123 = .ok (.getfield 28, 3) := by decide +kernel
theorem dX6_build_126 : decode cX6_build 126 = .ok (.iload_n 3, 1) := by decide +kernel
theorem dX6_build_127 : decode cX6_build 127 = .ok (.iaload, 1) := by decide +kernel
theorem dX6_build_128 : decode cX6_build 128 = .ok (.iadd, 1) := by decide +kernel
theorem dX6_build_129 : decode cX6_build 129 = .ok (.dup2, 1) := by decide +kernel
theorem dX6_build_130 : decode cX6_build 130 = .ok (.iaload, 1) := by decide +kernel
theorem dX6_build_131 : decode cX6_build 131 = .ok (.iconst 1, 1) := by decide +kernel
theorem dX6_build_132 : decode cX6_build 132 = .ok (.isub, 1) := by decide +kernel
theorem dX6_build_133 : decode cX6_build 133 = .ok (.iastore, 1) := by decide +kernel
theorem dX6_build_134 : decode cX6_build 134 = .ok (.aload_n 0, 1) := by decide +kernel
theorem dX6_build_135 : decode cX6_build 135 = .ok (.getfield 44, 3) := by decide +kernel
theorem dX6_build_138 : decode cX6_build 138 = .ok (.iload_n 3, 1) := by decide +kernel
theorem dX6_build_139 : decode cX6_build 139 = .ok (.iload 4, 2) := by decide +kernel
theorem dX6_build_141 : decode cX6_build 141 = .ok (.iastore, 1) := by decide +kernel
theorem dX6_build_142 : decode cX6_build 142 = .ok (.aload_n 0, 1) := by decide +kernel
theorem dX6_build_143 : decode cX6_build 143 = .ok (.getfield 37, 3) := by decide +kernel
theorem dX6_build_146 : decode cX6_build 146 = .ok (.iload_n 3, 1) := by decide +kernel
theorem dX6_build_147 : decode cX6_build 147 = .ok (.bipush 99, 2) := by decide +kernel
theorem dX6_build_149 : decode cX6_build 149 = .ok (.iastore, 1) := by decide +kernel
theorem dX6_build_150 : decode cX6_build 150 = .ok (.aload_n 0, 1) := by decide +kernel
theorem dX6_build_151 : decode cX6_build 151 = .ok (.getfield 40, 3) := by decide +kernel
theorem dX6_build_154 : decode cX6_build 154 = .ok (.iload_n 3, 1) := by decide +kernel
theorem dX6_build_155 : decode cX6_build 155 = .ok (.iconst 1, 1) := by decide +kernel
theorem dX6_build_156 : decode cX6_build 156 = .ok (.bastore, 1) := by decide +kernel
theorem dX6_build_157 : decode cX6_build 157 = .ok (.lload_n 1, 1) := by decide +kernel
theorem dX6_build_158 : decode cX6_build 158 = .ok (.aload_n 0, 1) := by decide +kernel
theorem dX6_build_159 : decode cX6_build 159 = .ok (.iload_n 3, 1) := by decide +kernel
theorem dX6_build_160 : decode cX6_build 160 = .ok (.iload 4, 2) := by decide +kernel
theorem dX6_build_162 : decode cX6_build 162 = .ok (.invokevirtual 156, 3) := by decide +kernel
theorem dX6_build_165 : decode cX6_build 165 = .ok (.ladd, 1) := by decide +kernel
theorem dX6_build_166 : decode cX6_build 166 = .ok (.lstore_n 1, 1) := by decide +kernel
theorem dX6_build_167 : decode cX6_build 167 = .ok (.iinc 3 1, 3) := by decide +kernel
theorem dX6_build_170 : decode cX6_build 170 = .ok (.goto (-133), 3) := by decide +kernel
theorem dX6_build_173 : decode cX6_build 173 = .ok (.lload_n 1, 1) := by decide +kernel
theorem dX6_build_174 : decode cX6_build 174 = .ok (.lreturn, 1) := by decide +kernel
theorem dX6_beside_0 : decode cX6_beside 0 = .ok (.iconst 0, 1) := by decide +kernel
theorem dX6_beside_1 : decode cX6_beside 1 = .ok (.istore_n 3, 1) := by decide +kernel
theorem dX6_beside_2 : decode cX6_beside 2 = .ok (.iload_n 3, 1) := by decide +kernel
theorem dX6_beside_3 : decode cX6_beside 3 = .ok (.aload_n 0, 1) := by decide +kernel
theorem dX6_beside_4 : decode cX6_beside 4 = .ok (.getfield 80, 3) := by decide +kernel
theorem dX6_beside_7 : decode cX6_beside 7 = .ok (.if_icmp .ge 99, 3) := by decide +kernel
theorem dX6_beside_10 : decode cX6_beside 10 = .ok (.aload_n 0, 1) := by decide +kernel
theorem dX6_beside_11 : decode cX6_beside 11 = .ok (.getfield 31, 3) := by decide +kernel
theorem dX6_beside_14 : decode cX6_beside 14 = .ok (.iload_n 3, 1) := by decide +kernel
theorem dX6_beside_15 : decode cX6_beside 15 = .ok (.iaload, 1) := by decide +kernel
theorem dX6_beside_16 : decode cX6_beside 16 = .ok (.aload_n 0, 1) := by decide +kernel
theorem dX6_beside_17 : decode cX6_beside 17 = .ok (.getfield 31, 3) := by decide +kernel
theorem dX6_beside_20 : decode cX6_beside 20 = .ok (.iload_n 1, 1) := by decide +kernel
theorem dX6_beside_21 : decode cX6_beside 21 = .ok (.iaload, 1) := by decide +kernel
theorem dX6_beside_22 : decode cX6_beside 22 = .ok (.if_icmp .ne 78, 3) := by decide +kernel
theorem dX6_beside_25 : decode cX6_beside 25 = .ok (.aload_n 0, 1) := by decide +kernel
theorem dX6_beside_26 : decode cX6_beside 26 = .ok (.getfield 40, 3) := by decide +kernel
theorem dX6_beside_29 : decode cX6_beside 29 = .ok (.iload_n 3, 1) := by decide +kernel
theorem dX6_beside_30 : decode cX6_beside 30 = .ok (.baload, 1) := by decide +kernel
theorem dX6_beside_31 : decode cX6_beside 31 = .ok (.ifCond .ne 6, 3) := by decide +kernel
theorem dX6_beside_34 : decode cX6_beside 34 = .ok (.goto 66, 3) := by decide +kernel
theorem dX6_beside_37 : decode cX6_beside 37 = .ok (.iload_n 2, 1) := by decide +kernel
theorem dX6_beside_38 : decode cX6_beside 38 = .ok (.ifCond .eq 33, 3) := by decide +kernel
theorem dX6_beside_41 : decode cX6_beside 41 = .ok (.aload_n 0, 1) := by decide +kernel
theorem dX6_beside_42 : decode cX6_beside 42 = .ok (.getfield 34, 3) := by decide +kernel
theorem dX6_beside_45 : decode cX6_beside 45 = .ok (.iload_n 3, 1) := by decide +kernel
theorem dX6_beside_46 : decode cX6_beside 46 = .ok (.iaload, 1) := by decide +kernel
theorem dX6_beside_47 : decode cX6_beside 47 = .ok (.aload_n 0, 1) := by decide +kernel
theorem dX6_beside_48 : decode cX6_beside 48 = .ok (.getfield 34, 3) := by decide +kernel
theorem dX6_beside_51 : decode cX6_beside 51 = .ok (.iload_n 1, 1) := by decide +kernel
theorem dX6_beside_52 : decode cX6_beside 52 = .ok (.iaload, 1) := by decide +kernel
theorem dX6_beside_53 : decode cX6_beside 53 = .ok (.aload_n 0, 1) := by decide +kernel
theorem dX6_beside_54 : decode cX6_beside 54 = .ok (.getfield 7, 3) := by decide +kernel
theorem dX6_beside_57 : decode cX6_beside 57 = .ok (.aload_n 0, 1) := by decide +kernel
theorem dX6_beside_58 : decode cX6_beside 58 = .ok (.getfield 28, 3) := by decide +kernel
theorem dX6_beside_61 : decode cX6_beside 61 = .ok (.iload_n 1, 1) := by decide +kernel
theorem dX6_beside_62 : decode cX6_beside 62 = .ok (.iaload, 1) := by decide +kernel
theorem dX6_beside_63 : decode cX6_beside 63 = .ok (.iaload, 1) := by decide +kernel
theorem dX6_beside_64 : decode cX6_beside 64 = .ok (.iadd, 1) := by decide +kernel
theorem dX6_beside_65 : decode cX6_beside 65 = .ok (.if_icmp .ne 35, 3) := by decide +kernel
theorem dX6_beside_68 : decode cX6_beside 68 = .ok (.goto 30, 3) := by decide +kernel
theorem dX6_beside_71 : decode cX6_beside 71 = .ok (.aload_n 0, 1) := by decide +kernel
theorem dX6_beside_72 : decode cX6_beside 72 = .ok (.getfield 34, 3) := by decide +kernel
theorem dX6_beside_75 : decode cX6_beside 75 = .ok (.iload_n 3, 1) := by decide +kernel
theorem dX6_beside_76 : decode cX6_beside 76 = .ok (.iaload, 1) := by decide +kernel
theorem dX6_beside_77 : decode cX6_beside 77 = .ok (.aload_n 0, 1) := by decide +kernel
theorem dX6_beside_78 : decode cX6_beside 78 = .ok (.getfield 7, 3) := by decide +kernel
theorem dX6_beside_81 : decode cX6_beside 81 = .ok (.aload_n 0, 1) := by decide +kernel
theorem dX6_beside_82 : decode cX6_beside 82 = .ok (.getfield 28, 3) := by decide +kernel
theorem dX6_beside_85 : decode cX6_beside 85 = .ok (.iload_n 3, 1) := by decide +kernel
theorem dX6_beside_86 : decode cX6_beside 86 = .ok (.iaload, 1) := by decide +kernel
theorem dX6_beside_87 : decode cX6_beside 87 = .ok (.iaload, 1) := by decide +kernel
theorem dX6_beside_88 : decode cX6_beside 88 = .ok (.iadd, 1) := by decide +kernel
theorem dX6_beside_89 : decode cX6_beside 89 = .ok (.aload_n 0, 1) := by decide +kernel
theorem dX6_beside_90 : decode cX6_beside 90 = .ok (.getfield 34, 3) := by decide +kernel
theorem dX6_beside_93 : decode cX6_beside 93 = .ok (.iload_n 1, 1) := by decide +kernel
theorem dX6_beside_94 : decode cX6_beside 94 = .ok (.iaload, 1) := by decide +kernel
theorem dX6_beside_95 : decode cX6_beside 95 = .ok (.if_icmp .ne 5, 3) := by decide +kernel
theorem dX6_beside_98 : decode cX6_beside 98 = .ok (.iconst 1, 1) := by decide +kernel
theorem dX6_beside_99 : decode cX6_beside 99 = .ok (.ireturn, 1) := by decide +kernel
theorem dX6_beside_100 : decode cX6_beside 100 = .ok (.iinc 3 1, 3) := by decide +kernel
theorem dX6_beside_103 : decode cX6_beside 103 = .ok (.goto (-101), 3) := by decide +kernel
theorem dX6_beside_106 : decode cX6_beside 106 = .ok (.iconst 0, 1) := by decide +kernel
theorem dX6_beside_107 : decode cX6_beside 107 = .ok (.ireturn, 1) := by decide +kernel
theorem dX6_lies_0 : decode cX6_lies 0 = .ok (.aload_n 0, 1) := by decide +kernel
theorem dX6_lies_1 : decode cX6_lies 1 = .ok (.getfield 34, 3) := by decide +kernel
theorem dX6_lies_4 : decode cX6_lies 4 = .ok (.iload_n 1, 1) := by decide +kernel
theorem dX6_lies_5 : decode cX6_lies 5 = .ok (.iaload, 1) := by decide +kernel
theorem dX6_lies_6 : decode cX6_lies 6 = .ok (.istore_n 2, 1) := by decide +kernel
theorem dX6_lies_7 : decode cX6_lies 7 = .ok (.iload_n 2, 1) := by decide +kernel
theorem dX6_lies_8 : decode cX6_lies 8 = .ok (.aload_n 0, 1) := by decide +kernel
theorem dX6_lies_9 : decode cX6_lies 9 = .ok (.getfield 7, 3) := by decide +kernel
theorem dX6_lies_12 : decode cX6_lies 12 = .ok (.aload_n 0, 1) := by decide +kernel
theorem dX6_lies_13 : decode cX6_lies 13 = .ok (.getfield 28, 3) := by decide +kernel
theorem dX6_lies_16 : decode cX6_lies 16 = .ok (.iload_n 1, 1) := by decide +kernel
theorem dX6_lies_17 : decode cX6_lies 17 = .ok (.iaload, 1) := by decide +kernel
theorem dX6_lies_18 : decode cX6_lies 18 = .ok (.iaload, 1) := by decide +kernel
theorem dX6_lies_19 : decode cX6_lies 19 = .ok (.iadd, 1) := by decide +kernel
theorem dX6_lies_20 : decode cX6_lies 20 = .ok (.istore_n 3, 1) := by decide +kernel
theorem dX6_lies_21 : decode cX6_lies 21 = .ok (.iconst 0, 1) := by decide +kernel
theorem dX6_lies_22 : decode cX6_lies 22 = .ok (.istore 4, 2) := by decide +kernel
theorem dX6_lies_24 : decode cX6_lies 24 = .ok (.iconst 0, 1) := by decide +kernel
theorem dX6_lies_25 : decode cX6_lies 25 = .ok (.istore 5, 2) := by decide +kernel
theorem dX6_lies_27 : decode cX6_lies 27 = .ok (.iload 5, 2) := by decide +kernel
theorem dX6_lies_29 : decode cX6_lies 29 = .ok (.aload_n 0, 1) := by decide +kernel
theorem dX6_lies_30 : decode cX6_lies 30 = .ok (.getfield 80, 3) := by decide +kernel
theorem dX6_lies_33 : decode cX6_lies 33 = .ok (.if_icmp .ge 121, 3) := by decide +kernel
theorem dX6_lies_36 : decode cX6_lies 36 = .ok (.aload_n 0, 1) := by decide +kernel
theorem dX6_lies_37 : decode cX6_lies 37 = .ok (.getfield 31, 3) := by decide +kernel
theorem dX6_lies_40 : decode cX6_lies 40 = .ok (.iload 5, 2) := by decide +kernel
theorem dX6_lies_42 : decode cX6_lies 42 = .ok (.iaload, 1) := by decide +kernel
theorem dX6_lies_43 : decode cX6_lies 43 = .ok (.aload_n 0, 1) := by decide +kernel
theorem dX6_lies_44 : decode cX6_lies 44 = .ok (.getfield 31, 3) := by decide +kernel
theorem dX6_lies_47 : decode cX6_lies 47 = .ok (.iload_n 1, 1) := by decide +kernel
theorem dX6_lies_48 : decode cX6_lies 48 = .ok (.iaload, 1) := by decide +kernel
theorem dX6_lies_49 : decode cX6_lies 49 = .ok (.iconst 1, 1) := by decide +kernel
theorem dX6_lies_50 : decode cX6_lies 50 = .ok (.isub, 1) := by decide +kernel
theorem dX6_lies_51 : decode cX6_lies 51 = .ok (.if_icmp .ne 97, 3) := by decide +kernel
theorem dX6_lies_54 : decode cX6_lies 54 = .ok (.aload_n 0, 1) := by decide +kernel
theorem dX6_lies_55 : decode cX6_lies 55 = .ok (.getfield 40, 3) := by decide +kernel
theorem dX6_lies_58 : decode cX6_lies 58 = .ok (.iload 5, 2) := by decide +kernel
theorem dX6_lies_60 : decode cX6_lies 60 = .ok (.baload, 1) := by decide +kernel
theorem dX6_lies_61 : decode cX6_lies 61 = .ok (.ifCond .ne 6, 3) := by decide +kernel
theorem dX6_lies_64 : decode cX6_lies 64 = .ok (.goto 84, 3) := by decide +kernel
theorem dX6_lies_67 : decode cX6_lies 67 = .ok (.aload_n 0, 1) := by decide +kernel
theorem dX6_lies_68 : decode cX6_lies 68 = .ok (.getfield 34, 3) := by decide +kernel
theorem dX6_lies_71 : decode cX6_lies 71 = .ok (.iload 5, 2) := by decide +kernel
theorem dX6_lies_73 : decode cX6_lies 73 = .ok (.iaload, 1) := by decide +kernel
theorem dX6_lies_74 : decode cX6_lies 74 = .ok (.iload_n 2, 1) := by decide +kernel
theorem dX6_lies_75 : decode cX6_lies 75 = .ok (.if_icmp .le 13, 3) := by decide +kernel
theorem dX6_lies_78 : decode cX6_lies 78 = .ok (.aload_n 0, 1) := by decide +kernel
theorem dX6_lies_79 : decode cX6_lies 79 = .ok (.getfield 34, 3) := by decide +kernel
theorem dX6_lies_82 : decode cX6_lies 82 = .ok (.iload 5, 2) := by decide +kernel
theorem dX6_lies_84 : decode cX6_lies 84 = .ok (.iaload, 1) := by decide +kernel
theorem dX6_lies_85 : decode cX6_lies 85 = .ok (.goto 4, 3) := by decide +kernel
theorem dX6_lies_88 : decode cX6_lies 88 = .ok (.iload_n 2, 1) := by decide +kernel
theorem dX6_lies_89 : decode cX6_lies 89 = .ok (.istore 6, 2) := by decide +kernel
theorem dX6_lies_91 : decode cX6_lies 91 = .ok (.aload_n 0, 1) := by decide +kernel
theorem dX6_lies_92 : decode cX6_lies 92 = .ok (.getfield 34, 3) := by decide +kernel
theorem dX6_lies_95 : decode cX6_lies 95 = .ok (.iload 5, 2) := by decide +kernel
theorem dX6_lies_97 : decode cX6_lies 97 = .ok (.iaload, 1) := by decide +kernel
theorem dX6_lies_98 : decode cX6_lies 98 = .ok (.aload_n 0, 1) := by decide +kernel
theorem dX6_lies_99 : decode cX6_lies 99 = .ok (.getfield 7, 3) := by decide +kernel
theorem dX6_lies_102 : decode cX6_lies 102 = .ok (.aload_n 0, 1) := by decide +kernel
theorem dX6_lies_103 : decode cX6_lies 103 = .ok (.getfield 28, 3) := by decide +kernel
theorem dX6_lies_106 : decode cX6_lies 106 = .ok (.iload 5, 2) := by decide +kernel
theorem dX6_lies_108 : decode cX6_lies 108 = .ok (.iaload, 1) := by decide +kernel
theorem dX6_lies_109 : decode cX6_lies 109 = .ok (.iaload, 1) := by decide +kernel
theorem dX6_lies_110 : decode cX6_lies 110 = .ok (.iadd, 1) := by decide +kernel
theorem dX6_lies_111 : decode cX6_lies 111 = .ok (.istore 7, 2) := by decide +kernel
theorem dX6_lies_113 : decode cX6_lies 113 = .ok (.iload 7, 2) := by decide +kernel
theorem dX6_lies_115 : decode cX6_lies 115 = .ok (.iload_n 3, 1) := by decide +kernel
theorem dX6_lies_116 : decode cX6_lies 116 = .ok (.if_icmp .ge 8, 3) := by decide +kernel
theorem dX6_lies_119 : decode cX6_lies 119 = .ok (.iload 7, 2) := by decide +kernel
theorem dX6_lies_121 : decode cX6_lies 121 = .ok (.goto 4, 3) := by decide +kernel
theorem dX6_lies_124 : decode cX6_lies 124 = .ok (.iload_n 3, 1) := by decide +kernel
theorem dX6_lies_125 : decode cX6_lies 125 = .ok (.istore 8, 2) := by decide +kernel
theorem dX6_lies_127 : decode cX6_lies 127 = .ok (.iload 4, 2) := by decide +kernel
theorem dX6_lies_129 : decode cX6_lies 129 = .ok (.iload 8, 2) := by decide +kernel
theorem dX6_lies_131 : decode cX6_lies 131 = .ok (.iload 6, 2) := by decide +kernel
theorem dX6_lies_133 : decode cX6_lies 133 = .ok (.if_icmp .le 11, 3) := by decide +kernel
theorem dX6_lies_136 : decode cX6_lies 136 = .ok (.iload 8, 2) := by decide +kernel
theorem dX6_lies_138 : decode cX6_lies 138 = .ok (.iload 6, 2) := by decide +kernel
theorem dX6_lies_140 : decode cX6_lies 140 = .ok (.isub, 1) := by decide +kernel
theorem dX6_lies_141 : decode cX6_lies 141 = .ok (.goto 4, 3) := by decide +kernel
theorem dX6_lies_144 : decode cX6_lies 144 = .ok (.iconst 0, 1) := by decide +kernel
theorem dX6_lies_145 : decode cX6_lies 145 = .ok (.iadd, 1) := by decide +kernel
theorem dX6_lies_146 : decode cX6_lies 146 = .ok (.istore 4, 2) := by decide +kernel
theorem dX6_lies_148 : decode cX6_lies 148 = .ok (.iinc 5 1, 3) := by decide +kernel
theorem dX6_lies_151 : decode cX6_lies 151 = .ok (.goto (-124), 3) := by decide +kernel
theorem dX6_lies_154 : decode cX6_lies 154 = .ok (.iload 4, 2) := by decide +kernel
theorem dX6_lies_156 : decode cX6_lies 156 = .ok (.ireturn, 1) := by decide +kernel
set_option maxRecDepth 20000 in
theorem ggX6_frost_X6_beside : GoodIn wsX6_frost wsX6_beside := goodIn_r _ [16, 4, 9, 6, 17, 10, 11, 22, 23, 24, 25, 26, 27, 28, 29, 30, 31, 32, 33, 34, 35, 36, 37, 38, 39, 40, 41, 42, 43, 44, 45, 46, 47, 48, 49, 50, 51, 52, 53, 54, 55, 56, 57, 58] (by decide +kernel) (by decide +kernel)
set_option maxRecDepth 20000 in
theorem gX6_frost_X6_beside : GoodIn wsX6_frost (wsV RX6 172 RX6 yX6_beside wsX6_beside) := goodIn_app (goodIn_of _ (by decide +kernel)) ggX6_frost_X6_beside
set_option maxRecDepth 20000 in
theorem ggX6_frost_X6_lies : GoodIn wsX6_frost wsX6_lies := goodIn_r _ [21, 17, 10, 11, 4, 9, 6, 22, 23, 24, 25, 26, 27, 28, 29, 30, 31, 32, 33, 34, 35, 36, 37, 38, 39, 40, 41, 42, 43, 44, 45, 46, 47, 48, 49, 50, 51, 52, 53, 54, 55, 56, 57, 58] (by decide +kernel) (by decide +kernel)
set_option maxRecDepth 20000 in
theorem gX6_frost_X6_lies : GoodIn wsX6_frost (wsV RX6 176 RX6 yX6_lies wsX6_lies) := goodIn_app (goodIn_of _ (by decide +kernel)) ggX6_frost_X6_lies
theorem dX6_frost_0 : decode cX6_frost 0 = .ok (.aload_n 0, 1) := by decide +kernel
theorem dX6_frost_1 : decode cX6_frost 1 = .ok (.iconst 0, 1) := by decide +kernel
theorem dX6_frost_2 : decode cX6_frost 2 = .ok (.putfield 72, 3) := by decide +kernel
theorem dX6_frost_5 : decode cX6_frost 5 = .ok (.aload_n 0, 1) := by decide +kernel
theorem dX6_frost_6 : decode cX6_frost 6 = .ok (.getfield 83, 3) := by decide +kernel
theorem dX6_frost_9 : decode cX6_frost 9 = .ok (.ifCond .eq 13, 3) := by decide +kernel
theorem dX6_frost_12 : decode cX6_frost 12 = .ok (.iload_n 1, 1) := by decide +kernel
theorem dX6_frost_13 : decode cX6_frost 13 = .ok (.ifCond .lt 9, 3) := by decide +kernel
theorem dX6_frost_16 : decode cX6_frost 16 = .ok (.iload_n 1, 1) := by decide +kernel
theorem dX6_frost_17 : decode cX6_frost 17 = .ok (.bipush 50, 2) := by decide +kernel
theorem dX6_frost_19 : decode cX6_frost 19 = .ok (.if_icmp .le 5, 3) := by decide +kernel
theorem dX6_frost_22 : decode cX6_frost 22 = .ok (.iconst (-1), 1) := by decide +kernel
theorem dX6_frost_23 : decode cX6_frost 23 = .ok (.ireturn, 1) := by decide +kernel
theorem dX6_frost_24 : decode cX6_frost 24 = .ok (.aload_n 0, 1) := by decide +kernel
theorem dX6_frost_25 : decode cX6_frost 25 = .ok (.dup, 1) := by decide +kernel
theorem dX6_frost_26 : decode cX6_frost 26 = .ok (.getfield 169, 3) := by decide +kernel
theorem dX6_frost_29 : decode cX6_frost 29 = .ok (.iconst 1, 1) := by decide +kernel
theorem dX6_frost_30 : decode cX6_frost 30 = .ok (.iadd, 1) := by decide +kernel
theorem dX6_frost_31 : decode cX6_frost 31 = .ok (.putfield 169, 3) := by decide +kernel
theorem dX6_frost_34 : decode cX6_frost 34 = .ok (.iconst 0, 1) := by decide +kernel
theorem dX6_frost_35 : decode cX6_frost 35 = .ok (.istore_n 2, 1) := by decide +kernel
theorem dX6_frost_36 : decode cX6_frost 36 = .ok (.iload_n 2, 1) := by decide +kernel
theorem dX6_frost_37 : decode cX6_frost 37 = .ok (.aload_n 0, 1) := by decide +kernel
theorem dX6_frost_38 : decode cX6_frost 38 = .ok (.getfield 80, 3) := by decide +kernel
theorem dX6_frost_41 : decode cX6_frost 41 = .ok (.if_icmp .ge 61, 3) := by decide +kernel
theorem dX6_frost_44 : decode cX6_frost 44 = .ok (.aload_n 0, 1) := by decide +kernel
theorem dX6_frost_45 : decode cX6_frost 45 = .ok (.getfield 69, 3) := by decide +kernel
theorem dX6_frost_48 : decode cX6_frost 48 = .ok (.iload_n 2, 1) := by decide +kernel
theorem dX6_frost_49 : decode cX6_frost 49 = .ok (.aload_n 0, 1) := by decide +kernel
theorem dX6_frost_50 : decode cX6_frost 50 = .ok (.getfield 40, 3) := by decide +kernel
theorem dX6_frost_53 : decode cX6_frost 53 = .ok (.iload_n 2, 1) := by decide +kernel
theorem dX6_frost_54 : decode cX6_frost 54 = .ok (.baload, 1) := by decide +kernel
theorem dX6_frost_55 : decode cX6_frost 55 = .ok (.ifCond .eq 39, 3) := by decide +kernel
theorem dX6_frost_58 : decode cX6_frost 58 = .ok (.iload_n 1, 1) := by decide +kernel
theorem dX6_frost_59 : decode cX6_frost 59 = .ok (.iconst 1, 1) := by decide +kernel
theorem dX6_frost_60 : decode cX6_frost 60 = .ok (.aload_n 0, 1) := by decide +kernel
theorem dX6_frost_61 : decode cX6_frost 61 = .ok (.iload_n 2, 1) := by decide +kernel
theorem dX6_frost_62 : decode cX6_frost 62 = .ok (.iconst 0, 1) := by decide +kernel
theorem dX6_frost_63 : decode cX6_frost 63 = .ok (.invokevirtual 172, 3) := by decide +kernel
theorem dX6_frost_66 : decode cX6_frost 66 = .ok (.ifCond .eq 7, 3) := by decide +kernel
theorem dX6_frost_69 : decode cX6_frost 69 = .ok (.iconst 0, 1) := by decide +kernel
theorem dX6_frost_70 : decode cX6_frost 70 = .ok (.goto 4, 3) := by decide +kernel
theorem dX6_frost_73 : decode cX6_frost 73 = .ok (.iconst 1, 1) := by decide +kernel
theorem dX6_frost_74 : decode cX6_frost 74 = .ok (.iadd, 1) := by decide +kernel
theorem dX6_frost_75 : decode cX6_frost 75 = .ok (.aload_n 0, 1) := by decide +kernel
theorem dX6_frost_76 : decode cX6_frost 76 = .ok (.iload_n 2, 1) := by decide +kernel
theorem dX6_frost_77 : decode cX6_frost 77 = .ok (.iconst 1, 1) := by decide +kernel
theorem dX6_frost_78 : decode cX6_frost 78 = .ok (.invokevirtual 172, 3) := by decide +kernel
theorem dX6_frost_81 : decode cX6_frost 81 = .ok (.ifCond .eq 7, 3) := by decide +kernel
theorem dX6_frost_84 : decode cX6_frost 84 = .ok (.iconst 0, 1) := by decide +kernel
theorem dX6_frost_85 : decode cX6_frost 85 = .ok (.goto 4, 3) := by decide +kernel
theorem dX6_frost_88 : decode cX6_frost 88 = .ok (.iconst 1, 1) := by decide +kernel
theorem dX6_frost_89 : decode cX6_frost 89 = .ok (.iadd, 1) := by decide +kernel
theorem dX6_frost_90 : decode cX6_frost 90 = .ok (.imul, 1) := by decide +kernel
theorem dX6_frost_91 : decode cX6_frost 91 = .ok (.goto 4, 3) := by decide +kernel
theorem dX6_frost_94 : decode cX6_frost 94 = .ok (.iconst 0, 1) := by decide +kernel
theorem dX6_frost_95 : decode cX6_frost 95 = .ok (.iastore, 1) := by decide +kernel
theorem dX6_frost_96 : decode cX6_frost 96 = .ok (.iinc 2 1, 3) := by decide +kernel
theorem dX6_frost_99 : decode cX6_frost 99 = .ok (.goto (-63), 3) := by decide +kernel
theorem dX6_frost_102 : decode cX6_frost 102 = .ok (.iconst 0, 1) := by decide +kernel
theorem dX6_frost_103 : decode cX6_frost 103 = .ok (.istore_n 2, 1) := by decide +kernel
theorem dX6_frost_104 : decode cX6_frost 104 = .ok (.iload_n 2, 1) := by decide +kernel
theorem dX6_frost_105 : decode cX6_frost 105 = .ok (.aload_n 0, 1) := by decide +kernel
theorem dX6_frost_106 : decode cX6_frost 106 = .ok (.getfield 80, 3) := by decide +kernel
theorem dX6_frost_109 : decode cX6_frost 109 = .ok (.if_icmp .ge 47, 3) := by decide +kernel
theorem dX6_frost_112 : decode cX6_frost 112 = .ok (.aload_n 0, 1) := by decide +kernel
theorem dX6_frost_113 : decode cX6_frost 113 = .ok (.getfield 37, 3) := by decide +kernel
theorem dX6_frost_116 : decode cX6_frost 116 = .ok (.iload_n 2, 1) := by decide +kernel
theorem dX6_frost_117 : decode cX6_frost 117 = .ok (.aload_n 0, 1) := by decide +kernel
theorem dX6_frost_118 : decode cX6_frost 118 = .ok (.getfield 37, 3) := by decide +kernel
theorem dX6_frost_121 : decode cX6_frost 121 = .ok (.iload_n 2, 1) := by decide +kernel
theorem dX6_frost_122 : decode cX6_frost 122 = .ok (.iaload, 1) := by decide +kernel
theorem dX6_frost_123 : decode cX6_frost 123 = .ok (.aload_n 0, 1) := by decide +kernel
theorem dX6_frost_124 : decode cX6_frost 124 = .ok (.getfield 69, 3) := by decide +kernel
theorem dX6_frost_127 : decode cX6_frost 127 = .ok (.iload_n 2, 1) := by decide +kernel
theorem dX6_frost_128 : decode cX6_frost 128 = .ok (.iaload, 1) := by decide +kernel
theorem dX6_frost_129 : decode cX6_frost 129 = .ok (.if_icmp .ge 7, 3) := by decide +kernel
theorem dX6_frost_132 : decode cX6_frost 132 = .ok (.iconst 0, 1) := by decide +kernel
theorem dX6_frost_133 : decode cX6_frost 133 = .ok (.goto 16, 3) := by decide +kernel
theorem dX6_frost_136 : decode cX6_frost 136 = .ok (.aload_n 0, 1) := by decide +kernel
theorem dX6_frost_137 : decode cX6_frost 137 = .ok (.getfield 37, 3) := by decide +kernel
theorem dX6_frost_140 : decode cX6_frost 140 = .ok (.iload_n 2, 1) := by decide +kernel
theorem dX6_frost_141 : decode cX6_frost 141 = .ok (.iaload, 1) := by decide +kernel
theorem dX6_frost_142 : decode cX6_frost 142 = .ok (.aload_n 0, 1) := by decide +kernel
theorem dX6_frost_143 : decode cX6_frost 143 = .ok (.getfield 69, 3) := by decide +kernel
theorem dX6_frost_146 : decode cX6_frost 146 = .ok (.iload_n 2, 1) := by decide +kernel
theorem dX6_frost_147 : decode cX6_frost 147 = .ok (.iaload, 1) := by decide +kernel
theorem dX6_frost_148 : decode cX6_frost 148 = .ok (.isub, 1) := by decide +kernel
theorem dX6_frost_149 : decode cX6_frost 149 = .ok (.iastore, 1) := by decide +kernel
theorem dX6_frost_150 : decode cX6_frost 150 = .ok (.iinc 2 1, 3) := by decide +kernel
theorem dX6_frost_153 : decode cX6_frost 153 = .ok (.goto (-49), 3) := by decide +kernel
theorem dX6_frost_156 : decode cX6_frost 156 = .ok (.iconst 0, 1) := by decide +kernel
theorem dX6_frost_157 : decode cX6_frost 157 = .ok (.istore_n 2, 1) := by decide +kernel
theorem dX6_frost_158 : decode cX6_frost 158 = .ok (.iconst 1, 1) := by decide +kernel
theorem dX6_frost_159 : decode cX6_frost 159 = .ok (.istore_n 3, 1) := by decide +kernel
theorem dX6_frost_160 : decode cX6_frost 160 = .ok (.iload_n 3, 1) := by decide +kernel
theorem dX6_frost_161 : decode cX6_frost 161 = .ok (.ifCond .eq 135, 3) := by decide +kernel
theorem dX6_frost_164 : decode cX6_frost 164 = .ok (.iconst 0, 1) := by decide +kernel
theorem dX6_frost_165 : decode cX6_frost 165 = .ok (.istore_n 3, 1) := by decide +kernel
theorem dX6_frost_166 : decode cX6_frost 166 = .ok (.iconst 0, 1) := by decide +kernel
theorem dX6_frost_167 : decode cX6_frost 167 = .ok (.istore 4, 2) := by decide +kernel
theorem dX6_frost_169 : decode cX6_frost 169 = .ok (.iload 4, 2) := by decide +kernel
theorem dX6_frost_171 : decode cX6_frost 171 = .ok (.aload_n 0, 1) := by decide +kernel
theorem dX6_frost_172 : decode cX6_frost 172 = .ok (.getfield 80, 3) := by decide +kernel
theorem dX6_frost_175 : decode cX6_frost 175 = .ok (.if_icmp .ge 74, 3) := by decide +kernel
theorem dX6_frost_178 : decode cX6_frost 178 = .ok (.aload_n 0, 1) := by decide +kernel
theorem dX6_frost_179 : decode cX6_frost 179 = .ok (.getfield 66, 3) := by decide +kernel
theorem dX6_frost_182 : decode cX6_frost 182 = .ok (.iload 4, 2) := by decide +kernel
theorem dX6_frost_184 : decode cX6_frost 184 = .ok (.aload_n 0, 1) := by decide +kernel
theorem dX6_frost_185 : decode cX6_frost 185 = .ok (.getfield 40, 3) := by decide +kernel
theorem dX6_frost_188 : decode cX6_frost 188 = .ok (.iload 4, 2) := by decide +kernel
theorem dX6_frost_190 : decode cX6_frost 190 = .ok (.baload, 1) := by decide +kernel
theorem dX6_frost_191 : decode cX6_frost 191 = .ok (.ifCond .eq 50, 3) := by decide +kernel
theorem dX6_frost_194 : decode cX6_frost 194 = .ok (.aload_n 0, 1) := by decide +kernel
theorem dX6_frost_195 : decode cX6_frost 195 = .ok (.getfield 37, 3) := by decide +kernel
theorem dX6_frost_198 : decode cX6_frost 198 = .ok (.iload 4, 2) := by decide +kernel
theorem dX6_frost_200 : decode cX6_frost 200 = .ok (.iaload, 1) := by decide +kernel
theorem dX6_frost_201 : decode cX6_frost 201 = .ok (.ifCond .eq 36, 3) := by decide +kernel
theorem dX6_frost_204 : decode cX6_frost 204 = .ok (.aload_n 0, 1) := by decide +kernel
theorem dX6_frost_205 : decode cX6_frost 205 = .ok (.getfield 31, 3) := by decide +kernel
theorem dX6_frost_208 : decode cX6_frost 208 = .ok (.iload 4, 2) := by decide +kernel
theorem dX6_frost_210 : decode cX6_frost 210 = .ok (.iaload, 1) := by decide +kernel
theorem dX6_frost_211 : decode cX6_frost 211 = .ok (.ifCond .le 30, 3) := by decide +kernel
theorem dX6_frost_214 : decode cX6_frost 214 = .ok (.iconst 2, 1) := by decide +kernel
theorem dX6_frost_215 : decode cX6_frost 215 = .ok (.aload_n 0, 1) := by decide +kernel
theorem dX6_frost_216 : decode cX6_frost 216 = .ok (.iload 4, 2) := by decide +kernel
theorem dX6_frost_218 : decode cX6_frost 218 = .ok (.invokevirtual 176, 3) := by decide +kernel
theorem dX6_frost_221 : decode cX6_frost 221 = .ok (.imul, 1) := by decide +kernel
theorem dX6_frost_222 : decode cX6_frost 222 = .ok (.aload_n 0, 1) := by decide +kernel
theorem dX6_frost_223 : decode cX6_frost 223 = .ok (.getfield 7, 3) := by decide +kernel
theorem dX6_frost_226 : decode cX6_frost 226 = .ok (.aload_n 0, 1) := by decide +kernel
theorem dX6_frost_227 : decode cX6_frost 227 = .ok (.getfield 28, 3) := by decide +kernel
theorem dX6_frost_230 : decode cX6_frost 230 = .ok (.iload 4, 2) := by decide +kernel
theorem dX6_frost_232 : decode cX6_frost 232 = .ok (.iaload, 1) := by decide +kernel
theorem dX6_frost_233 : decode cX6_frost 233 = .ok (.iaload, 1) := by decide +kernel
theorem dX6_frost_234 : decode cX6_frost 234 = .ok (.if_icmp .ge 7, 3) := by decide +kernel
theorem dX6_frost_237 : decode cX6_frost 237 = .ok (.iconst 1, 1) := by decide +kernel
theorem dX6_frost_238 : decode cX6_frost 238 = .ok (.goto 4, 3) := by decide +kernel
theorem dX6_frost_241 : decode cX6_frost 241 = .ok (.iconst 0, 1) := by decide +kernel
theorem dX6_frost_242 : decode cX6_frost 242 = .ok (.bastore, 1) := by decide +kernel
theorem dX6_frost_243 : decode cX6_frost 243 = .ok (.iinc 4 1, 3) := by decide +kernel
theorem dX6_frost_246 : decode cX6_frost 246 = .ok (.goto (-77), 3) := by decide +kernel
theorem dX6_frost_249 : decode cX6_frost 249 = .ok (.iconst 0, 1) := by decide +kernel
theorem dX6_frost_250 : decode cX6_frost 250 = .ok (.istore 4, 2) := by decide +kernel
theorem dX6_frost_252 : decode cX6_frost 252 = .ok (.iload 4, 2) := by decide +kernel
theorem dX6_frost_254 : decode cX6_frost 254 = .ok (.aload_n 0, 1) := by decide +kernel
theorem dX6_frost_255 : decode cX6_frost 255 = .ok (.getfield 80, 3) := by decide +kernel
theorem dX6_frost_258 : decode cX6_frost 258 = .ok (.if_icmp .ge 35, 3) := by decide +kernel
theorem dX6_frost_261 : decode cX6_frost 261 = .ok (.aload_n 0, 1) := by decide +kernel
theorem dX6_frost_262 : decode cX6_frost 262 = .ok (.getfield 66, 3) := by decide +kernel
theorem dX6_frost_265 : decode cX6_frost 265 = .ok (.iload 4, 2) := by decide +kernel
theorem dX6_frost_267 : decode cX6_frost 267 = .ok (.baload, 1) := by decide +kernel
theorem dX6_frost_268 : decode cX6_frost 268 = .ok (.ifCond .ne 6, 3) := by decide +kernel
theorem dX6_frost_271 : decode cX6_frost 271 = .ok (.goto 16, 3) := by decide +kernel
theorem dX6_frost_274 : decode cX6_frost 274 = .ok (.aload_n 0, 1) := by decide +kernel
theorem dX6_frost_275 : decode cX6_frost 275 = .ok (.getfield 40, 3) := by decide +kernel
theorem dX6_frost_278 : decode cX6_frost 278 = .ok (.iload 4, 2) := by decide +kernel
theorem dX6_frost_280 : decode cX6_frost 280 = .ok (.iconst 0, 1) := by decide +kernel
theorem dX6_frost_281 : decode cX6_frost 281 = .ok (.bastore, 1) := by decide +kernel
theorem dX6_frost_282 : decode cX6_frost 282 = .ok (.iinc 2 1, 3) := by decide +kernel
theorem dX6_frost_285 : decode cX6_frost 285 = .ok (.iconst 1, 1) := by decide +kernel
theorem dX6_frost_286 : decode cX6_frost 286 = .ok (.istore_n 3, 1) := by decide +kernel
theorem dX6_frost_287 : decode cX6_frost 287 = .ok (.iinc 4 1, 3) := by decide +kernel
theorem dX6_frost_290 : decode cX6_frost 290 = .ok (.goto (-38), 3) := by decide +kernel
theorem dX6_frost_293 : decode cX6_frost 293 = .ok (.goto (-133), 3) := by decide +kernel
theorem dX6_frost_296 : decode cX6_frost 296 = .ok (.iload_n 2, 1) := by decide +kernel
theorem dX6_frost_297 : decode cX6_frost 297 = .ok (.ireturn, 1) := by decide +kernel
theorem dX6_mend_0 : decode cX6_mend 0 = .ok (.aload_n 0, 1) := by decide +kernel
theorem dX6_mend_1 : decode cX6_mend 1 = .ok (.iconst 0, 1) := by decide +kernel
theorem dX6_mend_2 : decode cX6_mend 2 = .ok (.putfield 72, 3) := by decide +kernel
theorem dX6_mend_5 : decode cX6_mend 5 = .ok (.aload_n 0, 1) := by decide +kernel
theorem dX6_mend_6 : decode cX6_mend 6 = .ok (.getfield 83, 3) := by decide +kernel
theorem dX6_mend_9 : decode cX6_mend 9 = .ok (.ifCond .ne 5, 3) := by decide +kernel
theorem dX6_mend_12 : decode cX6_mend 12 = .ok (.iconst (-1), 1) := by decide +kernel
theorem dX6_mend_13 : decode cX6_mend 13 = .ok (.ireturn, 1) := by decide +kernel
theorem dX6_mend_14 : decode cX6_mend 14 = .ok (.iconst 0, 1) := by decide +kernel
theorem dX6_mend_15 : decode cX6_mend 15 = .ok (.istore_n 1, 1) := by decide +kernel
theorem dX6_mend_16 : decode cX6_mend 16 = .ok (.iconst 0, 1) := by decide +kernel
theorem dX6_mend_17 : decode cX6_mend 17 = .ok (.istore_n 2, 1) := by decide +kernel
theorem dX6_mend_18 : decode cX6_mend 18 = .ok (.iload_n 2, 1) := by decide +kernel
theorem dX6_mend_19 : decode cX6_mend 19 = .ok (.aload_n 0, 1) := by decide +kernel
theorem dX6_mend_20 : decode cX6_mend 20 = .ok (.getfield 80, 3) := by decide +kernel
theorem dX6_mend_23 : decode cX6_mend 23 = .ok (.if_icmp .ge 39, 3) := by decide +kernel
theorem dX6_mend_26 : decode cX6_mend 26 = .ok (.aload_n 0, 1) := by decide +kernel
theorem dX6_mend_27 : decode cX6_mend 27 = .ok (.getfield 40, 3) := by decide +kernel
theorem dX6_mend_30 : decode cX6_mend 30 = .ok (.iload_n 2, 1) := by decide +kernel
theorem dX6_mend_31 : decode cX6_mend 31 = .ok (.baload, 1) := by decide +kernel
theorem dX6_mend_32 : decode cX6_mend 32 = .ok (.ifCond .eq 6, 3) := by decide +kernel
theorem dX6_mend_35 : decode cX6_mend 35 = .ok (.goto 21, 3) := by decide +kernel
theorem dX6_mend_38 : decode cX6_mend 38 = .ok (.aload_n 0, 1) := by decide +kernel
theorem dX6_mend_39 : decode cX6_mend 39 = .ok (.getfield 40, 3) := by decide +kernel
theorem dX6_mend_42 : decode cX6_mend 42 = .ok (.iload_n 2, 1) := by decide +kernel
theorem dX6_mend_43 : decode cX6_mend 43 = .ok (.iconst 1, 1) := by decide +kernel
theorem dX6_mend_44 : decode cX6_mend 44 = .ok (.bastore, 1) := by decide +kernel
theorem dX6_mend_45 : decode cX6_mend 45 = .ok (.aload_n 0, 1) := by decide +kernel
theorem dX6_mend_46 : decode cX6_mend 46 = .ok (.getfield 37, 3) := by decide +kernel
theorem dX6_mend_49 : decode cX6_mend 49 = .ok (.iload_n 2, 1) := by decide +kernel
theorem dX6_mend_50 : decode cX6_mend 50 = .ok (.bipush 99, 2) := by decide +kernel
theorem dX6_mend_52 : decode cX6_mend 52 = .ok (.iastore, 1) := by decide +kernel
theorem dX6_mend_53 : decode cX6_mend 53 = .ok (.iinc 1 1, 3) := by decide +kernel
theorem dX6_mend_56 : decode cX6_mend 56 = .ok (.iinc 2 1, 3) := by decide +kernel
theorem dX6_mend_59 : decode cX6_mend 59 = .ok (.goto (-41), 3) := by decide +kernel
theorem dX6_mend_62 : decode cX6_mend 62 = .ok (.iload_n 1, 1) := by decide +kernel
theorem dX6_mend_63 : decode cX6_mend 63 = .ok (.ireturn, 1) := by decide +kernel
set_option maxRecDepth 20000 in
theorem ggX6_take_X6_noPlan : GoodIn wsX6_take wsX6_noPlan := goodIn_r _ [13, 14, 6, 15, 16, 17, 18, 19, 20, 21, 22, 23, 24, 25, 26, 27, 28, 29, 30, 31, 32, 33, 34, 35, 36, 37, 38, 39, 40, 41, 42, 43, 44, 45, 46, 47, 48, 49, 50, 51] (by decide +kernel) (by decide +kernel)
set_option maxRecDepth 20000 in
theorem gX6_take_X6_noPlan : GoodIn wsX6_take (wsV RX6 89 RX6 yX6_noPlan wsX6_noPlan) := goodIn_app (goodIn_of _ (by decide +kernel)) ggX6_take_X6_noPlan
theorem dX6_take_0 : decode cX6_take 0 = .ok (.aload_n 0, 1) := by decide +kernel
theorem dX6_take_1 : decode cX6_take 1 = .ok (.iconst 0, 1) := by decide +kernel
theorem dX6_take_2 : decode cX6_take 2 = .ok (.putfield 72, 3) := by decide +kernel
theorem dX6_take_5 : decode cX6_take 5 = .ok (.aload_n 0, 1) := by decide +kernel
theorem dX6_take_6 : decode cX6_take 6 = .ok (.getfield 83, 3) := by decide +kernel
theorem dX6_take_9 : decode cX6_take 9 = .ok (.ifCond .eq 15, 3) := by decide +kernel
theorem dX6_take_12 : decode cX6_take 12 = .ok (.iload_n 1, 1) := by decide +kernel
theorem dX6_take_13 : decode cX6_take 13 = .ok (.ifCond .lt 11, 3) := by decide +kernel
theorem dX6_take_16 : decode cX6_take 16 = .ok (.iload_n 1, 1) := by decide +kernel
theorem dX6_take_17 : decode cX6_take 17 = .ok (.aload_n 0, 1) := by decide +kernel
theorem dX6_take_18 : decode cX6_take 18 = .ok (.getfield 92, 3) := by decide +kernel
theorem dX6_take_21 : decode cX6_take 21 = .ok (.if_icmp .lt 5, 3) := by decide +kernel
theorem dX6_take_24 : decode cX6_take 24 = .ok (.iconst (-1), 1) := by decide +kernel
theorem dX6_take_25 : decode cX6_take 25 = .ok (.ireturn, 1) := by decide +kernel
theorem dX6_take_26 : decode cX6_take 26 = .ok (.iconst 0, 1) := by decide +kernel
theorem dX6_take_27 : decode cX6_take 27 = .ok (.istore_n 2, 1) := by decide +kernel
theorem dX6_take_28 : decode cX6_take 28 = .ok (.iload_n 2, 1) := by decide +kernel
theorem dX6_take_29 : decode cX6_take 29 = .ok (.aload_n 0, 1) := by decide +kernel
theorem dX6_take_30 : decode cX6_take 30 = .ok (.getfield 86, 3) := by decide +kernel
theorem dX6_take_33 : decode cX6_take 33 = .ok (.if_icmp .ge 66, 3) := by decide +kernel
theorem dX6_take_36 : decode cX6_take 36 = .ok (.aload_n 0, 1) := by decide +kernel
theorem dX6_take_37 : decode cX6_take 37 = .ok (.getfield 22, 3) := by decide +kernel
theorem dX6_take_40 : decode cX6_take 40 = .ok (.bipush 8, 2) := by decide +kernel
theorem dX6_take_42 : decode cX6_take 42 = .ok (.iload_n 1, 1) := by decide +kernel
theorem dX6_take_43 : decode cX6_take 43 = .ok (.imul, 1) := by decide +kernel
theorem dX6_take_44 : decode cX6_take 44 = .ok (.iload_n 2, 1) := by decide +kernel
theorem dX6_take_45 : decode cX6_take 45 = .ok (.iadd, 1) := by decide +kernel
theorem dX6_take_46 : decode cX6_take 46 = .ok (.iaload, 1) := by decide +kernel
theorem dX6_take_47 : decode cX6_take 47 = .ok (.istore_n 3, 1) := by decide +kernel
theorem dX6_take_48 : decode cX6_take 48 = .ok (.iconst 0, 1) := by decide +kernel
theorem dX6_take_49 : decode cX6_take 49 = .ok (.istore 4, 2) := by decide +kernel
theorem dX6_take_51 : decode cX6_take 51 = .ok (.iload 4, 2) := by decide +kernel
theorem dX6_take_53 : decode cX6_take 53 = .ok (.aload_n 0, 1) := by decide +kernel
theorem dX6_take_54 : decode cX6_take 54 = .ok (.getfield 80, 3) := by decide +kernel
theorem dX6_take_57 : decode cX6_take 57 = .ok (.if_icmp .ge 28, 3) := by decide +kernel
theorem dX6_take_60 : decode cX6_take 60 = .ok (.iload_n 3, 1) := by decide +kernel
theorem dX6_take_61 : decode cX6_take 61 = .ok (.aload_n 0, 1) := by decide +kernel
theorem dX6_take_62 : decode cX6_take 62 = .ok (.getfield 28, 3) := by decide +kernel
theorem dX6_take_65 : decode cX6_take 65 = .ok (.iload 4, 2) := by decide +kernel
theorem dX6_take_67 : decode cX6_take 67 = .ok (.iaload, 1) := by decide +kernel
theorem dX6_take_68 : decode cX6_take 68 = .ok (.iload_n 2, 1) := by decide +kernel
theorem dX6_take_69 : decode cX6_take 69 = .ok (.if_icmp .ne 7, 3) := by decide +kernel
theorem dX6_take_72 : decode cX6_take 72 = .ok (.iconst 1, 1) := by decide +kernel
theorem dX6_take_73 : decode cX6_take 73 = .ok (.goto 4, 3) := by decide +kernel
theorem dX6_take_76 : decode cX6_take 76 = .ok (.iconst 0, 1) := by decide +kernel
theorem dX6_take_77 : decode cX6_take 77 = .ok (.iadd, 1) := by decide +kernel
theorem dX6_take_78 : decode cX6_take 78 = .ok (.istore_n 3, 1) := by decide +kernel
theorem dX6_take_79 : decode cX6_take 79 = .ok (.iinc 4 1, 3) := by decide +kernel
theorem dX6_take_82 : decode cX6_take 82 = .ok (.goto (-31), 3) := by decide +kernel
theorem dX6_take_85 : decode cX6_take 85 = .ok (.iload_n 3, 1) := by decide +kernel
theorem dX6_take_86 : decode cX6_take 86 = .ok (.bipush 60, 2) := by decide +kernel
theorem dX6_take_88 : decode cX6_take 88 = .ok (.if_icmp .le 5, 3) := by decide +kernel
theorem dX6_take_91 : decode cX6_take 91 = .ok (.iconst (-1), 1) := by decide +kernel
theorem dX6_take_92 : decode cX6_take 92 = .ok (.ireturn, 1) := by decide +kernel
theorem dX6_take_93 : decode cX6_take 93 = .ok (.iinc 2 1, 3) := by decide +kernel
theorem dX6_take_96 : decode cX6_take 96 = .ok (.goto (-68), 3) := by decide +kernel
theorem dX6_take_99 : decode cX6_take 99 = .ok (.aload_n 0, 1) := by decide +kernel
theorem dX6_take_100 : decode cX6_take 100 = .ok (.getfield 80, 3) := by decide +kernel
theorem dX6_take_103 : decode cX6_take 103 = .ok (.istore_n 2, 1) := by decide +kernel
theorem dX6_take_104 : decode cX6_take 104 = .ok (.iconst 0, 1) := by decide +kernel
theorem dX6_take_105 : decode cX6_take 105 = .ok (.istore_n 3, 1) := by decide +kernel
theorem dX6_take_106 : decode cX6_take 106 = .ok (.iload_n 3, 1) := by decide +kernel
theorem dX6_take_107 : decode cX6_take 107 = .ok (.aload_n 0, 1) := by decide +kernel
theorem dX6_take_108 : decode cX6_take 108 = .ok (.getfield 80, 3) := by decide +kernel
theorem dX6_take_111 : decode cX6_take 111 = .ok (.if_icmp .ge 29, 3) := by decide +kernel
theorem dX6_take_114 : decode cX6_take 114 = .ok (.aload_n 0, 1) := by decide +kernel
theorem dX6_take_115 : decode cX6_take 115 = .ok (.getfield 22, 3) := by decide +kernel
theorem dX6_take_118 : decode cX6_take 118 = .ok (.bipush 8, 2) := by decide +kernel
theorem dX6_take_120 : decode cX6_take 120 = .ok (.iload_n 1, 1) := by decide +kernel
theorem dX6_take_121 : decode cX6_take 121 = .ok (.imul, 1) := by decide +kernel
theorem dX6_take_122 : decode cX6_take 122 = .ok (.aload_n 0, 1) := by decide +kernel
theorem dX6_take_123 : decode cX6_take 123 = .ok (.getfield 28, 3) := by decide +kernel
theorem dX6_take_126 : decode cX6_take 126 = .ok (.iload_n 3, 1) := by decide +kernel
theorem dX6_take_127 : decode cX6_take 127 = .ok (.iaload, 1) := by decide +kernel
theorem dX6_take_128 : decode cX6_take 128 = .ok (.iadd, 1) := by decide +kernel
theorem dX6_take_129 : decode cX6_take 129 = .ok (.dup2, 1) := by decide +kernel
theorem dX6_take_130 : decode cX6_take 130 = .ok (.iaload, 1) := by decide +kernel
theorem dX6_take_131 : decode cX6_take 131 = .ok (.iconst 1, 1) := by decide +kernel
theorem dX6_take_132 : decode cX6_take 132 = .ok (.iadd, 1) := by decide +kernel
theorem dX6_take_133 : decode cX6_take 133 = .ok (.iastore, 1) := by decide +kernel
theorem dX6_take_134 : decode cX6_take 134 = .ok (.iinc 3 1, 3) := by decide +kernel
theorem dX6_take_137 : decode cX6_take 137 = .ok (.goto (-31), 3) := by decide +kernel
theorem dX6_take_140 : decode cX6_take 140 = .ok (.aload_n 0, 1) := by decide +kernel
theorem dX6_take_141 : decode cX6_take 141 = .ok (.iconst 0, 1) := by decide +kernel
theorem dX6_take_142 : decode cX6_take 142 = .ok (.putfield 83, 3) := by decide +kernel
theorem dX6_take_145 : decode cX6_take 145 = .ok (.aload_n 0, 1) := by decide +kernel
theorem dX6_take_146 : decode cX6_take 146 = .ok (.iconst 0, 1) := by decide +kernel
theorem dX6_take_147 : decode cX6_take 147 = .ok (.putfield 169, 3) := by decide +kernel
theorem dX6_take_150 : decode cX6_take 150 = .ok (.aload_n 0, 1) := by decide +kernel
theorem dX6_take_151 : decode cX6_take 151 = .ok (.invokevirtual 89, 3) := by decide +kernel
theorem dX6_take_154 : decode cX6_take 154 = .ok (.iload_n 2, 1) := by decide +kernel
theorem dX6_take_155 : decode cX6_take 155 = .ok (.ireturn, 1) := by decide +kernel
theorem dX6_there_0 : decode cX6_there 0 = .ok (.iconst 0, 1) := by decide +kernel
theorem dX6_there_1 : decode cX6_there 1 = .ok (.istore_n 3, 1) := by decide +kernel
theorem dX6_there_2 : decode cX6_there 2 = .ok (.iconst 0, 1) := by decide +kernel
theorem dX6_there_3 : decode cX6_there 3 = .ok (.istore 4, 2) := by decide +kernel
theorem dX6_there_5 : decode cX6_there 5 = .ok (.iload 4, 2) := by decide +kernel
theorem dX6_there_7 : decode cX6_there 7 = .ok (.aload_n 0, 1) := by decide +kernel
theorem dX6_there_8 : decode cX6_there 8 = .ok (.getfield 80, 3) := by decide +kernel
theorem dX6_there_11 : decode cX6_there 11 = .ok (.if_icmp .ge 46, 3) := by decide +kernel
theorem dX6_there_14 : decode cX6_there 14 = .ok (.iload_n 3, 1) := by decide +kernel
theorem dX6_there_15 : decode cX6_there 15 = .ok (.aload_n 0, 1) := by decide +kernel
theorem dX6_there_16 : decode cX6_there 16 = .ok (.getfield 83, 3) := by decide +kernel
theorem dX6_there_19 : decode cX6_there 19 = .ok (.ifCond .eq 29, 3) := by decide +kernel
theorem dX6_there_22 : decode cX6_there 22 = .ok (.aload_n 0, 1) := by decide +kernel
theorem dX6_there_23 : decode cX6_there 23 = .ok (.getfield 28, 3) := by decide +kernel
theorem dX6_there_26 : decode cX6_there 26 = .ok (.iload 4, 2) := by decide +kernel
theorem dX6_there_28 : decode cX6_there 28 = .ok (.iaload, 1) := by decide +kernel
theorem dX6_there_29 : decode cX6_there 29 = .ok (.iload_n 1, 1) := by decide +kernel
theorem dX6_there_30 : decode cX6_there 30 = .ok (.if_icmp .ne 18, 3) := by decide +kernel
theorem dX6_there_33 : decode cX6_there 33 = .ok (.aload_n 0, 1) := by decide +kernel
theorem dX6_there_34 : decode cX6_there 34 = .ok (.getfield 40, 3) := by decide +kernel
theorem dX6_there_37 : decode cX6_there 37 = .ok (.iload 4, 2) := by decide +kernel
theorem dX6_there_39 : decode cX6_there 39 = .ok (.baload, 1) := by decide +kernel
theorem dX6_there_40 : decode cX6_there 40 = .ok (.iload_n 2, 1) := by decide +kernel
theorem dX6_there_41 : decode cX6_there 41 = .ok (.if_icmp .ne 7, 3) := by decide +kernel
theorem dX6_there_44 : decode cX6_there 44 = .ok (.iconst 1, 1) := by decide +kernel
theorem dX6_there_45 : decode cX6_there 45 = .ok (.goto 4, 3) := by decide +kernel
theorem dX6_there_48 : decode cX6_there 48 = .ok (.iconst 0, 1) := by decide +kernel
theorem dX6_there_49 : decode cX6_there 49 = .ok (.iadd, 1) := by decide +kernel
theorem dX6_there_50 : decode cX6_there 50 = .ok (.istore_n 3, 1) := by decide +kernel
theorem dX6_there_51 : decode cX6_there 51 = .ok (.iinc 4 1, 3) := by decide +kernel
theorem dX6_there_54 : decode cX6_there 54 = .ok (.goto (-49), 3) := by decide +kernel
theorem dX6_there_57 : decode cX6_there 57 = .ok (.iload_n 3, 1) := by decide +kernel
theorem dX6_there_58 : decode cX6_there 58 = .ok (.ireturn, 1) := by decide +kernel
set_option maxRecDepth 20000 in
theorem ggX6_count_X6_there : GoodIn wsX6_count wsX6_there := goodIn_r _ [9, 10, 11, 12, 13, 18, 19, 20, 21, 22, 23, 24, 25, 26, 27, 28, 29, 30, 31, 32, 33, 34, 35, 36, 37, 38, 39, 40, 41, 42, 43, 44, 45, 46, 47, 48, 49, 50, 51, 52, 53, 54] (by decide +kernel) (by decide +kernel)
set_option maxRecDepth 20000 in
theorem gX6_count_X6_there : GoodIn wsX6_count (wsV RX6 179 RX6 yX6_there wsX6_there) := goodIn_app (goodIn_of _ (by decide +kernel)) ggX6_count_X6_there
set_option maxRecDepth 20000 in
theorem ggX6_count_X6_inHeaps : GoodIn wsX6_count wsX6_inHeaps := goodIn_r _ [17, 3, 4, 18, 19, 20, 21, 22, 23, 24, 25, 26, 27, 28, 29, 30, 31, 32, 33, 34, 35, 36, 37, 38, 39, 40, 41, 42, 43, 44, 45, 46, 47, 48, 49, 50, 51, 52, 53, 54] (by decide +kernel) (by decide +kernel)
set_option maxRecDepth 20000 in
theorem gX6_count_X6_inHeaps : GoodIn wsX6_count (wsV RX6 130 RX6 yX6_inHeaps wsX6_inHeaps) := goodIn_app (goodIn_of _ (by decide +kernel)) ggX6_count_X6_inHeaps
theorem dX6_count_0 : decode cX6_count 0 = .ok (.aload_n 0, 1) := by decide +kernel
theorem dX6_count_1 : decode cX6_count 1 = .ok (.iconst 0, 1) := by decide +kernel
theorem dX6_count_2 : decode cX6_count 2 = .ok (.putfield 72, 3) := by decide +kernel
theorem dX6_count_5 : decode cX6_count 5 = .ok (.iload_n 2, 1) := by decide +kernel
theorem dX6_count_6 : decode cX6_count 6 = .ok (.ifCond .lt 34, 3) := by decide +kernel
theorem dX6_count_9 : decode cX6_count 9 = .ok (.iload_n 2, 1) := by decide +kernel
theorem dX6_count_10 : decode cX6_count 10 = .ok (.aload_n 0, 1) := by decide +kernel
theorem dX6_count_11 : decode cX6_count 11 = .ok (.getfield 86, 3) := by decide +kernel
theorem dX6_count_14 : decode cX6_count 14 = .ok (.if_icmp .ge 26, 3) := by decide +kernel
theorem dX6_count_17 : decode cX6_count 17 = .ok (.iload_n 1, 1) := by decide +kernel
theorem dX6_count_18 : decode cX6_count 18 = .ok (.ifCond .lt 22, 3) := by decide +kernel
theorem dX6_count_21 : decode cX6_count 21 = .ok (.iload_n 1, 1) := by decide +kernel
theorem dX6_count_22 : decode cX6_count 22 = .ok (.bipush 7, 2) := by decide +kernel
theorem dX6_count_24 : decode cX6_count 24 = .ok (.if_icmp .gt 16, 3) := by decide +kernel
theorem dX6_count_27 : decode cX6_count 27 = .ok (.iload_n 1, 1) := by decide +kernel
theorem dX6_count_28 : decode cX6_count 28 = .ok (.iconst 5, 1) := by decide +kernel
theorem dX6_count_29 : decode cX6_count 29 = .ok (.if_icmp .ge 13, 3) := by decide +kernel
theorem dX6_count_32 : decode cX6_count 32 = .ok (.iload_n 1, 1) := by decide +kernel
theorem dX6_count_33 : decode cX6_count 33 = .ok (.aload_n 0, 1) := by decide +kernel
theorem dX6_count_34 : decode cX6_count 34 = .ok (.getfield 92, 3) := by decide +kernel
theorem dX6_count_37 : decode cX6_count 37 = .ok (.if_icmp .lt 5, 3) := by decide +kernel
theorem dX6_count_40 : decode cX6_count 40 = .ok (.iconst (-1), 1) := by decide +kernel
theorem dX6_count_41 : decode cX6_count 41 = .ok (.ireturn, 1) := by decide +kernel
theorem dX6_count_42 : decode cX6_count 42 = .ok (.iload_n 1, 1) := by decide +kernel
theorem dX6_count_43 : decode cX6_count 43 = .ok (.iconst 5, 1) := by decide +kernel
theorem dX6_count_44 : decode cX6_count 44 = .ok (.if_icmp .ge 15, 3) := by decide +kernel
theorem dX6_count_47 : decode cX6_count 47 = .ok (.aload_n 0, 1) := by decide +kernel
theorem dX6_count_48 : decode cX6_count 48 = .ok (.getfield 22, 3) := by decide +kernel
theorem dX6_count_51 : decode cX6_count 51 = .ok (.bipush 8, 2) := by decide +kernel
theorem dX6_count_53 : decode cX6_count 53 = .ok (.iload_n 1, 1) := by decide +kernel
theorem dX6_count_54 : decode cX6_count 54 = .ok (.imul, 1) := by decide +kernel
theorem dX6_count_55 : decode cX6_count 55 = .ok (.iload_n 2, 1) := by decide +kernel
theorem dX6_count_56 : decode cX6_count 56 = .ok (.iadd, 1) := by decide +kernel
theorem dX6_count_57 : decode cX6_count 57 = .ok (.iaload, 1) := by decide +kernel
theorem dX6_count_58 : decode cX6_count 58 = .ok (.ireturn, 1) := by decide +kernel
theorem dX6_count_59 : decode cX6_count 59 = .ok (.iload_n 1, 1) := by decide +kernel
theorem dX6_count_60 : decode cX6_count 60 = .ok (.bipush 7, 2) := by decide +kernel
theorem dX6_count_62 : decode cX6_count 62 = .ok (.if_icmp .ge 19, 3) := by decide +kernel
theorem dX6_count_65 : decode cX6_count 65 = .ok (.aload_n 0, 1) := by decide +kernel
theorem dX6_count_66 : decode cX6_count 66 = .ok (.iload_n 2, 1) := by decide +kernel
theorem dX6_count_67 : decode cX6_count 67 = .ok (.iload_n 1, 1) := by decide +kernel
theorem dX6_count_68 : decode cX6_count 68 = .ok (.iconst 5, 1) := by decide +kernel
theorem dX6_count_69 : decode cX6_count 69 = .ok (.if_icmp .ne 7, 3) := by decide +kernel
theorem dX6_count_72 : decode cX6_count 72 = .ok (.iconst 1, 1) := by decide +kernel
theorem dX6_count_73 : decode cX6_count 73 = .ok (.goto 4, 3) := by decide +kernel
theorem dX6_count_76 : decode cX6_count 76 = .ok (.iconst 0, 1) := by decide +kernel
theorem dX6_count_77 : decode cX6_count 77 = .ok (.invokevirtual 179, 3) := by decide +kernel
theorem dX6_count_80 : decode cX6_count 80 = .ok (.ireturn, 1) := by decide +kernel
theorem dX6_count_81 : decode cX6_count 81 = .ok (.aload_n 0, 1) := by decide +kernel
theorem dX6_count_82 : decode cX6_count 82 = .ok (.iload_n 2, 1) := by decide +kernel
theorem dX6_count_83 : decode cX6_count 83 = .ok (.invokevirtual 130, 3) := by decide +kernel
theorem dX6_count_86 : decode cX6_count 86 = .ok (.aload_n 0, 1) := by decide +kernel
theorem dX6_count_87 : decode cX6_count 87 = .ok (.iload_n 2, 1) := by decide +kernel
theorem dX6_count_88 : decode cX6_count 88 = .ok (.iconst 1, 1) := by decide +kernel
theorem dX6_count_89 : decode cX6_count 89 = .ok (.invokevirtual 179, 3) := by decide +kernel
theorem dX6_count_92 : decode cX6_count 92 = .ok (.iadd, 1) := by decide +kernel
theorem dX6_count_93 : decode cX6_count 93 = .ok (.aload_n 0, 1) := by decide +kernel
theorem dX6_count_94 : decode cX6_count 94 = .ok (.iload_n 2, 1) := by decide +kernel
theorem dX6_count_95 : decode cX6_count 95 = .ok (.iconst 0, 1) := by decide +kernel
theorem dX6_count_96 : decode cX6_count 96 = .ok (.invokevirtual 179, 3) := by decide +kernel
theorem dX6_count_99 : decode cX6_count 99 = .ok (.iadd, 1) := by decide +kernel
theorem dX6_count_100 : decode cX6_count 100 = .ok (.ireturn, 1) := by decide +kernel
set_option maxRecDepth 20000 in
theorem ggX6_look_X6_hearting : GoodIn wsX6_look wsX6_hearting := goodIn_r _ [12, 13, 14, 15, 16, 17, 18, 19, 11, 20, 21, 22, 28, 29, 30, 31, 32, 33, 34, 35, 36, 37, 38, 39, 40, 41, 42, 43, 44, 45, 46, 47, 48, 49, 50, 51, 52, 53, 54, 55, 56, 57, 58, 59, 60, 61, 62, 63, 64] (by decide +kernel) (by decide +kernel)
set_option maxRecDepth 20000 in
theorem gX6_look_X6_hearting : GoodIn wsX6_look (wsV RX6 146 RX6 yX6_hearting wsX6_hearting) := goodIn_app (goodIn_of _ (by decide +kernel)) ggX6_look_X6_hearting
set_option maxRecDepth 20000 in
theorem ggX6_look_X6_there : GoodIn wsX6_look wsX6_there := goodIn_r _ [26, 4, 5, 15, 27, 28, 29, 30, 31, 32, 33, 34, 35, 36, 37, 38, 39, 40, 41, 42, 43, 44, 45, 46, 47, 48, 49, 50, 51, 52, 53, 54, 55, 56, 57, 58, 59, 60, 61, 62, 63, 64] (by decide +kernel) (by decide +kernel)
set_option maxRecDepth 20000 in
theorem gX6_look_X6_there : GoodIn wsX6_look (wsV RX6 179 RX6 yX6_there wsX6_there) := goodIn_app (goodIn_of _ (by decide +kernel)) ggX6_look_X6_there
theorem dX6_look_0 : decode cX6_look 0 = .ok (.aload_n 0, 1) := by decide +kernel
theorem dX6_look_1 : decode cX6_look 1 = .ok (.iconst 0, 1) := by decide +kernel
theorem dX6_look_2 : decode cX6_look 2 = .ok (.putfield 72, 3) := by decide +kernel
theorem dX6_look_5 : decode cX6_look 5 = .ok (.iconst 0, 1) := by decide +kernel
theorem dX6_look_6 : decode cX6_look 6 = .ok (.istore_n 2, 1) := by decide +kernel
theorem dX6_look_7 : decode cX6_look 7 = .ok (.iload_n 1, 1) := by decide +kernel
theorem dX6_look_8 : decode cX6_look 8 = .ok (.tableswitch 150 0 7 #[48, 53, 58, 63, 76, 81, 107, 134], 48) := by decide +kernel
theorem dX6_look_56 : decode cX6_look 56 = .ok (.aload_n 0, 1) := by decide +kernel
theorem dX6_look_57 : decode cX6_look 57 = .ok (.getfield 86, 3) := by decide +kernel
theorem dX6_look_60 : decode cX6_look 60 = .ok (.ireturn, 1) := by decide +kernel
theorem dX6_look_61 : decode cX6_look 61 = .ok (.aload_n 0, 1) := by decide +kernel
theorem dX6_look_62 : decode cX6_look 62 = .ok (.getfield 92, 3) := by decide +kernel
theorem dX6_look_65 : decode cX6_look 65 = .ok (.ireturn, 1) := by decide +kernel
theorem dX6_look_66 : decode cX6_look 66 = .ok (.aload_n 0, 1) := by decide +kernel
theorem dX6_look_67 : decode cX6_look 67 = .ok (.getfield 80, 3) := by decide +kernel
theorem dX6_look_70 : decode cX6_look 70 = .ok (.ireturn, 1) := by decide +kernel
theorem dX6_look_71 : decode cX6_look 71 = .ok (.aload_n 0, 1) := by decide +kernel
theorem dX6_look_72 : decode cX6_look 72 = .ok (.getfield 83, 3) := by decide +kernel
theorem dX6_look_75 : decode cX6_look 75 = .ok (.ifCond .eq 7, 3) := by decide +kernel
theorem dX6_look_78 : decode cX6_look 78 = .ok (.iconst 1, 1) := by decide +kernel
theorem dX6_look_79 : decode cX6_look 79 = .ok (.goto 4, 3) := by decide +kernel
theorem dX6_look_82 : decode cX6_look 82 = .ok (.iconst 0, 1) := by decide +kernel
theorem dX6_look_83 : decode cX6_look 83 = .ok (.ireturn, 1) := by decide +kernel
theorem dX6_look_84 : decode cX6_look 84 = .ok (.aload_n 0, 1) := by decide +kernel
theorem dX6_look_85 : decode cX6_look 85 = .ok (.getfield 133, 3) := by decide +kernel
theorem dX6_look_88 : decode cX6_look 88 = .ok (.ireturn, 1) := by decide +kernel
theorem dX6_look_89 : decode cX6_look 89 = .ok (.iconst 0, 1) := by decide +kernel
theorem dX6_look_90 : decode cX6_look 90 = .ok (.istore_n 3, 1) := by decide +kernel
theorem dX6_look_91 : decode cX6_look 91 = .ok (.iload_n 3, 1) := by decide +kernel
theorem dX6_look_92 : decode cX6_look 92 = .ok (.aload_n 0, 1) := by decide +kernel
theorem dX6_look_93 : decode cX6_look 93 = .ok (.getfield 80, 3) := by decide +kernel
theorem dX6_look_96 : decode cX6_look 96 = .ok (.if_icmp .ge 17, 3) := by decide +kernel
theorem dX6_look_99 : decode cX6_look 99 = .ok (.iload_n 2, 1) := by decide +kernel
theorem dX6_look_100 : decode cX6_look 100 = .ok (.aload_n 0, 1) := by decide +kernel
theorem dX6_look_101 : decode cX6_look 101 = .ok (.iload_n 3, 1) := by decide +kernel
theorem dX6_look_102 : decode cX6_look 102 = .ok (.invokevirtual 146, 3) := by decide +kernel
theorem dX6_look_105 : decode cX6_look 105 = .ok (.iadd, 1) := by decide +kernel
theorem dX6_look_106 : decode cX6_look 106 = .ok (.istore_n 2, 1) := by decide +kernel
theorem dX6_look_107 : decode cX6_look 107 = .ok (.iinc 3 1, 3) := by decide +kernel
theorem dX6_look_110 : decode cX6_look 110 = .ok (.goto (-19), 3) := by decide +kernel
theorem dX6_look_113 : decode cX6_look 113 = .ok (.iload_n 2, 1) := by decide +kernel
theorem dX6_look_114 : decode cX6_look 114 = .ok (.ireturn, 1) := by decide +kernel
theorem dX6_look_115 : decode cX6_look 115 = .ok (.iconst 0, 1) := by decide +kernel
theorem dX6_look_116 : decode cX6_look 116 = .ok (.istore_n 3, 1) := by decide +kernel
theorem dX6_look_117 : decode cX6_look 117 = .ok (.iload_n 3, 1) := by decide +kernel
theorem dX6_look_118 : decode cX6_look 118 = .ok (.aload_n 0, 1) := by decide +kernel
theorem dX6_look_119 : decode cX6_look 119 = .ok (.getfield 86, 3) := by decide +kernel
theorem dX6_look_122 : decode cX6_look 122 = .ok (.if_icmp .ge 18, 3) := by decide +kernel
theorem dX6_look_125 : decode cX6_look 125 = .ok (.iload_n 2, 1) := by decide +kernel
theorem dX6_look_126 : decode cX6_look 126 = .ok (.aload_n 0, 1) := by decide +kernel
theorem dX6_look_127 : decode cX6_look 127 = .ok (.iload_n 3, 1) := by decide +kernel
theorem dX6_look_128 : decode cX6_look 128 = .ok (.iconst 0, 1) := by decide +kernel
theorem dX6_look_129 : decode cX6_look 129 = .ok (.invokevirtual 179, 3) := by decide +kernel
theorem dX6_look_132 : decode cX6_look 132 = .ok (.iadd, 1) := by decide +kernel
theorem dX6_look_133 : decode cX6_look 133 = .ok (.istore_n 2, 1) := by decide +kernel
theorem dX6_look_134 : decode cX6_look 134 = .ok (.iinc 3 1, 3) := by decide +kernel
theorem dX6_look_137 : decode cX6_look 137 = .ok (.goto (-20), 3) := by decide +kernel
theorem dX6_look_140 : decode cX6_look 140 = .ok (.iload_n 2, 1) := by decide +kernel
theorem dX6_look_141 : decode cX6_look 141 = .ok (.ireturn, 1) := by decide +kernel
theorem dX6_look_142 : decode cX6_look 142 = .ok (.aload_n 0, 1) := by decide +kernel
theorem dX6_look_143 : decode cX6_look 143 = .ok (.getfield 83, 3) := by decide +kernel
theorem dX6_look_146 : decode cX6_look 146 = .ok (.ifCond .eq 10, 3) := by decide +kernel
theorem dX6_look_149 : decode cX6_look 149 = .ok (.aload_n 0, 1) := by decide +kernel
theorem dX6_look_150 : decode cX6_look 150 = .ok (.getfield 169, 3) := by decide +kernel
theorem dX6_look_153 : decode cX6_look 153 = .ok (.goto 4, 3) := by decide +kernel
theorem dX6_look_156 : decode cX6_look 156 = .ok (.iconst 0, 1) := by decide +kernel
theorem dX6_look_157 : decode cX6_look 157 = .ok (.ireturn, 1) := by decide +kernel
theorem dX6_look_158 : decode cX6_look 158 = .ok (.iconst (-1), 1) := by decide +kernel
theorem dX6_look_159 : decode cX6_look 159 = .ok (.ireturn, 1) := by decide +kernel
end
section
/-! the state of a system of fixed cells: what each int cell (object or array) holds at each place, and one row of longs -/
abbrev St : Type := (Nat → Nat → Int32) × (Nat → Int64)
def wrow (S : St) (k : Nat) (f : Nat → Int32) : St := (fun c => if c = k then f else S.1 c, S.2)
def wr (S : St) (k i : Nat) (v : Int32) : St := wrow S k (upd (S.1 k) i v)
def wl (S : St) (i : Nat) (v : Int64) : St := (S.1, vp_updL S.2 i v)
/-! the words in which a method's meaning is written -/
def ldI {β : Type} (n : Nat) (f : Nat → Int32) (i : Int32) (K : Int32 → Option β) : Option β := if i < 0 ∨ n ≤ i.toNatClampNeg then none else K (f i.toNatClampNeg)
def ldL {β : Type} (n : Nat) (f : Nat → Int64) (i : Int32) (K : Int64 → Option β) : Option β := if i < 0 ∨ n ≤ i.toNatClampNeg then none else K (f i.toNatClampNeg)
def ldR {β : Type} (n : Nat) (i : Int32) (K : Nat → Option β) : Option β := if i < 0 ∨ n ≤ i.toNatClampNeg then none else K i.toNatClampNeg
def stI {β : Type} (S : St) (k n : Nat) (i v : Int32) (K : St → Option β) : Option β := if i < 0 ∨ n ≤ i.toNatClampNeg then none else K (wr S k i.toNatClampNeg v)
def stL {β : Type} (S : St) (n : Nat) (i : Int32) (v : Int64) (K : St → Option β) : Option β := if i < 0 ∨ n ≤ i.toNatClampNeg then none else K (wl S i.toNatClampNeg v)
def pfI {β : Type} (S : St) (k j : Nat) (v : Int32) (K : St → Option β) : Option β := K (wr S k j v)
def cpI {β : Type} (S : St) (k1 n1 k2 n2 : Nat) (sp dp n : Int32) (K : St → Option β) : Option β := if sp < 0 ∨ dp < 0 ∨ n < 0 ∨ n1 < sp.toNatClampNeg + n.toNatClampNeg ∨ n2 < dp.toNatClampNeg + n.toNatClampNeg then none else K (wrow S k2 (va_cpy (S.1 k1) (S.1 k2) sp.toNatClampNeg dp.toNatClampNeg n.toNatClampNeg))
def nmI {β : Type} (x : Int32) (K : Int32 → Option β) : Option β := K x
def nmL {β : Type} (x : Int64) (K : Int64 → Option β) : Option β := K x
def caP {α β : Type} (f : Option α) (K : α → Option β) : Option β := match f with
  | none => none
  | some x => K x
def caS {α β : Type} (f : Option (α × St)) (K : α → St → Option β) : Option β := match f with
  | none => none
  | some x => K x.1 x.2
def caV {β : Type} (f : Option St) (K : St → Option β) : Option β := match f with
  | none => none
  | some x => K x
def mxI (x y : Int32) : Int32 := if x < y then y else x
def abI (x : Int32) : Int32 := if 0 ≤ x then x else 0 - x
def usI (x y : Int32) : Int32 := (x.toUInt32 >>> (y.toUInt32 &&& Int32.toUInt32 31)).toInt32

/-- what stays the same through a method: the machine, the code, the words, the tables -/
def Cx (p : Program) (m : MethodId) (c : Code) (cc : ByteArray) (nL : Nat) (s : State) (args : Array Value) (Ts : List Cond) (own : String) (D : va_G) (cl : List vw_C) (tys : List (ClassId × FieldType)) : Prop :=
  CallFix p m c cc nL s args Ts own ∧ va_K D cl tys s
/-- the machine at pc, with the system in the state S, does what d says -/
def Sm {β : Type} (p : Program) (l : Launch) (e : Env) (R : Room) (s : State) (m : MethodId) (args : Array Value) (below : List Frame) (meth : Method) (c : Code) (D : va_G) (cl : List vw_C) (wd : St → va_W) (A : Nat → Prop) (nL : Nat) (Q : State → Prop) (x0 : β) (d : Option β) (S : St) (pc : Nat) (lv : List (Nat × Value)) (st : List Value) : Prop :=
  d = some x0 → ∀ (H : Heap) (locs : List Loc), va_P D cl (wd S) H → va_D A (wd S) → va_S A s.heap H locs → ∀ ls : Array Slot, lv_has ls nL lv → W p l e R s m args below meth c H locs 0 0 Q (F0 m pc ls st)
/-- a world whose cells stay where they are -/
def Wok (wd : St → va_W) (AA : Nat → Nat → Prop) : Prop := (∀ (S : St) (k : Nat) (q : Nat × va_E), (wd S)[k]? = some q → ∀ sz : Nat, AA sz q.1) ∧ (∀ a b q : Nat, a ≤ b → AA b q → AA a q) ∧ ∀ sz q : Nat, sz ≤ q → AA sz q
def Bw (D : va_G) (cl : List vw_C) (tys : List (ClassId × FieldType)) (wd : St → va_W) (A : Nat → Prop) : St → State → Prop := fun S' t => va_P D cl (wd S') t.heap ∧ va_K D cl tys t ∧ va_D A (wd S')
def Bp (D : va_G) (cl : List vw_C) (tys : List (ClassId × FieldType)) (wd : St → va_W) (sz : Nat) (S : St) : State → Prop := fun U => U.heap.size = sz ∧ va_P D cl (wd S) U.heap ∧ va_K D cl tys U ∧ va_D (fun _ => True) (wd S)
/-- contracts: an int (or boolean), a long, nothing comes back -/
def KI (l : Launch) (y : MethodName) (ws : List Cond) (rm : Room) (D : va_G) (cl : List vw_C) (tys : List (ClassId × FieldType)) (wd : St → va_W) (AA : Nat → Nat → Prop) (av : List Value) (S : St) (post : Int32 → St → Prop) : Prop :=
  ∀ sz : Nat, Met l y ws rm (va_Pc av (Bp D cl tys wd sz S)) (va_Qi post (Bw D cl tys wd (AA sz)) (AA sz)) 0 0 (AA sz)
def KL (l : Launch) (y : MethodName) (ws : List Cond) (rm : Room) (D : va_G) (cl : List vw_C) (tys : List (ClassId × FieldType)) (wd : St → va_W) (AA : Nat → Nat → Prop) (av : List Value) (S : St) (post : Int64 → St → Prop) : Prop :=
  ∀ sz : Nat, Met l y ws rm (va_Pc av (Bp D cl tys wd sz S)) (va_Ql post (Bw D cl tys wd (AA sz)) (AA sz)) 0 0 (AA sz)
def KV (l : Launch) (y : MethodName) (ws : List Cond) (rm : Room) (D : va_G) (cl : List vw_C) (tys : List (ClassId × FieldType)) (wd : St → va_W) (AA : Nat → Nat → Prop) (av : List Value) (S : St) (post : St → Prop) : Prop :=
  ∀ sz : Nat, Met l y ws rm (va_Pc av (Bp D cl tys wd sz S)) (va_Qv post (Bw D cl tys wd (AA sz)) (AA sz)) 0 0 (AA sz)

section SIM
variable {p : Program} {l : Launch} {e : Env} {R : Room} {s : State} {m : MethodId} {args : Array Value} {below : List Frame} {meth : Method} {c : Code} {Q : State → Prop}
variable {cc : ByteArray} {D : va_G} {cl : List vw_C} {tys : List (ClassId × FieldType)} {wd : St → va_W} {A : Nat → Prop} {nL : Nat} {Ts : List Cond} {own : String}
variable {β : Type} {x0 : β} {S : St} {pc : Nat} {lv : List (Nat × Value)} {st : List Value}

theorem m_iload_n (hC : Cx p m c cc nL s args Ts own D cl tys) {d : Option β} {k : Fin 4} {x : Int32} (hdg : decode cc pc = .ok (.iload_n k, 1)) (j : Nat) (hj : lv[j]? = some (k.val, Value.int x)) (kk : Sm p l e R s m args below meth c D cl wd A nL Q x0 d S (pc + 1) lv (.int x :: st)) :
    Sm p l e R s m args below meth c D cl wd A nL Q x0 d S pc lv st := by
  intro hd H locs hP hD hS ls hl
  exact lv_iload_n hC.1.1 hC.1.2.1 hdg rfl (lv_at hl j hj) (kk hd H locs hP hD hS ls hl)
theorem m_iload (hC : Cx p m c cc nL s args Ts own D cl tys) {d : Option β} {i : Nat} {x : Int32} (hdg : decode cc pc = .ok (.iload i, 2)) (j : Nat) (hj : lv[j]? = some (i, Value.int x)) (kk : Sm p l e R s m args below meth c D cl wd A nL Q x0 d S (pc + 2) lv (.int x :: st)) :
    Sm p l e R s m args below meth c D cl wd A nL Q x0 d S pc lv st := by
  intro hd H locs hP hD hS ls hl
  exact lv_iload hC.1.1 hC.1.2.1 hdg (lv_at hl j hj) (kk hd H locs hP hD hS ls hl)
theorem m_istore_n (hC : Cx p m c cc nL s args Ts own D cl tys) {d : Option β} {k : Fin 4} {x : Int32} {lv1 : List (Nat × Value)} (lv2 : List (Nat × Value)) (ks : List Nat) (hdg : decode cc pc = .ok (.istore_n k, 1)) (hn : k.val < nL) (hl1 : (k.val, Value.int x) :: lv.filter (fun q => !(q.1 == k.val) && !(q.1 + 1 == k.val && q.2.category == 2)) = lv1) (hl2 : lv_pick lv1 ks = lv2) (kk : Sm p l e R s m args below meth c D cl wd A nL Q x0 d S (pc + 1) lv2 st) :
    Sm p l e R s m args below meth c D cl wd A nL Q x0 d S pc lv (.int x :: st) := by
  intro hd H locs hP hD hS ls hl
  exact lv_istore_n hC.1.1 hC.1.2.1 hdg rfl hl hn hl1 (fun ls hl => kk hd H locs hP hD hS ls (lv_sub hl ks hl2))
theorem m_istore (hC : Cx p m c cc nL s args Ts own D cl tys) {d : Option β} {i : Nat} {x : Int32} {lv1 : List (Nat × Value)} (lv2 : List (Nat × Value)) (ks : List Nat) (hdg : decode cc pc = .ok (.istore i, 2)) (hn : i < nL) (hl1 : (i, Value.int x) :: lv.filter (fun q => !(q.1 == i) && !(q.1 + 1 == i && q.2.category == 2)) = lv1) (hl2 : lv_pick lv1 ks = lv2) (kk : Sm p l e R s m args below meth c D cl wd A nL Q x0 d S (pc + 2) lv2 st) :
    Sm p l e R s m args below meth c D cl wd A nL Q x0 d S pc lv (.int x :: st) := by
  intro hd H locs hP hD hS ls hl
  exact lv_istore hC.1.1 hC.1.2.1 hdg hl hn hl1 (fun ls hl => kk hd H locs hP hD hS ls (lv_sub hl ks hl2))
theorem m_lload_n (hC : Cx p m c cc nL s args Ts own D cl tys) {d : Option β} {k : Fin 4} {x : Int64} (hdg : decode cc pc = .ok (.lload_n k, 1)) (j : Nat) (hj : lv[j]? = some (k.val, Value.long x)) (kk : Sm p l e R s m args below meth c D cl wd A nL Q x0 d S (pc + 1) lv (.long x :: st)) :
    Sm p l e R s m args below meth c D cl wd A nL Q x0 d S pc lv st := by
  intro hd H locs hP hD hS ls hl
  exact lv_lload_n hC.1.1 hC.1.2.1 hdg rfl (lv_at hl j hj) (kk hd H locs hP hD hS ls hl)
theorem m_lload (hC : Cx p m c cc nL s args Ts own D cl tys) {d : Option β} {i : Nat} {x : Int64} (hdg : decode cc pc = .ok (.lload i, 2)) (j : Nat) (hj : lv[j]? = some (i, Value.long x)) (kk : Sm p l e R s m args below meth c D cl wd A nL Q x0 d S (pc + 2) lv (.long x :: st)) :
    Sm p l e R s m args below meth c D cl wd A nL Q x0 d S pc lv st := by
  intro hd H locs hP hD hS ls hl
  exact lv_lload hC.1.1 hC.1.2.1 hdg (lv_at hl j hj) (kk hd H locs hP hD hS ls hl)
theorem m_lstore_n (hC : Cx p m c cc nL s args Ts own D cl tys) {d : Option β} {k : Fin 4} {x : Int64} {lv1 : List (Nat × Value)} (lv2 : List (Nat × Value)) (ks : List Nat) (hdg : decode cc pc = .ok (.lstore_n k, 1)) (hn : k.val + 1 < nL) (hl1 : (k.val, Value.long x) :: lv.filter (fun q => !(q.1 == k.val) && (!(q.1 == k.val + 1) && !(q.1 + 1 == k.val && q.2.category == 2))) = lv1) (hl2 : lv_pick lv1 ks = lv2) (kk : Sm p l e R s m args below meth c D cl wd A nL Q x0 d S (pc + 1) lv2 st) :
    Sm p l e R s m args below meth c D cl wd A nL Q x0 d S pc lv (.long x :: st) := by
  intro hd H locs hP hD hS ls hl
  exact lv_lstore_n hC.1.1 hC.1.2.1 hdg rfl hl hn hl1 (fun ls hl => kk hd H locs hP hD hS ls (lv_sub hl ks hl2))
theorem m_lstore (hC : Cx p m c cc nL s args Ts own D cl tys) {d : Option β} {i : Nat} {x : Int64} {lv1 : List (Nat × Value)} (lv2 : List (Nat × Value)) (ks : List Nat) (hdg : decode cc pc = .ok (.lstore i, 2)) (hn : i + 1 < nL) (hl1 : (i, Value.long x) :: lv.filter (fun q => !(q.1 == i) && (!(q.1 == i + 1) && !(q.1 + 1 == i && q.2.category == 2))) = lv1) (hl2 : lv_pick lv1 ks = lv2) (kk : Sm p l e R s m args below meth c D cl wd A nL Q x0 d S (pc + 2) lv2 st) :
    Sm p l e R s m args below meth c D cl wd A nL Q x0 d S pc lv (.long x :: st) := by
  intro hd H locs hP hD hS ls hl
  exact lv_lstore hC.1.1 hC.1.2.1 hdg hl hn hl1 (fun ls hl => kk hd H locs hP hD hS ls (lv_sub hl ks hl2))
theorem m_aload_n (hC : Cx p m c cc nL s args Ts own D cl tys) {d : Option β} {k : Fin 4} {x : Nat} (hdg : decode cc pc = .ok (.aload_n k, 1)) (j : Nat) (hj : lv[j]? = some (k.val, Value.ref x)) (kk : Sm p l e R s m args below meth c D cl wd A nL Q x0 d S (pc + 1) lv (.ref x :: st)) :
    Sm p l e R s m args below meth c D cl wd A nL Q x0 d S pc lv st := by
  intro hd H locs hP hD hS ls hl
  exact lv_aload_n hC.1.1 hC.1.2.1 hdg rfl (lv_at hl j hj) (kk hd H locs hP hD hS ls hl)
theorem m_aload (hC : Cx p m c cc nL s args Ts own D cl tys) {d : Option β} {i : Nat} {x : Nat} (hdg : decode cc pc = .ok (.aload i, 2)) (j : Nat) (hj : lv[j]? = some (i, Value.ref x)) (kk : Sm p l e R s m args below meth c D cl wd A nL Q x0 d S (pc + 2) lv (.ref x :: st)) :
    Sm p l e R s m args below meth c D cl wd A nL Q x0 d S pc lv st := by
  intro hd H locs hP hD hS ls hl
  exact lv_aload hC.1.1 hC.1.2.1 hdg (lv_at hl j hj) (kk hd H locs hP hD hS ls hl)
theorem m_astore_n (hC : Cx p m c cc nL s args Ts own D cl tys) {d : Option β} {k : Fin 4} {x : Nat} {lv1 : List (Nat × Value)} (lv2 : List (Nat × Value)) (ks : List Nat) (hdg : decode cc pc = .ok (.astore_n k, 1)) (hn : k.val < nL) (hl1 : (k.val, Value.ref x) :: lv.filter (fun q => !(q.1 == k.val) && !(q.1 + 1 == k.val && q.2.category == 2)) = lv1) (hl2 : lv_pick lv1 ks = lv2) (kk : Sm p l e R s m args below meth c D cl wd A nL Q x0 d S (pc + 1) lv2 st) :
    Sm p l e R s m args below meth c D cl wd A nL Q x0 d S pc lv (.ref x :: st) := by
  intro hd H locs hP hD hS ls hl
  exact lv_astore_n hC.1.1 hC.1.2.1 hdg rfl hl hn hl1 (fun ls hl => kk hd H locs hP hD hS ls (lv_sub hl ks hl2))
theorem m_astore (hC : Cx p m c cc nL s args Ts own D cl tys) {d : Option β} {i : Nat} {x : Nat} {lv1 : List (Nat × Value)} (lv2 : List (Nat × Value)) (ks : List Nat) (hdg : decode cc pc = .ok (.astore i, 2)) (hn : i < nL) (hl1 : (i, Value.ref x) :: lv.filter (fun q => !(q.1 == i) && !(q.1 + 1 == i && q.2.category == 2)) = lv1) (hl2 : lv_pick lv1 ks = lv2) (kk : Sm p l e R s m args below meth c D cl wd A nL Q x0 d S (pc + 2) lv2 st) :
    Sm p l e R s m args below meth c D cl wd A nL Q x0 d S pc lv (.ref x :: st) := by
  intro hd H locs hP hD hS ls hl
  exact lv_astore hC.1.1 hC.1.2.1 hdg hl hn hl1 (fun ls hl => kk hd H locs hP hD hS ls (lv_sub hl ks hl2))
theorem m_iinc (hC : Cx p m c cc nL s args Ts own D cl tys) {K : Int32 → Option β} {i j : Nat} {n : Int} {x dx : Int32} {lv1 : Int32 → List (Nat × Value)} (lv2 : Int32 → List (Nat × Value)) (ks : List Nat) (hdg : decode cc pc = .ok (.iinc i n, 3)) (hj : lv[j]? = some (i, Value.int x)) (hdx : Int32.ofInt n = dx) (hn : i < nL) (hl1 : ∀ y : Int32, (i, Value.int y) :: lv.filter (fun q => !(q.1 == i) && !(q.1 + 1 == i && q.2.category == 2)) = lv1 y) (hl2 : ∀ y : Int32, lv_pick (lv1 y) ks = lv2 y) (kk : ∀ y : Int32, Sm p l e R s m args below meth c D cl wd A nL Q x0 (K y) S (pc + 3) (lv2 y) st) :
    Sm p l e R s m args below meth c D cl wd A nL Q x0 (nmI (x + dx) K) S pc lv st := by
  intro hd H locs hP hD hS ls hl
  subst hdx
  exact lv_iinc hC.1.1 hC.1.2.1 hdg hl hj rfl hn (hl1 _) (fun ls hl => kk _ hd H locs hP hD hS ls (lv_sub hl ks (hl2 _)))
theorem m_iconst (hC : Cx p m c cc nL s args Ts own D cl tys) {d : Option β} {n : Int} (v : Int32) (hdg : decode cc pc = .ok (.iconst n, 1)) (hv : Int32.ofInt n = v) (kk : Sm p l e R s m args below meth c D cl wd A nL Q x0 d S (pc + 1) lv (.int v :: st)) :
    Sm p l e R s m args below meth c D cl wd A nL Q x0 d S pc lv st := by
  intro hd H locs hP hD hS ls hl
  exact lv_iconst hC.1.1 hC.1.2.1 hdg hv (kk hd H locs hP hD hS ls hl)
theorem m_bipush (hC : Cx p m c cc nL s args Ts own D cl tys) {d : Option β} {n : Int} (v : Int32) (hdg : decode cc pc = .ok (.bipush n, 2)) (hv : (Int8.ofInt n).toInt32 = v) (kk : Sm p l e R s m args below meth c D cl wd A nL Q x0 d S (pc + 2) lv (.int v :: st)) :
    Sm p l e R s m args below meth c D cl wd A nL Q x0 d S pc lv st := by
  intro hd H locs hP hD hS ls hl
  exact lv_bipush hC.1.1 hC.1.2.1 hdg hv (kk hd H locs hP hD hS ls hl)
theorem m_sipush (hC : Cx p m c cc nL s args Ts own D cl tys) {d : Option β} {n : Int} (v : Int32) (hdg : decode cc pc = .ok (.sipush n, 3)) (hv : (Int16.ofInt n).toInt32 = v) (kk : Sm p l e R s m args below meth c D cl wd A nL Q x0 d S (pc + 3) lv (.int v :: st)) :
    Sm p l e R s m args below meth c D cl wd A nL Q x0 d S pc lv st := by
  intro hd H locs hP hD hS ls hl
  exact lv_sipush hC.1.1 hC.1.2.1 hdg hv (kk hd H locs hP hD hS ls hl)
theorem m_lconst (hC : Cx p m c cc nL s args Ts own D cl tys) {d : Option β} {n : Fin 2} (v : Int64) (hdg : decode cc pc = .ok (.lconst n, 1)) (hv : Int64.ofNat (n : Nat) = v) (kk : Sm p l e R s m args below meth c D cl wd A nL Q x0 d S (pc + 1) lv (.long v :: st)) :
    Sm p l e R s m args below meth c D cl wd A nL Q x0 d S pc lv st := by
  intro hd H locs hP hD hS ls hl
  exact lv_lconst hC.1.1 hC.1.2.1 hdg hv (kk hd H locs hP hD hS ls hl)
theorem m_ldc (hC : Cx p m c cc nL s args Ts own D cl tys) {d : Option β} {index : Nat} {v : Int32} (hw : Cond.constant own index v ∈ Ts) (hdg : decode cc pc = .ok (.ldc index, 2)) (kk : Sm p l e R s m args below meth c D cl wd A nL Q x0 d S (pc + 2) lv (.int v :: st)) :
    Sm p l e R s m args below meth c D cl wd A nL Q x0 d S pc lv st := by
  intro hd H locs hP hD hS ls hl
  exact lv_ldc hC.1.1 hC.1.2.1 hC.1.2.2.2.1 (hC.1.2.2.2.2 _ hw) hdg (kk hd H locs hP hD hS ls hl)
theorem m_ldcw (hC : Cx p m c cc nL s args Ts own D cl tys) {d : Option β} {index : Nat} {v : Int32} (hw : Cond.constant own index v ∈ Ts) (hdg : decode cc pc = .ok (.ldc_w index, 3)) (kk : Sm p l e R s m args below meth c D cl wd A nL Q x0 d S (pc + 3) lv (.int v :: st)) :
    Sm p l e R s m args below meth c D cl wd A nL Q x0 d S pc lv st := by
  intro hd H locs hP hD hS ls hl
  exact lv_ldcw hC.1.1 hC.1.2.1 hC.1.2.2.2.1 (hC.1.2.2.2.2 _ hw) hdg (kk hd H locs hP hD hS ls hl)
theorem m_iadd (hC : Cx p m c cc nL s args Ts own D cl tys) {d : Option β} {x y : Int32} (hdg : decode cc pc = .ok (.iadd, 1)) (kk : Sm p l e R s m args below meth c D cl wd A nL Q x0 d S (pc + 1) lv (.int (x + y) :: st)) :
    Sm p l e R s m args below meth c D cl wd A nL Q x0 d S pc lv (.int y :: .int x :: st) := by
  intro hd H locs hP hD hS ls hl
  exact lv_iadd hC.1.1 hC.1.2.1 hdg (kk hd H locs hP hD hS ls hl)
theorem m_isub (hC : Cx p m c cc nL s args Ts own D cl tys) {d : Option β} {x y : Int32} (hdg : decode cc pc = .ok (.isub, 1)) (kk : Sm p l e R s m args below meth c D cl wd A nL Q x0 d S (pc + 1) lv (.int (x - y) :: st)) :
    Sm p l e R s m args below meth c D cl wd A nL Q x0 d S pc lv (.int y :: .int x :: st) := by
  intro hd H locs hP hD hS ls hl
  exact lv_isub hC.1.1 hC.1.2.1 hdg (kk hd H locs hP hD hS ls hl)
theorem m_imul (hC : Cx p m c cc nL s args Ts own D cl tys) {d : Option β} {x y : Int32} (hdg : decode cc pc = .ok (.imul, 1)) (kk : Sm p l e R s m args below meth c D cl wd A nL Q x0 d S (pc + 1) lv (.int (x * y) :: st)) :
    Sm p l e R s m args below meth c D cl wd A nL Q x0 d S pc lv (.int y :: .int x :: st) := by
  intro hd H locs hP hD hS ls hl
  exact lv_imul hC.1.1 hC.1.2.1 hdg (kk hd H locs hP hD hS ls hl)
theorem m_iand (hC : Cx p m c cc nL s args Ts own D cl tys) {d : Option β} {x y : Int32} (hdg : decode cc pc = .ok (.iand, 1)) (kk : Sm p l e R s m args below meth c D cl wd A nL Q x0 d S (pc + 1) lv (.int (x &&& y) :: st)) :
    Sm p l e R s m args below meth c D cl wd A nL Q x0 d S pc lv (.int y :: .int x :: st) := by
  intro hd H locs hP hD hS ls hl
  exact lv_iand hC.1.1 hC.1.2.1 hdg (kk hd H locs hP hD hS ls hl)
theorem m_ior (hC : Cx p m c cc nL s args Ts own D cl tys) {d : Option β} {x y : Int32} (hdg : decode cc pc = .ok (.ior, 1)) (kk : Sm p l e R s m args below meth c D cl wd A nL Q x0 d S (pc + 1) lv (.int (x ||| y) :: st)) :
    Sm p l e R s m args below meth c D cl wd A nL Q x0 d S pc lv (.int y :: .int x :: st) := by
  intro hd H locs hP hD hS ls hl
  exact lv_ior hC.1.1 hC.1.2.1 hdg (kk hd H locs hP hD hS ls hl)
theorem m_ixor (hC : Cx p m c cc nL s args Ts own D cl tys) {d : Option β} {x y : Int32} (hdg : decode cc pc = .ok (.ixor, 1)) (kk : Sm p l e R s m args below meth c D cl wd A nL Q x0 d S (pc + 1) lv (.int (x ^^^ y) :: st)) :
    Sm p l e R s m args below meth c D cl wd A nL Q x0 d S pc lv (.int y :: .int x :: st) := by
  intro hd H locs hP hD hS ls hl
  exact lv_ixor hC.1.1 hC.1.2.1 hdg (kk hd H locs hP hD hS ls hl)
theorem m_ishl (hC : Cx p m c cc nL s args Ts own D cl tys) {d : Option β} {x y : Int32} (hdg : decode cc pc = .ok (.ishl, 1)) (kk : Sm p l e R s m args below meth c D cl wd A nL Q x0 d S (pc + 1) lv (.int (x <<< (y &&& 31)) :: st)) :
    Sm p l e R s m args below meth c D cl wd A nL Q x0 d S pc lv (.int y :: .int x :: st) := by
  intro hd H locs hP hD hS ls hl
  exact lv_ishl hC.1.1 hC.1.2.1 hdg (kk hd H locs hP hD hS ls hl)
theorem m_ishr (hC : Cx p m c cc nL s args Ts own D cl tys) {d : Option β} {x y : Int32} (hdg : decode cc pc = .ok (.ishr, 1)) (kk : Sm p l e R s m args below meth c D cl wd A nL Q x0 d S (pc + 1) lv (.int (x >>> (y &&& 31)) :: st)) :
    Sm p l e R s m args below meth c D cl wd A nL Q x0 d S pc lv (.int y :: .int x :: st) := by
  intro hd H locs hP hD hS ls hl
  exact lv_ishr hC.1.1 hC.1.2.1 hdg (kk hd H locs hP hD hS ls hl)
theorem m_iushr (hC : Cx p m c cc nL s args Ts own D cl tys) {d : Option β} {x y : Int32} (hdg : decode cc pc = .ok (.iushr, 1)) (kk : Sm p l e R s m args below meth c D cl wd A nL Q x0 d S (pc + 1) lv (.int (usI x y) :: st)) :
    Sm p l e R s m args below meth c D cl wd A nL Q x0 d S pc lv (.int y :: .int x :: st) := by
  intro hd H locs hP hD hS ls hl
  exact lv_iushr hC.1.1 hC.1.2.1 hdg rfl (kk hd H locs hP hD hS ls hl)
theorem m_ineg (hC : Cx p m c cc nL s args Ts own D cl tys) {d : Option β} {x : Int32} (hdg : decode cc pc = .ok (.ineg, 1)) (kk : Sm p l e R s m args below meth c D cl wd A nL Q x0 d S (pc + 1) lv (.int (-x) :: st)) :
    Sm p l e R s m args below meth c D cl wd A nL Q x0 d S pc lv (.int x :: st) := by
  intro hd H locs hP hD hS ls hl
  exact lv_ineg hC.1.1 hC.1.2.1 hdg (kk hd H locs hP hD hS ls hl)
theorem m_ladd (hC : Cx p m c cc nL s args Ts own D cl tys) {d : Option β} {x y : Int64} (hdg : decode cc pc = .ok (.ladd, 1)) (kk : Sm p l e R s m args below meth c D cl wd A nL Q x0 d S (pc + 1) lv (.long (x + y) :: st)) :
    Sm p l e R s m args below meth c D cl wd A nL Q x0 d S pc lv (.long y :: .long x :: st) := by
  intro hd H locs hP hD hS ls hl
  exact lv_ladd hC.1.1 hC.1.2.1 hdg (kk hd H locs hP hD hS ls hl)
theorem m_lsub (hC : Cx p m c cc nL s args Ts own D cl tys) {d : Option β} {x y : Int64} (hdg : decode cc pc = .ok (.lsub, 1)) (kk : Sm p l e R s m args below meth c D cl wd A nL Q x0 d S (pc + 1) lv (.long (x - y) :: st)) :
    Sm p l e R s m args below meth c D cl wd A nL Q x0 d S pc lv (.long y :: .long x :: st) := by
  intro hd H locs hP hD hS ls hl
  exact lv_lsub hC.1.1 hC.1.2.1 hdg (kk hd H locs hP hD hS ls hl)
theorem m_lmul (hC : Cx p m c cc nL s args Ts own D cl tys) {d : Option β} {x y : Int64} (hdg : decode cc pc = .ok (.lmul, 1)) (kk : Sm p l e R s m args below meth c D cl wd A nL Q x0 d S (pc + 1) lv (.long (x * y) :: st)) :
    Sm p l e R s m args below meth c D cl wd A nL Q x0 d S pc lv (.long y :: .long x :: st) := by
  intro hd H locs hP hD hS ls hl
  exact lv_lmul hC.1.1 hC.1.2.1 hdg (kk hd H locs hP hD hS ls hl)
theorem m_i2l (hC : Cx p m c cc nL s args Ts own D cl tys) {d : Option β} {x : Int32} (hdg : decode cc pc = .ok (.i2l, 1)) (kk : Sm p l e R s m args below meth c D cl wd A nL Q x0 d S (pc + 1) lv (.long x.toInt64 :: st)) :
    Sm p l e R s m args below meth c D cl wd A nL Q x0 d S pc lv (.int x :: st) := by
  intro hd H locs hP hD hS ls hl
  exact lv_i2l hC.1.1 hC.1.2.1 hdg rfl (kk hd H locs hP hD hS ls hl)
theorem m_lcmp (hC : Cx p m c cc nL s args Ts own D cl tys) {d : Option β} {x y : Int64} (hdg : decode cc pc = .ok (.lcmp, 1)) (kk : Sm p l e R s m args below meth c D cl wd A nL Q x0 d S (pc + 1) lv (.int (lg_cmp x y) :: st)) :
    Sm p l e R s m args below meth c D cl wd A nL Q x0 d S pc lv (.long y :: .long x :: st) := by
  intro hd H locs hP hD hS ls hl
  exact W.lcmp hC.1.1 hC.1.2.1 hdg (kk hd H locs hP hD hS ls hl)
theorem m_dup (hC : Cx p m c cc nL s args Ts own D cl tys) {d : Option β} {va : Value} (hdg : decode cc pc = .ok (.dup, 1)) (hva : va.category = 1) (kk : Sm p l e R s m args below meth c D cl wd A nL Q x0 d S (pc + 1) lv (va :: va :: st)) :
    Sm p l e R s m args below meth c D cl wd A nL Q x0 d S pc lv (va :: st) := by
  intro hd H locs hP hD hS ls hl
  exact lv_dup hC.1.1 hC.1.2.1 hdg hva (kk hd H locs hP hD hS ls hl)
theorem m_pop (hC : Cx p m c cc nL s args Ts own D cl tys) {d : Option β} {va : Value} (hdg : decode cc pc = .ok (.pop, 1)) (hva : va.category = 1) (kk : Sm p l e R s m args below meth c D cl wd A nL Q x0 d S (pc + 1) lv (st)) :
    Sm p l e R s m args below meth c D cl wd A nL Q x0 d S pc lv (va :: st) := by
  intro hd H locs hP hD hS ls hl
  exact lv_pop hC.1.1 hC.1.2.1 hdg hva (kk hd H locs hP hD hS ls hl)
theorem m_dup_x1 (hC : Cx p m c cc nL s args Ts own D cl tys) {d : Option β} {va vb : Value} (hdg : decode cc pc = .ok (.dup_x1, 1)) (hva : va.category = 1) (hvb : vb.category = 1) (kk : Sm p l e R s m args below meth c D cl wd A nL Q x0 d S (pc + 1) lv (va :: vb :: va :: st)) :
    Sm p l e R s m args below meth c D cl wd A nL Q x0 d S pc lv (va :: vb :: st) := by
  intro hd H locs hP hD hS ls hl
  exact lv_dup_x1 hC.1.1 hC.1.2.1 hdg hva hvb (kk hd H locs hP hD hS ls hl)
theorem m_dup_x2 (hC : Cx p m c cc nL s args Ts own D cl tys) {d : Option β} {va vb vd : Value} (hdg : decode cc pc = .ok (.dup_x2, 1)) (hva : va.category = 1) (hvb : vb.category = 1) (hvd : vd.category = 1) (kk : Sm p l e R s m args below meth c D cl wd A nL Q x0 d S (pc + 1) lv (va :: vb :: vd :: va :: st)) :
    Sm p l e R s m args below meth c D cl wd A nL Q x0 d S pc lv (va :: vb :: vd :: st) := by
  intro hd H locs hP hD hS ls hl
  exact lv_dup_x2 hC.1.1 hC.1.2.1 hdg hva hvb hvd (kk hd H locs hP hD hS ls hl)
theorem m_dup2 (hC : Cx p m c cc nL s args Ts own D cl tys) {d : Option β} {va vb : Value} (hdg : decode cc pc = .ok (.dup2, 1)) (hva : va.category = 1) (hvb : vb.category = 1) (kk : Sm p l e R s m args below meth c D cl wd A nL Q x0 d S (pc + 1) lv (va :: vb :: va :: vb :: st)) :
    Sm p l e R s m args below meth c D cl wd A nL Q x0 d S pc lv (va :: vb :: st) := by
  intro hd H locs hP hD hS ls hl
  exact lv_dup2_11 hC.1.1 hC.1.2.1 hdg hva hvb (kk hd H locs hP hD hS ls hl)
theorem m_if_eq (hC : Cx p m c cc nL s args Ts own D cl tys) {dt de : Option β} {x : Int32} {off : Int} (tgt : Nat) (hdg : decode cc pc = .ok (.ifCond .eq off, 3)) (ht : (pc : Int) + off = (tgt : Int)) (kt : Sm p l e R s m args below meth c D cl wd A nL Q x0 dt S tgt lv st) (kf : Sm p l e R s m args below meth c D cl wd A nL Q x0 de S (pc + 3) lv st) :
    Sm p l e R s m args below meth c D cl wd A nL Q x0 (if x = 0 then dt else de) S pc lv (.int x :: st) := by
  intro hd H locs hP hD hS ls hl
  refine lv_if_eq hC.1.1 hC.1.2.1 hdg ht (fun hq => ?_) (fun hq => ?_)
  · exact kt ((if_pos hq).symm.trans hd) H locs hP hD hS ls hl
  · exact kf ((if_neg hq).symm.trans hd) H locs hP hD hS ls hl
theorem m_icmp_eq (hC : Cx p m c cc nL s args Ts own D cl tys) {dt de : Option β} {x y : Int32} {off : Int} (tgt : Nat) (hdg : decode cc pc = .ok (.if_icmp .eq off, 3)) (ht : (pc : Int) + off = (tgt : Int)) (kt : Sm p l e R s m args below meth c D cl wd A nL Q x0 dt S tgt lv st) (kf : Sm p l e R s m args below meth c D cl wd A nL Q x0 de S (pc + 3) lv st) :
    Sm p l e R s m args below meth c D cl wd A nL Q x0 (if x = y then dt else de) S pc lv (.int y :: .int x :: st) := by
  intro hd H locs hP hD hS ls hl
  refine lv_icmp_eq hC.1.1 hC.1.2.1 hdg ht (fun hq => ?_) (fun hq => ?_)
  · exact kt ((if_pos hq).symm.trans hd) H locs hP hD hS ls hl
  · exact kf ((if_neg hq).symm.trans hd) H locs hP hD hS ls hl
theorem m_if_ne (hC : Cx p m c cc nL s args Ts own D cl tys) {dt de : Option β} {x : Int32} {off : Int} (tgt : Nat) (hdg : decode cc pc = .ok (.ifCond .ne off, 3)) (ht : (pc : Int) + off = (tgt : Int)) (kt : Sm p l e R s m args below meth c D cl wd A nL Q x0 de S tgt lv st) (kf : Sm p l e R s m args below meth c D cl wd A nL Q x0 dt S (pc + 3) lv st) :
    Sm p l e R s m args below meth c D cl wd A nL Q x0 (if x = 0 then dt else de) S pc lv (.int x :: st) := by
  intro hd H locs hP hD hS ls hl
  refine lv_if_ne hC.1.1 hC.1.2.1 hdg ht (fun hq => ?_) (fun hq => ?_)
  · exact kt ((if_neg hq).symm.trans hd) H locs hP hD hS ls hl
  · exact kf ((if_pos hq).symm.trans hd) H locs hP hD hS ls hl
theorem m_icmp_ne (hC : Cx p m c cc nL s args Ts own D cl tys) {dt de : Option β} {x y : Int32} {off : Int} (tgt : Nat) (hdg : decode cc pc = .ok (.if_icmp .ne off, 3)) (ht : (pc : Int) + off = (tgt : Int)) (kt : Sm p l e R s m args below meth c D cl wd A nL Q x0 de S tgt lv st) (kf : Sm p l e R s m args below meth c D cl wd A nL Q x0 dt S (pc + 3) lv st) :
    Sm p l e R s m args below meth c D cl wd A nL Q x0 (if x = y then dt else de) S pc lv (.int y :: .int x :: st) := by
  intro hd H locs hP hD hS ls hl
  refine lv_icmp_ne hC.1.1 hC.1.2.1 hdg ht (fun hq => ?_) (fun hq => ?_)
  · exact kt ((if_neg hq).symm.trans hd) H locs hP hD hS ls hl
  · exact kf ((if_pos hq).symm.trans hd) H locs hP hD hS ls hl
theorem m_if_lt (hC : Cx p m c cc nL s args Ts own D cl tys) {dt de : Option β} {x : Int32} {off : Int} (tgt : Nat) (hdg : decode cc pc = .ok (.ifCond .lt off, 3)) (ht : (pc : Int) + off = (tgt : Int)) (kt : Sm p l e R s m args below meth c D cl wd A nL Q x0 dt S tgt lv st) (kf : Sm p l e R s m args below meth c D cl wd A nL Q x0 de S (pc + 3) lv st) :
    Sm p l e R s m args below meth c D cl wd A nL Q x0 (if x < 0 then dt else de) S pc lv (.int x :: st) := by
  intro hd H locs hP hD hS ls hl
  refine lv_if_lt hC.1.1 hC.1.2.1 hdg ht (fun hq => ?_) (fun hq => ?_)
  · exact kt ((if_pos hq).symm.trans hd) H locs hP hD hS ls hl
  · exact kf ((if_neg hq).symm.trans hd) H locs hP hD hS ls hl
theorem m_icmp_lt (hC : Cx p m c cc nL s args Ts own D cl tys) {dt de : Option β} {x y : Int32} {off : Int} (tgt : Nat) (hdg : decode cc pc = .ok (.if_icmp .lt off, 3)) (ht : (pc : Int) + off = (tgt : Int)) (kt : Sm p l e R s m args below meth c D cl wd A nL Q x0 dt S tgt lv st) (kf : Sm p l e R s m args below meth c D cl wd A nL Q x0 de S (pc + 3) lv st) :
    Sm p l e R s m args below meth c D cl wd A nL Q x0 (if x < y then dt else de) S pc lv (.int y :: .int x :: st) := by
  intro hd H locs hP hD hS ls hl
  refine lv_icmp_lt hC.1.1 hC.1.2.1 hdg ht (fun hq => ?_) (fun hq => ?_)
  · exact kt ((if_pos hq).symm.trans hd) H locs hP hD hS ls hl
  · exact kf ((if_neg hq).symm.trans hd) H locs hP hD hS ls hl
theorem m_if_ge (hC : Cx p m c cc nL s args Ts own D cl tys) {dt de : Option β} {x : Int32} {off : Int} (tgt : Nat) (hdg : decode cc pc = .ok (.ifCond .ge off, 3)) (ht : (pc : Int) + off = (tgt : Int)) (kt : Sm p l e R s m args below meth c D cl wd A nL Q x0 de S tgt lv st) (kf : Sm p l e R s m args below meth c D cl wd A nL Q x0 dt S (pc + 3) lv st) :
    Sm p l e R s m args below meth c D cl wd A nL Q x0 (if x < 0 then dt else de) S pc lv (.int x :: st) := by
  intro hd H locs hP hD hS ls hl
  refine lv_if_ge hC.1.1 hC.1.2.1 hdg ht (fun hq => ?_) (fun hq => ?_)
  · exact kt ((if_neg (Int32.not_lt.mpr hq)).symm.trans hd) H locs hP hD hS ls hl
  · exact kf ((if_pos (Int32.not_le.mp hq)).symm.trans hd) H locs hP hD hS ls hl
theorem m_icmp_ge (hC : Cx p m c cc nL s args Ts own D cl tys) {dt de : Option β} {x y : Int32} {off : Int} (tgt : Nat) (hdg : decode cc pc = .ok (.if_icmp .ge off, 3)) (ht : (pc : Int) + off = (tgt : Int)) (kt : Sm p l e R s m args below meth c D cl wd A nL Q x0 de S tgt lv st) (kf : Sm p l e R s m args below meth c D cl wd A nL Q x0 dt S (pc + 3) lv st) :
    Sm p l e R s m args below meth c D cl wd A nL Q x0 (if x < y then dt else de) S pc lv (.int y :: .int x :: st) := by
  intro hd H locs hP hD hS ls hl
  refine lv_icmp_ge hC.1.1 hC.1.2.1 hdg ht (fun hq => ?_) (fun hq => ?_)
  · exact kt ((if_neg (Int32.not_lt.mpr hq)).symm.trans hd) H locs hP hD hS ls hl
  · exact kf ((if_pos (Int32.not_le.mp hq)).symm.trans hd) H locs hP hD hS ls hl
theorem m_if_le (hC : Cx p m c cc nL s args Ts own D cl tys) {dt de : Option β} {x : Int32} {off : Int} (tgt : Nat) (hdg : decode cc pc = .ok (.ifCond .le off, 3)) (ht : (pc : Int) + off = (tgt : Int)) (kt : Sm p l e R s m args below meth c D cl wd A nL Q x0 dt S tgt lv st) (kf : Sm p l e R s m args below meth c D cl wd A nL Q x0 de S (pc + 3) lv st) :
    Sm p l e R s m args below meth c D cl wd A nL Q x0 (if x ≤ 0 then dt else de) S pc lv (.int x :: st) := by
  intro hd H locs hP hD hS ls hl
  refine lv_if_le hC.1.1 hC.1.2.1 hdg ht (fun hq => ?_) (fun hq => ?_)
  · exact kt ((if_pos hq).symm.trans hd) H locs hP hD hS ls hl
  · exact kf ((if_neg hq).symm.trans hd) H locs hP hD hS ls hl
theorem m_icmp_le (hC : Cx p m c cc nL s args Ts own D cl tys) {dt de : Option β} {x y : Int32} {off : Int} (tgt : Nat) (hdg : decode cc pc = .ok (.if_icmp .le off, 3)) (ht : (pc : Int) + off = (tgt : Int)) (kt : Sm p l e R s m args below meth c D cl wd A nL Q x0 dt S tgt lv st) (kf : Sm p l e R s m args below meth c D cl wd A nL Q x0 de S (pc + 3) lv st) :
    Sm p l e R s m args below meth c D cl wd A nL Q x0 (if x ≤ y then dt else de) S pc lv (.int y :: .int x :: st) := by
  intro hd H locs hP hD hS ls hl
  refine lv_icmp_le hC.1.1 hC.1.2.1 hdg ht (fun hq => ?_) (fun hq => ?_)
  · exact kt ((if_pos hq).symm.trans hd) H locs hP hD hS ls hl
  · exact kf ((if_neg hq).symm.trans hd) H locs hP hD hS ls hl
theorem m_if_gt (hC : Cx p m c cc nL s args Ts own D cl tys) {dt de : Option β} {x : Int32} {off : Int} (tgt : Nat) (hdg : decode cc pc = .ok (.ifCond .gt off, 3)) (ht : (pc : Int) + off = (tgt : Int)) (kt : Sm p l e R s m args below meth c D cl wd A nL Q x0 de S tgt lv st) (kf : Sm p l e R s m args below meth c D cl wd A nL Q x0 dt S (pc + 3) lv st) :
    Sm p l e R s m args below meth c D cl wd A nL Q x0 (if x ≤ 0 then dt else de) S pc lv (.int x :: st) := by
  intro hd H locs hP hD hS ls hl
  refine lv_if_gt hC.1.1 hC.1.2.1 hdg ht (fun hq => ?_) (fun hq => ?_)
  · exact kt ((if_neg (Int32.not_le.mpr hq)).symm.trans hd) H locs hP hD hS ls hl
  · exact kf ((if_pos (Int32.not_lt.mp hq)).symm.trans hd) H locs hP hD hS ls hl
theorem m_icmp_gt (hC : Cx p m c cc nL s args Ts own D cl tys) {dt de : Option β} {x y : Int32} {off : Int} (tgt : Nat) (hdg : decode cc pc = .ok (.if_icmp .gt off, 3)) (ht : (pc : Int) + off = (tgt : Int)) (kt : Sm p l e R s m args below meth c D cl wd A nL Q x0 de S tgt lv st) (kf : Sm p l e R s m args below meth c D cl wd A nL Q x0 dt S (pc + 3) lv st) :
    Sm p l e R s m args below meth c D cl wd A nL Q x0 (if x ≤ y then dt else de) S pc lv (.int y :: .int x :: st) := by
  intro hd H locs hP hD hS ls hl
  refine lv_icmp_gt hC.1.1 hC.1.2.1 hdg ht (fun hq => ?_) (fun hq => ?_)
  · exact kt ((if_neg (Int32.not_le.mpr hq)).symm.trans hd) H locs hP hD hS ls hl
  · exact kf ((if_pos (Int32.not_lt.mp hq)).symm.trans hd) H locs hP hD hS ls hl
theorem m_goto (hC : Cx p m c cc nL s args Ts own D cl tys) {d : Option β} {off : Int} (tgt : Nat) (hdg : decode cc pc = .ok (.goto off, 3)) (ht : (pc : Int) + off = (tgt : Int)) (kk : Sm p l e R s m args below meth c D cl wd A nL Q x0 d S tgt lv st) :
    Sm p l e R s m args below meth c D cl wd A nL Q x0 d S pc lv st := by
  intro hd H locs hP hD hS ls hl
  exact lv_goto hC.1.1 hC.1.2.1 hdg ht (kk hd H locs hP hD hS ls hl)
theorem m_nmI {K : Int32 → Option β} {x : Int32} (kk : ∀ y : Int32, Sm p l e R s m args below meth c D cl wd A nL Q x0 (K y) S pc lv (.int y :: st)) : Sm p l e R s m args below meth c D cl wd A nL Q x0 (nmI x K) S pc lv (.int x :: st) := kk x
theorem m_nmL {K : Int64 → Option β} {x : Int64} (kk : ∀ y : Int64, Sm p l e R s m args below meth c D cl wd A nL Q x0 (K y) S pc lv (.long y :: st)) : Sm p l e R s m args below meth c D cl wd A nL Q x0 (nmL x K) S pc lv (.long x :: st) := kk x
theorem m_pc {d : Option β} (pc2 : Nat) (h : pc = pc2) (kk : Sm p l e R s m args below meth c D cl wd A nL Q x0 d S pc2 lv st) : Sm p l e R s m args below meth c D cl wd A nL Q x0 d S pc lv st := h ▸ kk
theorem m_d {d : Option β} (d2 : Option β) (h : d = d2) (kk : Sm p l e R s m args below meth c D cl wd A nL Q x0 d2 S pc lv st) : Sm p l e R s m args below meth c D cl wd A nL Q x0 d S pc lv st := h ▸ kk
theorem m_lv {d : Option β} (lv2 : List (Nat × Value)) (ks : List Nat) (hl2 : lv_pick lv ks = lv2) (kk : Sm p l e R s m args below meth c D cl wd A nL Q x0 d S pc lv2 st) : Sm p l e R s m args below meth c D cl wd A nL Q x0 d S pc lv st := fun hd H locs hP hD hS ls hl => kk hd H locs hP hD hS ls (lv_sub hl ks hl2)
theorem m_get (hC : Cx p m c cc nL s args Ts own D cl tys) {d : Option β} {ref C : String} {T : u_T} {N ci index a q0 : Nat} {fs : List Value} {v : Value} (hin : ∀ w ∈ u_ws C T N, w ∈ Ts) (he : (wd S)[q0]? = some (a, .inr (ci, fs))) (hc : cl[ci]? = some (C, T, N)) (k : Nat) (hk : k < N) (hlink : Cond.fieldLink own index ref (T k).2.1 (T k).2.2.1 ∈ Ts) (hsame : (T k).1 = ref) (hv : fs[k]? = some v) (hdg : decode cc pc = .ok (.getfield index, 3)) (kk : Sm p l e R s m args below meth c D cl wd A nL Q x0 d S (pc + 3) lv (v :: st)) :
    Sm p l e R s m args below meth c D cl wd A nL Q x0 d S pc lv (.ref a :: st) := by
  intro hd H locs hP hD hS ls hl
  subst hsame
  exact va_get hC.1.1 hC.1.2.1 hC.1.2.2.2.2 hin hC.1.2.2.2.1 hC.2 hP q0 he hc k hk (hC.1.2.2.2.2 _ hlink) (fun _ h9 => h9) hv hdg (kk hd H locs hP hD hS ls hl)
theorem m_putI (hC : Cx p m c cc nL s args Ts own D cl tys) {K : St → Option β} {ref C : String} {T : u_T} {N ci index a q0 : Nat} {fs : List Value} {v : Int32} {ty : FieldType} (hin : ∀ w ∈ u_ws C T N, w ∈ Ts) (ty0 : Nat → FieldType) (hty : ∀ k, k < N → parseFieldDescriptor (T k).2.2.1 = some (ty0 k)) (hnm : ∀ a, a < N → ∀ b, b < N → a ≠ b → (T a).2.1 ≠ (T b).2.1) (he : (wd S)[q0]? = some (a, .inr (ci, fs))) (hc : cl[ci]? = some (C, T, N)) (k : Nat) (hk : k < N) (hlink : Cond.fieldLink own index ref (T k).2.1 (T k).2.2.1 ∈ Ts) (hsame : (T k).1 = ref) (hfin : (T k).2.2.2 = false) (hd0 : parseFieldDescriptor (T k).2.2.1 = some ty) (hn : narrow ty (.int v) = .int v) (hfit : fits ty (.int v) = true) (hl0 : k < fs.length) (hdg : decode cc pc = .ok (.putfield index, 3)) (hset : (wd S).set q0 (a, .inr (ci, fs.set k (.int v))) = wd (wr S q0 k v)) (kk : ∀ S2 : St, Sm p l e R s m args below meth c D cl wd A nL Q x0 (K S2) S2 (pc + 3) lv st) :
    Sm p l e R s m args below meth c D cl wd A nL Q x0 (pfI S q0 k v K) S pc lv (.int v :: .ref a :: st) := by
  intro hd H locs hP hD hS ls hl
  subst hsame
  refine va_put hC.1.1 hC.1.2.1 hC.1.2.2.2.2 hin ty0 hty hnm hC.1.2.2.2.1 hC.2 hP hD hS q0 he hc k hk (hC.1.2.2.2.2 _ hlink) (fun _ h9 => h9) hfin hd0 hn hfit hl0 hdg (fun H1 locs1 hP1 hD1 hS1 => ?_)
  rw [hset] at hP1 hD1
  exact kk _ hd H1 locs1 hP1 hD1 hS1 ls hl
theorem m_iald (hC : Cx p m c cc nL s args Ts own D cl tys) {K : Int32 → Option β} {a q0 t0 n : Nat} {cA : ClassId} {f : Nat → Int32} {i : Int32} (ha : (wd S)[q0]? = some (a, .inl (cA, n, .inl f))) (ht : tys[t0]? = some (cA, .int)) (hdg : decode cc pc = .ok (.iaload, 1)) (kk : ∀ x : Int32, Sm p l e R s m args below meth c D cl wd A nL Q x0 (K x) S (pc + 1) lv (.int x :: st)) :
    Sm p l e R s m args below meth c D cl wd A nL Q x0 (ldI n f i K) S pc lv (.int i :: .ref a :: st) := by
  intro hd H locs hP hD hS ls hl
  by_cases hi : i < 0 ∨ n ≤ i.toNatClampNeg
  · rw [ldI, if_pos hi] at hd
    cases hd
  · rw [ldI, if_neg hi] at hd
    exact va_iald hC.1.1 hC.1.2.1 hC.2 hP q0 t0 ha ht hi hdg (kk _ hd H locs hP hD hS ls hl)
theorem m_zald (hC : Cx p m c cc nL s args Ts own D cl tys) {K : Int32 → Option β} {a q0 t0 n : Nat} {cA : ClassId} {f : Nat → Int32} {i : Int32} (ha : (wd S)[q0]? = some (a, .inl (cA, n, .inl f))) (ht : tys[t0]? = some (cA, .boolean)) (hdg : decode cc pc = .ok (.baload, 1)) (kk : ∀ x : Int32, Sm p l e R s m args below meth c D cl wd A nL Q x0 (K x) S (pc + 1) lv (.int x :: st)) :
    Sm p l e R s m args below meth c D cl wd A nL Q x0 (ldI n f i K) S pc lv (.int i :: .ref a :: st) := by
  intro hd H locs hP hD hS ls hl
  by_cases hi : i < 0 ∨ n ≤ i.toNatClampNeg
  · rw [ldI, if_pos hi] at hd
    cases hd
  · rw [ldI, if_neg hi] at hd
    exact va_zald hC.1.1 hC.1.2.1 hC.2 hP q0 t0 ha ht hi hdg (kk _ hd H locs hP hD hS ls hl)
theorem m_lald (hC : Cx p m c cc nL s args Ts own D cl tys) {K : Int64 → Option β} {a q0 t0 n : Nat} {cA : ClassId} {f : Nat → Int64} {i : Int32} (ha : (wd S)[q0]? = some (a, .inl (cA, n, .inr (.inl f)))) (ht : tys[t0]? = some (cA, .long)) (hdg : decode cc pc = .ok (.laload, 1)) (kk : ∀ x : Int64, Sm p l e R s m args below meth c D cl wd A nL Q x0 (K x) S (pc + 1) lv (.long x :: st)) :
    Sm p l e R s m args below meth c D cl wd A nL Q x0 (ldL n f i K) S pc lv (.int i :: .ref a :: st) := by
  intro hd H locs hP hD hS ls hl
  by_cases hi : i < 0 ∨ n ≤ i.toNatClampNeg
  · rw [ldL, if_pos hi] at hd
    cases hd
  · rw [ldL, if_neg hi] at hd
    exact va_lald hC.1.1 hC.1.2.1 hC.2 hP q0 t0 ha ht hi hdg (kk _ hd H locs hP hD hS ls hl)
theorem m_aald (hC : Cx p m c cc nL s args Ts own D cl tys) {K : Nat → Option β} {a q0 t0 n : Nat} {cA : ClassId} {ty : FieldType} {f : Nat → Option Nat} {g : Nat → Nat} {i : Int32} (ha : (wd S)[q0]? = some (a, .inl (cA, n, .inr (.inr (.inr (.inr f)))))) (ht : tys[t0]? = some (cA, .array ty)) (hf : ∀ j, j < n → f j = some (g j)) (hdg : decode cc pc = .ok (.aaload, 1)) (kk : ∀ j : Nat, j < n → Sm p l e R s m args below meth c D cl wd A nL Q x0 (K j) S (pc + 1) lv (.ref (g j) :: st)) :
    Sm p l e R s m args below meth c D cl wd A nL Q x0 (ldR n i K) S pc lv (.int i :: .ref a :: st) := by
  intro hd H locs hP hD hS ls hl
  by_cases hi : i < 0 ∨ n ≤ i.toNatClampNeg
  · rw [ldR, if_pos hi] at hd
    cases hd
  · rw [ldR, if_neg hi] at hd
    have hlt : i.toNatClampNeg < n := Nat.not_le.mp fun q => hi (Or.inr q)
    have h1 := kk _ hlt hd H locs hP hD hS ls hl
    have h2 : va_rf (f i.toNatClampNeg) = .ref (g i.toNatClampNeg) := by rw [hf _ hlt]; rfl
    rw [← h2] at h1
    exact W.aald (v := va_rf (f i.toNatClampNeg)) (ty := .array ty) hC.1.1 hC.1.2.1 (hP q0 _ ha) ((hC.2.2 t0 _ ht).1 n (fun j => va_rf (f j))) rfl (fun q => by cases q) (by show ¬ (i < 0 ∨ (arrV _ _ _).slots.size ≤ _); rw [arrV_size]; exact hi) (by show (arrV _ _ _).slots[_]? = _; rw [arrV_read _ _ hlt]) rfl rfl hdg h1
theorem m_iast (hC : Cx p m c cc nL s args Ts own D cl tys) {K : St → Option β} {a q0 t0 n : Nat} {cA : ClassId} {i v : Int32} (ha : (wd S)[q0]? = some (a, .inl (cA, n, .inl (S.1 q0)))) (ht : tys[t0]? = some (cA, .int)) (hset : ∀ f : Nat → Int32, (wd S).set q0 (a, .inl (cA, n, .inl f)) = wd (wrow S q0 f)) (hdg : decode cc pc = .ok (.iastore, 1)) (kk : ∀ S2 : St, Sm p l e R s m args below meth c D cl wd A nL Q x0 (K S2) S2 (pc + 1) lv st) :
    Sm p l e R s m args below meth c D cl wd A nL Q x0 (stI S q0 n i v K) S pc lv (.int v :: .int i :: .ref a :: st) := by
  intro hd H locs hP hD hS ls hl
  by_cases hi : i < 0 ∨ n ≤ i.toNatClampNeg
  · rw [stI, if_pos hi] at hd
    cases hd
  · rw [stI, if_neg hi] at hd
    refine va_iast hC.1.1 hC.1.2.1 hC.2 hP hD hS q0 t0 ha ht hi hdg (fun H1 locs1 hP1 hD1 hS1 => ?_)
    rw [hset] at hP1 hD1
    exact kk _ hd H1 locs1 hP1 hD1 hS1 ls hl
theorem m_zast (hC : Cx p m c cc nL s args Ts own D cl tys) {K : St → Option β} {a q0 t0 n : Nat} {cA : ClassId} {i v : Int32} (hz : vp_nar .boolean v = v) (ha : (wd S)[q0]? = some (a, .inl (cA, n, .inl (S.1 q0)))) (ht : tys[t0]? = some (cA, .boolean)) (hset : ∀ f : Nat → Int32, (wd S).set q0 (a, .inl (cA, n, .inl f)) = wd (wrow S q0 f)) (hdg : decode cc pc = .ok (.bastore, 1)) (kk : ∀ S2 : St, Sm p l e R s m args below meth c D cl wd A nL Q x0 (K S2) S2 (pc + 1) lv st) :
    Sm p l e R s m args below meth c D cl wd A nL Q x0 (stI S q0 n i v K) S pc lv (.int v :: .int i :: .ref a :: st) := by
  intro hd H locs hP hD hS ls hl
  by_cases hi : i < 0 ∨ n ≤ i.toNatClampNeg
  · rw [stI, if_pos hi] at hd
    cases hd
  · rw [stI, if_neg hi] at hd
    refine va_zast hC.1.1 hC.1.2.1 hC.2 hP hD hS q0 t0 ha ht hi hdg (fun H1 locs1 hP1 hD1 hS1 => ?_)
    rw [hz, hset] at hP1 hD1
    exact kk _ hd H1 locs1 hP1 hD1 hS1 ls hl
theorem m_last (hC : Cx p m c cc nL s args Ts own D cl tys) {K : St → Option β} {a q0 t0 n : Nat} {cA : ClassId} {i : Int32} {v : Int64} (ha : (wd S)[q0]? = some (a, .inl (cA, n, .inr (.inl S.2)))) (ht : tys[t0]? = some (cA, .long)) (hset : ∀ f : Nat → Int64, (wd S).set q0 (a, .inl (cA, n, .inr (.inl f))) = wd (S.1, f)) (hdg : decode cc pc = .ok (.lastore, 1)) (kk : ∀ S2 : St, Sm p l e R s m args below meth c D cl wd A nL Q x0 (K S2) S2 (pc + 1) lv st) :
    Sm p l e R s m args below meth c D cl wd A nL Q x0 (stL S n i v K) S pc lv (.long v :: .int i :: .ref a :: st) := by
  intro hd H locs hP hD hS ls hl
  by_cases hi : i < 0 ∨ n ≤ i.toNatClampNeg
  · rw [stL, if_pos hi] at hd
    cases hd
  · rw [stL, if_neg hi] at hd
    refine va_last hC.1.1 hC.1.2.1 hC.2 hP hD hS q0 t0 ha ht hi hdg (fun H1 locs1 hP1 hD1 hS1 => ?_)
    rw [hset] at hP1 hD1
    exact kk _ hd H1 locs1 hP1 hD1 hS1 ls hl
theorem m_alen (hC : Cx p m c cc nL s args Ts own D cl tys) {d : Option β} {a q0 t0 n : Nat} {cA : ClassId} {f : Nat → Int32} (ha : (wd S)[q0]? = some (a, .inl (cA, n, .inl f))) (ht : tys[t0]? = some (cA, .int)) (hdg : decode cc pc = .ok (.arraylength, 1)) (kk : Sm p l e R s m args below meth c D cl wd A nL Q x0 d S (pc + 1) lv (.int (nI n) :: st)) :
    Sm p l e R s m args below meth c D cl wd A nL Q x0 d S pc lv (.ref a :: st) := by
  intro hd H locs hP hD hS ls hl
  exact va_alen hC.1.1 hC.1.2.1 hC.2 hP q0 t0 ha ht rfl hdg (kk hd H locs hP hD hS ls hl)
theorem m_max (hC : Cx p m c cc nL s args Ts own D cl tys) {d : Option β} {index : Nat} {x y : Int32} (hlink : Cond.methodLink own index Lib.Math.max.name ∈ Ts) (hstat : Cond.static Lib.Math.max.name ∈ Ts) (hini : Cond.initialized "java/lang/Math" ∈ Ts) (hcode : Cond.code Lib.Math.max.name Lib.Math.max.code 2 (some .int) ∈ Ts) (hfr : 1 ≤ R.frames) (hlo : (st.map fun v => v.category).sum + 13 ≤ R.locals) (hdg : decode cc pc = .ok (.invokestatic index, 3)) (kk : Sm p l e R s m args below meth c D cl wd A nL Q x0 d S (pc + 3) lv (.int (mxI x y) :: st)) :
    Sm p l e R s m args below meth c D cl wd A nL Q x0 d S pc lv (.int y :: .int x :: st) := by
  intro hd H locs hP hD hS ls hl
  exact va_mmax hC.1.1 hC.1.2.1 (hC.1.2.2.1.trans hl.1.symm) hC.1.2.2.2.1 (hC.1.2.2.2.2 _ hlink) (hC.1.2.2.2.2 _ hstat) (hC.1.2.2.2.2 _ hini) (hC.1.2.2.2.2 _ hcode) hfr hlo (Nat.zero_le _) (Nat.zero_le _) hdg (kk hd H locs hP hD hS ls hl)
theorem m_abs (hC : Cx p m c cc nL s args Ts own D cl tys) {d : Option β} {index : Nat} {x : Int32} (hlink : Cond.methodLink own index Lib.Math.abs.name ∈ Ts) (hstat : Cond.static Lib.Math.abs.name ∈ Ts) (hini : Cond.initialized "java/lang/Math" ∈ Ts) (hcode : Cond.code Lib.Math.abs.name Lib.Math.abs.code 1 (some .int) ∈ Ts) (hfr : 1 ≤ R.frames) (hlo : (st.map fun v => v.category).sum + 13 ≤ R.locals) (hdg : decode cc pc = .ok (.invokestatic index, 3)) (kk : Sm p l e R s m args below meth c D cl wd A nL Q x0 d S (pc + 3) lv (.int (abI x) :: st)) :
    Sm p l e R s m args below meth c D cl wd A nL Q x0 d S pc lv (.int x :: st) := by
  intro hd H locs hP hD hS ls hl
  exact va_mabs hC.1.1 hC.1.2.1 (hC.1.2.2.1.trans hl.1.symm) hC.1.2.2.2.1 (hC.1.2.2.2.2 _ hlink) (hC.1.2.2.2.2 _ hstat) (hC.1.2.2.2.2 _ hini) (hC.1.2.2.2.2 _ hcode) hfr hlo (Nat.zero_le _) (Nat.zero_le _) hdg (kk hd H locs hP hD hS ls hl)
theorem m_copy (hC : Cx p m c cc nL s args Ts own D cl tys) {K : St → Option β} {index a0 a1 q0 q1 t0 n0 n1 : Nat} {cA : ClassId} {sp dp n : Int32} (hlink : Cond.methodLink own index arraycopyName ∈ Ts) (hnat : Cond.native arraycopyName ∈ Ts) (hstat : Cond.static arraycopyName ∈ Ts) (hini : Cond.initialized "java/lang/System" ∈ Ts) (ha0 : (wd S)[q0]? = some (a0, .inl (cA, n0, .inl (S.1 q0)))) (ha1 : (wd S)[q1]? = some (a1, .inl (cA, n1, .inl (S.1 q1)))) (ht : tys[t0]? = some (cA, .int)) (hset : ∀ f : Nat → Int32, (wd S).set q1 (a1, .inl (cA, n1, .inl f)) = wd (wrow S q1 f)) (hfr : 1 ≤ R.frames) (hlo : (st.map fun v => v.category).sum + (nativeFrameWords "java/lang/System" "arraycopy" 5 + 11) ≤ R.locals) (hdg : decode cc pc = .ok (.invokestatic index, 3)) (kk : ∀ S2 : St, Sm p l e R s m args below meth c D cl wd A nL Q x0 (K S2) S2 (pc + 3) lv st) :
    Sm p l e R s m args below meth c D cl wd A nL Q x0 (cpI S q0 n0 q1 n1 sp dp n K) S pc lv (.int n :: .int dp :: .ref a1 :: .int sp :: .ref a0 :: st) := by
  intro hd H locs hP hD hS ls hl
  by_cases hi : sp < 0 ∨ dp < 0 ∨ n < 0 ∨ n0 < sp.toNatClampNeg + n.toNatClampNeg ∨ n1 < dp.toNatClampNeg + n.toNatClampNeg
  · rw [cpI, if_pos hi] at hd
    cases hd
  · rw [cpI, if_neg hi] at hd
    refine va_copyi hC.1.1 hC.1.2.1 (hC.1.2.2.1.trans hl.1.symm) hC.1.2.2.2.1 (hC.1.2.2.2.2 _ hlink) (hC.1.2.2.2.2 _ hnat) (hC.1.2.2.2.2 _ hstat) (hC.1.2.2.2.2 _ hini) hC.2 hP hD hS q0 q1 t0 t0 ha0 ha1 ht ht rfl (fun h => hi (Or.inl h)) (fun h => hi (Or.inr (Or.inl h))) (fun h => hi (Or.inr (Or.inr (Or.inl h)))) (Nat.not_lt.mp fun h => hi (Or.inr (Or.inr (Or.inr (Or.inl h))))) (Nat.not_lt.mp fun h => hi (Or.inr (Or.inr (Or.inr (Or.inr h))))) (fun _ _ => rfl) hfr hlo hdg (fun H1 locs1 hP1 hD1 hS1 => ?_)
    rw [hset] at hP1 hD1
    exact kk _ hd H1 locs1 hP1 hD1 hS1 ls hl
theorem m_iret {y0 : Int32 × St} {v : Int32} (hC : Cx p m c cc nL s args Ts own D cl tys) (hr : meth.sig.returnType = some .int) (hlocks : meth.locks = false) (hdg : decode cc pc = .ok (.ireturn, 1)) :
    Sm p l e R s m args below meth c D cl wd A nL (MQ below (va_Qi (fun r S2 => (r, S2) = y0) (Bw D cl tys wd A) A) args s 0 0 A) y0 (some (v, S)) S pc lv [.int v] := by
  intro hd H locs hP hD hS ls hl
  exact W.iret hC.1.1 hC.1.2.1 hr (fun t ht hW => ⟨⟨v, S, rfl, Option.some.inj hd, by rw [ht]; exact hP, va_K.moved hW.alike hC.2, hD⟩, hS.F ht⟩) hS.2.2 hdg hlocks
theorem m_iretP {y0 v : Int32} (hC : Cx p m c cc nL s args Ts own D cl tys) (hr : meth.sig.returnType = some .int) (hlocks : meth.locks = false) (hdg : decode cc pc = .ok (.ireturn, 1)) :
    Sm p l e R s m args below meth c D cl wd A nL (MQ below (va_Qi (fun r S2 => r = y0 ∧ S2 = S) (Bw D cl tys wd A) A) args s 0 0 A) y0 (some v) S pc lv [.int v] := by
  intro hd H locs hP hD hS ls hl
  exact W.iret hC.1.1 hC.1.2.1 hr (fun t ht hW => ⟨⟨v, S, rfl, ⟨Option.some.inj hd, rfl⟩, by rw [ht]; exact hP, va_K.moved hW.alike hC.2, hD⟩, hS.F ht⟩) hS.2.2 hdg hlocks
theorem m_zret {y0 : Int32 × St} {v : Int32} (hC : Cx p m c cc nL s args Ts own D cl tys) (hz : narrow .boolean (.int v) = .int v) (hr : meth.sig.returnType = some .boolean) (hlocks : meth.locks = false) (hdg : decode cc pc = .ok (.ireturn, 1)) :
    Sm p l e R s m args below meth c D cl wd A nL (MQ below (va_Qi (fun r S2 => (r, S2) = y0) (Bw D cl tys wd A) A) args s 0 0 A) y0 (some (v, S)) S pc lv [.int v] := by
  intro hd H locs hP hD hS ls hl
  exact W.zret hC.1.1 hC.1.2.1 hr hz (fun t ht hW => ⟨⟨v, S, rfl, Option.some.inj hd, by rw [ht]; exact hP, va_K.moved hW.alike hC.2, hD⟩, hS.F ht⟩) hS.2.2 hdg hlocks
theorem m_zretP {y0 v : Int32} (hC : Cx p m c cc nL s args Ts own D cl tys) (hz : narrow .boolean (.int v) = .int v) (hr : meth.sig.returnType = some .boolean) (hlocks : meth.locks = false) (hdg : decode cc pc = .ok (.ireturn, 1)) :
    Sm p l e R s m args below meth c D cl wd A nL (MQ below (va_Qi (fun r S2 => r = y0 ∧ S2 = S) (Bw D cl tys wd A) A) args s 0 0 A) y0 (some v) S pc lv [.int v] := by
  intro hd H locs hP hD hS ls hl
  exact W.zret hC.1.1 hC.1.2.1 hr hz (fun t ht hW => ⟨⟨v, S, rfl, ⟨Option.some.inj hd, rfl⟩, by rw [ht]; exact hP, va_K.moved hW.alike hC.2, hD⟩, hS.F ht⟩) hS.2.2 hdg hlocks
theorem m_lret {y0 : Int64 × St} {v : Int64} (hC : Cx p m c cc nL s args Ts own D cl tys) (hr : meth.sig.returnType = some .long) (hlocks : meth.locks = false) (hdg : decode cc pc = .ok (.lreturn, 1)) :
    Sm p l e R s m args below meth c D cl wd A nL (MQ below (va_Ql (fun r S2 => (r, S2) = y0) (Bw D cl tys wd A) A) args s 0 0 A) y0 (some (v, S)) S pc lv [.long v] := by
  intro hd H locs hP hD hS ls hl
  exact W.lret hC.1.1 hC.1.2.1 hr (fun t ht hW => ⟨⟨v, S, rfl, Option.some.inj hd, by rw [ht]; exact hP, va_K.moved hW.alike hC.2, hD⟩, hS.F ht⟩) hS.2.2 hdg hlocks
theorem m_lretP {y0 v : Int64} (hC : Cx p m c cc nL s args Ts own D cl tys) (hr : meth.sig.returnType = some .long) (hlocks : meth.locks = false) (hdg : decode cc pc = .ok (.lreturn, 1)) :
    Sm p l e R s m args below meth c D cl wd A nL (MQ below (va_Ql (fun r S2 => r = y0 ∧ S2 = S) (Bw D cl tys wd A) A) args s 0 0 A) y0 (some v) S pc lv [.long v] := by
  intro hd H locs hP hD hS ls hl
  exact W.lret hC.1.1 hC.1.2.1 hr (fun t ht hW => ⟨⟨v, S, rfl, ⟨Option.some.inj hd, rfl⟩, by rw [ht]; exact hP, va_K.moved hW.alike hC.2, hD⟩, hS.F ht⟩) hS.2.2 hdg hlocks
theorem m_vret {y0 : St} (hC : Cx p m c cc nL s args Ts own D cl tys) (hr : meth.sig.returnType = none) (hlocks : meth.locks = false) (hdg : decode cc pc = .ok (.return_, 1)) :
    Sm p l e R s m args below meth c D cl wd A nL (MQ below (va_Qv (fun S2 => S2 = y0) (Bw D cl tys wd A) A) args s 0 0 A) y0 (some S) S pc lv [] := by
  intro hd H locs hP hD hS ls hl
  exact W.vret hC.1.1 hC.1.2.1 hr (fun t ht hW => ⟨⟨S, rfl, Option.some.inj hd, by rw [ht]; exact hP, va_K.moved hW.alike hC.2, hD⟩, hS.F ht⟩) hS.2.2 hdg hlocks
theorem m_cIPV (hC : Cx p m c cc nL s args Ts own D cl tys) {y : MethodName} {C : String} {bytes : ByteArray} {maxL index n q0 ci b N : Nat} {T : u_T} {fs : List Value} {ret : Option FieldType} {wsy : List Cond} {rm : Room} {As : List Value} {AA : Nat → Nat → Prop} {fy : Option Int32} {K : Int32 → Option β} (hWk : Wok wd AA) (cw : CallW R s args own C index y bytes maxL ret wsy rm 0 0 n) (he : (wd S)[q0]? = some (b, .inr (ci, fs))) (hc : cl[ci]? = some (C, T, N)) (hM : ∀ x1 : Int32, fy = some x1 → KI l y wsy rm D cl tys wd AA (.ref b :: As) S (fun r S2 => r = x1 ∧ S2 = S)) (hn : As.length = n) (hroom : (st.map fun v => v.category).sum ≤ 8) (hdg : decode cc pc = .ok (.invokevirtual index, 3)) (kk : ∀ r : Int32, Sm p l e R s m args below meth c D cl wd (AA s.heap.size) nL Q x0 (K r) S (pc + 3) lv (.int r :: st)) :
    Sm p l e R s m args below meth c D cl wd (AA s.heap.size) nL Q x0 (caP fy K) S pc lv (As.reverse ++ .ref b :: st) := by
  intro hd H locs hP hD hS ls hl
  cases hf : fy with
  | none => rw [hf] at hd; cases hd
  | some x1 =>
    rw [hf] at hd
    refine va_calli (va_runV (As := As) (rest := st) hC.1 (hM x1 hf H.size) cw ⟨fun a U g mk q => by obtain ⟨q0, q1, qP, qK, qD⟩ := q; exact ⟨q0, q1, qP, va_K.moved (u := U) (U := U.calling g mk a) (Vm.Alike.refl U.vm) qK, qD⟩, va_recv hC.2 hP hc he, fun U hU hW => ⟨rfl, by rw [hU], by rw [hU]; exact hP, va_K.moved hW.alike hC.2, hD.weaken (fun _ _ _ _ => trivial)⟩⟩ rfl hn hl.1 rfl (lv_room hroom) hdg ⟨Nat.zero_le _, Nat.zero_le _⟩) hS (fun q _ h => hWk.2.1 _ _ _ hS.1 h) (fun q h => hWk.2.1 _ _ _ hS.1 h) (fun r u t H1 locs1 ht hvm hw hB hz1 hk1 hS1 => ?_)
    obtain ⟨hw1, hw2⟩ := hw
    subst hw1
    subst hw2
    obtain ⟨hP1, hK1, hD1⟩ := hB
    rw [ht] at hP1
    exact kk _ hd H1 locs1 hP1 (hD1.weaken (fun _ _ _ h => hWk.2.1 _ _ _ hS.1 h)) hS1 ls hl
theorem m_cIPS (hC : Cx p m c cc nL s args Ts own D cl tys) {y : MethodName} {bytes : ByteArray} {maxL index n : Nat} {ret : Option FieldType} {wsy : List Cond} {rm : Room} {As : List Value} {AA : Nat → Nat → Prop} {fy : Option Int32} {K : Int32 → Option β} (hWk : Wok wd AA) (cw : CallB R s args own index y bytes maxL ret wsy rm 0 0 n ∧ (Cond.static y).before args s = true) (hM : ∀ x1 : Int32, fy = some x1 → KI l y wsy rm D cl tys wd AA As S (fun r S2 => r = x1 ∧ S2 = S)) (hn : As.length = n) (hroom : (st.map fun v => v.category).sum ≤ 8) (hdg : decode cc pc = .ok (.invokestatic index, 3)) (kk : ∀ r : Int32, Sm p l e R s m args below meth c D cl wd (AA s.heap.size) nL Q x0 (K r) S (pc + 3) lv (.int r :: st)) :
    Sm p l e R s m args below meth c D cl wd (AA s.heap.size) nL Q x0 (caP fy K) S pc lv (As.reverse ++ st) := by
  intro hd H locs hP hD hS ls hl
  cases hf : fy with
  | none => rw [hf] at hd; cases hd
  | some x1 =>
    rw [hf] at hd
    refine va_calli (va_runS (As := As) (rest := st) hC.1 (hM x1 hf H.size) cw ⟨fun a U g mk q => by obtain ⟨q0, q1, qP, qK, qD⟩ := q; exact ⟨q0, q1, qP, va_K.moved (u := U) (U := U.calling g mk a) (Vm.Alike.refl U.vm) qK, qD⟩, fun U hU hW => ⟨rfl, by rw [hU], by rw [hU]; exact hP, va_K.moved hW.alike hC.2, hD.weaken (fun _ _ _ _ => trivial)⟩⟩ rfl hn hl.1 rfl (lv_room hroom) hdg ⟨Nat.zero_le _, Nat.zero_le _⟩) hS (fun q _ h => hWk.2.1 _ _ _ hS.1 h) (fun q h => hWk.2.1 _ _ _ hS.1 h) (fun r u t H1 locs1 ht hvm hw hB hz1 hk1 hS1 => ?_)
    obtain ⟨hw1, hw2⟩ := hw
    subst hw1
    subst hw2
    obtain ⟨hP1, hK1, hD1⟩ := hB
    rw [ht] at hP1
    exact kk _ hd H1 locs1 hP1 (hD1.weaken (fun _ _ _ h => hWk.2.1 _ _ _ hS.1 h)) hS1 ls hl
theorem m_cIV (hC : Cx p m c cc nL s args Ts own D cl tys) {y : MethodName} {C : String} {bytes : ByteArray} {maxL index n q0 ci b N : Nat} {T : u_T} {fs : List Value} {ret : Option FieldType} {wsy : List Cond} {rm : Room} {As : List Value} {AA : Nat → Nat → Prop} {fy : Option (Int32 × St)} {K : Int32 → St → Option β} (hWk : Wok wd AA) (cw : CallW R s args own C index y bytes maxL ret wsy rm 0 0 n) (he : (wd S)[q0]? = some (b, .inr (ci, fs))) (hc : cl[ci]? = some (C, T, N)) (hM : ∀ x1 : Int32 × St, fy = some x1 → KI l y wsy rm D cl tys wd AA (.ref b :: As) S (fun r S2 => (r, S2) = x1)) (hn : As.length = n) (hroom : (st.map fun v => v.category).sum ≤ 8) (hdg : decode cc pc = .ok (.invokevirtual index, 3)) (kk : ∀ (r : Int32) (S2 : St), Sm p l e R s m args below meth c D cl wd (AA s.heap.size) nL Q x0 (K r S2) S2 (pc + 3) lv (.int r :: st)) :
    Sm p l e R s m args below meth c D cl wd (AA s.heap.size) nL Q x0 (caS fy K) S pc lv (As.reverse ++ .ref b :: st) := by
  intro hd H locs hP hD hS ls hl
  cases hf : fy with
  | none => rw [hf] at hd; cases hd
  | some x1 =>
    rw [hf] at hd
    refine va_calli (va_runV (As := As) (rest := st) hC.1 (hM x1 hf H.size) cw ⟨fun a U g mk q => by obtain ⟨q0, q1, qP, qK, qD⟩ := q; exact ⟨q0, q1, qP, va_K.moved (u := U) (U := U.calling g mk a) (Vm.Alike.refl U.vm) qK, qD⟩, va_recv hC.2 hP hc he, fun U hU hW => ⟨rfl, by rw [hU], by rw [hU]; exact hP, va_K.moved hW.alike hC.2, hD.weaken (fun _ _ _ _ => trivial)⟩⟩ rfl hn hl.1 rfl (lv_room hroom) hdg ⟨Nat.zero_le _, Nat.zero_le _⟩) hS (fun q _ h => hWk.2.1 _ _ _ hS.1 h) (fun q h => hWk.2.1 _ _ _ hS.1 h) (fun r u t H1 locs1 ht hvm hw hB hz1 hk1 hS1 => ?_)
    subst hw
    obtain ⟨hP1, hK1, hD1⟩ := hB
    rw [ht] at hP1
    exact kk _ _ hd H1 locs1 hP1 (hD1.weaken (fun _ _ _ h => hWk.2.1 _ _ _ hS.1 h)) hS1 ls hl
theorem m_cIS (hC : Cx p m c cc nL s args Ts own D cl tys) {y : MethodName} {bytes : ByteArray} {maxL index n : Nat} {ret : Option FieldType} {wsy : List Cond} {rm : Room} {As : List Value} {AA : Nat → Nat → Prop} {fy : Option (Int32 × St)} {K : Int32 → St → Option β} (hWk : Wok wd AA) (cw : CallB R s args own index y bytes maxL ret wsy rm 0 0 n ∧ (Cond.static y).before args s = true) (hM : ∀ x1 : Int32 × St, fy = some x1 → KI l y wsy rm D cl tys wd AA As S (fun r S2 => (r, S2) = x1)) (hn : As.length = n) (hroom : (st.map fun v => v.category).sum ≤ 8) (hdg : decode cc pc = .ok (.invokestatic index, 3)) (kk : ∀ (r : Int32) (S2 : St), Sm p l e R s m args below meth c D cl wd (AA s.heap.size) nL Q x0 (K r S2) S2 (pc + 3) lv (.int r :: st)) :
    Sm p l e R s m args below meth c D cl wd (AA s.heap.size) nL Q x0 (caS fy K) S pc lv (As.reverse ++ st) := by
  intro hd H locs hP hD hS ls hl
  cases hf : fy with
  | none => rw [hf] at hd; cases hd
  | some x1 =>
    rw [hf] at hd
    refine va_calli (va_runS (As := As) (rest := st) hC.1 (hM x1 hf H.size) cw ⟨fun a U g mk q => by obtain ⟨q0, q1, qP, qK, qD⟩ := q; exact ⟨q0, q1, qP, va_K.moved (u := U) (U := U.calling g mk a) (Vm.Alike.refl U.vm) qK, qD⟩, fun U hU hW => ⟨rfl, by rw [hU], by rw [hU]; exact hP, va_K.moved hW.alike hC.2, hD.weaken (fun _ _ _ _ => trivial)⟩⟩ rfl hn hl.1 rfl (lv_room hroom) hdg ⟨Nat.zero_le _, Nat.zero_le _⟩) hS (fun q _ h => hWk.2.1 _ _ _ hS.1 h) (fun q h => hWk.2.1 _ _ _ hS.1 h) (fun r u t H1 locs1 ht hvm hw hB hz1 hk1 hS1 => ?_)
    subst hw
    obtain ⟨hP1, hK1, hD1⟩ := hB
    rw [ht] at hP1
    exact kk _ _ hd H1 locs1 hP1 (hD1.weaken (fun _ _ _ h => hWk.2.1 _ _ _ hS.1 h)) hS1 ls hl
theorem m_cLPV (hC : Cx p m c cc nL s args Ts own D cl tys) {y : MethodName} {C : String} {bytes : ByteArray} {maxL index n q0 ci b N : Nat} {T : u_T} {fs : List Value} {ret : Option FieldType} {wsy : List Cond} {rm : Room} {As : List Value} {AA : Nat → Nat → Prop} {fy : Option Int64} {K : Int64 → Option β} (hWk : Wok wd AA) (cw : CallW R s args own C index y bytes maxL ret wsy rm 0 0 n) (he : (wd S)[q0]? = some (b, .inr (ci, fs))) (hc : cl[ci]? = some (C, T, N)) (hM : ∀ x1 : Int64, fy = some x1 → KL l y wsy rm D cl tys wd AA (.ref b :: As) S (fun r S2 => r = x1 ∧ S2 = S)) (hn : As.length = n) (hroom : (st.map fun v => v.category).sum ≤ 8) (hdg : decode cc pc = .ok (.invokevirtual index, 3)) (kk : ∀ r : Int64, Sm p l e R s m args below meth c D cl wd (AA s.heap.size) nL Q x0 (K r) S (pc + 3) lv (.long r :: st)) :
    Sm p l e R s m args below meth c D cl wd (AA s.heap.size) nL Q x0 (caP fy K) S pc lv (As.reverse ++ .ref b :: st) := by
  intro hd H locs hP hD hS ls hl
  cases hf : fy with
  | none => rw [hf] at hd; cases hd
  | some x1 =>
    rw [hf] at hd
    refine va_calll (va_runV (As := As) (rest := st) hC.1 (hM x1 hf H.size) cw ⟨fun a U g mk q => by obtain ⟨q0, q1, qP, qK, qD⟩ := q; exact ⟨q0, q1, qP, va_K.moved (u := U) (U := U.calling g mk a) (Vm.Alike.refl U.vm) qK, qD⟩, va_recv hC.2 hP hc he, fun U hU hW => ⟨rfl, by rw [hU], by rw [hU]; exact hP, va_K.moved hW.alike hC.2, hD.weaken (fun _ _ _ _ => trivial)⟩⟩ rfl hn hl.1 rfl (lv_room hroom) hdg ⟨Nat.zero_le _, Nat.zero_le _⟩) hS (fun q _ h => hWk.2.1 _ _ _ hS.1 h) (fun q h => hWk.2.1 _ _ _ hS.1 h) (fun r u t H1 locs1 ht hvm hw hB hz1 hk1 hS1 => ?_)
    obtain ⟨hw1, hw2⟩ := hw
    subst hw1
    subst hw2
    obtain ⟨hP1, hK1, hD1⟩ := hB
    rw [ht] at hP1
    exact kk _ hd H1 locs1 hP1 (hD1.weaken (fun _ _ _ h => hWk.2.1 _ _ _ hS.1 h)) hS1 ls hl
theorem m_cLPS (hC : Cx p m c cc nL s args Ts own D cl tys) {y : MethodName} {bytes : ByteArray} {maxL index n : Nat} {ret : Option FieldType} {wsy : List Cond} {rm : Room} {As : List Value} {AA : Nat → Nat → Prop} {fy : Option Int64} {K : Int64 → Option β} (hWk : Wok wd AA) (cw : CallB R s args own index y bytes maxL ret wsy rm 0 0 n ∧ (Cond.static y).before args s = true) (hM : ∀ x1 : Int64, fy = some x1 → KL l y wsy rm D cl tys wd AA As S (fun r S2 => r = x1 ∧ S2 = S)) (hn : As.length = n) (hroom : (st.map fun v => v.category).sum ≤ 8) (hdg : decode cc pc = .ok (.invokestatic index, 3)) (kk : ∀ r : Int64, Sm p l e R s m args below meth c D cl wd (AA s.heap.size) nL Q x0 (K r) S (pc + 3) lv (.long r :: st)) :
    Sm p l e R s m args below meth c D cl wd (AA s.heap.size) nL Q x0 (caP fy K) S pc lv (As.reverse ++ st) := by
  intro hd H locs hP hD hS ls hl
  cases hf : fy with
  | none => rw [hf] at hd; cases hd
  | some x1 =>
    rw [hf] at hd
    refine va_calll (va_runS (As := As) (rest := st) hC.1 (hM x1 hf H.size) cw ⟨fun a U g mk q => by obtain ⟨q0, q1, qP, qK, qD⟩ := q; exact ⟨q0, q1, qP, va_K.moved (u := U) (U := U.calling g mk a) (Vm.Alike.refl U.vm) qK, qD⟩, fun U hU hW => ⟨rfl, by rw [hU], by rw [hU]; exact hP, va_K.moved hW.alike hC.2, hD.weaken (fun _ _ _ _ => trivial)⟩⟩ rfl hn hl.1 rfl (lv_room hroom) hdg ⟨Nat.zero_le _, Nat.zero_le _⟩) hS (fun q _ h => hWk.2.1 _ _ _ hS.1 h) (fun q h => hWk.2.1 _ _ _ hS.1 h) (fun r u t H1 locs1 ht hvm hw hB hz1 hk1 hS1 => ?_)
    obtain ⟨hw1, hw2⟩ := hw
    subst hw1
    subst hw2
    obtain ⟨hP1, hK1, hD1⟩ := hB
    rw [ht] at hP1
    exact kk _ hd H1 locs1 hP1 (hD1.weaken (fun _ _ _ h => hWk.2.1 _ _ _ hS.1 h)) hS1 ls hl
theorem m_cLV (hC : Cx p m c cc nL s args Ts own D cl tys) {y : MethodName} {C : String} {bytes : ByteArray} {maxL index n q0 ci b N : Nat} {T : u_T} {fs : List Value} {ret : Option FieldType} {wsy : List Cond} {rm : Room} {As : List Value} {AA : Nat → Nat → Prop} {fy : Option (Int64 × St)} {K : Int64 → St → Option β} (hWk : Wok wd AA) (cw : CallW R s args own C index y bytes maxL ret wsy rm 0 0 n) (he : (wd S)[q0]? = some (b, .inr (ci, fs))) (hc : cl[ci]? = some (C, T, N)) (hM : ∀ x1 : Int64 × St, fy = some x1 → KL l y wsy rm D cl tys wd AA (.ref b :: As) S (fun r S2 => (r, S2) = x1)) (hn : As.length = n) (hroom : (st.map fun v => v.category).sum ≤ 8) (hdg : decode cc pc = .ok (.invokevirtual index, 3)) (kk : ∀ (r : Int64) (S2 : St), Sm p l e R s m args below meth c D cl wd (AA s.heap.size) nL Q x0 (K r S2) S2 (pc + 3) lv (.long r :: st)) :
    Sm p l e R s m args below meth c D cl wd (AA s.heap.size) nL Q x0 (caS fy K) S pc lv (As.reverse ++ .ref b :: st) := by
  intro hd H locs hP hD hS ls hl
  cases hf : fy with
  | none => rw [hf] at hd; cases hd
  | some x1 =>
    rw [hf] at hd
    refine va_calll (va_runV (As := As) (rest := st) hC.1 (hM x1 hf H.size) cw ⟨fun a U g mk q => by obtain ⟨q0, q1, qP, qK, qD⟩ := q; exact ⟨q0, q1, qP, va_K.moved (u := U) (U := U.calling g mk a) (Vm.Alike.refl U.vm) qK, qD⟩, va_recv hC.2 hP hc he, fun U hU hW => ⟨rfl, by rw [hU], by rw [hU]; exact hP, va_K.moved hW.alike hC.2, hD.weaken (fun _ _ _ _ => trivial)⟩⟩ rfl hn hl.1 rfl (lv_room hroom) hdg ⟨Nat.zero_le _, Nat.zero_le _⟩) hS (fun q _ h => hWk.2.1 _ _ _ hS.1 h) (fun q h => hWk.2.1 _ _ _ hS.1 h) (fun r u t H1 locs1 ht hvm hw hB hz1 hk1 hS1 => ?_)
    subst hw
    obtain ⟨hP1, hK1, hD1⟩ := hB
    rw [ht] at hP1
    exact kk _ _ hd H1 locs1 hP1 (hD1.weaken (fun _ _ _ h => hWk.2.1 _ _ _ hS.1 h)) hS1 ls hl
theorem m_cLS (hC : Cx p m c cc nL s args Ts own D cl tys) {y : MethodName} {bytes : ByteArray} {maxL index n : Nat} {ret : Option FieldType} {wsy : List Cond} {rm : Room} {As : List Value} {AA : Nat → Nat → Prop} {fy : Option (Int64 × St)} {K : Int64 → St → Option β} (hWk : Wok wd AA) (cw : CallB R s args own index y bytes maxL ret wsy rm 0 0 n ∧ (Cond.static y).before args s = true) (hM : ∀ x1 : Int64 × St, fy = some x1 → KL l y wsy rm D cl tys wd AA As S (fun r S2 => (r, S2) = x1)) (hn : As.length = n) (hroom : (st.map fun v => v.category).sum ≤ 8) (hdg : decode cc pc = .ok (.invokestatic index, 3)) (kk : ∀ (r : Int64) (S2 : St), Sm p l e R s m args below meth c D cl wd (AA s.heap.size) nL Q x0 (K r S2) S2 (pc + 3) lv (.long r :: st)) :
    Sm p l e R s m args below meth c D cl wd (AA s.heap.size) nL Q x0 (caS fy K) S pc lv (As.reverse ++ st) := by
  intro hd H locs hP hD hS ls hl
  cases hf : fy with
  | none => rw [hf] at hd; cases hd
  | some x1 =>
    rw [hf] at hd
    refine va_calll (va_runS (As := As) (rest := st) hC.1 (hM x1 hf H.size) cw ⟨fun a U g mk q => by obtain ⟨q0, q1, qP, qK, qD⟩ := q; exact ⟨q0, q1, qP, va_K.moved (u := U) (U := U.calling g mk a) (Vm.Alike.refl U.vm) qK, qD⟩, fun U hU hW => ⟨rfl, by rw [hU], by rw [hU]; exact hP, va_K.moved hW.alike hC.2, hD.weaken (fun _ _ _ _ => trivial)⟩⟩ rfl hn hl.1 rfl (lv_room hroom) hdg ⟨Nat.zero_le _, Nat.zero_le _⟩) hS (fun q _ h => hWk.2.1 _ _ _ hS.1 h) (fun q h => hWk.2.1 _ _ _ hS.1 h) (fun r u t H1 locs1 ht hvm hw hB hz1 hk1 hS1 => ?_)
    subst hw
    obtain ⟨hP1, hK1, hD1⟩ := hB
    rw [ht] at hP1
    exact kk _ _ hd H1 locs1 hP1 (hD1.weaken (fun _ _ _ h => hWk.2.1 _ _ _ hS.1 h)) hS1 ls hl
theorem m_cVV (hC : Cx p m c cc nL s args Ts own D cl tys) {y : MethodName} {C : String} {bytes : ByteArray} {maxL index n q0 ci b N : Nat} {T : u_T} {fs : List Value} {ret : Option FieldType} {wsy : List Cond} {rm : Room} {As : List Value} {AA : Nat → Nat → Prop} {fy : Option St} {K : St → Option β} (hWk : Wok wd AA) (cw : CallW R s args own C index y bytes maxL ret wsy rm 0 0 n) (he : (wd S)[q0]? = some (b, .inr (ci, fs))) (hc : cl[ci]? = some (C, T, N)) (hM : ∀ x1 : St, fy = some x1 → KV l y wsy rm D cl tys wd AA (.ref b :: As) S (fun S2 => S2 = x1)) (hn : As.length = n) (hroom : (st.map fun v => v.category).sum ≤ 8) (hdg : decode cc pc = .ok (.invokevirtual index, 3)) (kk : ∀ S2 : St, Sm p l e R s m args below meth c D cl wd (AA s.heap.size) nL Q x0 (K S2) S2 (pc + 3) lv st) :
    Sm p l e R s m args below meth c D cl wd (AA s.heap.size) nL Q x0 (caV fy K) S pc lv (As.reverse ++ .ref b :: st) := by
  intro hd H locs hP hD hS ls hl
  cases hf : fy with
  | none => rw [hf] at hd; cases hd
  | some x1 =>
    rw [hf] at hd
    refine va_callv (va_runV (As := As) (rest := st) hC.1 (hM x1 hf H.size) cw ⟨fun a U g mk q => by obtain ⟨q0, q1, qP, qK, qD⟩ := q; exact ⟨q0, q1, qP, va_K.moved (u := U) (U := U.calling g mk a) (Vm.Alike.refl U.vm) qK, qD⟩, va_recv hC.2 hP hc he, fun U hU hW => ⟨rfl, by rw [hU], by rw [hU]; exact hP, va_K.moved hW.alike hC.2, hD.weaken (fun _ _ _ _ => trivial)⟩⟩ rfl hn hl.1 rfl (lv_room hroom) hdg ⟨Nat.zero_le _, Nat.zero_le _⟩) hS (fun q _ h => hWk.2.1 _ _ _ hS.1 h) (fun q h => hWk.2.1 _ _ _ hS.1 h) (fun u t H1 locs1 ht hvm hw hB hz1 hk1 hS1 => ?_)
    subst hw
    obtain ⟨hP1, hK1, hD1⟩ := hB
    rw [ht] at hP1
    exact kk _ hd H1 locs1 hP1 (hD1.weaken (fun _ _ _ h => hWk.2.1 _ _ _ hS.1 h)) hS1 ls hl
theorem m_cVS (hC : Cx p m c cc nL s args Ts own D cl tys) {y : MethodName} {bytes : ByteArray} {maxL index n : Nat} {ret : Option FieldType} {wsy : List Cond} {rm : Room} {As : List Value} {AA : Nat → Nat → Prop} {fy : Option St} {K : St → Option β} (hWk : Wok wd AA) (cw : CallB R s args own index y bytes maxL ret wsy rm 0 0 n ∧ (Cond.static y).before args s = true) (hM : ∀ x1 : St, fy = some x1 → KV l y wsy rm D cl tys wd AA As S (fun S2 => S2 = x1)) (hn : As.length = n) (hroom : (st.map fun v => v.category).sum ≤ 8) (hdg : decode cc pc = .ok (.invokestatic index, 3)) (kk : ∀ S2 : St, Sm p l e R s m args below meth c D cl wd (AA s.heap.size) nL Q x0 (K S2) S2 (pc + 3) lv st) :
    Sm p l e R s m args below meth c D cl wd (AA s.heap.size) nL Q x0 (caV fy K) S pc lv (As.reverse ++ st) := by
  intro hd H locs hP hD hS ls hl
  cases hf : fy with
  | none => rw [hf] at hd; cases hd
  | some x1 =>
    rw [hf] at hd
    refine va_callv (va_runS (As := As) (rest := st) hC.1 (hM x1 hf H.size) cw ⟨fun a U g mk q => by obtain ⟨q0, q1, qP, qK, qD⟩ := q; exact ⟨q0, q1, qP, va_K.moved (u := U) (U := U.calling g mk a) (Vm.Alike.refl U.vm) qK, qD⟩, fun U hU hW => ⟨rfl, by rw [hU], by rw [hU]; exact hP, va_K.moved hW.alike hC.2, hD.weaken (fun _ _ _ _ => trivial)⟩⟩ rfl hn hl.1 rfl (lv_room hroom) hdg ⟨Nat.zero_le _, Nat.zero_le _⟩) hS (fun q _ h => hWk.2.1 _ _ _ hS.1 h) (fun q h => hWk.2.1 _ _ _ hS.1 h) (fun u t H1 locs1 ht hvm hw hB hz1 hk1 hS1 => ?_)
    subst hw
    obtain ⟨hP1, hK1, hD1⟩ := hB
    rw [ht] at hP1
    exact kk _ hd H1 locs1 hP1 (hD1.weaken (fun _ _ _ h => hWk.2.1 _ _ _ hS.1 h)) hS1 ls hl
end SIM
theorem m_entryI {l : Launch} {D : va_G} {cl : List vw_C} {tys : List (ClassId × FieldType)} {wd : St → va_W} {AA : Nat → Nat → Prop} {y : MethodName} {ws ws' : List Cond} {rm : Room} {cc : ByteArray} {maxL : Nat} {ret : Option FieldType} {av : List Value} {S : St} {x0 : Int32 × St} {d : Option (Int32 × St)} {lv : List (Nat × Value)}
    (hWk : Wok wd AA) (hy : plainName y.cls = true) (hw : ws = Cond.code y cc maxL ret :: ws') (hlen : (lg_sl av).length ≤ maxL) (hlv : lv_args 0 av = lv) (hd : d = some x0)
    (body : ∀ (p : Program) (e : Env) (s : State) (m : MethodId) (args : Array Value) (below : List Frame) (meth : Method) (c : Code), Cx p m c cc maxL s args ws y.cls D cl tys → meth.sig.returnType = ret → meth.locks = false → Sm p l e (headSpec ws rm).room s m args below meth c D cl wd (AA s.heap.size) maxL (MQ below (va_Qi (fun r S2 => (r, S2) = x0) (Bw D cl tys wd (AA s.heap.size)) (AA s.heap.size)) args s 0 0 (AA s.heap.size)) x0 d S 0 lv []) :
    KI l y ws rm D cl tys wd AA av S (fun r S2 => (r, S2) = x0) := by
  intro sz
  refine Met.ofW hy hw ?_
  intro p e s m args below meth c s₁ B hml hv
  obtain ⟨rfl, hsz, hP, hK, hD0⟩ := hv
  subst hsz
  have hl := lv_entry av (n := maxL) hlen
  rw [lg_entry_eq]
  rw [hlv] at hl
  exact body p e s m _ below meth c ⟨⟨B.exec, B.bytes, hml, findClass_of_methodNamed B.named, atoms_spec (ws := ws) B.pre⟩, hK⟩ B.returns B.notSynchronized hd s.heap [] hP ⟨hD0.1, fun k q hk => hWk.1 S k q hk _⟩ va_S.rf _ hl
theorem m_entryIP {l : Launch} {D : va_G} {cl : List vw_C} {tys : List (ClassId × FieldType)} {wd : St → va_W} {AA : Nat → Nat → Prop} {y : MethodName} {ws ws' : List Cond} {rm : Room} {cc : ByteArray} {maxL : Nat} {ret : Option FieldType} {av : List Value} {S : St} {x0 : Int32} {d : Option (Int32)} {lv : List (Nat × Value)}
    (hWk : Wok wd AA) (hy : plainName y.cls = true) (hw : ws = Cond.code y cc maxL ret :: ws') (hlen : (lg_sl av).length ≤ maxL) (hlv : lv_args 0 av = lv) (hd : d = some x0)
    (body : ∀ (p : Program) (e : Env) (s : State) (m : MethodId) (args : Array Value) (below : List Frame) (meth : Method) (c : Code), Cx p m c cc maxL s args ws y.cls D cl tys → meth.sig.returnType = ret → meth.locks = false → Sm p l e (headSpec ws rm).room s m args below meth c D cl wd (AA s.heap.size) maxL (MQ below (va_Qi (fun r S2 => r = x0 ∧ S2 = S) (Bw D cl tys wd (AA s.heap.size)) (AA s.heap.size)) args s 0 0 (AA s.heap.size)) x0 d S 0 lv []) :
    KI l y ws rm D cl tys wd AA av S (fun r S2 => r = x0 ∧ S2 = S) := by
  intro sz
  refine Met.ofW hy hw ?_
  intro p e s m args below meth c s₁ B hml hv
  obtain ⟨rfl, hsz, hP, hK, hD0⟩ := hv
  subst hsz
  have hl := lv_entry av (n := maxL) hlen
  rw [lg_entry_eq]
  rw [hlv] at hl
  exact body p e s m _ below meth c ⟨⟨B.exec, B.bytes, hml, findClass_of_methodNamed B.named, atoms_spec (ws := ws) B.pre⟩, hK⟩ B.returns B.notSynchronized hd s.heap [] hP ⟨hD0.1, fun k q hk => hWk.1 S k q hk _⟩ va_S.rf _ hl
theorem m_entryL {l : Launch} {D : va_G} {cl : List vw_C} {tys : List (ClassId × FieldType)} {wd : St → va_W} {AA : Nat → Nat → Prop} {y : MethodName} {ws ws' : List Cond} {rm : Room} {cc : ByteArray} {maxL : Nat} {ret : Option FieldType} {av : List Value} {S : St} {x0 : Int64 × St} {d : Option (Int64 × St)} {lv : List (Nat × Value)}
    (hWk : Wok wd AA) (hy : plainName y.cls = true) (hw : ws = Cond.code y cc maxL ret :: ws') (hlen : (lg_sl av).length ≤ maxL) (hlv : lv_args 0 av = lv) (hd : d = some x0)
    (body : ∀ (p : Program) (e : Env) (s : State) (m : MethodId) (args : Array Value) (below : List Frame) (meth : Method) (c : Code), Cx p m c cc maxL s args ws y.cls D cl tys → meth.sig.returnType = ret → meth.locks = false → Sm p l e (headSpec ws rm).room s m args below meth c D cl wd (AA s.heap.size) maxL (MQ below (va_Ql (fun r S2 => (r, S2) = x0) (Bw D cl tys wd (AA s.heap.size)) (AA s.heap.size)) args s 0 0 (AA s.heap.size)) x0 d S 0 lv []) :
    KL l y ws rm D cl tys wd AA av S (fun r S2 => (r, S2) = x0) := by
  intro sz
  refine Met.ofW hy hw ?_
  intro p e s m args below meth c s₁ B hml hv
  obtain ⟨rfl, hsz, hP, hK, hD0⟩ := hv
  subst hsz
  have hl := lv_entry av (n := maxL) hlen
  rw [lg_entry_eq]
  rw [hlv] at hl
  exact body p e s m _ below meth c ⟨⟨B.exec, B.bytes, hml, findClass_of_methodNamed B.named, atoms_spec (ws := ws) B.pre⟩, hK⟩ B.returns B.notSynchronized hd s.heap [] hP ⟨hD0.1, fun k q hk => hWk.1 S k q hk _⟩ va_S.rf _ hl
theorem m_entryLP {l : Launch} {D : va_G} {cl : List vw_C} {tys : List (ClassId × FieldType)} {wd : St → va_W} {AA : Nat → Nat → Prop} {y : MethodName} {ws ws' : List Cond} {rm : Room} {cc : ByteArray} {maxL : Nat} {ret : Option FieldType} {av : List Value} {S : St} {x0 : Int64} {d : Option (Int64)} {lv : List (Nat × Value)}
    (hWk : Wok wd AA) (hy : plainName y.cls = true) (hw : ws = Cond.code y cc maxL ret :: ws') (hlen : (lg_sl av).length ≤ maxL) (hlv : lv_args 0 av = lv) (hd : d = some x0)
    (body : ∀ (p : Program) (e : Env) (s : State) (m : MethodId) (args : Array Value) (below : List Frame) (meth : Method) (c : Code), Cx p m c cc maxL s args ws y.cls D cl tys → meth.sig.returnType = ret → meth.locks = false → Sm p l e (headSpec ws rm).room s m args below meth c D cl wd (AA s.heap.size) maxL (MQ below (va_Ql (fun r S2 => r = x0 ∧ S2 = S) (Bw D cl tys wd (AA s.heap.size)) (AA s.heap.size)) args s 0 0 (AA s.heap.size)) x0 d S 0 lv []) :
    KL l y ws rm D cl tys wd AA av S (fun r S2 => r = x0 ∧ S2 = S) := by
  intro sz
  refine Met.ofW hy hw ?_
  intro p e s m args below meth c s₁ B hml hv
  obtain ⟨rfl, hsz, hP, hK, hD0⟩ := hv
  subst hsz
  have hl := lv_entry av (n := maxL) hlen
  rw [lg_entry_eq]
  rw [hlv] at hl
  exact body p e s m _ below meth c ⟨⟨B.exec, B.bytes, hml, findClass_of_methodNamed B.named, atoms_spec (ws := ws) B.pre⟩, hK⟩ B.returns B.notSynchronized hd s.heap [] hP ⟨hD0.1, fun k q hk => hWk.1 S k q hk _⟩ va_S.rf _ hl
theorem m_entryV {l : Launch} {D : va_G} {cl : List vw_C} {tys : List (ClassId × FieldType)} {wd : St → va_W} {AA : Nat → Nat → Prop} {y : MethodName} {ws ws' : List Cond} {rm : Room} {cc : ByteArray} {maxL : Nat} {ret : Option FieldType} {av : List Value} {S : St} {x0 : St} {d : Option (St)} {lv : List (Nat × Value)}
    (hWk : Wok wd AA) (hy : plainName y.cls = true) (hw : ws = Cond.code y cc maxL ret :: ws') (hlen : (lg_sl av).length ≤ maxL) (hlv : lv_args 0 av = lv) (hd : d = some x0)
    (body : ∀ (p : Program) (e : Env) (s : State) (m : MethodId) (args : Array Value) (below : List Frame) (meth : Method) (c : Code), Cx p m c cc maxL s args ws y.cls D cl tys → meth.sig.returnType = ret → meth.locks = false → Sm p l e (headSpec ws rm).room s m args below meth c D cl wd (AA s.heap.size) maxL (MQ below (va_Qv (fun S2 => S2 = x0) (Bw D cl tys wd (AA s.heap.size)) (AA s.heap.size)) args s 0 0 (AA s.heap.size)) x0 d S 0 lv []) :
    KV l y ws rm D cl tys wd AA av S (fun S2 => S2 = x0) := by
  intro sz
  refine Met.ofW hy hw ?_
  intro p e s m args below meth c s₁ B hml hv
  obtain ⟨rfl, hsz, hP, hK, hD0⟩ := hv
  subst hsz
  have hl := lv_entry av (n := maxL) hlen
  rw [lg_entry_eq]
  rw [hlv] at hl
  exact body p e s m _ below meth c ⟨⟨B.exec, B.bytes, hml, findClass_of_methodNamed B.named, atoms_spec (ws := ws) B.pre⟩, hK⟩ B.returns B.notSynchronized hd s.heap [] hP ⟨hD0.1, fun k q hk => hWk.1 S k q hk _⟩ va_S.rf _ hl
end
section
abbrev Cy : Type := ClassId × ClassId × ClassId × ClassId
abbrev tz (y : Cy) : List (ClassId × FieldType) := [(y.1, .int), (y.2.1, .boolean), (y.2.2.1, .array .int), (y.2.2.2, .long)]
theorem rows_at (g : Nat → Nat) (b n j : Nat) (hj : j < n) : (fun j => if j < n then some (g (b + j)) else none) j = some (g (b + j)) := if_pos hj
def wc (y : Cy) (g : Nat → Nat) (S : St) : va_W :=
  [(g 0, .inr (5, [.ref (g 1), .ref (g 12), .ref (g 13), .ref (g 21), .ref (g 24)])),
   (g 1, .inr (4, [.ref (g 2), .ref (g 3), .ref (g 4), .ref (g 5), .ref (g 6), .int (S.1 1 5), .int (S.1 1 6)])),
   (g 2, .inl (y.1, 8, .inl (S.1 2))),
   (g 3, .inl (y.1, 8, .inl (S.1 3))),
   (g 4, .inl (y.1, 5, .inl (S.1 4))),
   (g 5, .inl (y.1, 5, .inl (S.1 5))),
   (g 6, .inl (y.2.2.1, 5, .inr (.inr (.inr (.inr (fun j => if j < 5 then some (g (7 + j)) else none)))))),
   (g 7, .inl (y.1, 8, .inl (S.1 7))),
   (g 8, .inl (y.1, 8, .inl (S.1 8))),
   (g 9, .inl (y.1, 8, .inl (S.1 9))),
   (g 10, .inl (y.1, 8, .inl (S.1 10))),
   (g 11, .inl (y.1, 8, .inl (S.1 11))),
   (g 12, .inr (3, [.int (S.1 12 0), .int (S.1 12 1), .int (S.1 12 2), .int (S.1 12 3), .int (S.1 12 4), .int (S.1 12 5), .int (S.1 12 6), .int (S.1 12 7), .int (S.1 12 8)])),
   (g 13, .inr (1, [.ref (g 1), .ref (g 12), .ref (g 14), .ref (g 15), .ref (g 16), .ref (g 17), .ref (g 18), .ref (g 19), .ref (g 20), .int (S.1 13 9), .int (S.1 13 10), .int (S.1 13 11)])),
   (g 14, .inl (y.1, 144, .inl (S.1 14))),
   (g 15, .inl (y.1, 144, .inl (S.1 15))),
   (g 16, .inl (y.1, 144, .inl (S.1 16))),
   (g 17, .inl (y.1, 144, .inl (S.1 17))),
   (g 18, .inl (y.1, 144, .inl (S.1 18))),
   (g 19, .inl (y.2.1, 144, .inl (S.1 19))),
   (g 20, .inl (y.1, 6, .inl (S.1 20))),
   (g 21, .inr (2, [.ref (g 1), .ref (g 12), .ref (g 13), .ref (g 22), .ref (g 23), .int (S.1 21 5), .int (S.1 21 6), .int (S.1 21 7)])),
   (g 22, .inl (y.1, 8, .inl (S.1 22))),
   (g 23, .inl (y.1, 6, .inl (S.1 23))),
   (g 24, .inr (0, [.ref (g 1), .ref (g 12), .ref (g 13), .ref (g 25), .ref (g 31), .ref (g 32), .ref (g 38), .ref (g 44), .ref (g 50), .ref (g 51)])),
   (g 25, .inl (y.2.2.1, 5, .inr (.inr (.inr (.inr (fun j => if j < 5 then some (g (26 + j)) else none)))))),
   (g 26, .inl (y.1, 8, .inl (S.1 26))),
   (g 27, .inl (y.1, 8, .inl (S.1 27))),
   (g 28, .inl (y.1, 8, .inl (S.1 28))),
   (g 29, .inl (y.1, 8, .inl (S.1 29))),
   (g 30, .inl (y.1, 8, .inl (S.1 30))),
   (g 31, .inl (y.1, 5, .inl (S.1 31))),
   (g 32, .inl (y.2.2.1, 5, .inr (.inr (.inr (.inr (fun j => if j < 5 then some (g (33 + j)) else none)))))),
   (g 33, .inl (y.1, 24, .inl (S.1 33))),
   (g 34, .inl (y.1, 24, .inl (S.1 34))),
   (g 35, .inl (y.1, 24, .inl (S.1 35))),
   (g 36, .inl (y.1, 24, .inl (S.1 36))),
   (g 37, .inl (y.1, 24, .inl (S.1 37))),
   (g 38, .inl (y.2.2.1, 5, .inr (.inr (.inr (.inr (fun j => if j < 5 then some (g (39 + j)) else none)))))),
   (g 39, .inl (y.1, 5, .inl (S.1 39))),
   (g 40, .inl (y.1, 5, .inl (S.1 40))),
   (g 41, .inl (y.1, 5, .inl (S.1 41))),
   (g 42, .inl (y.1, 5, .inl (S.1 42))),
   (g 43, .inl (y.1, 5, .inl (S.1 43))),
   (g 44, .inl (y.2.2.1, 5, .inr (.inr (.inr (.inr (fun j => if j < 5 then some (g (45 + j)) else none)))))),
   (g 45, .inl (y.1, 5, .inl (S.1 45))),
   (g 46, .inl (y.1, 5, .inl (S.1 46))),
   (g 47, .inl (y.1, 5, .inl (S.1 47))),
   (g 48, .inl (y.1, 5, .inl (S.1 48))),
   (g 49, .inl (y.1, 5, .inl (S.1 49))),
   (g 50, .inl (y.1, 5, .inl (S.1 50))),
   (g 51, .inl (y.1, 5, .inl (S.1 51)))]
def AC (g : Nat → Nat) (sz : Nat) : Nat → Prop := fun q => (∃ k, k < 52 ∧ q = g k) ∨ sz ≤ q
theorem wc_0 (y : Cy) (g : Nat → Nat) (S : St) : (wc y g S)[0]? = some (g 0, .inr (5, [.ref (g 1), .ref (g 12), .ref (g 13), .ref (g 21), .ref (g 24)])) := rfl
theorem wc_1 (y : Cy) (g : Nat → Nat) (S : St) : (wc y g S)[1]? = some (g 1, .inr (4, [.ref (g 2), .ref (g 3), .ref (g 4), .ref (g 5), .ref (g 6), .int (S.1 1 5), .int (S.1 1 6)])) := rfl
theorem wcf_1_5 (y : Cy) (g : Nat → Nat) (S : St) (v : Int32) : (wc y g S).set 1 (g 1, .inr (4, ([.ref (g 2), .ref (g 3), .ref (g 4), .ref (g 5), .ref (g 6), .int (S.1 1 5), .int (S.1 1 6)] : List Value).set 5 (.int v))) = wc y g (wr S 1 5 v) := rfl
theorem wcf_1_6 (y : Cy) (g : Nat → Nat) (S : St) (v : Int32) : (wc y g S).set 1 (g 1, .inr (4, ([.ref (g 2), .ref (g 3), .ref (g 4), .ref (g 5), .ref (g 6), .int (S.1 1 5), .int (S.1 1 6)] : List Value).set 6 (.int v))) = wc y g (wr S 1 6 v) := rfl
theorem wc_2 (y : Cy) (g : Nat → Nat) (S : St) : (wc y g S)[2]? = some (g 2, .inl (y.1, 8, .inl (S.1 2))) := rfl
theorem wcs_2 (y : Cy) (g : Nat → Nat) (S : St) (f : Nat → Int32) : (wc y g S).set 2 (g 2, .inl (y.1, 8, .inl f)) = wc y g (wrow S 2 f) := rfl
theorem wc_3 (y : Cy) (g : Nat → Nat) (S : St) : (wc y g S)[3]? = some (g 3, .inl (y.1, 8, .inl (S.1 3))) := rfl
theorem wcs_3 (y : Cy) (g : Nat → Nat) (S : St) (f : Nat → Int32) : (wc y g S).set 3 (g 3, .inl (y.1, 8, .inl f)) = wc y g (wrow S 3 f) := rfl
theorem wc_4 (y : Cy) (g : Nat → Nat) (S : St) : (wc y g S)[4]? = some (g 4, .inl (y.1, 5, .inl (S.1 4))) := rfl
theorem wcs_4 (y : Cy) (g : Nat → Nat) (S : St) (f : Nat → Int32) : (wc y g S).set 4 (g 4, .inl (y.1, 5, .inl f)) = wc y g (wrow S 4 f) := rfl
theorem wc_5 (y : Cy) (g : Nat → Nat) (S : St) : (wc y g S)[5]? = some (g 5, .inl (y.1, 5, .inl (S.1 5))) := rfl
theorem wcs_5 (y : Cy) (g : Nat → Nat) (S : St) (f : Nat → Int32) : (wc y g S).set 5 (g 5, .inl (y.1, 5, .inl f)) = wc y g (wrow S 5 f) := rfl
theorem wc_6 (y : Cy) (g : Nat → Nat) (S : St) : (wc y g S)[6]? = some (g 6, .inl (y.2.2.1, 5, .inr (.inr (.inr (.inr (fun j => if j < 5 then some (g (7 + j)) else none)))))) := rfl
theorem wc_r7 (y : Cy) (g : Nat → Nat) (S : St) (j : Nat) (hj : j < 5) : (wc y g S)[7 + j]? = some (g (7 + j), .inl (y.1, 8, .inl (S.1 (7 + j)))) := by
  rcases (show j = 0 ∨ j = 1 ∨ j = 2 ∨ j = 3 ∨ j = 4 by omega) with rfl | rfl | rfl | rfl | rfl <;> rfl
theorem wcs_r7 (y : Cy) (g : Nat → Nat) (S : St) (j : Nat) (hj : j < 5) (f : Nat → Int32) : (wc y g S).set (7 + j) (g (7 + j), .inl (y.1, 8, .inl f)) = wc y g (wrow S (7 + j) f) := by
  rcases (show j = 0 ∨ j = 1 ∨ j = 2 ∨ j = 3 ∨ j = 4 by omega) with rfl | rfl | rfl | rfl | rfl <;> rfl
theorem wc_7 (y : Cy) (g : Nat → Nat) (S : St) : (wc y g S)[7]? = some (g 7, .inl (y.1, 8, .inl (S.1 7))) := rfl
theorem wcs_7 (y : Cy) (g : Nat → Nat) (S : St) (f : Nat → Int32) : (wc y g S).set 7 (g 7, .inl (y.1, 8, .inl f)) = wc y g (wrow S 7 f) := rfl
theorem wc_8 (y : Cy) (g : Nat → Nat) (S : St) : (wc y g S)[8]? = some (g 8, .inl (y.1, 8, .inl (S.1 8))) := rfl
theorem wcs_8 (y : Cy) (g : Nat → Nat) (S : St) (f : Nat → Int32) : (wc y g S).set 8 (g 8, .inl (y.1, 8, .inl f)) = wc y g (wrow S 8 f) := rfl
theorem wc_9 (y : Cy) (g : Nat → Nat) (S : St) : (wc y g S)[9]? = some (g 9, .inl (y.1, 8, .inl (S.1 9))) := rfl
theorem wcs_9 (y : Cy) (g : Nat → Nat) (S : St) (f : Nat → Int32) : (wc y g S).set 9 (g 9, .inl (y.1, 8, .inl f)) = wc y g (wrow S 9 f) := rfl
theorem wc_10 (y : Cy) (g : Nat → Nat) (S : St) : (wc y g S)[10]? = some (g 10, .inl (y.1, 8, .inl (S.1 10))) := rfl
theorem wcs_10 (y : Cy) (g : Nat → Nat) (S : St) (f : Nat → Int32) : (wc y g S).set 10 (g 10, .inl (y.1, 8, .inl f)) = wc y g (wrow S 10 f) := rfl
theorem wc_11 (y : Cy) (g : Nat → Nat) (S : St) : (wc y g S)[11]? = some (g 11, .inl (y.1, 8, .inl (S.1 11))) := rfl
theorem wcs_11 (y : Cy) (g : Nat → Nat) (S : St) (f : Nat → Int32) : (wc y g S).set 11 (g 11, .inl (y.1, 8, .inl f)) = wc y g (wrow S 11 f) := rfl
theorem wc_12 (y : Cy) (g : Nat → Nat) (S : St) : (wc y g S)[12]? = some (g 12, .inr (3, [.int (S.1 12 0), .int (S.1 12 1), .int (S.1 12 2), .int (S.1 12 3), .int (S.1 12 4), .int (S.1 12 5), .int (S.1 12 6), .int (S.1 12 7), .int (S.1 12 8)])) := rfl
theorem wcf_12_0 (y : Cy) (g : Nat → Nat) (S : St) (v : Int32) : (wc y g S).set 12 (g 12, .inr (3, ([.int (S.1 12 0), .int (S.1 12 1), .int (S.1 12 2), .int (S.1 12 3), .int (S.1 12 4), .int (S.1 12 5), .int (S.1 12 6), .int (S.1 12 7), .int (S.1 12 8)] : List Value).set 0 (.int v))) = wc y g (wr S 12 0 v) := rfl
theorem wcf_12_1 (y : Cy) (g : Nat → Nat) (S : St) (v : Int32) : (wc y g S).set 12 (g 12, .inr (3, ([.int (S.1 12 0), .int (S.1 12 1), .int (S.1 12 2), .int (S.1 12 3), .int (S.1 12 4), .int (S.1 12 5), .int (S.1 12 6), .int (S.1 12 7), .int (S.1 12 8)] : List Value).set 1 (.int v))) = wc y g (wr S 12 1 v) := rfl
theorem wcf_12_2 (y : Cy) (g : Nat → Nat) (S : St) (v : Int32) : (wc y g S).set 12 (g 12, .inr (3, ([.int (S.1 12 0), .int (S.1 12 1), .int (S.1 12 2), .int (S.1 12 3), .int (S.1 12 4), .int (S.1 12 5), .int (S.1 12 6), .int (S.1 12 7), .int (S.1 12 8)] : List Value).set 2 (.int v))) = wc y g (wr S 12 2 v) := rfl
theorem wcf_12_3 (y : Cy) (g : Nat → Nat) (S : St) (v : Int32) : (wc y g S).set 12 (g 12, .inr (3, ([.int (S.1 12 0), .int (S.1 12 1), .int (S.1 12 2), .int (S.1 12 3), .int (S.1 12 4), .int (S.1 12 5), .int (S.1 12 6), .int (S.1 12 7), .int (S.1 12 8)] : List Value).set 3 (.int v))) = wc y g (wr S 12 3 v) := rfl
theorem wcf_12_4 (y : Cy) (g : Nat → Nat) (S : St) (v : Int32) : (wc y g S).set 12 (g 12, .inr (3, ([.int (S.1 12 0), .int (S.1 12 1), .int (S.1 12 2), .int (S.1 12 3), .int (S.1 12 4), .int (S.1 12 5), .int (S.1 12 6), .int (S.1 12 7), .int (S.1 12 8)] : List Value).set 4 (.int v))) = wc y g (wr S 12 4 v) := rfl
theorem wcf_12_5 (y : Cy) (g : Nat → Nat) (S : St) (v : Int32) : (wc y g S).set 12 (g 12, .inr (3, ([.int (S.1 12 0), .int (S.1 12 1), .int (S.1 12 2), .int (S.1 12 3), .int (S.1 12 4), .int (S.1 12 5), .int (S.1 12 6), .int (S.1 12 7), .int (S.1 12 8)] : List Value).set 5 (.int v))) = wc y g (wr S 12 5 v) := rfl
theorem wcf_12_6 (y : Cy) (g : Nat → Nat) (S : St) (v : Int32) : (wc y g S).set 12 (g 12, .inr (3, ([.int (S.1 12 0), .int (S.1 12 1), .int (S.1 12 2), .int (S.1 12 3), .int (S.1 12 4), .int (S.1 12 5), .int (S.1 12 6), .int (S.1 12 7), .int (S.1 12 8)] : List Value).set 6 (.int v))) = wc y g (wr S 12 6 v) := rfl
theorem wcf_12_7 (y : Cy) (g : Nat → Nat) (S : St) (v : Int32) : (wc y g S).set 12 (g 12, .inr (3, ([.int (S.1 12 0), .int (S.1 12 1), .int (S.1 12 2), .int (S.1 12 3), .int (S.1 12 4), .int (S.1 12 5), .int (S.1 12 6), .int (S.1 12 7), .int (S.1 12 8)] : List Value).set 7 (.int v))) = wc y g (wr S 12 7 v) := rfl
theorem wcf_12_8 (y : Cy) (g : Nat → Nat) (S : St) (v : Int32) : (wc y g S).set 12 (g 12, .inr (3, ([.int (S.1 12 0), .int (S.1 12 1), .int (S.1 12 2), .int (S.1 12 3), .int (S.1 12 4), .int (S.1 12 5), .int (S.1 12 6), .int (S.1 12 7), .int (S.1 12 8)] : List Value).set 8 (.int v))) = wc y g (wr S 12 8 v) := rfl
theorem wc_13 (y : Cy) (g : Nat → Nat) (S : St) : (wc y g S)[13]? = some (g 13, .inr (1, [.ref (g 1), .ref (g 12), .ref (g 14), .ref (g 15), .ref (g 16), .ref (g 17), .ref (g 18), .ref (g 19), .ref (g 20), .int (S.1 13 9), .int (S.1 13 10), .int (S.1 13 11)])) := rfl
theorem wcf_13_9 (y : Cy) (g : Nat → Nat) (S : St) (v : Int32) : (wc y g S).set 13 (g 13, .inr (1, ([.ref (g 1), .ref (g 12), .ref (g 14), .ref (g 15), .ref (g 16), .ref (g 17), .ref (g 18), .ref (g 19), .ref (g 20), .int (S.1 13 9), .int (S.1 13 10), .int (S.1 13 11)] : List Value).set 9 (.int v))) = wc y g (wr S 13 9 v) := rfl
theorem wcf_13_10 (y : Cy) (g : Nat → Nat) (S : St) (v : Int32) : (wc y g S).set 13 (g 13, .inr (1, ([.ref (g 1), .ref (g 12), .ref (g 14), .ref (g 15), .ref (g 16), .ref (g 17), .ref (g 18), .ref (g 19), .ref (g 20), .int (S.1 13 9), .int (S.1 13 10), .int (S.1 13 11)] : List Value).set 10 (.int v))) = wc y g (wr S 13 10 v) := rfl
theorem wcf_13_11 (y : Cy) (g : Nat → Nat) (S : St) (v : Int32) : (wc y g S).set 13 (g 13, .inr (1, ([.ref (g 1), .ref (g 12), .ref (g 14), .ref (g 15), .ref (g 16), .ref (g 17), .ref (g 18), .ref (g 19), .ref (g 20), .int (S.1 13 9), .int (S.1 13 10), .int (S.1 13 11)] : List Value).set 11 (.int v))) = wc y g (wr S 13 11 v) := rfl
theorem wc_14 (y : Cy) (g : Nat → Nat) (S : St) : (wc y g S)[14]? = some (g 14, .inl (y.1, 144, .inl (S.1 14))) := rfl
theorem wcs_14 (y : Cy) (g : Nat → Nat) (S : St) (f : Nat → Int32) : (wc y g S).set 14 (g 14, .inl (y.1, 144, .inl f)) = wc y g (wrow S 14 f) := rfl
theorem wc_15 (y : Cy) (g : Nat → Nat) (S : St) : (wc y g S)[15]? = some (g 15, .inl (y.1, 144, .inl (S.1 15))) := rfl
theorem wcs_15 (y : Cy) (g : Nat → Nat) (S : St) (f : Nat → Int32) : (wc y g S).set 15 (g 15, .inl (y.1, 144, .inl f)) = wc y g (wrow S 15 f) := rfl
theorem wc_16 (y : Cy) (g : Nat → Nat) (S : St) : (wc y g S)[16]? = some (g 16, .inl (y.1, 144, .inl (S.1 16))) := rfl
theorem wcs_16 (y : Cy) (g : Nat → Nat) (S : St) (f : Nat → Int32) : (wc y g S).set 16 (g 16, .inl (y.1, 144, .inl f)) = wc y g (wrow S 16 f) := rfl
theorem wc_17 (y : Cy) (g : Nat → Nat) (S : St) : (wc y g S)[17]? = some (g 17, .inl (y.1, 144, .inl (S.1 17))) := rfl
theorem wcs_17 (y : Cy) (g : Nat → Nat) (S : St) (f : Nat → Int32) : (wc y g S).set 17 (g 17, .inl (y.1, 144, .inl f)) = wc y g (wrow S 17 f) := rfl
theorem wc_18 (y : Cy) (g : Nat → Nat) (S : St) : (wc y g S)[18]? = some (g 18, .inl (y.1, 144, .inl (S.1 18))) := rfl
theorem wcs_18 (y : Cy) (g : Nat → Nat) (S : St) (f : Nat → Int32) : (wc y g S).set 18 (g 18, .inl (y.1, 144, .inl f)) = wc y g (wrow S 18 f) := rfl
theorem wc_19 (y : Cy) (g : Nat → Nat) (S : St) : (wc y g S)[19]? = some (g 19, .inl (y.2.1, 144, .inl (S.1 19))) := rfl
theorem wcs_19 (y : Cy) (g : Nat → Nat) (S : St) (f : Nat → Int32) : (wc y g S).set 19 (g 19, .inl (y.2.1, 144, .inl f)) = wc y g (wrow S 19 f) := rfl
theorem wc_20 (y : Cy) (g : Nat → Nat) (S : St) : (wc y g S)[20]? = some (g 20, .inl (y.1, 6, .inl (S.1 20))) := rfl
theorem wcs_20 (y : Cy) (g : Nat → Nat) (S : St) (f : Nat → Int32) : (wc y g S).set 20 (g 20, .inl (y.1, 6, .inl f)) = wc y g (wrow S 20 f) := rfl
theorem wc_21 (y : Cy) (g : Nat → Nat) (S : St) : (wc y g S)[21]? = some (g 21, .inr (2, [.ref (g 1), .ref (g 12), .ref (g 13), .ref (g 22), .ref (g 23), .int (S.1 21 5), .int (S.1 21 6), .int (S.1 21 7)])) := rfl
theorem wcf_21_5 (y : Cy) (g : Nat → Nat) (S : St) (v : Int32) : (wc y g S).set 21 (g 21, .inr (2, ([.ref (g 1), .ref (g 12), .ref (g 13), .ref (g 22), .ref (g 23), .int (S.1 21 5), .int (S.1 21 6), .int (S.1 21 7)] : List Value).set 5 (.int v))) = wc y g (wr S 21 5 v) := rfl
theorem wcf_21_6 (y : Cy) (g : Nat → Nat) (S : St) (v : Int32) : (wc y g S).set 21 (g 21, .inr (2, ([.ref (g 1), .ref (g 12), .ref (g 13), .ref (g 22), .ref (g 23), .int (S.1 21 5), .int (S.1 21 6), .int (S.1 21 7)] : List Value).set 6 (.int v))) = wc y g (wr S 21 6 v) := rfl
theorem wcf_21_7 (y : Cy) (g : Nat → Nat) (S : St) (v : Int32) : (wc y g S).set 21 (g 21, .inr (2, ([.ref (g 1), .ref (g 12), .ref (g 13), .ref (g 22), .ref (g 23), .int (S.1 21 5), .int (S.1 21 6), .int (S.1 21 7)] : List Value).set 7 (.int v))) = wc y g (wr S 21 7 v) := rfl
theorem wc_22 (y : Cy) (g : Nat → Nat) (S : St) : (wc y g S)[22]? = some (g 22, .inl (y.1, 8, .inl (S.1 22))) := rfl
theorem wcs_22 (y : Cy) (g : Nat → Nat) (S : St) (f : Nat → Int32) : (wc y g S).set 22 (g 22, .inl (y.1, 8, .inl f)) = wc y g (wrow S 22 f) := rfl
theorem wc_23 (y : Cy) (g : Nat → Nat) (S : St) : (wc y g S)[23]? = some (g 23, .inl (y.1, 6, .inl (S.1 23))) := rfl
theorem wcs_23 (y : Cy) (g : Nat → Nat) (S : St) (f : Nat → Int32) : (wc y g S).set 23 (g 23, .inl (y.1, 6, .inl f)) = wc y g (wrow S 23 f) := rfl
theorem wc_24 (y : Cy) (g : Nat → Nat) (S : St) : (wc y g S)[24]? = some (g 24, .inr (0, [.ref (g 1), .ref (g 12), .ref (g 13), .ref (g 25), .ref (g 31), .ref (g 32), .ref (g 38), .ref (g 44), .ref (g 50), .ref (g 51)])) := rfl
theorem wc_25 (y : Cy) (g : Nat → Nat) (S : St) : (wc y g S)[25]? = some (g 25, .inl (y.2.2.1, 5, .inr (.inr (.inr (.inr (fun j => if j < 5 then some (g (26 + j)) else none)))))) := rfl
theorem wc_r26 (y : Cy) (g : Nat → Nat) (S : St) (j : Nat) (hj : j < 5) : (wc y g S)[26 + j]? = some (g (26 + j), .inl (y.1, 8, .inl (S.1 (26 + j)))) := by
  rcases (show j = 0 ∨ j = 1 ∨ j = 2 ∨ j = 3 ∨ j = 4 by omega) with rfl | rfl | rfl | rfl | rfl <;> rfl
theorem wcs_r26 (y : Cy) (g : Nat → Nat) (S : St) (j : Nat) (hj : j < 5) (f : Nat → Int32) : (wc y g S).set (26 + j) (g (26 + j), .inl (y.1, 8, .inl f)) = wc y g (wrow S (26 + j) f) := by
  rcases (show j = 0 ∨ j = 1 ∨ j = 2 ∨ j = 3 ∨ j = 4 by omega) with rfl | rfl | rfl | rfl | rfl <;> rfl
theorem wc_26 (y : Cy) (g : Nat → Nat) (S : St) : (wc y g S)[26]? = some (g 26, .inl (y.1, 8, .inl (S.1 26))) := rfl
theorem wcs_26 (y : Cy) (g : Nat → Nat) (S : St) (f : Nat → Int32) : (wc y g S).set 26 (g 26, .inl (y.1, 8, .inl f)) = wc y g (wrow S 26 f) := rfl
theorem wc_27 (y : Cy) (g : Nat → Nat) (S : St) : (wc y g S)[27]? = some (g 27, .inl (y.1, 8, .inl (S.1 27))) := rfl
theorem wcs_27 (y : Cy) (g : Nat → Nat) (S : St) (f : Nat → Int32) : (wc y g S).set 27 (g 27, .inl (y.1, 8, .inl f)) = wc y g (wrow S 27 f) := rfl
theorem wc_28 (y : Cy) (g : Nat → Nat) (S : St) : (wc y g S)[28]? = some (g 28, .inl (y.1, 8, .inl (S.1 28))) := rfl
theorem wcs_28 (y : Cy) (g : Nat → Nat) (S : St) (f : Nat → Int32) : (wc y g S).set 28 (g 28, .inl (y.1, 8, .inl f)) = wc y g (wrow S 28 f) := rfl
theorem wc_29 (y : Cy) (g : Nat → Nat) (S : St) : (wc y g S)[29]? = some (g 29, .inl (y.1, 8, .inl (S.1 29))) := rfl
theorem wcs_29 (y : Cy) (g : Nat → Nat) (S : St) (f : Nat → Int32) : (wc y g S).set 29 (g 29, .inl (y.1, 8, .inl f)) = wc y g (wrow S 29 f) := rfl
theorem wc_30 (y : Cy) (g : Nat → Nat) (S : St) : (wc y g S)[30]? = some (g 30, .inl (y.1, 8, .inl (S.1 30))) := rfl
theorem wcs_30 (y : Cy) (g : Nat → Nat) (S : St) (f : Nat → Int32) : (wc y g S).set 30 (g 30, .inl (y.1, 8, .inl f)) = wc y g (wrow S 30 f) := rfl
theorem wc_31 (y : Cy) (g : Nat → Nat) (S : St) : (wc y g S)[31]? = some (g 31, .inl (y.1, 5, .inl (S.1 31))) := rfl
theorem wcs_31 (y : Cy) (g : Nat → Nat) (S : St) (f : Nat → Int32) : (wc y g S).set 31 (g 31, .inl (y.1, 5, .inl f)) = wc y g (wrow S 31 f) := rfl
theorem wc_32 (y : Cy) (g : Nat → Nat) (S : St) : (wc y g S)[32]? = some (g 32, .inl (y.2.2.1, 5, .inr (.inr (.inr (.inr (fun j => if j < 5 then some (g (33 + j)) else none)))))) := rfl
theorem wc_r33 (y : Cy) (g : Nat → Nat) (S : St) (j : Nat) (hj : j < 5) : (wc y g S)[33 + j]? = some (g (33 + j), .inl (y.1, 24, .inl (S.1 (33 + j)))) := by
  rcases (show j = 0 ∨ j = 1 ∨ j = 2 ∨ j = 3 ∨ j = 4 by omega) with rfl | rfl | rfl | rfl | rfl <;> rfl
theorem wcs_r33 (y : Cy) (g : Nat → Nat) (S : St) (j : Nat) (hj : j < 5) (f : Nat → Int32) : (wc y g S).set (33 + j) (g (33 + j), .inl (y.1, 24, .inl f)) = wc y g (wrow S (33 + j) f) := by
  rcases (show j = 0 ∨ j = 1 ∨ j = 2 ∨ j = 3 ∨ j = 4 by omega) with rfl | rfl | rfl | rfl | rfl <;> rfl
theorem wc_33 (y : Cy) (g : Nat → Nat) (S : St) : (wc y g S)[33]? = some (g 33, .inl (y.1, 24, .inl (S.1 33))) := rfl
theorem wcs_33 (y : Cy) (g : Nat → Nat) (S : St) (f : Nat → Int32) : (wc y g S).set 33 (g 33, .inl (y.1, 24, .inl f)) = wc y g (wrow S 33 f) := rfl
theorem wc_34 (y : Cy) (g : Nat → Nat) (S : St) : (wc y g S)[34]? = some (g 34, .inl (y.1, 24, .inl (S.1 34))) := rfl
theorem wcs_34 (y : Cy) (g : Nat → Nat) (S : St) (f : Nat → Int32) : (wc y g S).set 34 (g 34, .inl (y.1, 24, .inl f)) = wc y g (wrow S 34 f) := rfl
theorem wc_35 (y : Cy) (g : Nat → Nat) (S : St) : (wc y g S)[35]? = some (g 35, .inl (y.1, 24, .inl (S.1 35))) := rfl
theorem wcs_35 (y : Cy) (g : Nat → Nat) (S : St) (f : Nat → Int32) : (wc y g S).set 35 (g 35, .inl (y.1, 24, .inl f)) = wc y g (wrow S 35 f) := rfl
theorem wc_36 (y : Cy) (g : Nat → Nat) (S : St) : (wc y g S)[36]? = some (g 36, .inl (y.1, 24, .inl (S.1 36))) := rfl
theorem wcs_36 (y : Cy) (g : Nat → Nat) (S : St) (f : Nat → Int32) : (wc y g S).set 36 (g 36, .inl (y.1, 24, .inl f)) = wc y g (wrow S 36 f) := rfl
theorem wc_37 (y : Cy) (g : Nat → Nat) (S : St) : (wc y g S)[37]? = some (g 37, .inl (y.1, 24, .inl (S.1 37))) := rfl
theorem wcs_37 (y : Cy) (g : Nat → Nat) (S : St) (f : Nat → Int32) : (wc y g S).set 37 (g 37, .inl (y.1, 24, .inl f)) = wc y g (wrow S 37 f) := rfl
theorem wc_38 (y : Cy) (g : Nat → Nat) (S : St) : (wc y g S)[38]? = some (g 38, .inl (y.2.2.1, 5, .inr (.inr (.inr (.inr (fun j => if j < 5 then some (g (39 + j)) else none)))))) := rfl
theorem wc_r39 (y : Cy) (g : Nat → Nat) (S : St) (j : Nat) (hj : j < 5) : (wc y g S)[39 + j]? = some (g (39 + j), .inl (y.1, 5, .inl (S.1 (39 + j)))) := by
  rcases (show j = 0 ∨ j = 1 ∨ j = 2 ∨ j = 3 ∨ j = 4 by omega) with rfl | rfl | rfl | rfl | rfl <;> rfl
theorem wcs_r39 (y : Cy) (g : Nat → Nat) (S : St) (j : Nat) (hj : j < 5) (f : Nat → Int32) : (wc y g S).set (39 + j) (g (39 + j), .inl (y.1, 5, .inl f)) = wc y g (wrow S (39 + j) f) := by
  rcases (show j = 0 ∨ j = 1 ∨ j = 2 ∨ j = 3 ∨ j = 4 by omega) with rfl | rfl | rfl | rfl | rfl <;> rfl
theorem wc_39 (y : Cy) (g : Nat → Nat) (S : St) : (wc y g S)[39]? = some (g 39, .inl (y.1, 5, .inl (S.1 39))) := rfl
theorem wcs_39 (y : Cy) (g : Nat → Nat) (S : St) (f : Nat → Int32) : (wc y g S).set 39 (g 39, .inl (y.1, 5, .inl f)) = wc y g (wrow S 39 f) := rfl
theorem wc_40 (y : Cy) (g : Nat → Nat) (S : St) : (wc y g S)[40]? = some (g 40, .inl (y.1, 5, .inl (S.1 40))) := rfl
theorem wcs_40 (y : Cy) (g : Nat → Nat) (S : St) (f : Nat → Int32) : (wc y g S).set 40 (g 40, .inl (y.1, 5, .inl f)) = wc y g (wrow S 40 f) := rfl
theorem wc_41 (y : Cy) (g : Nat → Nat) (S : St) : (wc y g S)[41]? = some (g 41, .inl (y.1, 5, .inl (S.1 41))) := rfl
theorem wcs_41 (y : Cy) (g : Nat → Nat) (S : St) (f : Nat → Int32) : (wc y g S).set 41 (g 41, .inl (y.1, 5, .inl f)) = wc y g (wrow S 41 f) := rfl
theorem wc_42 (y : Cy) (g : Nat → Nat) (S : St) : (wc y g S)[42]? = some (g 42, .inl (y.1, 5, .inl (S.1 42))) := rfl
theorem wcs_42 (y : Cy) (g : Nat → Nat) (S : St) (f : Nat → Int32) : (wc y g S).set 42 (g 42, .inl (y.1, 5, .inl f)) = wc y g (wrow S 42 f) := rfl
theorem wc_43 (y : Cy) (g : Nat → Nat) (S : St) : (wc y g S)[43]? = some (g 43, .inl (y.1, 5, .inl (S.1 43))) := rfl
theorem wcs_43 (y : Cy) (g : Nat → Nat) (S : St) (f : Nat → Int32) : (wc y g S).set 43 (g 43, .inl (y.1, 5, .inl f)) = wc y g (wrow S 43 f) := rfl
theorem wc_44 (y : Cy) (g : Nat → Nat) (S : St) : (wc y g S)[44]? = some (g 44, .inl (y.2.2.1, 5, .inr (.inr (.inr (.inr (fun j => if j < 5 then some (g (45 + j)) else none)))))) := rfl
theorem wc_r45 (y : Cy) (g : Nat → Nat) (S : St) (j : Nat) (hj : j < 5) : (wc y g S)[45 + j]? = some (g (45 + j), .inl (y.1, 5, .inl (S.1 (45 + j)))) := by
  rcases (show j = 0 ∨ j = 1 ∨ j = 2 ∨ j = 3 ∨ j = 4 by omega) with rfl | rfl | rfl | rfl | rfl <;> rfl
theorem wcs_r45 (y : Cy) (g : Nat → Nat) (S : St) (j : Nat) (hj : j < 5) (f : Nat → Int32) : (wc y g S).set (45 + j) (g (45 + j), .inl (y.1, 5, .inl f)) = wc y g (wrow S (45 + j) f) := by
  rcases (show j = 0 ∨ j = 1 ∨ j = 2 ∨ j = 3 ∨ j = 4 by omega) with rfl | rfl | rfl | rfl | rfl <;> rfl
theorem wc_45 (y : Cy) (g : Nat → Nat) (S : St) : (wc y g S)[45]? = some (g 45, .inl (y.1, 5, .inl (S.1 45))) := rfl
theorem wcs_45 (y : Cy) (g : Nat → Nat) (S : St) (f : Nat → Int32) : (wc y g S).set 45 (g 45, .inl (y.1, 5, .inl f)) = wc y g (wrow S 45 f) := rfl
theorem wc_46 (y : Cy) (g : Nat → Nat) (S : St) : (wc y g S)[46]? = some (g 46, .inl (y.1, 5, .inl (S.1 46))) := rfl
theorem wcs_46 (y : Cy) (g : Nat → Nat) (S : St) (f : Nat → Int32) : (wc y g S).set 46 (g 46, .inl (y.1, 5, .inl f)) = wc y g (wrow S 46 f) := rfl
theorem wc_47 (y : Cy) (g : Nat → Nat) (S : St) : (wc y g S)[47]? = some (g 47, .inl (y.1, 5, .inl (S.1 47))) := rfl
theorem wcs_47 (y : Cy) (g : Nat → Nat) (S : St) (f : Nat → Int32) : (wc y g S).set 47 (g 47, .inl (y.1, 5, .inl f)) = wc y g (wrow S 47 f) := rfl
theorem wc_48 (y : Cy) (g : Nat → Nat) (S : St) : (wc y g S)[48]? = some (g 48, .inl (y.1, 5, .inl (S.1 48))) := rfl
theorem wcs_48 (y : Cy) (g : Nat → Nat) (S : St) (f : Nat → Int32) : (wc y g S).set 48 (g 48, .inl (y.1, 5, .inl f)) = wc y g (wrow S 48 f) := rfl
theorem wc_49 (y : Cy) (g : Nat → Nat) (S : St) : (wc y g S)[49]? = some (g 49, .inl (y.1, 5, .inl (S.1 49))) := rfl
theorem wcs_49 (y : Cy) (g : Nat → Nat) (S : St) (f : Nat → Int32) : (wc y g S).set 49 (g 49, .inl (y.1, 5, .inl f)) = wc y g (wrow S 49 f) := rfl
theorem wc_50 (y : Cy) (g : Nat → Nat) (S : St) : (wc y g S)[50]? = some (g 50, .inl (y.1, 5, .inl (S.1 50))) := rfl
theorem wcs_50 (y : Cy) (g : Nat → Nat) (S : St) (f : Nat → Int32) : (wc y g S).set 50 (g 50, .inl (y.1, 5, .inl f)) = wc y g (wrow S 50 f) := rfl
theorem wc_51 (y : Cy) (g : Nat → Nat) (S : St) : (wc y g S)[51]? = some (g 51, .inl (y.1, 5, .inl (S.1 51))) := rfl
theorem wcs_51 (y : Cy) (g : Nat → Nat) (S : St) (f : Nat → Int32) : (wc y g S).set 51 (g 51, .inl (y.1, 5, .inl f)) = wc y g (wrow S 51 f) := rfl
theorem wc_fst (y : Cy) (g : Nat → Nat) (S : St) : (wc y g S).map Prod.fst = (List.range 52).map g := rfl
theorem wc_ok (y : Cy) (g : Nat → Nat) : Wok (wc y g) (AC g) := by
  refine ⟨fun S k q hk sz => ?_, fun a b q hab h => ?_, fun sz q h => Or.inr h⟩
  · have h1 : ((wc y g S).map Prod.fst)[k]? = some q.1 := by rw [List.getElem?_map, hk]; rfl
    rw [wc_fst, List.getElem?_map] at h1
    cases h2 : (List.range 52)[k]? with
    | none => rw [h2] at h1; cases h1
    | some i =>
      rw [h2] at h1
      have h3 : i < 52 := List.mem_range.mp (List.mem_of_getElem? h2)
      exact Or.inl ⟨i, h3, (Option.some.inj h1).symm⟩
  · rcases h with h | h
    · exact Or.inl h
    · exact Or.inr (Nat.le_trans hab h)
def wm (y : Cy) (g : Nat → Nat) (S : St) : va_W :=
  [(g 0, .inr (6, [.int (S.1 0 0), .ref (g 1), .ref (g 2), .int (S.1 0 3), .ref (g 3), .ref (g 4), .ref (g 5), .ref (g 6), .int (S.1 0 8), .int (S.1 0 9), .int (S.1 0 10), .int (S.1 0 11), .int (S.1 0 12), .int (S.1 0 13), .int (S.1 0 14), .int (S.1 0 15), .int (S.1 0 16), .int (S.1 0 17), .int (S.1 0 18), .int (S.1 0 19), .ref (g 7), .ref (g 8), .ref (g 9), .ref (g 10), .ref (g 11), .ref (g 12), .int (S.1 0 26), .int (S.1 0 27), .int (S.1 0 28), .ref (g 13), .ref (g 14), .ref (g 15), .ref (g 16), .ref (g 17), .ref (g 18), .ref (g 19), .ref (g 20)])),
   (g 1, .inl (y.1, 8, .inl (S.1 1))),
   (g 2, .inl (y.1, 8, .inl (S.1 2))),
   (g 3, .inl (y.1, 5, .inl (S.1 3))),
   (g 4, .inl (y.1, 5, .inl (S.1 4))),
   (g 5, .inl (y.1, 40, .inl (S.1 5))),
   (g 6, .inl (y.1, 40, .inl (S.1 6))),
   (g 7, .inl (y.1, 150, .inl (S.1 7))),
   (g 8, .inl (y.1, 150, .inl (S.1 8))),
   (g 9, .inl (y.1, 150, .inl (S.1 9))),
   (g 10, .inl (y.1, 150, .inl (S.1 10))),
   (g 11, .inl (y.2.1, 150, .inl (S.1 11))),
   (g 12, .inl (y.1, 150, .inl (S.1 12))),
   (g 13, .inl (y.1, 8, .inl (S.1 13))),
   (g 14, .inl (y.1, 150, .inl (S.1 14))),
   (g 15, .inl (y.1, 150, .inl (S.1 15))),
   (g 16, .inl (y.1, 5, .inl (S.1 16))),
   (g 17, .inl (y.2.2.2, 5, .inr (.inl S.2))),
   (g 18, .inl (y.1, 5, .inl (S.1 18))),
   (g 19, .inl (y.2.1, 150, .inl (S.1 19))),
   (g 20, .inl (y.1, 150, .inl (S.1 20)))]
def AM (g : Nat → Nat) (sz : Nat) : Nat → Prop := fun q => (∃ k, k < 21 ∧ q = g k) ∨ sz ≤ q
theorem wm_0 (y : Cy) (g : Nat → Nat) (S : St) : (wm y g S)[0]? = some (g 0, .inr (6, [.int (S.1 0 0), .ref (g 1), .ref (g 2), .int (S.1 0 3), .ref (g 3), .ref (g 4), .ref (g 5), .ref (g 6), .int (S.1 0 8), .int (S.1 0 9), .int (S.1 0 10), .int (S.1 0 11), .int (S.1 0 12), .int (S.1 0 13), .int (S.1 0 14), .int (S.1 0 15), .int (S.1 0 16), .int (S.1 0 17), .int (S.1 0 18), .int (S.1 0 19), .ref (g 7), .ref (g 8), .ref (g 9), .ref (g 10), .ref (g 11), .ref (g 12), .int (S.1 0 26), .int (S.1 0 27), .int (S.1 0 28), .ref (g 13), .ref (g 14), .ref (g 15), .ref (g 16), .ref (g 17), .ref (g 18), .ref (g 19), .ref (g 20)])) := rfl
theorem wmf_0_0 (y : Cy) (g : Nat → Nat) (S : St) (v : Int32) : (wm y g S).set 0 (g 0, .inr (6, ([.int (S.1 0 0), .ref (g 1), .ref (g 2), .int (S.1 0 3), .ref (g 3), .ref (g 4), .ref (g 5), .ref (g 6), .int (S.1 0 8), .int (S.1 0 9), .int (S.1 0 10), .int (S.1 0 11), .int (S.1 0 12), .int (S.1 0 13), .int (S.1 0 14), .int (S.1 0 15), .int (S.1 0 16), .int (S.1 0 17), .int (S.1 0 18), .int (S.1 0 19), .ref (g 7), .ref (g 8), .ref (g 9), .ref (g 10), .ref (g 11), .ref (g 12), .int (S.1 0 26), .int (S.1 0 27), .int (S.1 0 28), .ref (g 13), .ref (g 14), .ref (g 15), .ref (g 16), .ref (g 17), .ref (g 18), .ref (g 19), .ref (g 20)] : List Value).set 0 (.int v))) = wm y g (wr S 0 0 v) := rfl
theorem wmf_0_3 (y : Cy) (g : Nat → Nat) (S : St) (v : Int32) : (wm y g S).set 0 (g 0, .inr (6, ([.int (S.1 0 0), .ref (g 1), .ref (g 2), .int (S.1 0 3), .ref (g 3), .ref (g 4), .ref (g 5), .ref (g 6), .int (S.1 0 8), .int (S.1 0 9), .int (S.1 0 10), .int (S.1 0 11), .int (S.1 0 12), .int (S.1 0 13), .int (S.1 0 14), .int (S.1 0 15), .int (S.1 0 16), .int (S.1 0 17), .int (S.1 0 18), .int (S.1 0 19), .ref (g 7), .ref (g 8), .ref (g 9), .ref (g 10), .ref (g 11), .ref (g 12), .int (S.1 0 26), .int (S.1 0 27), .int (S.1 0 28), .ref (g 13), .ref (g 14), .ref (g 15), .ref (g 16), .ref (g 17), .ref (g 18), .ref (g 19), .ref (g 20)] : List Value).set 3 (.int v))) = wm y g (wr S 0 3 v) := rfl
theorem wmf_0_8 (y : Cy) (g : Nat → Nat) (S : St) (v : Int32) : (wm y g S).set 0 (g 0, .inr (6, ([.int (S.1 0 0), .ref (g 1), .ref (g 2), .int (S.1 0 3), .ref (g 3), .ref (g 4), .ref (g 5), .ref (g 6), .int (S.1 0 8), .int (S.1 0 9), .int (S.1 0 10), .int (S.1 0 11), .int (S.1 0 12), .int (S.1 0 13), .int (S.1 0 14), .int (S.1 0 15), .int (S.1 0 16), .int (S.1 0 17), .int (S.1 0 18), .int (S.1 0 19), .ref (g 7), .ref (g 8), .ref (g 9), .ref (g 10), .ref (g 11), .ref (g 12), .int (S.1 0 26), .int (S.1 0 27), .int (S.1 0 28), .ref (g 13), .ref (g 14), .ref (g 15), .ref (g 16), .ref (g 17), .ref (g 18), .ref (g 19), .ref (g 20)] : List Value).set 8 (.int v))) = wm y g (wr S 0 8 v) := rfl
theorem wmf_0_9 (y : Cy) (g : Nat → Nat) (S : St) (v : Int32) : (wm y g S).set 0 (g 0, .inr (6, ([.int (S.1 0 0), .ref (g 1), .ref (g 2), .int (S.1 0 3), .ref (g 3), .ref (g 4), .ref (g 5), .ref (g 6), .int (S.1 0 8), .int (S.1 0 9), .int (S.1 0 10), .int (S.1 0 11), .int (S.1 0 12), .int (S.1 0 13), .int (S.1 0 14), .int (S.1 0 15), .int (S.1 0 16), .int (S.1 0 17), .int (S.1 0 18), .int (S.1 0 19), .ref (g 7), .ref (g 8), .ref (g 9), .ref (g 10), .ref (g 11), .ref (g 12), .int (S.1 0 26), .int (S.1 0 27), .int (S.1 0 28), .ref (g 13), .ref (g 14), .ref (g 15), .ref (g 16), .ref (g 17), .ref (g 18), .ref (g 19), .ref (g 20)] : List Value).set 9 (.int v))) = wm y g (wr S 0 9 v) := rfl
theorem wmf_0_10 (y : Cy) (g : Nat → Nat) (S : St) (v : Int32) : (wm y g S).set 0 (g 0, .inr (6, ([.int (S.1 0 0), .ref (g 1), .ref (g 2), .int (S.1 0 3), .ref (g 3), .ref (g 4), .ref (g 5), .ref (g 6), .int (S.1 0 8), .int (S.1 0 9), .int (S.1 0 10), .int (S.1 0 11), .int (S.1 0 12), .int (S.1 0 13), .int (S.1 0 14), .int (S.1 0 15), .int (S.1 0 16), .int (S.1 0 17), .int (S.1 0 18), .int (S.1 0 19), .ref (g 7), .ref (g 8), .ref (g 9), .ref (g 10), .ref (g 11), .ref (g 12), .int (S.1 0 26), .int (S.1 0 27), .int (S.1 0 28), .ref (g 13), .ref (g 14), .ref (g 15), .ref (g 16), .ref (g 17), .ref (g 18), .ref (g 19), .ref (g 20)] : List Value).set 10 (.int v))) = wm y g (wr S 0 10 v) := rfl
theorem wmf_0_11 (y : Cy) (g : Nat → Nat) (S : St) (v : Int32) : (wm y g S).set 0 (g 0, .inr (6, ([.int (S.1 0 0), .ref (g 1), .ref (g 2), .int (S.1 0 3), .ref (g 3), .ref (g 4), .ref (g 5), .ref (g 6), .int (S.1 0 8), .int (S.1 0 9), .int (S.1 0 10), .int (S.1 0 11), .int (S.1 0 12), .int (S.1 0 13), .int (S.1 0 14), .int (S.1 0 15), .int (S.1 0 16), .int (S.1 0 17), .int (S.1 0 18), .int (S.1 0 19), .ref (g 7), .ref (g 8), .ref (g 9), .ref (g 10), .ref (g 11), .ref (g 12), .int (S.1 0 26), .int (S.1 0 27), .int (S.1 0 28), .ref (g 13), .ref (g 14), .ref (g 15), .ref (g 16), .ref (g 17), .ref (g 18), .ref (g 19), .ref (g 20)] : List Value).set 11 (.int v))) = wm y g (wr S 0 11 v) := rfl
theorem wmf_0_12 (y : Cy) (g : Nat → Nat) (S : St) (v : Int32) : (wm y g S).set 0 (g 0, .inr (6, ([.int (S.1 0 0), .ref (g 1), .ref (g 2), .int (S.1 0 3), .ref (g 3), .ref (g 4), .ref (g 5), .ref (g 6), .int (S.1 0 8), .int (S.1 0 9), .int (S.1 0 10), .int (S.1 0 11), .int (S.1 0 12), .int (S.1 0 13), .int (S.1 0 14), .int (S.1 0 15), .int (S.1 0 16), .int (S.1 0 17), .int (S.1 0 18), .int (S.1 0 19), .ref (g 7), .ref (g 8), .ref (g 9), .ref (g 10), .ref (g 11), .ref (g 12), .int (S.1 0 26), .int (S.1 0 27), .int (S.1 0 28), .ref (g 13), .ref (g 14), .ref (g 15), .ref (g 16), .ref (g 17), .ref (g 18), .ref (g 19), .ref (g 20)] : List Value).set 12 (.int v))) = wm y g (wr S 0 12 v) := rfl
theorem wmf_0_13 (y : Cy) (g : Nat → Nat) (S : St) (v : Int32) : (wm y g S).set 0 (g 0, .inr (6, ([.int (S.1 0 0), .ref (g 1), .ref (g 2), .int (S.1 0 3), .ref (g 3), .ref (g 4), .ref (g 5), .ref (g 6), .int (S.1 0 8), .int (S.1 0 9), .int (S.1 0 10), .int (S.1 0 11), .int (S.1 0 12), .int (S.1 0 13), .int (S.1 0 14), .int (S.1 0 15), .int (S.1 0 16), .int (S.1 0 17), .int (S.1 0 18), .int (S.1 0 19), .ref (g 7), .ref (g 8), .ref (g 9), .ref (g 10), .ref (g 11), .ref (g 12), .int (S.1 0 26), .int (S.1 0 27), .int (S.1 0 28), .ref (g 13), .ref (g 14), .ref (g 15), .ref (g 16), .ref (g 17), .ref (g 18), .ref (g 19), .ref (g 20)] : List Value).set 13 (.int v))) = wm y g (wr S 0 13 v) := rfl
theorem wmf_0_14 (y : Cy) (g : Nat → Nat) (S : St) (v : Int32) : (wm y g S).set 0 (g 0, .inr (6, ([.int (S.1 0 0), .ref (g 1), .ref (g 2), .int (S.1 0 3), .ref (g 3), .ref (g 4), .ref (g 5), .ref (g 6), .int (S.1 0 8), .int (S.1 0 9), .int (S.1 0 10), .int (S.1 0 11), .int (S.1 0 12), .int (S.1 0 13), .int (S.1 0 14), .int (S.1 0 15), .int (S.1 0 16), .int (S.1 0 17), .int (S.1 0 18), .int (S.1 0 19), .ref (g 7), .ref (g 8), .ref (g 9), .ref (g 10), .ref (g 11), .ref (g 12), .int (S.1 0 26), .int (S.1 0 27), .int (S.1 0 28), .ref (g 13), .ref (g 14), .ref (g 15), .ref (g 16), .ref (g 17), .ref (g 18), .ref (g 19), .ref (g 20)] : List Value).set 14 (.int v))) = wm y g (wr S 0 14 v) := rfl
theorem wmf_0_15 (y : Cy) (g : Nat → Nat) (S : St) (v : Int32) : (wm y g S).set 0 (g 0, .inr (6, ([.int (S.1 0 0), .ref (g 1), .ref (g 2), .int (S.1 0 3), .ref (g 3), .ref (g 4), .ref (g 5), .ref (g 6), .int (S.1 0 8), .int (S.1 0 9), .int (S.1 0 10), .int (S.1 0 11), .int (S.1 0 12), .int (S.1 0 13), .int (S.1 0 14), .int (S.1 0 15), .int (S.1 0 16), .int (S.1 0 17), .int (S.1 0 18), .int (S.1 0 19), .ref (g 7), .ref (g 8), .ref (g 9), .ref (g 10), .ref (g 11), .ref (g 12), .int (S.1 0 26), .int (S.1 0 27), .int (S.1 0 28), .ref (g 13), .ref (g 14), .ref (g 15), .ref (g 16), .ref (g 17), .ref (g 18), .ref (g 19), .ref (g 20)] : List Value).set 15 (.int v))) = wm y g (wr S 0 15 v) := rfl
theorem wmf_0_16 (y : Cy) (g : Nat → Nat) (S : St) (v : Int32) : (wm y g S).set 0 (g 0, .inr (6, ([.int (S.1 0 0), .ref (g 1), .ref (g 2), .int (S.1 0 3), .ref (g 3), .ref (g 4), .ref (g 5), .ref (g 6), .int (S.1 0 8), .int (S.1 0 9), .int (S.1 0 10), .int (S.1 0 11), .int (S.1 0 12), .int (S.1 0 13), .int (S.1 0 14), .int (S.1 0 15), .int (S.1 0 16), .int (S.1 0 17), .int (S.1 0 18), .int (S.1 0 19), .ref (g 7), .ref (g 8), .ref (g 9), .ref (g 10), .ref (g 11), .ref (g 12), .int (S.1 0 26), .int (S.1 0 27), .int (S.1 0 28), .ref (g 13), .ref (g 14), .ref (g 15), .ref (g 16), .ref (g 17), .ref (g 18), .ref (g 19), .ref (g 20)] : List Value).set 16 (.int v))) = wm y g (wr S 0 16 v) := rfl
theorem wmf_0_17 (y : Cy) (g : Nat → Nat) (S : St) (v : Int32) : (wm y g S).set 0 (g 0, .inr (6, ([.int (S.1 0 0), .ref (g 1), .ref (g 2), .int (S.1 0 3), .ref (g 3), .ref (g 4), .ref (g 5), .ref (g 6), .int (S.1 0 8), .int (S.1 0 9), .int (S.1 0 10), .int (S.1 0 11), .int (S.1 0 12), .int (S.1 0 13), .int (S.1 0 14), .int (S.1 0 15), .int (S.1 0 16), .int (S.1 0 17), .int (S.1 0 18), .int (S.1 0 19), .ref (g 7), .ref (g 8), .ref (g 9), .ref (g 10), .ref (g 11), .ref (g 12), .int (S.1 0 26), .int (S.1 0 27), .int (S.1 0 28), .ref (g 13), .ref (g 14), .ref (g 15), .ref (g 16), .ref (g 17), .ref (g 18), .ref (g 19), .ref (g 20)] : List Value).set 17 (.int v))) = wm y g (wr S 0 17 v) := rfl
theorem wmf_0_18 (y : Cy) (g : Nat → Nat) (S : St) (v : Int32) : (wm y g S).set 0 (g 0, .inr (6, ([.int (S.1 0 0), .ref (g 1), .ref (g 2), .int (S.1 0 3), .ref (g 3), .ref (g 4), .ref (g 5), .ref (g 6), .int (S.1 0 8), .int (S.1 0 9), .int (S.1 0 10), .int (S.1 0 11), .int (S.1 0 12), .int (S.1 0 13), .int (S.1 0 14), .int (S.1 0 15), .int (S.1 0 16), .int (S.1 0 17), .int (S.1 0 18), .int (S.1 0 19), .ref (g 7), .ref (g 8), .ref (g 9), .ref (g 10), .ref (g 11), .ref (g 12), .int (S.1 0 26), .int (S.1 0 27), .int (S.1 0 28), .ref (g 13), .ref (g 14), .ref (g 15), .ref (g 16), .ref (g 17), .ref (g 18), .ref (g 19), .ref (g 20)] : List Value).set 18 (.int v))) = wm y g (wr S 0 18 v) := rfl
theorem wmf_0_19 (y : Cy) (g : Nat → Nat) (S : St) (v : Int32) : (wm y g S).set 0 (g 0, .inr (6, ([.int (S.1 0 0), .ref (g 1), .ref (g 2), .int (S.1 0 3), .ref (g 3), .ref (g 4), .ref (g 5), .ref (g 6), .int (S.1 0 8), .int (S.1 0 9), .int (S.1 0 10), .int (S.1 0 11), .int (S.1 0 12), .int (S.1 0 13), .int (S.1 0 14), .int (S.1 0 15), .int (S.1 0 16), .int (S.1 0 17), .int (S.1 0 18), .int (S.1 0 19), .ref (g 7), .ref (g 8), .ref (g 9), .ref (g 10), .ref (g 11), .ref (g 12), .int (S.1 0 26), .int (S.1 0 27), .int (S.1 0 28), .ref (g 13), .ref (g 14), .ref (g 15), .ref (g 16), .ref (g 17), .ref (g 18), .ref (g 19), .ref (g 20)] : List Value).set 19 (.int v))) = wm y g (wr S 0 19 v) := rfl
theorem wmf_0_26 (y : Cy) (g : Nat → Nat) (S : St) (v : Int32) : (wm y g S).set 0 (g 0, .inr (6, ([.int (S.1 0 0), .ref (g 1), .ref (g 2), .int (S.1 0 3), .ref (g 3), .ref (g 4), .ref (g 5), .ref (g 6), .int (S.1 0 8), .int (S.1 0 9), .int (S.1 0 10), .int (S.1 0 11), .int (S.1 0 12), .int (S.1 0 13), .int (S.1 0 14), .int (S.1 0 15), .int (S.1 0 16), .int (S.1 0 17), .int (S.1 0 18), .int (S.1 0 19), .ref (g 7), .ref (g 8), .ref (g 9), .ref (g 10), .ref (g 11), .ref (g 12), .int (S.1 0 26), .int (S.1 0 27), .int (S.1 0 28), .ref (g 13), .ref (g 14), .ref (g 15), .ref (g 16), .ref (g 17), .ref (g 18), .ref (g 19), .ref (g 20)] : List Value).set 26 (.int v))) = wm y g (wr S 0 26 v) := rfl
theorem wmf_0_27 (y : Cy) (g : Nat → Nat) (S : St) (v : Int32) : (wm y g S).set 0 (g 0, .inr (6, ([.int (S.1 0 0), .ref (g 1), .ref (g 2), .int (S.1 0 3), .ref (g 3), .ref (g 4), .ref (g 5), .ref (g 6), .int (S.1 0 8), .int (S.1 0 9), .int (S.1 0 10), .int (S.1 0 11), .int (S.1 0 12), .int (S.1 0 13), .int (S.1 0 14), .int (S.1 0 15), .int (S.1 0 16), .int (S.1 0 17), .int (S.1 0 18), .int (S.1 0 19), .ref (g 7), .ref (g 8), .ref (g 9), .ref (g 10), .ref (g 11), .ref (g 12), .int (S.1 0 26), .int (S.1 0 27), .int (S.1 0 28), .ref (g 13), .ref (g 14), .ref (g 15), .ref (g 16), .ref (g 17), .ref (g 18), .ref (g 19), .ref (g 20)] : List Value).set 27 (.int v))) = wm y g (wr S 0 27 v) := rfl
theorem wmf_0_28 (y : Cy) (g : Nat → Nat) (S : St) (v : Int32) : (wm y g S).set 0 (g 0, .inr (6, ([.int (S.1 0 0), .ref (g 1), .ref (g 2), .int (S.1 0 3), .ref (g 3), .ref (g 4), .ref (g 5), .ref (g 6), .int (S.1 0 8), .int (S.1 0 9), .int (S.1 0 10), .int (S.1 0 11), .int (S.1 0 12), .int (S.1 0 13), .int (S.1 0 14), .int (S.1 0 15), .int (S.1 0 16), .int (S.1 0 17), .int (S.1 0 18), .int (S.1 0 19), .ref (g 7), .ref (g 8), .ref (g 9), .ref (g 10), .ref (g 11), .ref (g 12), .int (S.1 0 26), .int (S.1 0 27), .int (S.1 0 28), .ref (g 13), .ref (g 14), .ref (g 15), .ref (g 16), .ref (g 17), .ref (g 18), .ref (g 19), .ref (g 20)] : List Value).set 28 (.int v))) = wm y g (wr S 0 28 v) := rfl
theorem wm_1 (y : Cy) (g : Nat → Nat) (S : St) : (wm y g S)[1]? = some (g 1, .inl (y.1, 8, .inl (S.1 1))) := rfl
theorem wms_1 (y : Cy) (g : Nat → Nat) (S : St) (f : Nat → Int32) : (wm y g S).set 1 (g 1, .inl (y.1, 8, .inl f)) = wm y g (wrow S 1 f) := rfl
theorem wm_2 (y : Cy) (g : Nat → Nat) (S : St) : (wm y g S)[2]? = some (g 2, .inl (y.1, 8, .inl (S.1 2))) := rfl
theorem wms_2 (y : Cy) (g : Nat → Nat) (S : St) (f : Nat → Int32) : (wm y g S).set 2 (g 2, .inl (y.1, 8, .inl f)) = wm y g (wrow S 2 f) := rfl
theorem wm_3 (y : Cy) (g : Nat → Nat) (S : St) : (wm y g S)[3]? = some (g 3, .inl (y.1, 5, .inl (S.1 3))) := rfl
theorem wms_3 (y : Cy) (g : Nat → Nat) (S : St) (f : Nat → Int32) : (wm y g S).set 3 (g 3, .inl (y.1, 5, .inl f)) = wm y g (wrow S 3 f) := rfl
theorem wm_4 (y : Cy) (g : Nat → Nat) (S : St) : (wm y g S)[4]? = some (g 4, .inl (y.1, 5, .inl (S.1 4))) := rfl
theorem wms_4 (y : Cy) (g : Nat → Nat) (S : St) (f : Nat → Int32) : (wm y g S).set 4 (g 4, .inl (y.1, 5, .inl f)) = wm y g (wrow S 4 f) := rfl
theorem wm_5 (y : Cy) (g : Nat → Nat) (S : St) : (wm y g S)[5]? = some (g 5, .inl (y.1, 40, .inl (S.1 5))) := rfl
theorem wms_5 (y : Cy) (g : Nat → Nat) (S : St) (f : Nat → Int32) : (wm y g S).set 5 (g 5, .inl (y.1, 40, .inl f)) = wm y g (wrow S 5 f) := rfl
theorem wm_6 (y : Cy) (g : Nat → Nat) (S : St) : (wm y g S)[6]? = some (g 6, .inl (y.1, 40, .inl (S.1 6))) := rfl
theorem wms_6 (y : Cy) (g : Nat → Nat) (S : St) (f : Nat → Int32) : (wm y g S).set 6 (g 6, .inl (y.1, 40, .inl f)) = wm y g (wrow S 6 f) := rfl
theorem wm_7 (y : Cy) (g : Nat → Nat) (S : St) : (wm y g S)[7]? = some (g 7, .inl (y.1, 150, .inl (S.1 7))) := rfl
theorem wms_7 (y : Cy) (g : Nat → Nat) (S : St) (f : Nat → Int32) : (wm y g S).set 7 (g 7, .inl (y.1, 150, .inl f)) = wm y g (wrow S 7 f) := rfl
theorem wm_8 (y : Cy) (g : Nat → Nat) (S : St) : (wm y g S)[8]? = some (g 8, .inl (y.1, 150, .inl (S.1 8))) := rfl
theorem wms_8 (y : Cy) (g : Nat → Nat) (S : St) (f : Nat → Int32) : (wm y g S).set 8 (g 8, .inl (y.1, 150, .inl f)) = wm y g (wrow S 8 f) := rfl
theorem wm_9 (y : Cy) (g : Nat → Nat) (S : St) : (wm y g S)[9]? = some (g 9, .inl (y.1, 150, .inl (S.1 9))) := rfl
theorem wms_9 (y : Cy) (g : Nat → Nat) (S : St) (f : Nat → Int32) : (wm y g S).set 9 (g 9, .inl (y.1, 150, .inl f)) = wm y g (wrow S 9 f) := rfl
theorem wm_10 (y : Cy) (g : Nat → Nat) (S : St) : (wm y g S)[10]? = some (g 10, .inl (y.1, 150, .inl (S.1 10))) := rfl
theorem wms_10 (y : Cy) (g : Nat → Nat) (S : St) (f : Nat → Int32) : (wm y g S).set 10 (g 10, .inl (y.1, 150, .inl f)) = wm y g (wrow S 10 f) := rfl
theorem wm_11 (y : Cy) (g : Nat → Nat) (S : St) : (wm y g S)[11]? = some (g 11, .inl (y.2.1, 150, .inl (S.1 11))) := rfl
theorem wms_11 (y : Cy) (g : Nat → Nat) (S : St) (f : Nat → Int32) : (wm y g S).set 11 (g 11, .inl (y.2.1, 150, .inl f)) = wm y g (wrow S 11 f) := rfl
theorem wm_12 (y : Cy) (g : Nat → Nat) (S : St) : (wm y g S)[12]? = some (g 12, .inl (y.1, 150, .inl (S.1 12))) := rfl
theorem wms_12 (y : Cy) (g : Nat → Nat) (S : St) (f : Nat → Int32) : (wm y g S).set 12 (g 12, .inl (y.1, 150, .inl f)) = wm y g (wrow S 12 f) := rfl
theorem wm_13 (y : Cy) (g : Nat → Nat) (S : St) : (wm y g S)[13]? = some (g 13, .inl (y.1, 8, .inl (S.1 13))) := rfl
theorem wms_13 (y : Cy) (g : Nat → Nat) (S : St) (f : Nat → Int32) : (wm y g S).set 13 (g 13, .inl (y.1, 8, .inl f)) = wm y g (wrow S 13 f) := rfl
theorem wm_14 (y : Cy) (g : Nat → Nat) (S : St) : (wm y g S)[14]? = some (g 14, .inl (y.1, 150, .inl (S.1 14))) := rfl
theorem wms_14 (y : Cy) (g : Nat → Nat) (S : St) (f : Nat → Int32) : (wm y g S).set 14 (g 14, .inl (y.1, 150, .inl f)) = wm y g (wrow S 14 f) := rfl
theorem wm_15 (y : Cy) (g : Nat → Nat) (S : St) : (wm y g S)[15]? = some (g 15, .inl (y.1, 150, .inl (S.1 15))) := rfl
theorem wms_15 (y : Cy) (g : Nat → Nat) (S : St) (f : Nat → Int32) : (wm y g S).set 15 (g 15, .inl (y.1, 150, .inl f)) = wm y g (wrow S 15 f) := rfl
theorem wm_16 (y : Cy) (g : Nat → Nat) (S : St) : (wm y g S)[16]? = some (g 16, .inl (y.1, 5, .inl (S.1 16))) := rfl
theorem wms_16 (y : Cy) (g : Nat → Nat) (S : St) (f : Nat → Int32) : (wm y g S).set 16 (g 16, .inl (y.1, 5, .inl f)) = wm y g (wrow S 16 f) := rfl
theorem wm_17 (y : Cy) (g : Nat → Nat) (S : St) : (wm y g S)[17]? = some (g 17, .inl (y.2.2.2, 5, .inr (.inl S.2))) := rfl
theorem wms_17 (y : Cy) (g : Nat → Nat) (S : St) (f : Nat → Int64) : (wm y g S).set 17 (g 17, .inl (y.2.2.2, 5, .inr (.inl f))) = wm y g (S.1, f) := rfl
theorem wm_18 (y : Cy) (g : Nat → Nat) (S : St) : (wm y g S)[18]? = some (g 18, .inl (y.1, 5, .inl (S.1 18))) := rfl
theorem wms_18 (y : Cy) (g : Nat → Nat) (S : St) (f : Nat → Int32) : (wm y g S).set 18 (g 18, .inl (y.1, 5, .inl f)) = wm y g (wrow S 18 f) := rfl
theorem wm_19 (y : Cy) (g : Nat → Nat) (S : St) : (wm y g S)[19]? = some (g 19, .inl (y.2.1, 150, .inl (S.1 19))) := rfl
theorem wms_19 (y : Cy) (g : Nat → Nat) (S : St) (f : Nat → Int32) : (wm y g S).set 19 (g 19, .inl (y.2.1, 150, .inl f)) = wm y g (wrow S 19 f) := rfl
theorem wm_20 (y : Cy) (g : Nat → Nat) (S : St) : (wm y g S)[20]? = some (g 20, .inl (y.1, 150, .inl (S.1 20))) := rfl
theorem wms_20 (y : Cy) (g : Nat → Nat) (S : St) (f : Nat → Int32) : (wm y g S).set 20 (g 20, .inl (y.1, 150, .inl f)) = wm y g (wrow S 20 f) := rfl
theorem wm_fst (y : Cy) (g : Nat → Nat) (S : St) : (wm y g S).map Prod.fst = (List.range 21).map g := rfl
theorem wm_ok (y : Cy) (g : Nat → Nat) : Wok (wm y g) (AM g) := by
  refine ⟨fun S k q hk sz => ?_, fun a b q hab h => ?_, fun sz q h => Or.inr h⟩
  · have h1 : ((wm y g S).map Prod.fst)[k]? = some q.1 := by rw [List.getElem?_map, hk]; rfl
    rw [wm_fst, List.getElem?_map] at h1
    cases h2 : (List.range 21)[k]? with
    | none => rw [h2] at h1; cases h1
    | some i =>
      rw [h2] at h1
      have h3 : i < 21 := List.mem_range.mp (List.mem_of_getElem? h2)
      exact Or.inl ⟨i, h3, (Option.some.inj h1).symm⟩
  · rcases h with h | h
    · exact Or.inl h
    · exact Or.inr (Nat.le_trans hab h)
def itN {α : Type} (z : α) (F : α → α) : Nat → α
  | 0 => z
  | n + 1 => F (itN z F n)
def jn {γ β : Type} (K : γ) (B : γ → Option β) : Option β := B K
theorem m_it {γ : Type} {z : γ} {F : γ → γ} (N : Nat) (PR : γ → Prop) (h0 : PR z) (hs : ∀ r, PR r → PR (F r)) : PR (itN z F N) := by
  induction N with
  | zero => exact h0
  | succ n ih => exact hs _ ih
theorem m_itK {κ γ : Type} {K : κ} {z : γ} {F : κ → γ → γ} (N : Nat) (PK : κ → Prop) (PR : γ → Prop) (h0 : PR z) (hK : PK K) (hs : ∀ K, PK K → ∀ r, PR r → PR (F K r)) : PR (itN z (F K) N) := by
  induction N with
  | zero => exact h0
  | succ n ih => exact hs _ hK _ ih
section SIM2
variable {p : Program} {l : Launch} {e : Env} {R : Room} {s : State} {m : MethodId} {args : Array Value} {below : List Frame} {meth : Method} {c : Code} {Q : State → Prop}
variable {cc : ByteArray} {D : va_G} {cl : List vw_C} {tys : List (ClassId × FieldType)} {wd : St → va_W} {A : Nat → Prop} {nL : Nat} {Ts : List Cond} {own : String}
variable {β : Type} {x0 : β} {S : St} {pc : Nat} {lv : List (Nat × Value)} {st : List Value}
theorem m_none : Sm p l e R s m args below meth c D cl wd A nL Q x0 none S pc lv st := fun hd => by cases hd
theorem m_jn {γ : Type} {K : γ} {B : γ → Option β} (P : γ → Prop) (h1 : P K) (h2 : ∀ J, P J → Sm p l e R s m args below meth c D cl wd A nL Q x0 (B J) S pc lv st) : Sm p l e R s m args below meth c D cl wd A nL Q x0 (jn K B) S pc lv st := h2 K h1
theorem m_if {q : Prop} [Decidable q] {dt de : Option β} (h1 : q → Sm p l e R s m args below meth c D cl wd A nL Q x0 dt S pc lv st) (h2 : ¬ q → Sm p l e R s m args below meth c D cl wd A nL Q x0 de S pc lv st) : Sm p l e R s m args below meth c D cl wd A nL Q x0 (if q then dt else de) S pc lv st := by
  by_cases h : q
  · rw [if_pos h]; exact h1 h
  · rw [if_neg h]; exact h2 h
theorem m_tin (hC : Cx p m c cc nL s args Ts own D cl tys) {d : Option β} {dflt lo hi : Int} {offs : Array Int} {len : Nat} {x : Int32} {off : Int} (v : Int) (tgt : Nat) (hv : x.toInt = v) (hdg : decode cc pc = .ok (.tableswitch dflt lo hi offs, len)) (h1 : ¬ v < lo) (h2 : ¬ hi < v) (ho : offs[(v - lo).toNat]? = some off) (ht : (pc : Int) + off = (tgt : Int)) (kk : Sm p l e R s m args below meth c D cl wd A nL Q x0 d S tgt lv st) : Sm p l e R s m args below meth c D cl wd A nL Q x0 d S pc lv (.int x :: st) := by
  subst hv
  exact fun hd H locs hP hD hS ls hl => lv_tableIn hC.1.1 hC.1.2.1 hdg h1 h2 ho ht (kk hd H locs hP hD hS ls hl)
theorem m_tout (hC : Cx p m c cc nL s args Ts own D cl tys) {d : Option β} {dflt lo hi : Int} {offs : Array Int} {len : Nat} {x : Int32} (tgt : Nat) (hdg : decode cc pc = .ok (.tableswitch dflt lo hi offs, len)) (h : x.toInt < lo ∨ hi < x.toInt) (ht : (pc : Int) + dflt = (tgt : Int)) (kk : Sm p l e R s m args below meth c D cl wd A nL Q x0 d S tgt lv st) : Sm p l e R s m args below meth c D cl wd A nL Q x0 d S pc lv (.int x :: st) :=
  fun hd H locs hP hD hS ls hl => lv_tableOut hC.1.1 hC.1.2.1 hdg h ht (kk hd H locs hP hD hS ls hl)
end SIM2
end
section
def fJ6_bitCount_0f7a4 (a : Int32) : Option (Int32) :=
  nmI (a - ((usI a 1) &&& 1431655765)) fun x1 =>
  nmI ((x1 &&& 858993459) + ((usI x1 2) &&& 858993459)) fun x2 =>
  nmI ((x2 + (usI x2 4)) &&& 252645135) fun x3 =>
  nmI (x3 + (usI x3 8)) fun x4 =>
  nmI (x4 + (usI x4 16)) fun x5 =>
  some (x5 &&& 63)
abbrev rmJ6_bitCount_0f7a4 : Room := { frames := 0, cells := 0, slots := 0, locals := 0 }
set_option maxHeartbeats 4000000 in
set_option maxRecDepth 100000 in
theorem kJ6_bitCount_0f7a4 (l : Launch) (D : va_G) (y : Cy) (g : Nat → Nat) (a : Int32) (S : St) (x0 : Int32) (h : fJ6_bitCount_0f7a4 a = some x0) : KI l yJ6_bitCount_0f7a4 wsJ6_bitCount_0f7a4 rmJ6_bitCount_0f7a4 D vwCl (tz y) (wc y g) (AC g) [.int a] S (fun r S2 => r = x0 ∧ S2 = S) := by
  refine m_entryIP (wc_ok y g) (by decide) rfl (Nat.le_of_ble_eq_true rfl) (lv := [(0, .int a)]) rfl h ?_
  intro p e s m args below meth c hC hr hlocks
  obtain ⟨Q, hQ⟩ : ∃ Q, Q = (MQ below (va_Qi (fun r S2 => r = x0 ∧ S2 = S) (Bw D vwCl (tz y) (wc y g) (AC g s.heap.size)) (AC g s.heap.size)) args s 0 0 (AC g s.heap.size)) := ⟨_, rfl⟩
  rw [← hQ]
  have hret : ∀ (v : Int32) (pc : Nat) (lv : List (Nat × Value)), decode cJ6_bitCount_0f7a4 pc = .ok (.ireturn, 1) → Sm p l e (headSpec wsJ6_bitCount_0f7a4 rmJ6_bitCount_0f7a4).room s m args below meth c D vwCl (wc y g) (AC g s.heap.size) 1 Q x0 (some v) S pc lv [.int v] := by
    rw [hQ]
    exact fun v pc lv hd => m_iretP hC hr hlocks hd
  clear hQ
  unfold fJ6_bitCount_0f7a4
  refine m_iload_n hC dJ6_bitCount_0f7a4_0 0 rfl ?_
  refine m_iload_n hC dJ6_bitCount_0f7a4_1 0 rfl ?_
  refine m_iconst hC (1) dJ6_bitCount_0f7a4_2 (by decide) ?_
  refine m_iushr hC dJ6_bitCount_0f7a4_3 ?_
  refine m_ldcw hC (List.mem_of_getElem? (i := 1) rfl) dJ6_bitCount_0f7a4_4 ?_
  refine m_iand hC dJ6_bitCount_0f7a4_7 ?_
  refine m_isub hC dJ6_bitCount_0f7a4_8 ?_
  refine m_nmI ?_
  intro x1
  refine m_istore_n hC [(0, .int x1)] [0] dJ6_bitCount_0f7a4_9 (by decide) rfl rfl ?_
  refine m_iload_n hC dJ6_bitCount_0f7a4_10 0 rfl ?_
  refine m_ldcw hC (List.mem_of_getElem? (i := 2) rfl) dJ6_bitCount_0f7a4_11 ?_
  refine m_iand hC dJ6_bitCount_0f7a4_14 ?_
  refine m_iload_n hC dJ6_bitCount_0f7a4_15 0 rfl ?_
  refine m_iconst hC (2) dJ6_bitCount_0f7a4_16 (by decide) ?_
  refine m_iushr hC dJ6_bitCount_0f7a4_17 ?_
  refine m_ldcw hC (List.mem_of_getElem? (i := 2) rfl) dJ6_bitCount_0f7a4_18 ?_
  refine m_iand hC dJ6_bitCount_0f7a4_21 ?_
  refine m_iadd hC dJ6_bitCount_0f7a4_22 ?_
  refine m_nmI ?_
  intro x2
  refine m_istore_n hC [(0, .int x2)] [0] dJ6_bitCount_0f7a4_23 (by decide) rfl rfl ?_
  refine m_iload_n hC dJ6_bitCount_0f7a4_24 0 rfl ?_
  refine m_iload_n hC dJ6_bitCount_0f7a4_25 0 rfl ?_
  refine m_iconst hC (4) dJ6_bitCount_0f7a4_26 (by decide) ?_
  refine m_iushr hC dJ6_bitCount_0f7a4_27 ?_
  refine m_iadd hC dJ6_bitCount_0f7a4_28 ?_
  refine m_ldcw hC (List.mem_of_getElem? (i := 3) rfl) dJ6_bitCount_0f7a4_29 ?_
  refine m_iand hC dJ6_bitCount_0f7a4_32 ?_
  refine m_nmI ?_
  intro x3
  refine m_istore_n hC [(0, .int x3)] [0] dJ6_bitCount_0f7a4_33 (by decide) rfl rfl ?_
  refine m_iload_n hC dJ6_bitCount_0f7a4_34 0 rfl ?_
  refine m_iload_n hC dJ6_bitCount_0f7a4_35 0 rfl ?_
  refine m_bipush hC (8) dJ6_bitCount_0f7a4_36 (by decide) ?_
  refine m_iushr hC dJ6_bitCount_0f7a4_38 ?_
  refine m_iadd hC dJ6_bitCount_0f7a4_39 ?_
  refine m_nmI ?_
  intro x4
  refine m_istore_n hC [(0, .int x4)] [0] dJ6_bitCount_0f7a4_40 (by decide) rfl rfl ?_
  refine m_iload_n hC dJ6_bitCount_0f7a4_41 0 rfl ?_
  refine m_iload_n hC dJ6_bitCount_0f7a4_42 0 rfl ?_
  refine m_bipush hC (16) dJ6_bitCount_0f7a4_43 (by decide) ?_
  refine m_iushr hC dJ6_bitCount_0f7a4_45 ?_
  refine m_iadd hC dJ6_bitCount_0f7a4_46 ?_
  refine m_nmI ?_
  intro x5
  refine m_istore_n hC [(0, .int x5)] [0] dJ6_bitCount_0f7a4_47 (by decide) rfl rfl ?_
  refine m_iload_n hC dJ6_bitCount_0f7a4_48 0 rfl ?_
  refine m_bipush hC (63) dJ6_bitCount_0f7a4_49 (by decide) ?_
  refine m_iand hC dJ6_bitCount_0f7a4_51 ?_
  exact hret _ _ _ dJ6_bitCount_0f7a4_52
def fJ7_fill_53178_L5 (b : Int32) (x1 : Int32) (k : Nat) (n : Nat) (r4 : Int32 → St → Option (St)) : Int32 → St → Option (St) := fun x2 S3 =>
  if x2 < x1 then
    stI S3 k n x2 b fun S5 =>
    nmI (x2 + 1) fun x6 =>
    r4 x6 S5
  else
    some S3
def fJ7_fill_53178 (N : Nat) (k : Nat) (n : Nat) (b : Int32) (S : St) : Option (St) :=
  nmI (nI n) fun x1 =>
  itN (fun _ _ => none) (fJ7_fill_53178_L5 b x1 k n) N 0 S
abbrev rmJ7_fill_53178 : Room := { frames := 0, cells := 0, slots := 0, locals := 0 }
set_option maxHeartbeats 4000000 in
set_option maxRecDepth 100000 in
theorem kJ7_fill_53178 (l : Launch) (D : va_G) (y : Cy) (g : Nat → Nat) (N : Nat) (k : Nat) (n : Nat) (b : Int32) (ha : ∀ S : St, (wc y g S)[k]? = some (g k, .inl (y.1, n, .inl (S.1 k)))) (hset : ∀ (S : St) (f : Nat → Int32), (wc y g S).set k (g k, .inl (y.1, n, .inl f)) = wc y g (wrow S k f)) (S : St) (x0 : St) (h : fJ7_fill_53178 N k n b S = some x0) : KV l yJ7_fill_53178 wsJ7_fill_53178 rmJ7_fill_53178 D vwCl (tz y) (wc y g) (AC g) [.ref (g k), .int b] S (fun S2 => S2 = x0) := by
  refine m_entryV (wc_ok y g) (by decide) rfl (Nat.le_of_ble_eq_true rfl) (lv := [(0, .ref (g k)), (1, .int b)]) rfl h ?_
  intro p e s m args below meth c hC hr hlocks
  obtain ⟨Q, hQ⟩ : ∃ Q, Q = (MQ below (va_Qv (fun S2 => S2 = x0) (Bw D vwCl (tz y) (wc y g) (AC g s.heap.size)) (AC g s.heap.size)) args s 0 0 (AC g s.heap.size)) := ⟨_, rfl⟩
  rw [← hQ]
  have hret : ∀ (S2 : St) (pc : Nat) (lv : List (Nat × Value)), decode cJ7_fill_53178 pc = .ok (.return_, 1) → Sm p l e (headSpec wsJ7_fill_53178 rmJ7_fill_53178).room s m args below meth c D vwCl (wc y g) (AC g s.heap.size) 4 Q x0 (some S2) S2 pc lv [] := by
    rw [hQ]
    exact fun S2 pc lv hd => m_vret hC hr hlocks hd
  clear hQ
  unfold fJ7_fill_53178
  refine m_iconst hC (0) dJ7_fill_53178_0 (by decide) ?_
  refine m_istore_n hC [(0, .ref (g k)), (1, .int b), (2, .int 0)] [1, 2, 0] dJ7_fill_53178_1 (by decide) rfl rfl ?_
  refine m_aload_n hC dJ7_fill_53178_2 0 rfl ?_
  refine m_alen hC (ha S) (t0 := 0) rfl dJ7_fill_53178_3 ?_
  refine m_nmI ?_
  intro x1
  refine m_istore_n hC [(0, .ref (g k)), (1, .int b), (2, .int 0), (3, .int x1)] [1, 2, 3, 0] dJ7_fill_53178_4 (by decide) rfl rfl ?_
  refine (m_it (z := (fun _ _ => none)) (F := fJ7_fill_53178_L5 b x1 k n) N (fun r4 => ∀ (x2 : Int32) (S3 : St), Sm p l e (headSpec wsJ7_fill_53178 rmJ7_fill_53178).room s m args below meth c D vwCl (wc y g) (AC g s.heap.size) 4 Q x0 (r4 x2 S3) S3 5 [(0, .ref (g k)), (1, .int b), (2, .int x2), (3, .int x1)] []) ?_ ?_) 0 S
  · exact fun _ _ => m_none
  · intro r4 hr4 x2 S3
    unfold fJ7_fill_53178_L5
    refine m_iload_n hC dJ7_fill_53178_5 2 rfl ?_
    refine m_iload_n hC dJ7_fill_53178_6 3 rfl ?_
    refine m_icmp_ge hC 20 dJ7_fill_53178_7 (by decide) ?_ ?_
    · exact hret _ _ _ dJ7_fill_53178_20
    · refine m_aload_n hC dJ7_fill_53178_10 0 rfl ?_
      refine m_iload_n hC dJ7_fill_53178_11 2 rfl ?_
      refine m_iload_n hC dJ7_fill_53178_12 1 rfl ?_
      refine m_iast hC (ha S3) (t0 := 0) rfl (hset S3) dJ7_fill_53178_13 ?_
      intro S5
      refine m_iinc hC (fun x6 => [(0, .ref (g k)), (1, .int b), (2, .int x6), (3, .int x1)]) [1, 2, 0, 3] dJ7_fill_53178_14 (j := 2) rfl (by decide) (by decide) (fun _ => rfl) (fun _ => rfl) ?_
      intro x6
      refine m_goto hC 5 dJ7_fill_53178_17 (by decide) ?_
      exact hr4 _ _
end
section
def fX3_width (a : Int32) (S : St) : Option (Int32) :=
  some (mxI 1 ((S.1 12 5) - (a * (S.1 12 6))))
abbrev rmX3_width : Room := { frames := 1, cells := 0, slots := 0, locals := 21 }
theorem iX3_width_X3 : ∀ w ∈ wsX30, w ∈ wsX3_width := fun w h => List.mem_cons_of_mem _ (List.mem_append_right _ h)
set_option maxHeartbeats 4000000 in
set_option maxRecDepth 100000 in
theorem kX3_width (l : Launch) (D : va_G) (y : Cy) (g : Nat → Nat) (a : Int32) (S : St) (x0 : Int32) (h : fX3_width a S = some x0) : KI l yX3_width wsX3_width rmX3_width D vwCl (tz y) (wc y g) (AC g) [.ref (g 12), .int a] S (fun r S2 => r = x0 ∧ S2 = S) := by
  refine m_entryIP (wc_ok y g) (by decide) rfl (Nat.le_of_ble_eq_true rfl) (lv := [(0, .ref (g 12)), (1, .int a)]) rfl h ?_
  intro p e s m args below meth c hC hr hlocks
  obtain ⟨Q, hQ⟩ : ∃ Q, Q = (MQ below (va_Qi (fun r S2 => r = x0 ∧ S2 = S) (Bw D vwCl (tz y) (wc y g) (AC g s.heap.size)) (AC g s.heap.size)) args s 0 0 (AC g s.heap.size)) := ⟨_, rfl⟩
  rw [← hQ]
  have hret : ∀ (v : Int32) (pc : Nat) (lv : List (Nat × Value)), decode cX3_width pc = .ok (.ireturn, 1) → Sm p l e (headSpec wsX3_width rmX3_width).room s m args below meth c D vwCl (wc y g) (AC g s.heap.size) 2 Q x0 (some v) S pc lv [.int v] := by
    rw [hQ]
    exact fun v pc lv hd => m_iretP hC hr hlocks hd
  clear hQ
  unfold fX3_width
  refine m_iconst hC (1) dX3_width_0 (by decide) ?_
  refine m_aload_n hC dX3_width_1 0 rfl ?_
  refine m_get hC iX3_width_X3 (wc_12 y g S) rfl 5 (by decide) (List.mem_of_getElem? (i := 1) rfl) rfl rfl dX3_width_2 ?_
  refine m_iload_n hC dX3_width_5 1 rfl ?_
  refine m_aload_n hC dX3_width_6 0 rfl ?_
  refine m_get hC iX3_width_X3 (wc_12 y g S) rfl 6 (by decide) (List.mem_of_getElem? (i := 2) rfl) rfl rfl dX3_width_7 ?_
  refine m_imul hC dX3_width_10 ?_
  refine m_isub hC dX3_width_11 ?_
  refine m_max hC (List.mem_of_getElem? (i := 3) rfl) (List.mem_of_getElem? (i := 4) rfl) (List.mem_of_getElem? (i := 5) rfl) (List.mem_of_getElem? (i := 6) rfl) (Nat.le_of_ble_eq_true rfl) (Nat.le_of_ble_eq_true rfl) dX3_width_12 ?_
  exact hret _ _ _ dX3_width_15
def fX4_inHeaps_L4 (a : Int32) (S : St) (r3 : Int32 → Int32 → Option (Int32)) : Int32 → Int32 → Option (Int32) := fun x1 x2 =>
  if x2 < (S.1 1 6) then
    ldR 5 x2 fun j4 =>
    ldI 8 (S.1 (7 + j4)) a fun x5 =>
    nmI (x1 + x5) fun x6 =>
    nmI (x2 + 1) fun x7 =>
    r3 x6 x7
  else
    some x1
def fX4_inHeaps (N : Nat) (a : Int32) (S : St) : Option (Int32) :=
  itN (fun _ _ => none) (fX4_inHeaps_L4 a S) N 0 0
abbrev rmX4_inHeaps : Room := { frames := 0, cells := 0, slots := 0, locals := 0 }
theorem iX4_inHeaps_X4 : ∀ w ∈ wsX40, w ∈ wsX4_inHeaps := fun w h => List.mem_cons_of_mem _ (List.mem_append_right _ h)
set_option maxHeartbeats 4000000 in
set_option maxRecDepth 100000 in
theorem kX4_inHeaps (l : Launch) (D : va_G) (y : Cy) (g : Nat → Nat) (N : Nat) (a : Int32) (S : St) (x0 : Int32) (h : fX4_inHeaps N a S = some x0) : KI l yX4_inHeaps wsX4_inHeaps rmX4_inHeaps D vwCl (tz y) (wc y g) (AC g) [.ref (g 1), .int a] S (fun r S2 => r = x0 ∧ S2 = S) := by
  refine m_entryIP (wc_ok y g) (by decide) rfl (Nat.le_of_ble_eq_true rfl) (lv := [(0, .ref (g 1)), (1, .int a)]) rfl h ?_
  intro p e s m args below meth c hC hr hlocks
  obtain ⟨Q, hQ⟩ : ∃ Q, Q = (MQ below (va_Qi (fun r S2 => r = x0 ∧ S2 = S) (Bw D vwCl (tz y) (wc y g) (AC g s.heap.size)) (AC g s.heap.size)) args s 0 0 (AC g s.heap.size)) := ⟨_, rfl⟩
  rw [← hQ]
  have hret : ∀ (v : Int32) (pc : Nat) (lv : List (Nat × Value)), decode cX4_inHeaps pc = .ok (.ireturn, 1) → Sm p l e (headSpec wsX4_inHeaps rmX4_inHeaps).room s m args below meth c D vwCl (wc y g) (AC g s.heap.size) 4 Q x0 (some v) S pc lv [.int v] := by
    rw [hQ]
    exact fun v pc lv hd => m_iretP hC hr hlocks hd
  clear hQ
  unfold fX4_inHeaps
  refine m_iconst hC (0) dX4_inHeaps_0 (by decide) ?_
  refine m_istore_n hC [(0, .ref (g 1)), (1, .int a), (2, .int 0)] [1, 2, 0] dX4_inHeaps_1 (by decide) rfl rfl ?_
  refine m_iconst hC (0) dX4_inHeaps_2 (by decide) ?_
  refine m_istore_n hC [(0, .ref (g 1)), (1, .int a), (2, .int 0), (3, .int 0)] [1, 2, 3, 0] dX4_inHeaps_3 (by decide) rfl rfl ?_
  refine (m_it (z := (fun _ _ => none)) (F := fX4_inHeaps_L4 a S) N (fun r3 => ∀ (x1 : Int32) (x2 : Int32), Sm p l e (headSpec wsX4_inHeaps rmX4_inHeaps).room s m args below meth c D vwCl (wc y g) (AC g s.heap.size) 4 Q x0 (r3 x1 x2) S 4 [(0, .ref (g 1)), (1, .int a), (2, .int x1), (3, .int x2)] []) ?_ ?_) 0 0
  · exact fun _ _ => m_none
  · intro r3 hr3 x1 x2
    unfold fX4_inHeaps_L4
    refine m_iload_n hC dX4_inHeaps_4 3 rfl ?_
    refine m_aload_n hC dX4_inHeaps_5 0 rfl ?_
    refine m_get hC iX4_inHeaps_X4 (wc_1 y g S) rfl 6 (by decide) (List.mem_of_getElem? (i := 1) rfl) rfl rfl dX4_inHeaps_6 ?_
    refine m_icmp_ge hC 29 dX4_inHeaps_9 (by decide) ?_ ?_
    · refine m_iload_n hC dX4_inHeaps_29 2 rfl ?_
      exact hret _ _ _ dX4_inHeaps_30
    · refine m_iload_n hC dX4_inHeaps_12 2 rfl ?_
      refine m_aload_n hC dX4_inHeaps_13 0 rfl ?_
      refine m_get hC iX4_inHeaps_X4 (wc_1 y g S) rfl 4 (by decide) (List.mem_of_getElem? (i := 2) rfl) rfl rfl dX4_inHeaps_14 ?_
      refine m_iload_n hC dX4_inHeaps_17 3 rfl ?_
      refine m_aald hC (wc_6 y g S) (t0 := 2) rfl (rows_at g 7 5) dX4_inHeaps_18 ?_
      intro j4 hj4
      refine m_iload_n hC dX4_inHeaps_19 1 rfl ?_
      refine m_iald hC (wc_r7 y g S j4 hj4) (t0 := 0) rfl dX4_inHeaps_20 ?_
      intro x5
      refine m_iadd hC dX4_inHeaps_21 ?_
      refine m_nmI ?_
      intro x6
      refine m_istore_n hC [(0, .ref (g 1)), (1, .int a), (2, .int x6), (3, .int x2)] [1, 2, 0, 3] dX4_inHeaps_22 (by decide) rfl rfl ?_
      refine m_iinc hC (fun x7 => [(0, .ref (g 1)), (1, .int a), (2, .int x6), (3, .int x7)]) [1, 2, 3, 0] dX4_inHeaps_23 (j := 3) rfl (by decide) (by decide) (fun _ => rfl) (fun _ => rfl) ?_
      intro x7
      refine m_goto hC 4 dX4_inHeaps_26 (by decide) ?_
      exact hr3 _ _
def fX3_throughsAsked (a : Int32) (S : St) : Option (Int32) :=
  if (((S.1 12 7) >>> (a &&& 31)) &&& 1) = 1 then
    some (S.1 12 8)
  else
    some 0
abbrev rmX3_throughsAsked : Room := { frames := 0, cells := 0, slots := 0, locals := 0 }
theorem iX3_throughsAsked_X3 : ∀ w ∈ wsX30, w ∈ wsX3_throughsAsked := fun w h => List.mem_cons_of_mem _ (List.mem_append_right _ h)
set_option maxHeartbeats 4000000 in
set_option maxRecDepth 100000 in
theorem kX3_throughsAsked (l : Launch) (D : va_G) (y : Cy) (g : Nat → Nat) (a : Int32) (S : St) (x0 : Int32) (h : fX3_throughsAsked a S = some x0) : KI l yX3_throughsAsked wsX3_throughsAsked rmX3_throughsAsked D vwCl (tz y) (wc y g) (AC g) [.ref (g 12), .int a] S (fun r S2 => r = x0 ∧ S2 = S) := by
  refine m_entryIP (wc_ok y g) (by decide) rfl (Nat.le_of_ble_eq_true rfl) (lv := [(0, .ref (g 12)), (1, .int a)]) rfl h ?_
  intro p e s m args below meth c hC hr hlocks
  obtain ⟨Q, hQ⟩ : ∃ Q, Q = (MQ below (va_Qi (fun r S2 => r = x0 ∧ S2 = S) (Bw D vwCl (tz y) (wc y g) (AC g s.heap.size)) (AC g s.heap.size)) args s 0 0 (AC g s.heap.size)) := ⟨_, rfl⟩
  rw [← hQ]
  have hret : ∀ (v : Int32) (pc : Nat) (lv : List (Nat × Value)), decode cX3_throughsAsked pc = .ok (.ireturn, 1) → Sm p l e (headSpec wsX3_throughsAsked rmX3_throughsAsked).room s m args below meth c D vwCl (wc y g) (AC g s.heap.size) 2 Q x0 (some v) S pc lv [.int v] := by
    rw [hQ]
    exact fun v pc lv hd => m_iretP hC hr hlocks hd
  clear hQ
  unfold fX3_throughsAsked
  refine m_aload_n hC dX3_throughsAsked_0 0 rfl ?_
  refine m_get hC iX3_throughsAsked_X3 (wc_12 y g S) rfl 7 (by decide) (List.mem_of_getElem? (i := 1) rfl) rfl rfl dX3_throughsAsked_1 ?_
  refine m_iload_n hC dX3_throughsAsked_4 1 rfl ?_
  refine m_ishr hC dX3_throughsAsked_5 ?_
  refine m_iconst hC (1) dX3_throughsAsked_6 (by decide) ?_
  refine m_iand hC dX3_throughsAsked_7 ?_
  refine m_iconst hC (1) dX3_throughsAsked_8 (by decide) ?_
  refine m_icmp_ne hC 19 dX3_throughsAsked_9 (by decide) ?_ ?_
  · refine m_iconst hC (0) dX3_throughsAsked_19 (by decide) ?_
    exact hret _ _ _ dX3_throughsAsked_20
  · refine m_aload_n hC dX3_throughsAsked_12 0 rfl ?_
    refine m_get hC iX3_throughsAsked_X3 (wc_12 y g S) rfl 8 (by decide) (List.mem_of_getElem? (i := 2) rfl) rfl rfl dX3_throughsAsked_13 ?_
    refine m_goto hC 20 dX3_throughsAsked_16 (by decide) ?_
    exact hret _ _ _ dX3_throughsAsked_20
def fX3_tell (a : Int32) (b : Int32) (c2 : Int32) (d2 : Int32) (e2 : Int32) (f2 : Int32) (S : St) : Option (St) :=
  pfI S 12 0 1 fun S1 =>
  pfI S1 12 1 a fun S2 =>
  pfI S2 12 2 b fun S3 =>
  pfI S3 12 3 c2 fun S4 =>
  pfI S4 12 4 d2 fun S5 =>
  pfI S5 12 5 e2 fun S6 =>
  pfI S6 12 6 f2 fun S7 =>
  pfI S7 12 7 0 fun S8 =>
  pfI S8 12 8 0 fun S9 =>
  some S9
abbrev rmX3_tell : Room := { frames := 0, cells := 0, slots := 0, locals := 0 }
theorem iX3_tell_X3 : ∀ w ∈ wsX30, w ∈ wsX3_tell := fun w h => List.mem_cons_of_mem _ (List.mem_append_right _ h)
set_option maxHeartbeats 4000000 in
set_option maxRecDepth 100000 in
theorem kX3_tell (l : Launch) (D : va_G) (y : Cy) (g : Nat → Nat) (a : Int32) (b : Int32) (c2 : Int32) (d2 : Int32) (e2 : Int32) (f2 : Int32) (S : St) (x0 : St) (h : fX3_tell a b c2 d2 e2 f2 S = some x0) : KV l yX3_tell wsX3_tell rmX3_tell D vwCl (tz y) (wc y g) (AC g) [.ref (g 12), .int a, .int b, .int c2, .int d2, .int e2, .int f2] S (fun S2 => S2 = x0) := by
  refine m_entryV (wc_ok y g) (by decide) rfl (Nat.le_of_ble_eq_true rfl) (lv := [(0, .ref (g 12)), (1, .int a), (2, .int b), (3, .int c2), (4, .int d2), (5, .int e2), (6, .int f2)]) rfl h ?_
  intro p e s m args below meth c hC hr hlocks
  obtain ⟨Q, hQ⟩ : ∃ Q, Q = (MQ below (va_Qv (fun S2 => S2 = x0) (Bw D vwCl (tz y) (wc y g) (AC g s.heap.size)) (AC g s.heap.size)) args s 0 0 (AC g s.heap.size)) := ⟨_, rfl⟩
  rw [← hQ]
  have hret : ∀ (S2 : St) (pc : Nat) (lv : List (Nat × Value)), decode cX3_tell pc = .ok (.return_, 1) → Sm p l e (headSpec wsX3_tell rmX3_tell).room s m args below meth c D vwCl (wc y g) (AC g s.heap.size) 7 Q x0 (some S2) S2 pc lv [] := by
    rw [hQ]
    exact fun S2 pc lv hd => m_vret hC hr hlocks hd
  clear hQ
  unfold fX3_tell
  refine m_aload_n hC dX3_tell_0 0 rfl ?_
  refine m_iconst hC (1) dX3_tell_1 (by decide) ?_
  refine m_putI (ty := .boolean) hC iX3_tell_X3 tyX3 tyX3_ok nmX3 (wc_12 y g S) rfl 0 (by decide) (List.mem_of_getElem? (i := 1) rfl) rfl rfl (by decide +kernel) rfl rfl (Nat.le_of_ble_eq_true rfl) dX3_tell_2 (wcf_12_0 y g S _) ?_
  intro S1
  refine m_aload_n hC dX3_tell_5 0 rfl ?_
  refine m_iload_n hC dX3_tell_6 1 rfl ?_
  refine m_putI (ty := .int) hC iX3_tell_X3 tyX3 tyX3_ok nmX3 (wc_12 y g S1) rfl 1 (by decide) (List.mem_of_getElem? (i := 2) rfl) rfl rfl (by decide +kernel) rfl rfl (Nat.le_of_ble_eq_true rfl) dX3_tell_7 (wcf_12_1 y g S1 _) ?_
  intro S2
  refine m_aload_n hC dX3_tell_10 0 rfl ?_
  refine m_iload_n hC dX3_tell_11 2 rfl ?_
  refine m_putI (ty := .int) hC iX3_tell_X3 tyX3 tyX3_ok nmX3 (wc_12 y g S2) rfl 2 (by decide) (List.mem_of_getElem? (i := 3) rfl) rfl rfl (by decide +kernel) rfl rfl (Nat.le_of_ble_eq_true rfl) dX3_tell_12 (wcf_12_2 y g S2 _) ?_
  intro S3
  refine m_aload_n hC dX3_tell_15 0 rfl ?_
  refine m_iload_n hC dX3_tell_16 3 rfl ?_
  refine m_putI (ty := .int) hC iX3_tell_X3 tyX3 tyX3_ok nmX3 (wc_12 y g S3) rfl 3 (by decide) (List.mem_of_getElem? (i := 4) rfl) rfl rfl (by decide +kernel) rfl rfl (Nat.le_of_ble_eq_true rfl) dX3_tell_17 (wcf_12_3 y g S3 _) ?_
  intro S4
  refine m_aload_n hC dX3_tell_20 0 rfl ?_
  refine m_iload hC dX3_tell_21 4 rfl ?_
  refine m_putI (ty := .int) hC iX3_tell_X3 tyX3 tyX3_ok nmX3 (wc_12 y g S4) rfl 4 (by decide) (List.mem_of_getElem? (i := 5) rfl) rfl rfl (by decide +kernel) rfl rfl (Nat.le_of_ble_eq_true rfl) dX3_tell_23 (wcf_12_4 y g S4 _) ?_
  intro S5
  refine m_aload_n hC dX3_tell_26 0 rfl ?_
  refine m_iload hC dX3_tell_27 5 rfl ?_
  refine m_putI (ty := .int) hC iX3_tell_X3 tyX3 tyX3_ok nmX3 (wc_12 y g S5) rfl 5 (by decide) (List.mem_of_getElem? (i := 6) rfl) rfl rfl (by decide +kernel) rfl rfl (Nat.le_of_ble_eq_true rfl) dX3_tell_29 (wcf_12_5 y g S5 _) ?_
  intro S6
  refine m_aload_n hC dX3_tell_32 0 rfl ?_
  refine m_iload hC dX3_tell_33 6 rfl ?_
  refine m_putI (ty := .int) hC iX3_tell_X3 tyX3 tyX3_ok nmX3 (wc_12 y g S6) rfl 6 (by decide) (List.mem_of_getElem? (i := 7) rfl) rfl rfl (by decide +kernel) rfl rfl (Nat.le_of_ble_eq_true rfl) dX3_tell_35 (wcf_12_6 y g S6 _) ?_
  intro S7
  refine m_aload_n hC dX3_tell_38 0 rfl ?_
  refine m_iconst hC (0) dX3_tell_39 (by decide) ?_
  refine m_putI (ty := .int) hC iX3_tell_X3 tyX3 tyX3_ok nmX3 (wc_12 y g S7) rfl 7 (by decide) (List.mem_of_getElem? (i := 8) rfl) rfl rfl (by decide +kernel) rfl rfl (Nat.le_of_ble_eq_true rfl) dX3_tell_40 (wcf_12_7 y g S7 _) ?_
  intro S8
  refine m_aload_n hC dX3_tell_43 0 rfl ?_
  refine m_iconst hC (0) dX3_tell_44 (by decide) ?_
  refine m_putI (ty := .int) hC iX3_tell_X3 tyX3 tyX3_ok nmX3 (wc_12 y g S8) rfl 8 (by decide) (List.mem_of_getElem? (i := 9) rfl) rfl rfl (by decide +kernel) rfl rfl (Nat.le_of_ble_eq_true rfl) dX3_tell_45 (wcf_12_8 y g S8 _) ?_
  intro S9
  exact hret _ _ _ dX3_tell_48
def fX4_addHeap (a : Int32) (b : Int32) (S : St) : Option (Int32 × St) :=
  if (S.1 1 6) < 5 then
    stI S 4 5 (S.1 1 6) a fun S1 =>
    stI S1 5 5 (S1.1 1 6) b fun S2 =>
    pfI S2 1 6 ((S2.1 1 6) + 1) fun S3 =>
    some ((S3.1 1 6) - 1, S3)
  else
    some ((-1), S)
abbrev rmX4_addHeap : Room := { frames := 0, cells := 0, slots := 0, locals := 0 }
theorem iX4_addHeap_X4 : ∀ w ∈ wsX40, w ∈ wsX4_addHeap := fun w h => List.mem_cons_of_mem _ (List.mem_append_right _ h)
set_option maxHeartbeats 4000000 in
set_option maxRecDepth 100000 in
theorem kX4_addHeap (l : Launch) (D : va_G) (y : Cy) (g : Nat → Nat) (a : Int32) (b : Int32) (S : St) (x0 : Int32 × St) (h : fX4_addHeap a b S = some x0) : KI l yX4_addHeap wsX4_addHeap rmX4_addHeap D vwCl (tz y) (wc y g) (AC g) [.ref (g 1), .int a, .int b] S (fun r S2 => (r, S2) = x0) := by
  refine m_entryI (wc_ok y g) (by decide) rfl (Nat.le_of_ble_eq_true rfl) (lv := [(0, .ref (g 1)), (1, .int a), (2, .int b)]) rfl h ?_
  intro p e s m args below meth c hC hr hlocks
  obtain ⟨Q, hQ⟩ : ∃ Q, Q = (MQ below (va_Qi (fun r S2 => (r, S2) = x0) (Bw D vwCl (tz y) (wc y g) (AC g s.heap.size)) (AC g s.heap.size)) args s 0 0 (AC g s.heap.size)) := ⟨_, rfl⟩
  rw [← hQ]
  have hret : ∀ (v : Int32) (S2 : St) (pc : Nat) (lv : List (Nat × Value)), decode cX4_addHeap pc = .ok (.ireturn, 1) → Sm p l e (headSpec wsX4_addHeap rmX4_addHeap).room s m args below meth c D vwCl (wc y g) (AC g s.heap.size) 3 Q x0 (some (v, S2)) S2 pc lv [.int v] := by
    rw [hQ]
    exact fun v S2 pc lv hd => m_iret hC hr hlocks hd
  clear hQ
  unfold fX4_addHeap
  refine m_aload_n hC dX4_addHeap_0 0 rfl ?_
  refine m_get hC iX4_addHeap_X4 (wc_1 y g S) rfl 6 (by decide) (List.mem_of_getElem? (i := 1) rfl) rfl rfl dX4_addHeap_1 ?_
  refine m_iconst hC (5) dX4_addHeap_4 (by decide) ?_
  refine m_icmp_lt hC 10 dX4_addHeap_5 (by decide) ?_ ?_
  · refine m_aload_n hC dX4_addHeap_10 0 rfl ?_
    refine m_get hC iX4_addHeap_X4 (wc_1 y g S) rfl 2 (by decide) (List.mem_of_getElem? (i := 2) rfl) rfl rfl dX4_addHeap_11 ?_
    refine m_aload_n hC dX4_addHeap_14 0 rfl ?_
    refine m_get hC iX4_addHeap_X4 (wc_1 y g S) rfl 6 (by decide) (List.mem_of_getElem? (i := 1) rfl) rfl rfl dX4_addHeap_15 ?_
    refine m_iload_n hC dX4_addHeap_18 1 rfl ?_
    refine m_iast hC (wc_4 y g S) (t0 := 0) rfl (wcs_4 y g S) dX4_addHeap_19 ?_
    intro S1
    refine m_aload_n hC dX4_addHeap_20 0 rfl ?_
    refine m_get hC iX4_addHeap_X4 (wc_1 y g S1) rfl 3 (by decide) (List.mem_of_getElem? (i := 3) rfl) rfl rfl dX4_addHeap_21 ?_
    refine m_aload_n hC dX4_addHeap_24 0 rfl ?_
    refine m_get hC iX4_addHeap_X4 (wc_1 y g S1) rfl 6 (by decide) (List.mem_of_getElem? (i := 1) rfl) rfl rfl dX4_addHeap_25 ?_
    refine m_iload_n hC dX4_addHeap_28 2 rfl ?_
    refine m_iast hC (wc_5 y g S1) (t0 := 0) rfl (wcs_5 y g S1) dX4_addHeap_29 ?_
    intro S2
    refine m_aload_n hC dX4_addHeap_30 0 rfl ?_
    refine m_dup hC dX4_addHeap_31 rfl ?_
    refine m_get hC iX4_addHeap_X4 (wc_1 y g S2) rfl 6 (by decide) (List.mem_of_getElem? (i := 1) rfl) rfl rfl dX4_addHeap_32 ?_
    refine m_iconst hC (1) dX4_addHeap_35 (by decide) ?_
    refine m_iadd hC dX4_addHeap_36 ?_
    refine m_putI (ty := .int) hC iX4_addHeap_X4 tyX4 tyX4_ok nmX4 (wc_1 y g S2) rfl 6 (by decide) (List.mem_of_getElem? (i := 1) rfl) rfl rfl (by decide +kernel) rfl rfl (Nat.le_of_ble_eq_true rfl) dX4_addHeap_37 (wcf_1_6 y g S2 _) ?_
    intro S3
    refine m_aload_n hC dX4_addHeap_40 0 rfl ?_
    refine m_get hC iX4_addHeap_X4 (wc_1 y g S3) rfl 6 (by decide) (List.mem_of_getElem? (i := 1) rfl) rfl rfl dX4_addHeap_41 ?_
    refine m_iconst hC (1) dX4_addHeap_44 (by decide) ?_
    refine m_isub hC dX4_addHeap_45 ?_
    exact hret _ _ _ _ dX4_addHeap_46
  · refine m_iconst hC (-1) dX4_addHeap_8 (by decide) ?_
    exact hret _ _ _ _ dX4_addHeap_9
def fX4_addKind (a : Int32) (b : Int32) (S : St) : Option (Int32 × St) :=
  if (S.1 1 5) < 8 then
    stI S 2 8 (S.1 1 5) a fun S1 =>
    stI S1 3 8 (S1.1 1 5) b fun S2 =>
    pfI S2 1 5 ((S2.1 1 5) + 1) fun S3 =>
    some ((S3.1 1 5) - 1, S3)
  else
    some ((-1), S)
abbrev rmX4_addKind : Room := { frames := 0, cells := 0, slots := 0, locals := 0 }
theorem iX4_addKind_X4 : ∀ w ∈ wsX40, w ∈ wsX4_addKind := fun w h => List.mem_cons_of_mem _ (List.mem_append_right _ h)
set_option maxHeartbeats 4000000 in
set_option maxRecDepth 100000 in
theorem kX4_addKind (l : Launch) (D : va_G) (y : Cy) (g : Nat → Nat) (a : Int32) (b : Int32) (S : St) (x0 : Int32 × St) (h : fX4_addKind a b S = some x0) : KI l yX4_addKind wsX4_addKind rmX4_addKind D vwCl (tz y) (wc y g) (AC g) [.ref (g 1), .int a, .int b] S (fun r S2 => (r, S2) = x0) := by
  refine m_entryI (wc_ok y g) (by decide) rfl (Nat.le_of_ble_eq_true rfl) (lv := [(0, .ref (g 1)), (1, .int a), (2, .int b)]) rfl h ?_
  intro p e s m args below meth c hC hr hlocks
  obtain ⟨Q, hQ⟩ : ∃ Q, Q = (MQ below (va_Qi (fun r S2 => (r, S2) = x0) (Bw D vwCl (tz y) (wc y g) (AC g s.heap.size)) (AC g s.heap.size)) args s 0 0 (AC g s.heap.size)) := ⟨_, rfl⟩
  rw [← hQ]
  have hret : ∀ (v : Int32) (S2 : St) (pc : Nat) (lv : List (Nat × Value)), decode cX4_addKind pc = .ok (.ireturn, 1) → Sm p l e (headSpec wsX4_addKind rmX4_addKind).room s m args below meth c D vwCl (wc y g) (AC g s.heap.size) 3 Q x0 (some (v, S2)) S2 pc lv [.int v] := by
    rw [hQ]
    exact fun v S2 pc lv hd => m_iret hC hr hlocks hd
  clear hQ
  unfold fX4_addKind
  refine m_aload_n hC dX4_addKind_0 0 rfl ?_
  refine m_get hC iX4_addKind_X4 (wc_1 y g S) rfl 5 (by decide) (List.mem_of_getElem? (i := 1) rfl) rfl rfl dX4_addKind_1 ?_
  refine m_bipush hC (8) dX4_addKind_4 (by decide) ?_
  refine m_icmp_lt hC 11 dX4_addKind_6 (by decide) ?_ ?_
  · refine m_aload_n hC dX4_addKind_11 0 rfl ?_
    refine m_get hC iX4_addKind_X4 (wc_1 y g S) rfl 0 (by decide) (List.mem_of_getElem? (i := 2) rfl) rfl rfl dX4_addKind_12 ?_
    refine m_aload_n hC dX4_addKind_15 0 rfl ?_
    refine m_get hC iX4_addKind_X4 (wc_1 y g S) rfl 5 (by decide) (List.mem_of_getElem? (i := 1) rfl) rfl rfl dX4_addKind_16 ?_
    refine m_iload_n hC dX4_addKind_19 1 rfl ?_
    refine m_iast hC (wc_2 y g S) (t0 := 0) rfl (wcs_2 y g S) dX4_addKind_20 ?_
    intro S1
    refine m_aload_n hC dX4_addKind_21 0 rfl ?_
    refine m_get hC iX4_addKind_X4 (wc_1 y g S1) rfl 1 (by decide) (List.mem_of_getElem? (i := 3) rfl) rfl rfl dX4_addKind_22 ?_
    refine m_aload_n hC dX4_addKind_25 0 rfl ?_
    refine m_get hC iX4_addKind_X4 (wc_1 y g S1) rfl 5 (by decide) (List.mem_of_getElem? (i := 1) rfl) rfl rfl dX4_addKind_26 ?_
    refine m_iload_n hC dX4_addKind_29 2 rfl ?_
    refine m_iast hC (wc_3 y g S1) (t0 := 0) rfl (wcs_3 y g S1) dX4_addKind_30 ?_
    intro S2
    refine m_aload_n hC dX4_addKind_31 0 rfl ?_
    refine m_dup hC dX4_addKind_32 rfl ?_
    refine m_get hC iX4_addKind_X4 (wc_1 y g S2) rfl 5 (by decide) (List.mem_of_getElem? (i := 1) rfl) rfl rfl dX4_addKind_33 ?_
    refine m_iconst hC (1) dX4_addKind_36 (by decide) ?_
    refine m_iadd hC dX4_addKind_37 ?_
    refine m_putI (ty := .int) hC iX4_addKind_X4 tyX4 tyX4_ok nmX4 (wc_1 y g S2) rfl 5 (by decide) (List.mem_of_getElem? (i := 1) rfl) rfl rfl (by decide +kernel) rfl rfl (Nat.le_of_ble_eq_true rfl) dX4_addKind_38 (wcf_1_5 y g S2 _) ?_
    intro S3
    refine m_aload_n hC dX4_addKind_41 0 rfl ?_
    refine m_get hC iX4_addKind_X4 (wc_1 y g S3) rfl 5 (by decide) (List.mem_of_getElem? (i := 1) rfl) rfl rfl dX4_addKind_42 ?_
    refine m_iconst hC (1) dX4_addKind_45 (by decide) ?_
    refine m_isub hC dX4_addKind_46 ?_
    exact hret _ _ _ _ dX4_addKind_47
  · refine m_iconst hC (-1) dX4_addKind_9 (by decide) ?_
    exact hret _ _ _ _ dX4_addKind_10
def fX4_hasHeap (a : Int32) (S : St) : Option (Int32) :=
  if a < 0 then
    some 0
  else
    if a < (S.1 1 6) then
      some 1
    else
      some 0
abbrev rmX4_hasHeap : Room := { frames := 0, cells := 0, slots := 0, locals := 0 }
theorem iX4_hasHeap_X4 : ∀ w ∈ wsX40, w ∈ wsX4_hasHeap := fun w h => List.mem_cons_of_mem _ (List.mem_append_right _ h)
set_option maxHeartbeats 4000000 in
set_option maxRecDepth 100000 in
theorem kX4_hasHeap (l : Launch) (D : va_G) (y : Cy) (g : Nat → Nat) (a : Int32) (S : St) (x0 : Int32) (h : fX4_hasHeap a S = some x0) : KI l yX4_hasHeap wsX4_hasHeap rmX4_hasHeap D vwCl (tz y) (wc y g) (AC g) [.ref (g 1), .int a] S (fun r S2 => r = x0 ∧ S2 = S) := by
  refine m_entryIP (wc_ok y g) (by decide) rfl (Nat.le_of_ble_eq_true rfl) (lv := [(0, .ref (g 1)), (1, .int a)]) rfl h ?_
  intro p e s m args below meth c hC hr hlocks
  obtain ⟨Q, hQ⟩ : ∃ Q, Q = (MQ below (va_Qi (fun r S2 => r = x0 ∧ S2 = S) (Bw D vwCl (tz y) (wc y g) (AC g s.heap.size)) (AC g s.heap.size)) args s 0 0 (AC g s.heap.size)) := ⟨_, rfl⟩
  rw [← hQ]
  have hret : ∀ (v : Int32) (pc : Nat) (lv : List (Nat × Value)), decode cX4_hasHeap pc = .ok (.ireturn, 1) → narrow .boolean (.int v) = .int v → Sm p l e (headSpec wsX4_hasHeap rmX4_hasHeap).room s m args below meth c D vwCl (wc y g) (AC g s.heap.size) 2 Q x0 (some v) S pc lv [.int v] := by
    rw [hQ]
    exact fun v pc lv hd hz => m_zretP hC hz hr hlocks hd
  clear hQ
  unfold fX4_hasHeap
  refine m_iload_n hC dX4_hasHeap_0 1 rfl ?_
  refine m_if_lt hC 16 dX4_hasHeap_1 (by decide) ?_ ?_
  · refine m_iconst hC (0) dX4_hasHeap_16 (by decide) ?_
    exact hret _ _ _ dX4_hasHeap_17 rfl
  · refine m_iload_n hC dX4_hasHeap_4 1 rfl ?_
    refine m_aload_n hC dX4_hasHeap_5 0 rfl ?_
    refine m_get hC iX4_hasHeap_X4 (wc_1 y g S) rfl 6 (by decide) (List.mem_of_getElem? (i := 1) rfl) rfl rfl dX4_hasHeap_6 ?_
    refine m_icmp_ge hC 16 dX4_hasHeap_9 (by decide) ?_ ?_
    · refine m_iconst hC (0) dX4_hasHeap_16 (by decide) ?_
      exact hret _ _ _ dX4_hasHeap_17 rfl
    · refine m_iconst hC (1) dX4_hasHeap_12 (by decide) ?_
      refine m_goto hC 17 dX4_hasHeap_13 (by decide) ?_
      exact hret _ _ _ dX4_hasHeap_17 rfl
def fX4_hasKind (a : Int32) (S : St) : Option (Int32) :=
  if a < 0 then
    some 0
  else
    if a < (S.1 1 5) then
      some 1
    else
      some 0
abbrev rmX4_hasKind : Room := { frames := 0, cells := 0, slots := 0, locals := 0 }
theorem iX4_hasKind_X4 : ∀ w ∈ wsX40, w ∈ wsX4_hasKind := fun w h => List.mem_cons_of_mem _ (List.mem_append_right _ h)
set_option maxHeartbeats 4000000 in
set_option maxRecDepth 100000 in
theorem kX4_hasKind (l : Launch) (D : va_G) (y : Cy) (g : Nat → Nat) (a : Int32) (S : St) (x0 : Int32) (h : fX4_hasKind a S = some x0) : KI l yX4_hasKind wsX4_hasKind rmX4_hasKind D vwCl (tz y) (wc y g) (AC g) [.ref (g 1), .int a] S (fun r S2 => r = x0 ∧ S2 = S) := by
  refine m_entryIP (wc_ok y g) (by decide) rfl (Nat.le_of_ble_eq_true rfl) (lv := [(0, .ref (g 1)), (1, .int a)]) rfl h ?_
  intro p e s m args below meth c hC hr hlocks
  obtain ⟨Q, hQ⟩ : ∃ Q, Q = (MQ below (va_Qi (fun r S2 => r = x0 ∧ S2 = S) (Bw D vwCl (tz y) (wc y g) (AC g s.heap.size)) (AC g s.heap.size)) args s 0 0 (AC g s.heap.size)) := ⟨_, rfl⟩
  rw [← hQ]
  have hret : ∀ (v : Int32) (pc : Nat) (lv : List (Nat × Value)), decode cX4_hasKind pc = .ok (.ireturn, 1) → narrow .boolean (.int v) = .int v → Sm p l e (headSpec wsX4_hasKind rmX4_hasKind).room s m args below meth c D vwCl (wc y g) (AC g s.heap.size) 2 Q x0 (some v) S pc lv [.int v] := by
    rw [hQ]
    exact fun v pc lv hd hz => m_zretP hC hz hr hlocks hd
  clear hQ
  unfold fX4_hasKind
  refine m_iload_n hC dX4_hasKind_0 1 rfl ?_
  refine m_if_lt hC 16 dX4_hasKind_1 (by decide) ?_ ?_
  · refine m_iconst hC (0) dX4_hasKind_16 (by decide) ?_
    exact hret _ _ _ dX4_hasKind_17 rfl
  · refine m_iload_n hC dX4_hasKind_4 1 rfl ?_
    refine m_aload_n hC dX4_hasKind_5 0 rfl ?_
    refine m_get hC iX4_hasKind_X4 (wc_1 y g S) rfl 5 (by decide) (List.mem_of_getElem? (i := 1) rfl) rfl rfl dX4_hasKind_6 ?_
    refine m_icmp_ge hC 16 dX4_hasKind_9 (by decide) ?_ ?_
    · refine m_iconst hC (0) dX4_hasKind_16 (by decide) ?_
      exact hret _ _ _ dX4_hasKind_17 rfl
    · refine m_iconst hC (1) dX4_hasKind_12 (by decide) ?_
      refine m_goto hC 17 dX4_hasKind_13 (by decide) ?_
      exact hret _ _ _ dX4_hasKind_17 rfl
end
section
def fX1_add (a : Int32) (b : Int32) (c2 : Int32) (S : St) : Option (St) :=
  if (S.1 13 9) < 144 then
    stI S 14 144 (S.1 13 9) a fun S1 =>
    stI S1 15 144 (S1.1 13 9) b fun S2 =>
    stI S2 16 144 (S2.1 13 9) c2 fun S3 =>
    pfI S3 13 9 ((S3.1 13 9) + 1) fun S4 =>
    some S4
  else
    some S
abbrev rmX1_add : Room := { frames := 0, cells := 0, slots := 0, locals := 0 }
theorem iX1_add_X1 : ∀ w ∈ wsX10, w ∈ wsX1_add := fun w h => List.mem_cons_of_mem _ (List.mem_append_right _ h)
set_option maxHeartbeats 4000000 in
set_option maxRecDepth 100000 in
theorem kX1_add (l : Launch) (D : va_G) (y : Cy) (g : Nat → Nat) (a : Int32) (b : Int32) (c2 : Int32) (S : St) (x0 : St) (h : fX1_add a b c2 S = some x0) : KV l yX1_add wsX1_add rmX1_add D vwCl (tz y) (wc y g) (AC g) [.ref (g 13), .int a, .int b, .int c2] S (fun S2 => S2 = x0) := by
  refine m_entryV (wc_ok y g) (by decide) rfl (Nat.le_of_ble_eq_true rfl) (lv := [(0, .ref (g 13)), (1, .int a), (2, .int b), (3, .int c2)]) rfl h ?_
  intro p e s m args below meth c hC hr hlocks
  obtain ⟨Q, hQ⟩ : ∃ Q, Q = (MQ below (va_Qv (fun S2 => S2 = x0) (Bw D vwCl (tz y) (wc y g) (AC g s.heap.size)) (AC g s.heap.size)) args s 0 0 (AC g s.heap.size)) := ⟨_, rfl⟩
  rw [← hQ]
  have hret : ∀ (S2 : St) (pc : Nat) (lv : List (Nat × Value)), decode cX1_add pc = .ok (.return_, 1) → Sm p l e (headSpec wsX1_add rmX1_add).room s m args below meth c D vwCl (wc y g) (AC g s.heap.size) 4 Q x0 (some S2) S2 pc lv [] := by
    rw [hQ]
    exact fun S2 pc lv hd => m_vret hC hr hlocks hd
  clear hQ
  unfold fX1_add
  refine m_aload_n hC dX1_add_0 0 rfl ?_
  refine m_get hC iX1_add_X1 (wc_13 y g S) rfl 9 (by decide) (List.mem_of_getElem? (i := 1) rfl) rfl rfl dX1_add_1 ?_
  refine m_sipush hC (144) dX1_add_4 (by decide) ?_
  refine m_icmp_lt hC 11 dX1_add_7 (by decide) ?_ ?_
  · refine m_aload_n hC dX1_add_11 0 rfl ?_
    refine m_get hC iX1_add_X1 (wc_13 y g S) rfl 2 (by decide) (List.mem_of_getElem? (i := 2) rfl) rfl rfl dX1_add_12 ?_
    refine m_aload_n hC dX1_add_15 0 rfl ?_
    refine m_get hC iX1_add_X1 (wc_13 y g S) rfl 9 (by decide) (List.mem_of_getElem? (i := 1) rfl) rfl rfl dX1_add_16 ?_
    refine m_iload_n hC dX1_add_19 1 rfl ?_
    refine m_iast hC (wc_14 y g S) (t0 := 0) rfl (wcs_14 y g S) dX1_add_20 ?_
    intro S1
    refine m_aload_n hC dX1_add_21 0 rfl ?_
    refine m_get hC iX1_add_X1 (wc_13 y g S1) rfl 3 (by decide) (List.mem_of_getElem? (i := 3) rfl) rfl rfl dX1_add_22 ?_
    refine m_aload_n hC dX1_add_25 0 rfl ?_
    refine m_get hC iX1_add_X1 (wc_13 y g S1) rfl 9 (by decide) (List.mem_of_getElem? (i := 1) rfl) rfl rfl dX1_add_26 ?_
    refine m_iload_n hC dX1_add_29 2 rfl ?_
    refine m_iast hC (wc_15 y g S1) (t0 := 0) rfl (wcs_15 y g S1) dX1_add_30 ?_
    intro S2
    refine m_aload_n hC dX1_add_31 0 rfl ?_
    refine m_get hC iX1_add_X1 (wc_13 y g S2) rfl 4 (by decide) (List.mem_of_getElem? (i := 4) rfl) rfl rfl dX1_add_32 ?_
    refine m_aload_n hC dX1_add_35 0 rfl ?_
    refine m_get hC iX1_add_X1 (wc_13 y g S2) rfl 9 (by decide) (List.mem_of_getElem? (i := 1) rfl) rfl rfl dX1_add_36 ?_
    refine m_iload_n hC dX1_add_39 3 rfl ?_
    refine m_iast hC (wc_16 y g S2) (t0 := 0) rfl (wcs_16 y g S2) dX1_add_40 ?_
    intro S3
    refine m_aload_n hC dX1_add_41 0 rfl ?_
    refine m_dup hC dX1_add_42 rfl ?_
    refine m_get hC iX1_add_X1 (wc_13 y g S3) rfl 9 (by decide) (List.mem_of_getElem? (i := 1) rfl) rfl rfl dX1_add_43 ?_
    refine m_iconst hC (1) dX1_add_46 (by decide) ?_
    refine m_iadd hC dX1_add_47 ?_
    refine m_putI (ty := .int) hC iX1_add_X1 tyX1 tyX1_ok nmX1 (wc_13 y g S3) rfl 9 (by decide) (List.mem_of_getElem? (i := 1) rfl) rfl rfl (by decide +kernel) rfl rfl (Nat.le_of_ble_eq_true rfl) dX1_add_48 (wcf_13_9 y g S3 _) ?_
    intro S4
    exact hret _ _ _ dX1_add_51
  · exact hret _ _ _ dX1_add_10
def fX1_number_L4 (a : Int32) (S : St) (r3 : Int32 → Int32 → Option (Int32)) : Int32 → Int32 → Option (Int32) := fun x1 x2 =>
  if x2 < (S.1 13 9) then
    ldI 144 (S.1 14) x2 fun x4 =>
    if x4 = a then
      nmI (x1 + 1) fun x7 =>
      nmI (x2 + 1) fun x8 =>
      r3 x7 x8
    else
      nmI (x1 + 0) fun x5 =>
      nmI (x2 + 1) fun x6 =>
      r3 x5 x6
  else
    some x1
def fX1_number (N : Nat) (a : Int32) (S : St) : Option (Int32) :=
  itN (fun _ _ => none) (fX1_number_L4 a S) N 0 0
abbrev rmX1_number : Room := { frames := 0, cells := 0, slots := 0, locals := 0 }
theorem iX1_number_X1 : ∀ w ∈ wsX10, w ∈ wsX1_number := fun w h => List.mem_cons_of_mem _ (List.mem_append_right _ h)
set_option maxHeartbeats 4000000 in
set_option maxRecDepth 100000 in
theorem kX1_number (l : Launch) (D : va_G) (y : Cy) (g : Nat → Nat) (N : Nat) (a : Int32) (S : St) (x0 : Int32) (h : fX1_number N a S = some x0) : KI l yX1_number wsX1_number rmX1_number D vwCl (tz y) (wc y g) (AC g) [.ref (g 13), .int a] S (fun r S2 => r = x0 ∧ S2 = S) := by
  refine m_entryIP (wc_ok y g) (by decide) rfl (Nat.le_of_ble_eq_true rfl) (lv := [(0, .ref (g 13)), (1, .int a)]) rfl h ?_
  intro p e s m args below meth c hC hr hlocks
  obtain ⟨Q, hQ⟩ : ∃ Q, Q = (MQ below (va_Qi (fun r S2 => r = x0 ∧ S2 = S) (Bw D vwCl (tz y) (wc y g) (AC g s.heap.size)) (AC g s.heap.size)) args s 0 0 (AC g s.heap.size)) := ⟨_, rfl⟩
  rw [← hQ]
  have hret : ∀ (v : Int32) (pc : Nat) (lv : List (Nat × Value)), decode cX1_number pc = .ok (.ireturn, 1) → Sm p l e (headSpec wsX1_number rmX1_number).room s m args below meth c D vwCl (wc y g) (AC g s.heap.size) 4 Q x0 (some v) S pc lv [.int v] := by
    rw [hQ]
    exact fun v pc lv hd => m_iretP hC hr hlocks hd
  clear hQ
  unfold fX1_number
  refine m_iconst hC (0) dX1_number_0 (by decide) ?_
  refine m_istore_n hC [(0, .ref (g 13)), (1, .int a), (2, .int 0)] [1, 2, 0] dX1_number_1 (by decide) rfl rfl ?_
  refine m_iconst hC (0) dX1_number_2 (by decide) ?_
  refine m_istore_n hC [(0, .ref (g 13)), (1, .int a), (2, .int 0), (3, .int 0)] [1, 2, 3, 0] dX1_number_3 (by decide) rfl rfl ?_
  refine (m_it (z := (fun _ _ => none)) (F := fX1_number_L4 a S) N (fun r3 => ∀ (x1 : Int32) (x2 : Int32), Sm p l e (headSpec wsX1_number rmX1_number).room s m args below meth c D vwCl (wc y g) (AC g s.heap.size) 4 Q x0 (r3 x1 x2) S 4 [(0, .ref (g 13)), (1, .int a), (2, .int x1), (3, .int x2)] []) ?_ ?_) 0 0
  · exact fun _ _ => m_none
  · intro r3 hr3 x1 x2
    unfold fX1_number_L4
    refine m_iload_n hC dX1_number_4 3 rfl ?_
    refine m_aload_n hC dX1_number_5 0 rfl ?_
    refine m_get hC iX1_number_X1 (wc_13 y g S) rfl 9 (by decide) (List.mem_of_getElem? (i := 1) rfl) rfl rfl dX1_number_6 ?_
    refine m_icmp_ge hC 36 dX1_number_9 (by decide) ?_ ?_
    · refine m_iload_n hC dX1_number_36 2 rfl ?_
      exact hret _ _ _ dX1_number_37
    · refine m_iload_n hC dX1_number_12 2 rfl ?_
      refine m_aload_n hC dX1_number_13 0 rfl ?_
      refine m_get hC iX1_number_X1 (wc_13 y g S) rfl 2 (by decide) (List.mem_of_getElem? (i := 2) rfl) rfl rfl dX1_number_14 ?_
      refine m_iload_n hC dX1_number_17 3 rfl ?_
      refine m_iald hC (wc_14 y g S) (t0 := 0) rfl dX1_number_18 ?_
      intro x4
      refine m_iload_n hC dX1_number_19 1 rfl ?_
      refine m_icmp_ne hC 27 dX1_number_20 (by decide) ?_ ?_
      · refine m_iconst hC (0) dX1_number_27 (by decide) ?_
        refine m_iadd hC dX1_number_28 ?_
        refine m_nmI ?_
        intro x5
        refine m_istore_n hC [(0, .ref (g 13)), (1, .int a), (2, .int x5), (3, .int x2)] [1, 2, 0, 3] dX1_number_29 (by decide) rfl rfl ?_
        refine m_iinc hC (fun x6 => [(0, .ref (g 13)), (1, .int a), (2, .int x5), (3, .int x6)]) [1, 2, 3, 0] dX1_number_30 (j := 3) rfl (by decide) (by decide) (fun _ => rfl) (fun _ => rfl) ?_
        intro x6
        refine m_goto hC 4 dX1_number_33 (by decide) ?_
        exact hr3 _ _
      · refine m_iconst hC (1) dX1_number_23 (by decide) ?_
        refine m_goto hC 28 dX1_number_24 (by decide) ?_
        refine m_iadd hC dX1_number_28 ?_
        refine m_nmI ?_
        intro x7
        refine m_istore_n hC [(0, .ref (g 13)), (1, .int a), (2, .int x7), (3, .int x2)] [1, 2, 0, 3] dX1_number_29 (by decide) rfl rfl ?_
        refine m_iinc hC (fun x8 => [(0, .ref (g 13)), (1, .int a), (2, .int x7), (3, .int x8)]) [1, 2, 3, 0] dX1_number_30 (j := 3) rfl (by decide) (by decide) (fun _ => rfl) (fun _ => rfl) ?_
        intro x8
        refine m_goto hC 4 dX1_number_33 (by decide) ?_
        exact hr3 _ _
def fX1_isStanding (a : Int32) (S : St) : Option (Int32) :=
  if (S.1 13 10) = 0 then
    some 0
  else
    ldI 144 (S.1 19) a fun x1 =>
    if x1 = 0 then
      some 0
    else
      some 1
abbrev rmX1_isStanding : Room := { frames := 0, cells := 0, slots := 0, locals := 0 }
theorem iX1_isStanding_X1 : ∀ w ∈ wsX10, w ∈ wsX1_isStanding := fun w h => List.mem_cons_of_mem _ (List.mem_append_right _ h)
set_option maxHeartbeats 4000000 in
set_option maxRecDepth 100000 in
theorem kX1_isStanding (l : Launch) (D : va_G) (y : Cy) (g : Nat → Nat) (a : Int32) (S : St) (x0 : Int32) (h : fX1_isStanding a S = some x0) : KI l yX1_isStanding wsX1_isStanding rmX1_isStanding D vwCl (tz y) (wc y g) (AC g) [.ref (g 13), .int a] S (fun r S2 => r = x0 ∧ S2 = S) := by
  refine m_entryIP (wc_ok y g) (by decide) rfl (Nat.le_of_ble_eq_true rfl) (lv := [(0, .ref (g 13)), (1, .int a)]) rfl h ?_
  intro p e s m args below meth c hC hr hlocks
  obtain ⟨Q, hQ⟩ : ∃ Q, Q = (MQ below (va_Qi (fun r S2 => r = x0 ∧ S2 = S) (Bw D vwCl (tz y) (wc y g) (AC g s.heap.size)) (AC g s.heap.size)) args s 0 0 (AC g s.heap.size)) := ⟨_, rfl⟩
  rw [← hQ]
  have hret : ∀ (v : Int32) (pc : Nat) (lv : List (Nat × Value)), decode cX1_isStanding pc = .ok (.ireturn, 1) → narrow .boolean (.int v) = .int v → Sm p l e (headSpec wsX1_isStanding rmX1_isStanding).room s m args below meth c D vwCl (wc y g) (AC g s.heap.size) 2 Q x0 (some v) S pc lv [.int v] := by
    rw [hQ]
    exact fun v pc lv hd hz => m_zretP hC hz hr hlocks hd
  clear hQ
  unfold fX1_isStanding
  refine m_aload_n hC dX1_isStanding_0 0 rfl ?_
  refine m_get hC iX1_isStanding_X1 (wc_13 y g S) rfl 10 (by decide) (List.mem_of_getElem? (i := 1) rfl) rfl rfl dX1_isStanding_1 ?_
  refine m_if_eq hC 20 dX1_isStanding_4 (by decide) ?_ ?_
  · refine m_iconst hC (0) dX1_isStanding_20 (by decide) ?_
    exact hret _ _ _ dX1_isStanding_21 rfl
  · refine m_aload_n hC dX1_isStanding_7 0 rfl ?_
    refine m_get hC iX1_isStanding_X1 (wc_13 y g S) rfl 7 (by decide) (List.mem_of_getElem? (i := 2) rfl) rfl rfl dX1_isStanding_8 ?_
    refine m_iload_n hC dX1_isStanding_11 1 rfl ?_
    refine m_zald hC (wc_19 y g S) (t0 := 1) rfl dX1_isStanding_12 ?_
    intro x1
    refine m_if_eq hC 20 dX1_isStanding_13 (by decide) ?_ ?_
    · refine m_iconst hC (0) dX1_isStanding_20 (by decide) ?_
      exact hret _ _ _ dX1_isStanding_21 rfl
    · refine m_iconst hC (1) dX1_isStanding_16 (by decide) ?_
      refine m_goto hC 21 dX1_isStanding_17 (by decide) ?_
      exact hret _ _ _ dX1_isStanding_21 rfl
def fX1_numberStanding_L4 (a : Int32) (S : St) (r3 : Int32 → Int32 → Option (Int32)) : Int32 → Int32 → Option (Int32) := fun x1 x2 =>
  if x2 < (S.1 13 9) then
    ldI 144 (S.1 14) x2 fun x4 =>
    if x4 = a then
      caP (fX1_isStanding x2 S) fun x7 =>
      if x7 = 0 then
        nmI (x1 + 0) fun x8 =>
        nmI (x2 + 1) fun x9 =>
        r3 x8 x9
      else
        nmI (x1 + 1) fun x10 =>
        nmI (x2 + 1) fun x11 =>
        r3 x10 x11
    else
      nmI (x1 + 0) fun x5 =>
      nmI (x2 + 1) fun x6 =>
      r3 x5 x6
  else
    some x1
def fX1_numberStanding (N : Nat) (a : Int32) (S : St) : Option (Int32) :=
  itN (fun _ _ => none) (fX1_numberStanding_L4 a S) N 0 0
abbrev rmX1_numberStanding : Room := { frames := 1, cells := 0, slots := 0, locals := 21 }
theorem iX1_numberStanding_X1 : ∀ w ∈ wsX10, w ∈ wsX1_numberStanding := fun w h => List.mem_cons_of_mem _ (List.mem_append_right _ h)
set_option maxHeartbeats 4000000 in
set_option maxRecDepth 100000 in
theorem kX1_numberStanding (l : Launch) (D : va_G) (y : Cy) (g : Nat → Nat) (N : Nat) (a : Int32) (S : St) (x0 : Int32) (h : fX1_numberStanding N a S = some x0) : KI l yX1_numberStanding wsX1_numberStanding rmX1_numberStanding D vwCl (tz y) (wc y g) (AC g) [.ref (g 13), .int a] S (fun r S2 => r = x0 ∧ S2 = S) := by
  refine m_entryIP (wc_ok y g) (by decide) rfl (Nat.le_of_ble_eq_true rfl) (lv := [(0, .ref (g 13)), (1, .int a)]) rfl h ?_
  intro p e s m args below meth c hC hr hlocks
  obtain ⟨Q, hQ⟩ : ∃ Q, Q = (MQ below (va_Qi (fun r S2 => r = x0 ∧ S2 = S) (Bw D vwCl (tz y) (wc y g) (AC g s.heap.size)) (AC g s.heap.size)) args s 0 0 (AC g s.heap.size)) := ⟨_, rfl⟩
  rw [← hQ]
  have hret : ∀ (v : Int32) (pc : Nat) (lv : List (Nat × Value)), decode cX1_numberStanding pc = .ok (.ireturn, 1) → Sm p l e (headSpec wsX1_numberStanding rmX1_numberStanding).room s m args below meth c D vwCl (wc y g) (AC g s.heap.size) 4 Q x0 (some v) S pc lv [.int v] := by
    rw [hQ]
    exact fun v pc lv hd => m_iretP hC hr hlocks hd
  clear hQ
  unfold fX1_numberStanding
  refine m_iconst hC (0) dX1_numberStanding_0 (by decide) ?_
  refine m_istore_n hC [(0, .ref (g 13)), (1, .int a), (2, .int 0)] [1, 2, 0] dX1_numberStanding_1 (by decide) rfl rfl ?_
  refine m_iconst hC (0) dX1_numberStanding_2 (by decide) ?_
  refine m_istore_n hC [(0, .ref (g 13)), (1, .int a), (2, .int 0), (3, .int 0)] [1, 2, 3, 0] dX1_numberStanding_3 (by decide) rfl rfl ?_
  refine (m_it (z := (fun _ _ => none)) (F := fX1_numberStanding_L4 a S) N (fun r3 => ∀ (x1 : Int32) (x2 : Int32), Sm p l e (headSpec wsX1_numberStanding rmX1_numberStanding).room s m args below meth c D vwCl (wc y g) (AC g s.heap.size) 4 Q x0 (r3 x1 x2) S 4 [(0, .ref (g 13)), (1, .int a), (2, .int x1), (3, .int x2)] []) ?_ ?_) 0 0
  · exact fun _ _ => m_none
  · intro r3 hr3 x1 x2
    unfold fX1_numberStanding_L4
    refine m_iload_n hC dX1_numberStanding_4 3 rfl ?_
    refine m_aload_n hC dX1_numberStanding_5 0 rfl ?_
    refine m_get hC iX1_numberStanding_X1 (wc_13 y g S) rfl 9 (by decide) (List.mem_of_getElem? (i := 1) rfl) rfl rfl dX1_numberStanding_6 ?_
    refine m_icmp_ge hC 44 dX1_numberStanding_9 (by decide) ?_ ?_
    · refine m_iload_n hC dX1_numberStanding_44 2 rfl ?_
      exact hret _ _ _ dX1_numberStanding_45
    · refine m_iload_n hC dX1_numberStanding_12 2 rfl ?_
      refine m_aload_n hC dX1_numberStanding_13 0 rfl ?_
      refine m_get hC iX1_numberStanding_X1 (wc_13 y g S) rfl 2 (by decide) (List.mem_of_getElem? (i := 2) rfl) rfl rfl dX1_numberStanding_14 ?_
      refine m_iload_n hC dX1_numberStanding_17 3 rfl ?_
      refine m_iald hC (wc_14 y g S) (t0 := 0) rfl dX1_numberStanding_18 ?_
      intro x4
      refine m_iload_n hC dX1_numberStanding_19 1 rfl ?_
      refine m_icmp_ne hC 35 dX1_numberStanding_20 (by decide) ?_ ?_
      · refine m_iconst hC (0) dX1_numberStanding_35 (by decide) ?_
        refine m_iadd hC dX1_numberStanding_36 ?_
        refine m_nmI ?_
        intro x5
        refine m_istore_n hC [(0, .ref (g 13)), (1, .int a), (2, .int x5), (3, .int x2)] [1, 2, 0, 3] dX1_numberStanding_37 (by decide) rfl rfl ?_
        refine m_iinc hC (fun x6 => [(0, .ref (g 13)), (1, .int a), (2, .int x5), (3, .int x6)]) [1, 2, 3, 0] dX1_numberStanding_38 (j := 3) rfl (by decide) (by decide) (fun _ => rfl) (fun _ => rfl) ?_
        intro x6
        refine m_goto hC 4 dX1_numberStanding_41 (by decide) ?_
        exact hr3 _ _
      · refine m_aload_n hC dX1_numberStanding_23 0 rfl ?_
        refine m_iload_n hC dX1_numberStanding_24 3 rfl ?_
        refine m_cIPV hC (As := [.int x2]) (wc_ok y g) (cwV 1 hC.1.2.2.2.2 gX1_numberStanding_X1_isStanding rfl rfl rfl (by decide +kernel) ⟨Nat.le_of_ble_eq_true rfl, Nat.le_of_ble_eq_true rfl⟩) (wc_13 y g S) rfl (fun xq hq => kX1_isStanding l D y g x2 S xq hq) rfl (Nat.le_of_ble_eq_true rfl) dX1_numberStanding_25 ?_
        intro x7
        refine m_if_eq hC 35 dX1_numberStanding_28 (by decide) ?_ ?_
        · refine m_iconst hC (0) dX1_numberStanding_35 (by decide) ?_
          refine m_iadd hC dX1_numberStanding_36 ?_
          refine m_nmI ?_
          intro x8
          refine m_istore_n hC [(0, .ref (g 13)), (1, .int a), (2, .int x8), (3, .int x2)] [1, 2, 0, 3] dX1_numberStanding_37 (by decide) rfl rfl ?_
          refine m_iinc hC (fun x9 => [(0, .ref (g 13)), (1, .int a), (2, .int x8), (3, .int x9)]) [1, 2, 3, 0] dX1_numberStanding_38 (j := 3) rfl (by decide) (by decide) (fun _ => rfl) (fun _ => rfl) ?_
          intro x9
          refine m_goto hC 4 dX1_numberStanding_41 (by decide) ?_
          exact hr3 _ _
        · refine m_iconst hC (1) dX1_numberStanding_31 (by decide) ?_
          refine m_goto hC 36 dX1_numberStanding_32 (by decide) ?_
          refine m_iadd hC dX1_numberStanding_36 ?_
          refine m_nmI ?_
          intro x10
          refine m_istore_n hC [(0, .ref (g 13)), (1, .int a), (2, .int x10), (3, .int x2)] [1, 2, 0, 3] dX1_numberStanding_37 (by decide) rfl rfl ?_
          refine m_iinc hC (fun x11 => [(0, .ref (g 13)), (1, .int a), (2, .int x10), (3, .int x11)]) [1, 2, 3, 0] dX1_numberStanding_38 (j := 3) rfl (by decide) (by decide) (fun _ => rfl) (fun _ => rfl) ?_
          intro x11
          refine m_goto hC 4 dX1_numberStanding_41 (by decide) ?_
          exact hr3 _ _
def fX1_numberAtFoot (N : Nat) (a : Int32) (S : St) : Option (Int32) :=
  if (S.1 13 10) = 0 then
    some 0
  else
    caP (fX1_number N a S) fun x1 =>
    caP (fX1_numberStanding N a S) fun x2 =>
    some (x1 - x2)
abbrev rmX1_numberAtFoot : Room := { frames := 2, cells := 0, slots := 0, locals := 44 }
theorem iX1_numberAtFoot_X1 : ∀ w ∈ wsX10, w ∈ wsX1_numberAtFoot := fun w h => List.mem_cons_of_mem _ (List.mem_append_right _ h)
set_option maxHeartbeats 4000000 in
set_option maxRecDepth 100000 in
theorem kX1_numberAtFoot (l : Launch) (D : va_G) (y : Cy) (g : Nat → Nat) (N : Nat) (a : Int32) (S : St) (x0 : Int32) (h : fX1_numberAtFoot N a S = some x0) : KI l yX1_numberAtFoot wsX1_numberAtFoot rmX1_numberAtFoot D vwCl (tz y) (wc y g) (AC g) [.ref (g 13), .int a] S (fun r S2 => r = x0 ∧ S2 = S) := by
  refine m_entryIP (wc_ok y g) (by decide) rfl (Nat.le_of_ble_eq_true rfl) (lv := [(0, .ref (g 13)), (1, .int a)]) rfl h ?_
  intro p e s m args below meth c hC hr hlocks
  obtain ⟨Q, hQ⟩ : ∃ Q, Q = (MQ below (va_Qi (fun r S2 => r = x0 ∧ S2 = S) (Bw D vwCl (tz y) (wc y g) (AC g s.heap.size)) (AC g s.heap.size)) args s 0 0 (AC g s.heap.size)) := ⟨_, rfl⟩
  rw [← hQ]
  have hret : ∀ (v : Int32) (pc : Nat) (lv : List (Nat × Value)), decode cX1_numberAtFoot pc = .ok (.ireturn, 1) → Sm p l e (headSpec wsX1_numberAtFoot rmX1_numberAtFoot).room s m args below meth c D vwCl (wc y g) (AC g s.heap.size) 2 Q x0 (some v) S pc lv [.int v] := by
    rw [hQ]
    exact fun v pc lv hd => m_iretP hC hr hlocks hd
  clear hQ
  unfold fX1_numberAtFoot
  refine m_aload_n hC dX1_numberAtFoot_0 0 rfl ?_
  refine m_get hC iX1_numberAtFoot_X1 (wc_13 y g S) rfl 10 (by decide) (List.mem_of_getElem? (i := 1) rfl) rfl rfl dX1_numberAtFoot_1 ?_
  refine m_if_eq hC 21 dX1_numberAtFoot_4 (by decide) ?_ ?_
  · refine m_iconst hC (0) dX1_numberAtFoot_21 (by decide) ?_
    exact hret _ _ _ dX1_numberAtFoot_22
  · refine m_aload_n hC dX1_numberAtFoot_7 0 rfl ?_
    refine m_iload_n hC dX1_numberAtFoot_8 1 rfl ?_
    refine m_cIPV hC (As := [.int a]) (wc_ok y g) (cwV 1 hC.1.2.2.2.2 gX1_numberAtFoot_X1_number rfl rfl rfl (by decide +kernel) ⟨Nat.le_of_ble_eq_true rfl, Nat.le_of_ble_eq_true rfl⟩) (wc_13 y g S) rfl (fun xq hq => kX1_number l D y g N a S xq hq) rfl (Nat.le_of_ble_eq_true rfl) dX1_numberAtFoot_9 ?_
    intro x1
    refine m_aload_n hC dX1_numberAtFoot_12 0 rfl ?_
    refine m_iload_n hC dX1_numberAtFoot_13 1 rfl ?_
    refine m_cIPV hC (As := [.int a]) (wc_ok y g) (cwV 1 hC.1.2.2.2.2 gX1_numberAtFoot_X1_numberStanding rfl rfl rfl (by decide +kernel) ⟨Nat.le_of_ble_eq_true rfl, Nat.le_of_ble_eq_true rfl⟩) (wc_13 y g S) rfl (fun xq hq => kX1_numberStanding l D y g N a S xq hq) rfl (Nat.le_of_ble_eq_true rfl) dX1_numberAtFoot_14 ?_
    intro x2
    refine m_isub hC dX1_numberAtFoot_17 ?_
    refine m_goto hC 22 dX1_numberAtFoot_18 (by decide) ?_
    exact hret _ _ _ dX1_numberAtFoot_22
def fX1_allAtFoot_L4 (N : Nat) (S : St) (r3 : Int32 → Int32 → Option (Int32)) : Int32 → Int32 → Option (Int32) := fun x1 x2 =>
  if x2 < (S.1 1 5) then
    caP (fX1_numberAtFoot N x2 S) fun x4 =>
    nmI (x1 + x4) fun x5 =>
    nmI (x2 + 1) fun x6 =>
    r3 x5 x6
  else
    some x1
def fX1_allAtFoot (N : Nat) (S : St) : Option (Int32) :=
  itN (fun _ _ => none) (fX1_allAtFoot_L4 N S) N 0 0
abbrev rmX1_allAtFoot : Room := { frames := 3, cells := 0, slots := 0, locals := 65 }
theorem iX1_allAtFoot_X1 : ∀ w ∈ wsX10, w ∈ wsX1_allAtFoot := fun w h => List.mem_cons_of_mem _ (List.mem_append_left _ (List.mem_append_right _ h))
theorem iX1_allAtFoot_X4 : ∀ w ∈ wsX40, w ∈ wsX1_allAtFoot := fun w h => List.mem_cons_of_mem _ (List.mem_append_right _ h)
set_option maxHeartbeats 4000000 in
set_option maxRecDepth 100000 in
theorem kX1_allAtFoot (l : Launch) (D : va_G) (y : Cy) (g : Nat → Nat) (N : Nat) (S : St) (x0 : Int32) (h : fX1_allAtFoot N S = some x0) : KI l yX1_allAtFoot wsX1_allAtFoot rmX1_allAtFoot D vwCl (tz y) (wc y g) (AC g) [.ref (g 13)] S (fun r S2 => r = x0 ∧ S2 = S) := by
  refine m_entryIP (wc_ok y g) (by decide) rfl (Nat.le_of_ble_eq_true rfl) (lv := [(0, .ref (g 13))]) rfl h ?_
  intro p e s m args below meth c hC hr hlocks
  obtain ⟨Q, hQ⟩ : ∃ Q, Q = (MQ below (va_Qi (fun r S2 => r = x0 ∧ S2 = S) (Bw D vwCl (tz y) (wc y g) (AC g s.heap.size)) (AC g s.heap.size)) args s 0 0 (AC g s.heap.size)) := ⟨_, rfl⟩
  rw [← hQ]
  have hret : ∀ (v : Int32) (pc : Nat) (lv : List (Nat × Value)), decode cX1_allAtFoot pc = .ok (.ireturn, 1) → Sm p l e (headSpec wsX1_allAtFoot rmX1_allAtFoot).room s m args below meth c D vwCl (wc y g) (AC g s.heap.size) 3 Q x0 (some v) S pc lv [.int v] := by
    rw [hQ]
    exact fun v pc lv hd => m_iretP hC hr hlocks hd
  clear hQ
  unfold fX1_allAtFoot
  refine m_iconst hC (0) dX1_allAtFoot_0 (by decide) ?_
  refine m_istore_n hC [(0, .ref (g 13)), (1, .int 0)] [1, 0] dX1_allAtFoot_1 (by decide) rfl rfl ?_
  refine m_iconst hC (0) dX1_allAtFoot_2 (by decide) ?_
  refine m_istore_n hC [(0, .ref (g 13)), (1, .int 0), (2, .int 0)] [1, 2, 0] dX1_allAtFoot_3 (by decide) rfl rfl ?_
  refine (m_it (z := (fun _ _ => none)) (F := fX1_allAtFoot_L4 N S) N (fun r3 => ∀ (x1 : Int32) (x2 : Int32), Sm p l e (headSpec wsX1_allAtFoot rmX1_allAtFoot).room s m args below meth c D vwCl (wc y g) (AC g s.heap.size) 3 Q x0 (r3 x1 x2) S 4 [(0, .ref (g 13)), (1, .int x1), (2, .int x2)] []) ?_ ?_) 0 0
  · exact fun _ _ => m_none
  · intro r3 hr3 x1 x2
    unfold fX1_allAtFoot_L4
    refine m_iload_n hC dX1_allAtFoot_4 2 rfl ?_
    refine m_aload_n hC dX1_allAtFoot_5 0 rfl ?_
    refine m_get hC iX1_allAtFoot_X1 (wc_13 y g S) rfl 0 (by decide) (List.mem_of_getElem? (i := 1) rfl) rfl rfl dX1_allAtFoot_6 ?_
    refine m_get hC iX1_allAtFoot_X4 (wc_1 y g S) rfl 5 (by decide) (List.mem_of_getElem? (i := 2) rfl) rfl rfl dX1_allAtFoot_9 ?_
    refine m_icmp_ge hC 29 dX1_allAtFoot_12 (by decide) ?_ ?_
    · refine m_iload_n hC dX1_allAtFoot_29 1 rfl ?_
      exact hret _ _ _ dX1_allAtFoot_30
    · refine m_iload_n hC dX1_allAtFoot_15 1 rfl ?_
      refine m_aload_n hC dX1_allAtFoot_16 0 rfl ?_
      refine m_iload_n hC dX1_allAtFoot_17 2 rfl ?_
      refine m_cIPV hC (As := [.int x2]) (wc_ok y g) (cwV 1 hC.1.2.2.2.2 gX1_allAtFoot_X1_numberAtFoot rfl rfl rfl (by decide +kernel) ⟨Nat.le_of_ble_eq_true rfl, Nat.le_of_ble_eq_true rfl⟩) (wc_13 y g S) rfl (fun xq hq => kX1_numberAtFoot l D y g N x2 S xq hq) rfl (Nat.le_of_ble_eq_true rfl) dX1_allAtFoot_18 ?_
      intro x4
      refine m_iadd hC dX1_allAtFoot_21 ?_
      refine m_nmI ?_
      intro x5
      refine m_istore_n hC [(0, .ref (g 13)), (1, .int x5), (2, .int x2)] [1, 0, 2] dX1_allAtFoot_22 (by decide) rfl rfl ?_
      refine m_iinc hC (fun x6 => [(0, .ref (g 13)), (1, .int x5), (2, .int x6)]) [1, 2, 0] dX1_allAtFoot_23 (j := 2) rfl (by decide) (by decide) (fun _ => rfl) (fun _ => rfl) ?_
      intro x6
      refine m_goto hC 4 dX1_allAtFoot_26 (by decide) ?_
      exact hr3 _ _
def fX1_end (a : Int32) (S : St) : Option (Int32) :=
  ldI 144 (S.1 16) a fun x1 =>
  ldI 144 (S.1 14) a fun x2 =>
  ldI 8 (S.1 2) x2 fun x3 =>
  some (x1 + x3)
abbrev rmX1_end : Room := { frames := 0, cells := 0, slots := 0, locals := 0 }
theorem iX1_end_X1 : ∀ w ∈ wsX10, w ∈ wsX1_end := fun w h => List.mem_cons_of_mem _ (List.mem_append_left _ (List.mem_append_right _ h))
theorem iX1_end_X4 : ∀ w ∈ wsX40, w ∈ wsX1_end := fun w h => List.mem_cons_of_mem _ (List.mem_append_right _ h)
set_option maxHeartbeats 4000000 in
set_option maxRecDepth 100000 in
theorem kX1_end (l : Launch) (D : va_G) (y : Cy) (g : Nat → Nat) (a : Int32) (S : St) (x0 : Int32) (h : fX1_end a S = some x0) : KI l yX1_end wsX1_end rmX1_end D vwCl (tz y) (wc y g) (AC g) [.ref (g 13), .int a] S (fun r S2 => r = x0 ∧ S2 = S) := by
  refine m_entryIP (wc_ok y g) (by decide) rfl (Nat.le_of_ble_eq_true rfl) (lv := [(0, .ref (g 13)), (1, .int a)]) rfl h ?_
  intro p e s m args below meth c hC hr hlocks
  obtain ⟨Q, hQ⟩ : ∃ Q, Q = (MQ below (va_Qi (fun r S2 => r = x0 ∧ S2 = S) (Bw D vwCl (tz y) (wc y g) (AC g s.heap.size)) (AC g s.heap.size)) args s 0 0 (AC g s.heap.size)) := ⟨_, rfl⟩
  rw [← hQ]
  have hret : ∀ (v : Int32) (pc : Nat) (lv : List (Nat × Value)), decode cX1_end pc = .ok (.ireturn, 1) → Sm p l e (headSpec wsX1_end rmX1_end).room s m args below meth c D vwCl (wc y g) (AC g s.heap.size) 2 Q x0 (some v) S pc lv [.int v] := by
    rw [hQ]
    exact fun v pc lv hd => m_iretP hC hr hlocks hd
  clear hQ
  unfold fX1_end
  refine m_aload_n hC dX1_end_0 0 rfl ?_
  refine m_get hC iX1_end_X1 (wc_13 y g S) rfl 4 (by decide) (List.mem_of_getElem? (i := 1) rfl) rfl rfl dX1_end_1 ?_
  refine m_iload_n hC dX1_end_4 1 rfl ?_
  refine m_iald hC (wc_16 y g S) (t0 := 0) rfl dX1_end_5 ?_
  intro x1
  refine m_aload_n hC dX1_end_6 0 rfl ?_
  refine m_get hC iX1_end_X1 (wc_13 y g S) rfl 0 (by decide) (List.mem_of_getElem? (i := 2) rfl) rfl rfl dX1_end_7 ?_
  refine m_get hC iX1_end_X4 (wc_1 y g S) rfl 0 (by decide) (List.mem_of_getElem? (i := 3) rfl) rfl rfl dX1_end_10 ?_
  refine m_aload_n hC dX1_end_13 0 rfl ?_
  refine m_get hC iX1_end_X1 (wc_13 y g S) rfl 2 (by decide) (List.mem_of_getElem? (i := 4) rfl) rfl rfl dX1_end_14 ?_
  refine m_iload_n hC dX1_end_17 1 rfl ?_
  refine m_iald hC (wc_14 y g S) (t0 := 0) rfl dX1_end_18 ?_
  intro x2
  refine m_iald hC (wc_2 y g S) (t0 := 0) rfl dX1_end_19 ?_
  intro x3
  refine m_iadd hC dX1_end_20 ?_
  exact hret _ _ _ dX1_end_21
def fX1_forget (S : St) : Option (St) :=
  pfI S 13 9 0 fun S1 =>
  pfI S1 13 10 0 fun S2 =>
  pfI S2 13 11 0 fun S3 =>
  some S3
abbrev rmX1_forget : Room := { frames := 0, cells := 0, slots := 0, locals := 0 }
theorem iX1_forget_X1 : ∀ w ∈ wsX10, w ∈ wsX1_forget := fun w h => List.mem_cons_of_mem _ (List.mem_append_right _ h)
set_option maxHeartbeats 4000000 in
set_option maxRecDepth 100000 in
theorem kX1_forget (l : Launch) (D : va_G) (y : Cy) (g : Nat → Nat) (S : St) (x0 : St) (h : fX1_forget S = some x0) : KV l yX1_forget wsX1_forget rmX1_forget D vwCl (tz y) (wc y g) (AC g) [.ref (g 13)] S (fun S2 => S2 = x0) := by
  refine m_entryV (wc_ok y g) (by decide) rfl (Nat.le_of_ble_eq_true rfl) (lv := [(0, .ref (g 13))]) rfl h ?_
  intro p e s m args below meth c hC hr hlocks
  obtain ⟨Q, hQ⟩ : ∃ Q, Q = (MQ below (va_Qv (fun S2 => S2 = x0) (Bw D vwCl (tz y) (wc y g) (AC g s.heap.size)) (AC g s.heap.size)) args s 0 0 (AC g s.heap.size)) := ⟨_, rfl⟩
  rw [← hQ]
  have hret : ∀ (S2 : St) (pc : Nat) (lv : List (Nat × Value)), decode cX1_forget pc = .ok (.return_, 1) → Sm p l e (headSpec wsX1_forget rmX1_forget).room s m args below meth c D vwCl (wc y g) (AC g s.heap.size) 1 Q x0 (some S2) S2 pc lv [] := by
    rw [hQ]
    exact fun S2 pc lv hd => m_vret hC hr hlocks hd
  clear hQ
  unfold fX1_forget
  refine m_aload_n hC dX1_forget_0 0 rfl ?_
  refine m_iconst hC (0) dX1_forget_1 (by decide) ?_
  refine m_putI (ty := .int) hC iX1_forget_X1 tyX1 tyX1_ok nmX1 (wc_13 y g S) rfl 9 (by decide) (List.mem_of_getElem? (i := 1) rfl) rfl rfl (by decide +kernel) rfl rfl (Nat.le_of_ble_eq_true rfl) dX1_forget_2 (wcf_13_9 y g S _) ?_
  intro S1
  refine m_aload_n hC dX1_forget_5 0 rfl ?_
  refine m_iconst hC (0) dX1_forget_6 (by decide) ?_
  refine m_putI (ty := .boolean) hC iX1_forget_X1 tyX1 tyX1_ok nmX1 (wc_13 y g S1) rfl 10 (by decide) (List.mem_of_getElem? (i := 2) rfl) rfl rfl (by decide +kernel) rfl rfl (Nat.le_of_ble_eq_true rfl) dX1_forget_7 (wcf_13_10 y g S1 _) ?_
  intro S2
  refine m_aload_n hC dX1_forget_10 0 rfl ?_
  refine m_iconst hC (0) dX1_forget_11 (by decide) ?_
  refine m_putI (ty := .int) hC iX1_forget_X1 tyX1 tyX1_ok nmX1 (wc_13 y g S2) rfl 11 (by decide) (List.mem_of_getElem? (i := 3) rfl) rfl rfl (by decide +kernel) rfl rfl (Nat.le_of_ble_eq_true rfl) dX1_forget_12 (wcf_13_11 y g S2 _) ?_
  intro S3
  exact hret _ _ _ dX1_forget_15
def fX1_hearting (a : Int32) (S : St) : Option (Int32) :=
  ldI 144 (S.1 14) a fun x1 =>
  ldI 8 (S.1 2) x1 fun x2 =>
  ldI 144 (S.1 15) a fun x3 =>
  caP (fX3_width x3 S) fun x4 =>
  ldI 8 (S.1 3) x1 fun x5 =>
  some (x2 * (mxI 0 (x4 - x5)))
abbrev rmX1_hearting : Room := { frames := 2, cells := 0, slots := 0, locals := 42 }
theorem iX1_hearting_X1 : ∀ w ∈ wsX10, w ∈ wsX1_hearting := fun w h => List.mem_cons_of_mem _ (List.mem_append_left _ (List.mem_append_left _ (List.mem_append_right _ h)))
theorem iX1_hearting_X4 : ∀ w ∈ wsX40, w ∈ wsX1_hearting := fun w h => List.mem_cons_of_mem _ (List.mem_append_left _ (List.mem_append_right _ h))
theorem iX1_hearting_X3 : ∀ w ∈ wsX30, w ∈ wsX1_hearting := fun w h => List.mem_cons_of_mem _ (List.mem_append_right _ h)
set_option maxHeartbeats 4000000 in
set_option maxRecDepth 100000 in
theorem kX1_hearting (l : Launch) (D : va_G) (y : Cy) (g : Nat → Nat) (a : Int32) (S : St) (x0 : Int32) (h : fX1_hearting a S = some x0) : KI l yX1_hearting wsX1_hearting rmX1_hearting D vwCl (tz y) (wc y g) (AC g) [.ref (g 13), .int a] S (fun r S2 => r = x0 ∧ S2 = S) := by
  refine m_entryIP (wc_ok y g) (by decide) rfl (Nat.le_of_ble_eq_true rfl) (lv := [(0, .ref (g 13)), (1, .int a)]) rfl h ?_
  intro p e s m args below meth c hC hr hlocks
  obtain ⟨Q, hQ⟩ : ∃ Q, Q = (MQ below (va_Qi (fun r S2 => r = x0 ∧ S2 = S) (Bw D vwCl (tz y) (wc y g) (AC g s.heap.size)) (AC g s.heap.size)) args s 0 0 (AC g s.heap.size)) := ⟨_, rfl⟩
  rw [← hQ]
  have hret : ∀ (v : Int32) (pc : Nat) (lv : List (Nat × Value)), decode cX1_hearting pc = .ok (.ireturn, 1) → Sm p l e (headSpec wsX1_hearting rmX1_hearting).room s m args below meth c D vwCl (wc y g) (AC g s.heap.size) 3 Q x0 (some v) S pc lv [.int v] := by
    rw [hQ]
    exact fun v pc lv hd => m_iretP hC hr hlocks hd
  clear hQ
  unfold fX1_hearting
  refine m_aload_n hC dX1_hearting_0 0 rfl ?_
  refine m_get hC iX1_hearting_X1 (wc_13 y g S) rfl 2 (by decide) (List.mem_of_getElem? (i := 1) rfl) rfl rfl dX1_hearting_1 ?_
  refine m_iload_n hC dX1_hearting_4 1 rfl ?_
  refine m_iald hC (wc_14 y g S) (t0 := 0) rfl dX1_hearting_5 ?_
  intro x1
  refine m_istore_n hC [(0, .ref (g 13)), (1, .int a), (2, .int x1)] [1, 2, 0] dX1_hearting_6 (by decide) rfl rfl ?_
  refine m_aload_n hC dX1_hearting_7 0 rfl ?_
  refine m_get hC iX1_hearting_X1 (wc_13 y g S) rfl 0 (by decide) (List.mem_of_getElem? (i := 2) rfl) rfl rfl dX1_hearting_8 ?_
  refine m_get hC iX1_hearting_X4 (wc_1 y g S) rfl 0 (by decide) (List.mem_of_getElem? (i := 3) rfl) rfl rfl dX1_hearting_11 ?_
  refine m_iload_n hC dX1_hearting_14 2 rfl ?_
  refine m_iald hC (wc_2 y g S) (t0 := 0) rfl dX1_hearting_15 ?_
  intro x2
  refine m_iconst hC (0) dX1_hearting_16 (by decide) ?_
  refine m_aload_n hC dX1_hearting_17 0 rfl ?_
  refine m_get hC iX1_hearting_X1 (wc_13 y g S) rfl 1 (by decide) (List.mem_of_getElem? (i := 4) rfl) rfl rfl dX1_hearting_18 ?_
  refine m_aload_n hC dX1_hearting_21 0 rfl ?_
  refine m_get hC iX1_hearting_X1 (wc_13 y g S) rfl 3 (by decide) (List.mem_of_getElem? (i := 5) rfl) rfl rfl dX1_hearting_22 ?_
  refine m_iload_n hC dX1_hearting_25 1 rfl ?_
  refine m_iald hC (wc_15 y g S) (t0 := 0) rfl dX1_hearting_26 ?_
  intro x3
  refine m_cIPV hC (As := [.int x3]) (wc_ok y g) (cwV 1 hC.1.2.2.2.2 gX1_hearting_X3_width rfl rfl rfl (by decide +kernel) ⟨Nat.le_of_ble_eq_true rfl, Nat.le_of_ble_eq_true rfl⟩) (wc_12 y g S) rfl (fun xq hq => kX3_width l D y g x3 S xq hq) rfl (Nat.le_of_ble_eq_true rfl) dX1_hearting_27 ?_
  intro x4
  refine m_aload_n hC dX1_hearting_30 0 rfl ?_
  refine m_get hC iX1_hearting_X1 (wc_13 y g S) rfl 0 (by decide) (List.mem_of_getElem? (i := 2) rfl) rfl rfl dX1_hearting_31 ?_
  refine m_get hC iX1_hearting_X4 (wc_1 y g S) rfl 1 (by decide) (List.mem_of_getElem? (i := 6) rfl) rfl rfl dX1_hearting_34 ?_
  refine m_iload_n hC dX1_hearting_37 2 rfl ?_
  refine m_iald hC (wc_3 y g S) (t0 := 0) rfl dX1_hearting_38 ?_
  intro x5
  refine m_isub hC dX1_hearting_39 ?_
  refine m_max hC (List.mem_of_getElem? (i := 7) rfl) (List.mem_of_getElem? (i := 8) rfl) (List.mem_of_getElem? (i := 9) rfl) (List.mem_of_getElem? (i := 10) rfl) (Nat.le_of_ble_eq_true rfl) (Nat.le_of_ble_eq_true rfl) dX1_hearting_40 ?_
  refine m_imul hC dX1_hearting_43 ?_
  exact hret _ _ _ dX1_hearting_44
def fX1_heartingInAll_L4 (S : St) (r3 : Int32 → Int32 → Option (Int32)) : Int32 → Int32 → Option (Int32) := fun x1 x2 =>
  if x2 < (S.1 13 9) then
    caP (fX1_hearting x2 S) fun x4 =>
    nmI (x1 + x4) fun x5 =>
    nmI (x2 + 1) fun x6 =>
    r3 x5 x6
  else
    some x1
def fX1_heartingInAll (N : Nat) (S : St) : Option (Int32) :=
  itN (fun _ _ => none) (fX1_heartingInAll_L4 S) N 0 0
abbrev rmX1_heartingInAll : Room := { frames := 3, cells := 0, slots := 0, locals := 64 }
theorem iX1_heartingInAll_X1 : ∀ w ∈ wsX10, w ∈ wsX1_heartingInAll := fun w h => List.mem_cons_of_mem _ (List.mem_append_left _ (List.mem_append_left _ (List.mem_append_right _ h)))
theorem iX1_heartingInAll_X4 : ∀ w ∈ wsX40, w ∈ wsX1_heartingInAll := fun w h => List.mem_cons_of_mem _ (List.mem_append_left _ (List.mem_append_right _ h))
theorem iX1_heartingInAll_X3 : ∀ w ∈ wsX30, w ∈ wsX1_heartingInAll := fun w h => List.mem_cons_of_mem _ (List.mem_append_right _ h)
set_option maxHeartbeats 4000000 in
set_option maxRecDepth 100000 in
theorem kX1_heartingInAll (l : Launch) (D : va_G) (y : Cy) (g : Nat → Nat) (N : Nat) (S : St) (x0 : Int32) (h : fX1_heartingInAll N S = some x0) : KI l yX1_heartingInAll wsX1_heartingInAll rmX1_heartingInAll D vwCl (tz y) (wc y g) (AC g) [.ref (g 13)] S (fun r S2 => r = x0 ∧ S2 = S) := by
  refine m_entryIP (wc_ok y g) (by decide) rfl (Nat.le_of_ble_eq_true rfl) (lv := [(0, .ref (g 13))]) rfl h ?_
  intro p e s m args below meth c hC hr hlocks
  obtain ⟨Q, hQ⟩ : ∃ Q, Q = (MQ below (va_Qi (fun r S2 => r = x0 ∧ S2 = S) (Bw D vwCl (tz y) (wc y g) (AC g s.heap.size)) (AC g s.heap.size)) args s 0 0 (AC g s.heap.size)) := ⟨_, rfl⟩
  rw [← hQ]
  have hret : ∀ (v : Int32) (pc : Nat) (lv : List (Nat × Value)), decode cX1_heartingInAll pc = .ok (.ireturn, 1) → Sm p l e (headSpec wsX1_heartingInAll rmX1_heartingInAll).room s m args below meth c D vwCl (wc y g) (AC g s.heap.size) 3 Q x0 (some v) S pc lv [.int v] := by
    rw [hQ]
    exact fun v pc lv hd => m_iretP hC hr hlocks hd
  clear hQ
  unfold fX1_heartingInAll
  refine m_iconst hC (0) dX1_heartingInAll_0 (by decide) ?_
  refine m_istore_n hC [(0, .ref (g 13)), (1, .int 0)] [1, 0] dX1_heartingInAll_1 (by decide) rfl rfl ?_
  refine m_iconst hC (0) dX1_heartingInAll_2 (by decide) ?_
  refine m_istore_n hC [(0, .ref (g 13)), (1, .int 0), (2, .int 0)] [1, 2, 0] dX1_heartingInAll_3 (by decide) rfl rfl ?_
  refine (m_it (z := (fun _ _ => none)) (F := fX1_heartingInAll_L4 S) N (fun r3 => ∀ (x1 : Int32) (x2 : Int32), Sm p l e (headSpec wsX1_heartingInAll rmX1_heartingInAll).room s m args below meth c D vwCl (wc y g) (AC g s.heap.size) 3 Q x0 (r3 x1 x2) S 4 [(0, .ref (g 13)), (1, .int x1), (2, .int x2)] []) ?_ ?_) 0 0
  · exact fun _ _ => m_none
  · intro r3 hr3 x1 x2
    unfold fX1_heartingInAll_L4
    refine m_iload_n hC dX1_heartingInAll_4 2 rfl ?_
    refine m_aload_n hC dX1_heartingInAll_5 0 rfl ?_
    refine m_get hC iX1_heartingInAll_X1 (wc_13 y g S) rfl 9 (by decide) (List.mem_of_getElem? (i := 1) rfl) rfl rfl dX1_heartingInAll_6 ?_
    refine m_icmp_ge hC 26 dX1_heartingInAll_9 (by decide) ?_ ?_
    · refine m_iload_n hC dX1_heartingInAll_26 1 rfl ?_
      exact hret _ _ _ dX1_heartingInAll_27
    · refine m_iload_n hC dX1_heartingInAll_12 1 rfl ?_
      refine m_aload_n hC dX1_heartingInAll_13 0 rfl ?_
      refine m_iload_n hC dX1_heartingInAll_14 2 rfl ?_
      refine m_cIPV hC (As := [.int x2]) (wc_ok y g) (cwV 1 hC.1.2.2.2.2 gX1_heartingInAll_X1_hearting rfl rfl rfl (by decide +kernel) ⟨Nat.le_of_ble_eq_true rfl, Nat.le_of_ble_eq_true rfl⟩) (wc_13 y g S) rfl (fun xq hq => kX1_hearting l D y g x2 S xq hq) rfl (Nat.le_of_ble_eq_true rfl) dX1_heartingInAll_15 ?_
      intro x4
      refine m_iadd hC dX1_heartingInAll_18 ?_
      refine m_nmI ?_
      intro x5
      refine m_istore_n hC [(0, .ref (g 13)), (1, .int x5), (2, .int x2)] [1, 0, 2] dX1_heartingInAll_19 (by decide) rfl rfl ?_
      refine m_iinc hC (fun x6 => [(0, .ref (g 13)), (1, .int x5), (2, .int x6)]) [1, 2, 0] dX1_heartingInAll_20 (j := 2) rfl (by decide) (by decide) (fun _ => rfl) (fun _ => rfl) ?_
      intro x6
      refine m_goto hC 4 dX1_heartingInAll_23 (by decide) ?_
      exact hr3 _ _
def fX1_placesOf (a : Int32) (S : St) : Option (Int32) :=
  caP (fX1_end a S) fun x1 =>
  ldI 144 (S.1 16) a fun x2 =>
  some ((1 <<< (x1 &&& 31)) - (1 <<< (x2 &&& 31)))
abbrev rmX1_placesOf : Room := { frames := 1, cells := 0, slots := 0, locals := 21 }
theorem iX1_placesOf_X1 : ∀ w ∈ wsX10, w ∈ wsX1_placesOf := fun w h => List.mem_cons_of_mem _ (List.mem_append_left _ (List.mem_append_right _ h))
theorem iX1_placesOf_X4 : ∀ w ∈ wsX40, w ∈ wsX1_placesOf := fun w h => List.mem_cons_of_mem _ (List.mem_append_right _ h)
set_option maxHeartbeats 4000000 in
set_option maxRecDepth 100000 in
theorem kX1_placesOf (l : Launch) (D : va_G) (y : Cy) (g : Nat → Nat) (a : Int32) (S : St) (x0 : Int32) (h : fX1_placesOf a S = some x0) : KI l yX1_placesOf wsX1_placesOf rmX1_placesOf D vwCl (tz y) (wc y g) (AC g) [.ref (g 13), .int a] S (fun r S2 => r = x0 ∧ S2 = S) := by
  refine m_entryIP (wc_ok y g) (by decide) rfl (Nat.le_of_ble_eq_true rfl) (lv := [(0, .ref (g 13)), (1, .int a)]) rfl h ?_
  intro p e s m args below meth c hC hr hlocks
  obtain ⟨Q, hQ⟩ : ∃ Q, Q = (MQ below (va_Qi (fun r S2 => r = x0 ∧ S2 = S) (Bw D vwCl (tz y) (wc y g) (AC g s.heap.size)) (AC g s.heap.size)) args s 0 0 (AC g s.heap.size)) := ⟨_, rfl⟩
  rw [← hQ]
  have hret : ∀ (v : Int32) (pc : Nat) (lv : List (Nat × Value)), decode cX1_placesOf pc = .ok (.ireturn, 1) → Sm p l e (headSpec wsX1_placesOf rmX1_placesOf).room s m args below meth c D vwCl (wc y g) (AC g s.heap.size) 2 Q x0 (some v) S pc lv [.int v] := by
    rw [hQ]
    exact fun v pc lv hd => m_iretP hC hr hlocks hd
  clear hQ
  unfold fX1_placesOf
  refine m_iconst hC (1) dX1_placesOf_0 (by decide) ?_
  refine m_aload_n hC dX1_placesOf_1 0 rfl ?_
  refine m_iload_n hC dX1_placesOf_2 1 rfl ?_
  refine m_cIPV hC (As := [.int a]) (wc_ok y g) (cwV 1 hC.1.2.2.2.2 gX1_placesOf_X1_end rfl rfl rfl (by decide +kernel) ⟨Nat.le_of_ble_eq_true rfl, Nat.le_of_ble_eq_true rfl⟩) (wc_13 y g S) rfl (fun xq hq => kX1_end l D y g a S xq hq) rfl (Nat.le_of_ble_eq_true rfl) dX1_placesOf_3 ?_
  intro x1
  refine m_ishl hC dX1_placesOf_6 ?_
  refine m_iconst hC (1) dX1_placesOf_7 (by decide) ?_
  refine m_aload_n hC dX1_placesOf_8 0 rfl ?_
  refine m_get hC iX1_placesOf_X1 (wc_13 y g S) rfl 4 (by decide) (List.mem_of_getElem? (i := 1) rfl) rfl rfl dX1_placesOf_9 ?_
  refine m_iload_n hC dX1_placesOf_12 1 rfl ?_
  refine m_iald hC (wc_16 y g S) (t0 := 0) rfl dX1_placesOf_13 ?_
  intro x2
  refine m_ishl hC dX1_placesOf_14 ?_
  refine m_isub hC dX1_placesOf_15 ?_
  exact hret _ _ _ dX1_placesOf_16
def fX1_isBorne (a : Int32) (S : St) : Option (Int32) :=
  ldI 144 (S.1 15) a fun x1 =>
  nmI (x1 - 1) fun x2 =>
  if x2 < 0 then
    some 1
  else
    caP (fX1_placesOf a S) fun x3 =>
    ldI 6 (S.1 20) x2 fun x4 =>
    caP (fJ6_bitCount_0f7a4 (x3 &&& x4)) fun x5 =>
    caP (fX1_end a S) fun x6 =>
    ldI 144 (S.1 16) a fun x7 =>
    if (2 * x5) < (x6 - x7) then
      some 0
    else
      some 1
abbrev rmX1_isBorne : Room := { frames := 2, cells := 0, slots := 0, locals := 42 }
theorem iX1_isBorne_X1 : ∀ w ∈ wsX10, w ∈ wsX1_isBorne := fun w h => List.mem_cons_of_mem _ (List.mem_append_left _ (List.mem_append_right _ h))
theorem iX1_isBorne_X4 : ∀ w ∈ wsX40, w ∈ wsX1_isBorne := fun w h => List.mem_cons_of_mem _ (List.mem_append_right _ h)
set_option maxHeartbeats 4000000 in
set_option maxRecDepth 100000 in
theorem kX1_isBorne (l : Launch) (D : va_G) (y : Cy) (g : Nat → Nat) (a : Int32) (S : St) (x0 : Int32) (h : fX1_isBorne a S = some x0) : KI l yX1_isBorne wsX1_isBorne rmX1_isBorne D vwCl (tz y) (wc y g) (AC g) [.ref (g 13), .int a] S (fun r S2 => r = x0 ∧ S2 = S) := by
  refine m_entryIP (wc_ok y g) (by decide) rfl (Nat.le_of_ble_eq_true rfl) (lv := [(0, .ref (g 13)), (1, .int a)]) rfl h ?_
  intro p e s m args below meth c hC hr hlocks
  obtain ⟨Q, hQ⟩ : ∃ Q, Q = (MQ below (va_Qi (fun r S2 => r = x0 ∧ S2 = S) (Bw D vwCl (tz y) (wc y g) (AC g s.heap.size)) (AC g s.heap.size)) args s 0 0 (AC g s.heap.size)) := ⟨_, rfl⟩
  rw [← hQ]
  have hret : ∀ (v : Int32) (pc : Nat) (lv : List (Nat × Value)), decode cX1_isBorne pc = .ok (.ireturn, 1) → narrow .boolean (.int v) = .int v → Sm p l e (headSpec wsX1_isBorne rmX1_isBorne).room s m args below meth c D vwCl (wc y g) (AC g s.heap.size) 3 Q x0 (some v) S pc lv [.int v] := by
    rw [hQ]
    exact fun v pc lv hd hz => m_zretP hC hz hr hlocks hd
  clear hQ
  unfold fX1_isBorne
  refine m_aload_n hC dX1_isBorne_0 0 rfl ?_
  refine m_get hC iX1_isBorne_X1 (wc_13 y g S) rfl 3 (by decide) (List.mem_of_getElem? (i := 1) rfl) rfl rfl dX1_isBorne_1 ?_
  refine m_iload_n hC dX1_isBorne_4 1 rfl ?_
  refine m_iald hC (wc_15 y g S) (t0 := 0) rfl dX1_isBorne_5 ?_
  intro x1
  refine m_iconst hC (1) dX1_isBorne_6 (by decide) ?_
  refine m_isub hC dX1_isBorne_7 ?_
  refine m_nmI ?_
  intro x2
  refine m_istore_n hC [(0, .ref (g 13)), (1, .int a), (2, .int x2)] [1, 2, 0] dX1_isBorne_8 (by decide) rfl rfl ?_
  refine m_iload_n hC dX1_isBorne_9 2 rfl ?_
  refine m_if_lt hC 45 dX1_isBorne_10 (by decide) ?_ ?_
  · refine m_iconst hC (1) dX1_isBorne_45 (by decide) ?_
    refine m_goto hC 50 dX1_isBorne_46 (by decide) ?_
    exact hret _ _ _ dX1_isBorne_50 rfl
  · refine m_iconst hC (2) dX1_isBorne_13 (by decide) ?_
    refine m_aload_n hC dX1_isBorne_14 0 rfl ?_
    refine m_iload_n hC dX1_isBorne_15 1 rfl ?_
    refine m_cIPV hC (As := [.int a]) (wc_ok y g) (cwV 1 hC.1.2.2.2.2 gX1_isBorne_X1_placesOf rfl rfl rfl (by decide +kernel) ⟨Nat.le_of_ble_eq_true rfl, Nat.le_of_ble_eq_true rfl⟩) (wc_13 y g S) rfl (fun xq hq => kX1_placesOf l D y g a S xq hq) rfl (Nat.le_of_ble_eq_true rfl) dX1_isBorne_16 ?_
    intro x3
    refine m_aload_n hC dX1_isBorne_19 0 rfl ?_
    refine m_get hC iX1_isBorne_X1 (wc_13 y g S) rfl 8 (by decide) (List.mem_of_getElem? (i := 2) rfl) rfl rfl dX1_isBorne_20 ?_
    refine m_iload_n hC dX1_isBorne_23 2 rfl ?_
    refine m_iald hC (wc_20 y g S) (t0 := 0) rfl dX1_isBorne_24 ?_
    intro x4
    refine m_iand hC dX1_isBorne_25 ?_
    refine m_cIPS hC (As := [.int (x3 &&& x4)]) (wc_ok y g) (va_cwS 1 hC.1.2.2.2.2 gX1_isBorne_J6_bitCount_0f7a4 rfl rfl rfl (by decide +kernel) ⟨Nat.le_of_ble_eq_true rfl, Nat.le_of_ble_eq_true rfl⟩) (fun xq hq => kJ6_bitCount_0f7a4 l D y g (x3 &&& x4) S xq hq) rfl (Nat.le_of_ble_eq_true rfl) dX1_isBorne_26 ?_
    intro x5
    refine m_imul hC dX1_isBorne_29 ?_
    refine m_aload_n hC dX1_isBorne_30 0 rfl ?_
    refine m_iload_n hC dX1_isBorne_31 1 rfl ?_
    refine m_cIPV hC (As := [.int a]) (wc_ok y g) (cwV 1 hC.1.2.2.2.2 gX1_isBorne_X1_end rfl rfl rfl (by decide +kernel) ⟨Nat.le_of_ble_eq_true rfl, Nat.le_of_ble_eq_true rfl⟩) (wc_13 y g S) rfl (fun xq hq => kX1_end l D y g a S xq hq) rfl (Nat.le_of_ble_eq_true rfl) dX1_isBorne_32 ?_
    intro x6
    refine m_aload_n hC dX1_isBorne_35 0 rfl ?_
    refine m_get hC iX1_isBorne_X1 (wc_13 y g S) rfl 4 (by decide) (List.mem_of_getElem? (i := 3) rfl) rfl rfl dX1_isBorne_36 ?_
    refine m_iload_n hC dX1_isBorne_39 1 rfl ?_
    refine m_iald hC (wc_16 y g S) (t0 := 0) rfl dX1_isBorne_40 ?_
    intro x7
    refine m_isub hC dX1_isBorne_41 ?_
    refine m_icmp_lt hC 49 dX1_isBorne_42 (by decide) ?_ ?_
    · refine m_iconst hC (0) dX1_isBorne_49 (by decide) ?_
      exact hret _ _ _ dX1_isBorne_50 rfl
    · refine m_iconst hC (1) dX1_isBorne_45 (by decide) ?_
      refine m_goto hC 50 dX1_isBorne_46 (by decide) ?_
      exact hret _ _ _ dX1_isBorne_50 rfl
def fX1_isThroughStone (a : Int32) (S : St) : Option (Int32) :=
  ldI 144 (S.1 14) a fun x1 =>
  ldI 8 (S.1 3) x1 fun x2 =>
  ldI 144 (S.1 15) a fun x3 =>
  caP (fX3_width x3 S) fun x4 =>
  if x2 < x4 then
    some 0
  else
    some 1
abbrev rmX1_isThroughStone : Room := { frames := 2, cells := 0, slots := 0, locals := 42 }
theorem iX1_isThroughStone_X1 : ∀ w ∈ wsX10, w ∈ wsX1_isThroughStone := fun w h => List.mem_cons_of_mem _ (List.mem_append_left _ (List.mem_append_left _ (List.mem_append_right _ h)))
theorem iX1_isThroughStone_X4 : ∀ w ∈ wsX40, w ∈ wsX1_isThroughStone := fun w h => List.mem_cons_of_mem _ (List.mem_append_left _ (List.mem_append_right _ h))
theorem iX1_isThroughStone_X3 : ∀ w ∈ wsX30, w ∈ wsX1_isThroughStone := fun w h => List.mem_cons_of_mem _ (List.mem_append_right _ h)
set_option maxHeartbeats 4000000 in
set_option maxRecDepth 100000 in
theorem kX1_isThroughStone (l : Launch) (D : va_G) (y : Cy) (g : Nat → Nat) (a : Int32) (S : St) (x0 : Int32) (h : fX1_isThroughStone a S = some x0) : KI l yX1_isThroughStone wsX1_isThroughStone rmX1_isThroughStone D vwCl (tz y) (wc y g) (AC g) [.ref (g 13), .int a] S (fun r S2 => r = x0 ∧ S2 = S) := by
  refine m_entryIP (wc_ok y g) (by decide) rfl (Nat.le_of_ble_eq_true rfl) (lv := [(0, .ref (g 13)), (1, .int a)]) rfl h ?_
  intro p e s m args below meth c hC hr hlocks
  obtain ⟨Q, hQ⟩ : ∃ Q, Q = (MQ below (va_Qi (fun r S2 => r = x0 ∧ S2 = S) (Bw D vwCl (tz y) (wc y g) (AC g s.heap.size)) (AC g s.heap.size)) args s 0 0 (AC g s.heap.size)) := ⟨_, rfl⟩
  rw [← hQ]
  have hret : ∀ (v : Int32) (pc : Nat) (lv : List (Nat × Value)), decode cX1_isThroughStone pc = .ok (.ireturn, 1) → narrow .boolean (.int v) = .int v → Sm p l e (headSpec wsX1_isThroughStone rmX1_isThroughStone).room s m args below meth c D vwCl (wc y g) (AC g s.heap.size) 2 Q x0 (some v) S pc lv [.int v] := by
    rw [hQ]
    exact fun v pc lv hd hz => m_zretP hC hz hr hlocks hd
  clear hQ
  unfold fX1_isThroughStone
  refine m_aload_n hC dX1_isThroughStone_0 0 rfl ?_
  refine m_get hC iX1_isThroughStone_X1 (wc_13 y g S) rfl 0 (by decide) (List.mem_of_getElem? (i := 1) rfl) rfl rfl dX1_isThroughStone_1 ?_
  refine m_get hC iX1_isThroughStone_X4 (wc_1 y g S) rfl 1 (by decide) (List.mem_of_getElem? (i := 2) rfl) rfl rfl dX1_isThroughStone_4 ?_
  refine m_aload_n hC dX1_isThroughStone_7 0 rfl ?_
  refine m_get hC iX1_isThroughStone_X1 (wc_13 y g S) rfl 2 (by decide) (List.mem_of_getElem? (i := 3) rfl) rfl rfl dX1_isThroughStone_8 ?_
  refine m_iload_n hC dX1_isThroughStone_11 1 rfl ?_
  refine m_iald hC (wc_14 y g S) (t0 := 0) rfl dX1_isThroughStone_12 ?_
  intro x1
  refine m_iald hC (wc_3 y g S) (t0 := 0) rfl dX1_isThroughStone_13 ?_
  intro x2
  refine m_aload_n hC dX1_isThroughStone_14 0 rfl ?_
  refine m_get hC iX1_isThroughStone_X1 (wc_13 y g S) rfl 1 (by decide) (List.mem_of_getElem? (i := 4) rfl) rfl rfl dX1_isThroughStone_15 ?_
  refine m_aload_n hC dX1_isThroughStone_18 0 rfl ?_
  refine m_get hC iX1_isThroughStone_X1 (wc_13 y g S) rfl 3 (by decide) (List.mem_of_getElem? (i := 5) rfl) rfl rfl dX1_isThroughStone_19 ?_
  refine m_iload_n hC dX1_isThroughStone_22 1 rfl ?_
  refine m_iald hC (wc_15 y g S) (t0 := 0) rfl dX1_isThroughStone_23 ?_
  intro x3
  refine m_cIPV hC (As := [.int x3]) (wc_ok y g) (cwV 1 hC.1.2.2.2.2 gX1_isThroughStone_X3_width rfl rfl rfl (by decide +kernel) ⟨Nat.le_of_ble_eq_true rfl, Nat.le_of_ble_eq_true rfl⟩) (wc_12 y g S) rfl (fun xq hq => kX3_width l D y g x3 S xq hq) rfl (Nat.le_of_ble_eq_true rfl) dX1_isThroughStone_24 ?_
  intro x4
  refine m_icmp_lt hC 34 dX1_isThroughStone_27 (by decide) ?_ ?_
  · refine m_iconst hC (0) dX1_isThroughStone_34 (by decide) ?_
    exact hret _ _ _ dX1_isThroughStone_35 rfl
  · refine m_iconst hC (1) dX1_isThroughStone_30 (by decide) ?_
    refine m_goto hC 35 dX1_isThroughStone_31 (by decide) ?_
    exact hret _ _ _ dX1_isThroughStone_35 rfl
def fX1_layAnew_L4 (r4 : Int32 → Int32 → St → Option (Int32 × St)) : Int32 → Int32 → St → Option (Int32 × St) := fun x1 x2 S3 =>
  if x2 < (S3.1 13 9) then
    ldI 144 (S3.1 19) x2 fun x5 =>
    if x5 = 0 then
      stI S3 19 144 x2 1 fun S7 =>
      stI S7 17 144 x2 99 fun S8 =>
      nmI (x1 + 1) fun x9 =>
      nmI (x2 + 1) fun x10 =>
      r4 x9 x10 S8
    else
      nmI (x2 + 1) fun x6 =>
      r4 x1 x6 S3
  else
    some (x1, S3)
def fX1_layAnew (N : Nat) (S : St) : Option (Int32 × St) :=
  itN (fun _ _ _ => none) (fX1_layAnew_L4) N 0 0 S
abbrev rmX1_layAnew : Room := { frames := 0, cells := 0, slots := 0, locals := 0 }
theorem iX1_layAnew_X1 : ∀ w ∈ wsX10, w ∈ wsX1_layAnew := fun w h => List.mem_cons_of_mem _ (List.mem_append_right _ h)
set_option maxHeartbeats 4000000 in
set_option maxRecDepth 100000 in
theorem kX1_layAnew (l : Launch) (D : va_G) (y : Cy) (g : Nat → Nat) (N : Nat) (S : St) (x0 : Int32 × St) (h : fX1_layAnew N S = some x0) : KI l yX1_layAnew wsX1_layAnew rmX1_layAnew D vwCl (tz y) (wc y g) (AC g) [.ref (g 13)] S (fun r S2 => (r, S2) = x0) := by
  refine m_entryI (wc_ok y g) (by decide) rfl (Nat.le_of_ble_eq_true rfl) (lv := [(0, .ref (g 13))]) rfl h ?_
  intro p e s m args below meth c hC hr hlocks
  obtain ⟨Q, hQ⟩ : ∃ Q, Q = (MQ below (va_Qi (fun r S2 => (r, S2) = x0) (Bw D vwCl (tz y) (wc y g) (AC g s.heap.size)) (AC g s.heap.size)) args s 0 0 (AC g s.heap.size)) := ⟨_, rfl⟩
  rw [← hQ]
  have hret : ∀ (v : Int32) (S2 : St) (pc : Nat) (lv : List (Nat × Value)), decode cX1_layAnew pc = .ok (.ireturn, 1) → Sm p l e (headSpec wsX1_layAnew rmX1_layAnew).room s m args below meth c D vwCl (wc y g) (AC g s.heap.size) 3 Q x0 (some (v, S2)) S2 pc lv [.int v] := by
    rw [hQ]
    exact fun v S2 pc lv hd => m_iret hC hr hlocks hd
  clear hQ
  unfold fX1_layAnew
  refine m_iconst hC (0) dX1_layAnew_0 (by decide) ?_
  refine m_istore_n hC [(0, .ref (g 13)), (1, .int 0)] [1, 0] dX1_layAnew_1 (by decide) rfl rfl ?_
  refine m_iconst hC (0) dX1_layAnew_2 (by decide) ?_
  refine m_istore_n hC [(0, .ref (g 13)), (1, .int 0), (2, .int 0)] [1, 2, 0] dX1_layAnew_3 (by decide) rfl rfl ?_
  refine (m_it (z := (fun _ _ _ => none)) (F := fX1_layAnew_L4) N (fun r4 => ∀ (x1 : Int32) (x2 : Int32) (S3 : St), Sm p l e (headSpec wsX1_layAnew rmX1_layAnew).room s m args below meth c D vwCl (wc y g) (AC g s.heap.size) 3 Q x0 (r4 x1 x2 S3) S3 4 [(0, .ref (g 13)), (1, .int x1), (2, .int x2)] []) ?_ ?_) 0 0 S
  · exact fun _ _ _ => m_none
  · intro r4 hr4 x1 x2 S3
    unfold fX1_layAnew_L4
    refine m_iload_n hC dX1_layAnew_4 2 rfl ?_
    refine m_aload_n hC dX1_layAnew_5 0 rfl ?_
    refine m_get hC iX1_layAnew_X1 (wc_13 y g S3) rfl 9 (by decide) (List.mem_of_getElem? (i := 1) rfl) rfl rfl dX1_layAnew_6 ?_
    refine m_icmp_ge hC 45 dX1_layAnew_9 (by decide) ?_ ?_
    · refine m_iload_n hC dX1_layAnew_45 1 rfl ?_
      exact hret _ _ _ _ dX1_layAnew_46
    · refine m_aload_n hC dX1_layAnew_12 0 rfl ?_
      refine m_get hC iX1_layAnew_X1 (wc_13 y g S3) rfl 7 (by decide) (List.mem_of_getElem? (i := 2) rfl) rfl rfl dX1_layAnew_13 ?_
      refine m_iload_n hC dX1_layAnew_16 2 rfl ?_
      refine m_zald hC (wc_19 y g S3) (t0 := 1) rfl dX1_layAnew_17 ?_
      intro x5
      refine m_if_ne hC 39 dX1_layAnew_18 (by decide) ?_ ?_
      · refine m_iinc hC (fun x6 => [(0, .ref (g 13)), (1, .int x1), (2, .int x6)]) [1, 2, 0] dX1_layAnew_39 (j := 2) rfl (by decide) (by decide) (fun _ => rfl) (fun _ => rfl) ?_
        intro x6
        refine m_goto hC 4 dX1_layAnew_42 (by decide) ?_
        exact hr4 _ _ _
      · refine m_aload_n hC dX1_layAnew_21 0 rfl ?_
        refine m_get hC iX1_layAnew_X1 (wc_13 y g S3) rfl 7 (by decide) (List.mem_of_getElem? (i := 2) rfl) rfl rfl dX1_layAnew_22 ?_
        refine m_iload_n hC dX1_layAnew_25 2 rfl ?_
        refine m_iconst hC (1) dX1_layAnew_26 (by decide) ?_
        refine m_zast hC (by decide) (wc_19 y g S3) (t0 := 1) rfl (wcs_19 y g S3) dX1_layAnew_27 ?_
        intro S7
        refine m_aload_n hC dX1_layAnew_28 0 rfl ?_
        refine m_get hC iX1_layAnew_X1 (wc_13 y g S7) rfl 5 (by decide) (List.mem_of_getElem? (i := 3) rfl) rfl rfl dX1_layAnew_29 ?_
        refine m_iload_n hC dX1_layAnew_32 2 rfl ?_
        refine m_bipush hC (99) dX1_layAnew_33 (by decide) ?_
        refine m_iast hC (wc_17 y g S7) (t0 := 0) rfl (wcs_17 y g S7) dX1_layAnew_35 ?_
        intro S8
        refine m_iinc hC (fun x9 => [(0, .ref (g 13)), (1, .int x9), (2, .int x2)]) [1, 0, 2] dX1_layAnew_36 (j := 1) rfl (by decide) (by decide) (fun _ => rfl) (fun _ => rfl) ?_
        intro x9
        refine m_iinc hC (fun x10 => [(0, .ref (g 13)), (1, .int x9), (2, .int x10)]) [1, 2, 0] dX1_layAnew_39 (j := 2) rfl (by decide) (by decide) (fun _ => rfl) (fun _ => rfl) ?_
        intro x10
        refine m_goto hC 4 dX1_layAnew_42 (by decide) ?_
        exact hr4 _ _ _
def fX1_letSlip_L12 (r5 : Int32 → Int32 → St → Option (Int32 × St)) : Int32 → Int32 → St → Option (Int32 × St) := fun x2 x3 S4 =>
  if x3 < (S4.1 13 9) then
    ldI 144 (S4.1 19) x3 fun x6 =>
    jn (fun (x7 : Int32) (S8 : St) =>
        ldI 144 (S8.1 19) x3 fun x10 =>
        if x10 = 0 then
          nmI (x3 + 1) fun x11 =>
          r5 x7 x11 S8
        else
          ldI 144 (S8.1 15) x3 fun x12 =>
          ldI 6 (S8.1 20) x12 fun x13 =>
          caP (fX1_placesOf x3 S8) fun x14 =>
          stI S8 20 6 x12 (x13 ||| x14) fun S15 =>
          nmI (x3 + 1) fun x16 =>
          r5 x7 x16 S15) fun J9 =>
    if x6 = 0 then
      J9 x2 S4
    else
      ldI 144 (S4.1 17) x3 fun x17 =>
      if x17 = 0 then
        stI S4 19 144 x3 0 fun S18 =>
        nmI (x2 + 1) fun x19 =>
        J9 x19 S18
      else
        caP (fX1_isBorne x3 S4) fun x20 =>
        if x20 = 0 then
          stI S4 19 144 x3 0 fun S21 =>
          nmI (x2 + 1) fun x22 =>
          J9 x22 S21
        else
          J9 x2 S4
  else
    some (x2, S4)
def fX1_letSlip (N : Nat) (S : St) : Option (Int32 × St) :=
  caV (fJ7_fill_53178 N 20 6 0 S) fun S1 =>
  itN (fun _ _ _ => none) (fX1_letSlip_L12) N 0 0 S1
abbrev rmX1_letSlip : Room := { frames := 3, cells := 0, slots := 0, locals := 64 }
theorem iX1_letSlip_X1 : ∀ w ∈ wsX10, w ∈ wsX1_letSlip := fun w h => List.mem_cons_of_mem _ (List.mem_append_left _ (List.mem_append_right _ h))
theorem iX1_letSlip_X4 : ∀ w ∈ wsX40, w ∈ wsX1_letSlip := fun w h => List.mem_cons_of_mem _ (List.mem_append_right _ h)
set_option maxHeartbeats 4000000 in
set_option maxRecDepth 100000 in
theorem kX1_letSlip (l : Launch) (D : va_G) (y : Cy) (g : Nat → Nat) (N : Nat) (S : St) (x0 : Int32 × St) (h : fX1_letSlip N S = some x0) : KI l yX1_letSlip wsX1_letSlip rmX1_letSlip D vwCl (tz y) (wc y g) (AC g) [.ref (g 13)] S (fun r S2 => (r, S2) = x0) := by
  refine m_entryI (wc_ok y g) (by decide) rfl (Nat.le_of_ble_eq_true rfl) (lv := [(0, .ref (g 13))]) rfl h ?_
  intro p e s m args below meth c hC hr hlocks
  obtain ⟨Q, hQ⟩ : ∃ Q, Q = (MQ below (va_Qi (fun r S2 => (r, S2) = x0) (Bw D vwCl (tz y) (wc y g) (AC g s.heap.size)) (AC g s.heap.size)) args s 0 0 (AC g s.heap.size)) := ⟨_, rfl⟩
  rw [← hQ]
  have hret : ∀ (v : Int32) (S2 : St) (pc : Nat) (lv : List (Nat × Value)), decode cX1_letSlip pc = .ok (.ireturn, 1) → Sm p l e (headSpec wsX1_letSlip rmX1_letSlip).room s m args below meth c D vwCl (wc y g) (AC g s.heap.size) 3 Q x0 (some (v, S2)) S2 pc lv [.int v] := by
    rw [hQ]
    exact fun v S2 pc lv hd => m_iret hC hr hlocks hd
  clear hQ
  unfold fX1_letSlip
  refine m_iconst hC (0) dX1_letSlip_0 (by decide) ?_
  refine m_istore_n hC [(0, .ref (g 13)), (1, .int 0)] [1, 0] dX1_letSlip_1 (by decide) rfl rfl ?_
  refine m_aload_n hC dX1_letSlip_2 0 rfl ?_
  refine m_get hC iX1_letSlip_X1 (wc_13 y g S) rfl 8 (by decide) (List.mem_of_getElem? (i := 1) rfl) rfl rfl dX1_letSlip_3 ?_
  refine m_iconst hC (0) dX1_letSlip_6 (by decide) ?_
  refine m_cVS hC (As := [.ref (g 20), .int 0]) (wc_ok y g) (va_cwS 2 hC.1.2.2.2.2 gX1_letSlip_J7_fill_53178 rfl rfl rfl (by decide +kernel) ⟨Nat.le_of_ble_eq_true rfl, Nat.le_of_ble_eq_true rfl⟩) (fun xq hq => kJ7_fill_53178 l D y g N 20 6 0 (fun S => wc_20 y g S) (fun S f => wcs_20 y g S f) S xq hq) rfl (Nat.le_of_ble_eq_true rfl) dX1_letSlip_7 ?_
  intro S1
  refine m_iconst hC (0) dX1_letSlip_10 (by decide) ?_
  refine m_istore_n hC [(0, .ref (g 13)), (1, .int 0), (2, .int 0)] [1, 2, 0] dX1_letSlip_11 (by decide) rfl rfl ?_
  refine (m_it (z := (fun _ _ _ => none)) (F := fX1_letSlip_L12) N (fun r5 => ∀ (x2 : Int32) (x3 : Int32) (S4 : St), Sm p l e (headSpec wsX1_letSlip rmX1_letSlip).room s m args below meth c D vwCl (wc y g) (AC g s.heap.size) 3 Q x0 (r5 x2 x3 S4) S4 12 [(0, .ref (g 13)), (1, .int x2), (2, .int x3)] []) ?_ ?_) 0 0 S1
  · exact fun _ _ _ => m_none
  · intro r5 hr5 x2 x3 S4
    unfold fX1_letSlip_L12
    refine m_iload_n hC dX1_letSlip_12 2 rfl ?_
    refine m_aload_n hC dX1_letSlip_13 0 rfl ?_
    refine m_get hC iX1_letSlip_X1 (wc_13 y g S4) rfl 9 (by decide) (List.mem_of_getElem? (i := 2) rfl) rfl rfl dX1_letSlip_14 ?_
    refine m_icmp_ge hC 90 dX1_letSlip_17 (by decide) ?_ ?_
    · refine m_iload_n hC dX1_letSlip_90 1 rfl ?_
      exact hret _ _ _ _ dX1_letSlip_91
    · refine m_aload_n hC dX1_letSlip_20 0 rfl ?_
      refine m_get hC iX1_letSlip_X1 (wc_13 y g S4) rfl 7 (by decide) (List.mem_of_getElem? (i := 3) rfl) rfl rfl dX1_letSlip_21 ?_
      refine m_iload_n hC dX1_letSlip_24 2 rfl ?_
      refine m_zald hC (wc_19 y g S4) (t0 := 1) rfl dX1_letSlip_25 ?_
      intro x6
      refine m_jn (fun J9 => ∀ (x7 : Int32) (S8 : St), Sm p l e (headSpec wsX1_letSlip rmX1_letSlip).room s m args below meth c D vwCl (wc y g) (AC g s.heap.size) 3 Q x0 (J9 x7 S8) S8 56 [(0, .ref (g 13)), (1, .int x7), (2, .int x3)] []) ?_ (fun J9 hJ9 => ?_)
      · intro x7 S8
        refine m_aload_n hC dX1_letSlip_56 0 rfl ?_
        refine m_get hC iX1_letSlip_X1 (wc_13 y g S8) rfl 7 (by decide) (List.mem_of_getElem? (i := 3) rfl) rfl rfl dX1_letSlip_57 ?_
        refine m_iload_n hC dX1_letSlip_60 2 rfl ?_
        refine m_zald hC (wc_19 y g S8) (t0 := 1) rfl dX1_letSlip_61 ?_
        intro x10
        refine m_if_eq hC 84 dX1_letSlip_62 (by decide) ?_ ?_
        · refine m_iinc hC (fun x11 => [(0, .ref (g 13)), (1, .int x7), (2, .int x11)]) [1, 2, 0] dX1_letSlip_84 (j := 2) rfl (by decide) (by decide) (fun _ => rfl) (fun _ => rfl) ?_
          intro x11
          refine m_goto hC 12 dX1_letSlip_87 (by decide) ?_
          exact hr5 _ _ _
        · refine m_aload_n hC dX1_letSlip_65 0 rfl ?_
          refine m_get hC iX1_letSlip_X1 (wc_13 y g S8) rfl 8 (by decide) (List.mem_of_getElem? (i := 1) rfl) rfl rfl dX1_letSlip_66 ?_
          refine m_aload_n hC dX1_letSlip_69 0 rfl ?_
          refine m_get hC iX1_letSlip_X1 (wc_13 y g S8) rfl 3 (by decide) (List.mem_of_getElem? (i := 5) rfl) rfl rfl dX1_letSlip_70 ?_
          refine m_iload_n hC dX1_letSlip_73 2 rfl ?_
          refine m_iald hC (wc_15 y g S8) (t0 := 0) rfl dX1_letSlip_74 ?_
          intro x12
          refine m_dup2 hC dX1_letSlip_75 rfl rfl ?_
          refine m_iald hC (wc_20 y g S8) (t0 := 0) rfl dX1_letSlip_76 ?_
          intro x13
          refine m_aload_n hC dX1_letSlip_77 0 rfl ?_
          refine m_iload_n hC dX1_letSlip_78 2 rfl ?_
          refine m_cIPV hC (As := [.int x3]) (wc_ok y g) (cwV 1 hC.1.2.2.2.2 gX1_letSlip_X1_placesOf rfl rfl rfl (by decide +kernel) ⟨Nat.le_of_ble_eq_true rfl, Nat.le_of_ble_eq_true rfl⟩) (wc_13 y g S8) rfl (fun xq hq => kX1_placesOf l D y g x3 S8 xq hq) rfl (Nat.le_of_ble_eq_true rfl) dX1_letSlip_79 ?_
          intro x14
          refine m_ior hC dX1_letSlip_82 ?_
          refine m_iast hC (wc_20 y g S8) (t0 := 0) rfl (wcs_20 y g S8) dX1_letSlip_83 ?_
          intro S15
          refine m_iinc hC (fun x16 => [(0, .ref (g 13)), (1, .int x7), (2, .int x16)]) [1, 2, 0] dX1_letSlip_84 (j := 2) rfl (by decide) (by decide) (fun _ => rfl) (fun _ => rfl) ?_
          intro x16
          refine m_goto hC 12 dX1_letSlip_87 (by decide) ?_
          exact hr5 _ _ _
      · refine m_if_eq hC 56 dX1_letSlip_26 (by decide) ?_ ?_
        · exact hJ9 _ _
        · refine m_aload_n hC dX1_letSlip_29 0 rfl ?_
          refine m_get hC iX1_letSlip_X1 (wc_13 y g S4) rfl 5 (by decide) (List.mem_of_getElem? (i := 4) rfl) rfl rfl dX1_letSlip_30 ?_
          refine m_iload_n hC dX1_letSlip_33 2 rfl ?_
          refine m_iald hC (wc_17 y g S4) (t0 := 0) rfl dX1_letSlip_34 ?_
          intro x17
          refine m_if_eq hC 46 dX1_letSlip_35 (by decide) ?_ ?_
          · refine m_aload_n hC dX1_letSlip_46 0 rfl ?_
            refine m_get hC iX1_letSlip_X1 (wc_13 y g S4) rfl 7 (by decide) (List.mem_of_getElem? (i := 3) rfl) rfl rfl dX1_letSlip_47 ?_
            refine m_iload_n hC dX1_letSlip_50 2 rfl ?_
            refine m_iconst hC (0) dX1_letSlip_51 (by decide) ?_
            refine m_zast hC (by decide) (wc_19 y g S4) (t0 := 1) rfl (wcs_19 y g S4) dX1_letSlip_52 ?_
            intro S18
            refine m_iinc hC (fun x19 => [(0, .ref (g 13)), (1, .int x19), (2, .int x3)]) [1, 0, 2] dX1_letSlip_53 (j := 1) rfl (by decide) (by decide) (fun _ => rfl) (fun _ => rfl) ?_
            intro x19
            exact hJ9 _ _
          · refine m_aload_n hC dX1_letSlip_38 0 rfl ?_
            refine m_iload_n hC dX1_letSlip_39 2 rfl ?_
            refine m_cIPV hC (As := [.int x3]) (wc_ok y g) (cwV 1 hC.1.2.2.2.2 gX1_letSlip_X1_isBorne rfl rfl rfl (by decide +kernel) ⟨Nat.le_of_ble_eq_true rfl, Nat.le_of_ble_eq_true rfl⟩) (wc_13 y g S4) rfl (fun xq hq => kX1_isBorne l D y g x3 S4 xq hq) rfl (Nat.le_of_ble_eq_true rfl) dX1_letSlip_40 ?_
            intro x20
            refine m_if_ne hC 56 dX1_letSlip_43 (by decide) ?_ ?_
            · exact hJ9 _ _
            · refine m_aload_n hC dX1_letSlip_46 0 rfl ?_
              refine m_get hC iX1_letSlip_X1 (wc_13 y g S4) rfl 7 (by decide) (List.mem_of_getElem? (i := 3) rfl) rfl rfl dX1_letSlip_47 ?_
              refine m_iload_n hC dX1_letSlip_50 2 rfl ?_
              refine m_iconst hC (0) dX1_letSlip_51 (by decide) ?_
              refine m_zast hC (by decide) (wc_19 y g S4) (t0 := 1) rfl (wcs_19 y g S4) dX1_letSlip_52 ?_
              intro S21
              refine m_iinc hC (fun x22 => [(0, .ref (g 13)), (1, .int x22), (2, .int x3)]) [1, 0, 2] dX1_letSlip_53 (j := 1) rfl (by decide) (by decide) (fun _ => rfl) (fun _ => rfl) ?_
              intro x22
              exact hJ9 _ _
def fX1_standsBeside (a : Int32) (b : Int32) (S : St) : Option (Int32) :=
  if b < 0 then
    some 0
  else
    if b < (S.1 13 9) then
      ldI 144 (S.1 15) b fun x1 =>
      ldI 144 (S.1 15) a fun x2 =>
      if x1 = x2 then
        ldI 144 (S.1 19) b fun x3 =>
        if x3 = 0 then
          some 0
        else
          some 1
      else
        some 0
    else
      some 0
abbrev rmX1_standsBeside : Room := { frames := 0, cells := 0, slots := 0, locals := 0 }
theorem iX1_standsBeside_X1 : ∀ w ∈ wsX10, w ∈ wsX1_standsBeside := fun w h => List.mem_cons_of_mem _ (List.mem_append_right _ h)
set_option maxHeartbeats 4000000 in
set_option maxRecDepth 100000 in
theorem kX1_standsBeside (l : Launch) (D : va_G) (y : Cy) (g : Nat → Nat) (a : Int32) (b : Int32) (S : St) (x0 : Int32) (h : fX1_standsBeside a b S = some x0) : KI l yX1_standsBeside wsX1_standsBeside rmX1_standsBeside D vwCl (tz y) (wc y g) (AC g) [.ref (g 13), .int a, .int b] S (fun r S2 => r = x0 ∧ S2 = S) := by
  refine m_entryIP (wc_ok y g) (by decide) rfl (Nat.le_of_ble_eq_true rfl) (lv := [(0, .ref (g 13)), (1, .int a), (2, .int b)]) rfl h ?_
  intro p e s m args below meth c hC hr hlocks
  obtain ⟨Q, hQ⟩ : ∃ Q, Q = (MQ below (va_Qi (fun r S2 => r = x0 ∧ S2 = S) (Bw D vwCl (tz y) (wc y g) (AC g s.heap.size)) (AC g s.heap.size)) args s 0 0 (AC g s.heap.size)) := ⟨_, rfl⟩
  rw [← hQ]
  have hret : ∀ (v : Int32) (pc : Nat) (lv : List (Nat × Value)), decode cX1_standsBeside pc = .ok (.ireturn, 1) → narrow .boolean (.int v) = .int v → Sm p l e (headSpec wsX1_standsBeside rmX1_standsBeside).room s m args below meth c D vwCl (wc y g) (AC g s.heap.size) 3 Q x0 (some v) S pc lv [.int v] := by
    rw [hQ]
    exact fun v pc lv hd hz => m_zretP hC hz hr hlocks hd
  clear hQ
  unfold fX1_standsBeside
  refine m_iload_n hC dX1_standsBeside_0 2 rfl ?_
  refine m_if_lt hC 40 dX1_standsBeside_1 (by decide) ?_ ?_
  · refine m_iconst hC (0) dX1_standsBeside_40 (by decide) ?_
    exact hret _ _ _ dX1_standsBeside_41 rfl
  · refine m_iload_n hC dX1_standsBeside_4 2 rfl ?_
    refine m_aload_n hC dX1_standsBeside_5 0 rfl ?_
    refine m_get hC iX1_standsBeside_X1 (wc_13 y g S) rfl 9 (by decide) (List.mem_of_getElem? (i := 1) rfl) rfl rfl dX1_standsBeside_6 ?_
    refine m_icmp_ge hC 40 dX1_standsBeside_9 (by decide) ?_ ?_
    · refine m_iconst hC (0) dX1_standsBeside_40 (by decide) ?_
      exact hret _ _ _ dX1_standsBeside_41 rfl
    · refine m_aload_n hC dX1_standsBeside_12 0 rfl ?_
      refine m_get hC iX1_standsBeside_X1 (wc_13 y g S) rfl 3 (by decide) (List.mem_of_getElem? (i := 2) rfl) rfl rfl dX1_standsBeside_13 ?_
      refine m_iload_n hC dX1_standsBeside_16 2 rfl ?_
      refine m_iald hC (wc_15 y g S) (t0 := 0) rfl dX1_standsBeside_17 ?_
      intro x1
      refine m_aload_n hC dX1_standsBeside_18 0 rfl ?_
      refine m_get hC iX1_standsBeside_X1 (wc_13 y g S) rfl 3 (by decide) (List.mem_of_getElem? (i := 2) rfl) rfl rfl dX1_standsBeside_19 ?_
      refine m_iload_n hC dX1_standsBeside_22 1 rfl ?_
      refine m_iald hC (wc_15 y g S) (t0 := 0) rfl dX1_standsBeside_23 ?_
      intro x2
      refine m_icmp_ne hC 40 dX1_standsBeside_24 (by decide) ?_ ?_
      · refine m_iconst hC (0) dX1_standsBeside_40 (by decide) ?_
        exact hret _ _ _ dX1_standsBeside_41 rfl
      · refine m_aload_n hC dX1_standsBeside_27 0 rfl ?_
        refine m_get hC iX1_standsBeside_X1 (wc_13 y g S) rfl 7 (by decide) (List.mem_of_getElem? (i := 3) rfl) rfl rfl dX1_standsBeside_28 ?_
        refine m_iload_n hC dX1_standsBeside_31 2 rfl ?_
        refine m_zald hC (wc_19 y g S) (t0 := 1) rfl dX1_standsBeside_32 ?_
        intro x3
        refine m_if_eq hC 40 dX1_standsBeside_33 (by decide) ?_ ?_
        · refine m_iconst hC (0) dX1_standsBeside_40 (by decide) ?_
          exact hret _ _ _ dX1_standsBeside_41 rfl
        · refine m_iconst hC (1) dX1_standsBeside_36 (by decide) ?_
          refine m_goto hC 41 dX1_standsBeside_37 (by decide) ?_
          exact hret _ _ _ dX1_standsBeside_41 rfl
def fX1_loosen_L2 (a : Int32) (r3 : Int32 → St → Option (St)) : Int32 → St → Option (St) := fun x1 S2 =>
  if x1 < (S2.1 13 9) then
    ldI 144 (S2.1 19) x1 fun x4 =>
    if x4 = 0 then
      nmI (x1 + 1) fun x5 =>
      r3 x5 S2
    else
      caP (fX1_standsBeside x1 (x1 - 1) S2) fun x6 =>
      jn (fun (x7 : Int32) =>
          caP (fX1_standsBeside x1 (x1 + 1) S2) fun x9 =>
          jn (fun (x10 : Int32) =>
              nmI (x7 + x10) fun x12 =>
              ldI 144 (S2.1 17) x1 fun x13 =>
              stI S2 17 144 x1 (mxI 0 (x13 - (a * (1 + x12)))) fun S14 =>
              nmI (x1 + 1) fun x15 =>
              r3 x15 S14) fun J11 =>
          if x9 = 0 then
            J11 1
          else
            J11 0) fun J8 =>
      if x6 = 0 then
        J8 1
      else
        J8 0
  else
    some S2
def fX1_loosen (N : Nat) (a : Int32) (S : St) : Option (St) :=
  itN (fun _ _ => none) (fX1_loosen_L2 a) N 0 S
abbrev rmX1_loosen : Room := { frames := 1, cells := 0, slots := 0, locals := 22 }
theorem iX1_loosen_X1 : ∀ w ∈ wsX10, w ∈ wsX1_loosen := fun w h => List.mem_cons_of_mem _ (List.mem_append_right _ h)
set_option maxHeartbeats 4000000 in
set_option maxRecDepth 100000 in
theorem kX1_loosen (l : Launch) (D : va_G) (y : Cy) (g : Nat → Nat) (N : Nat) (a : Int32) (S : St) (x0 : St) (h : fX1_loosen N a S = some x0) : KV l yX1_loosen wsX1_loosen rmX1_loosen D vwCl (tz y) (wc y g) (AC g) [.ref (g 13), .int a] S (fun S2 => S2 = x0) := by
  refine m_entryV (wc_ok y g) (by decide) rfl (Nat.le_of_ble_eq_true rfl) (lv := [(0, .ref (g 13)), (1, .int a)]) rfl h ?_
  intro p e s m args below meth c hC hr hlocks
  obtain ⟨Q, hQ⟩ : ∃ Q, Q = (MQ below (va_Qv (fun S2 => S2 = x0) (Bw D vwCl (tz y) (wc y g) (AC g s.heap.size)) (AC g s.heap.size)) args s 0 0 (AC g s.heap.size)) := ⟨_, rfl⟩
  rw [← hQ]
  have hret : ∀ (S2 : St) (pc : Nat) (lv : List (Nat × Value)), decode cX1_loosen pc = .ok (.return_, 1) → Sm p l e (headSpec wsX1_loosen rmX1_loosen).room s m args below meth c D vwCl (wc y g) (AC g s.heap.size) 4 Q x0 (some S2) S2 pc lv [] := by
    rw [hQ]
    exact fun S2 pc lv hd => m_vret hC hr hlocks hd
  clear hQ
  unfold fX1_loosen
  refine m_iconst hC (0) dX1_loosen_0 (by decide) ?_
  refine m_istore_n hC [(0, .ref (g 13)), (1, .int a), (2, .int 0)] [1, 2, 0] dX1_loosen_1 (by decide) rfl rfl ?_
  refine (m_it (z := (fun _ _ => none)) (F := fX1_loosen_L2 a) N (fun r3 => ∀ (x1 : Int32) (S2 : St), Sm p l e (headSpec wsX1_loosen rmX1_loosen).room s m args below meth c D vwCl (wc y g) (AC g s.heap.size) 4 Q x0 (r3 x1 S2) S2 2 [(0, .ref (g 13)), (1, .int a), (2, .int x1)] []) ?_ ?_) 0 S
  · exact fun _ _ => m_none
  · intro r3 hr3 x1 S2
    unfold fX1_loosen_L2
    refine m_iload_n hC dX1_loosen_2 2 rfl ?_
    refine m_aload_n hC dX1_loosen_3 0 rfl ?_
    refine m_get hC iX1_loosen_X1 (wc_13 y g S2) rfl 9 (by decide) (List.mem_of_getElem? (i := 1) rfl) rfl rfl dX1_loosen_4 ?_
    refine m_icmp_ge hC 81 dX1_loosen_7 (by decide) ?_ ?_
    · exact hret _ _ _ dX1_loosen_81
    · refine m_aload_n hC dX1_loosen_10 0 rfl ?_
      refine m_get hC iX1_loosen_X1 (wc_13 y g S2) rfl 7 (by decide) (List.mem_of_getElem? (i := 2) rfl) rfl rfl dX1_loosen_11 ?_
      refine m_iload_n hC dX1_loosen_14 2 rfl ?_
      refine m_zald hC (wc_19 y g S2) (t0 := 1) rfl dX1_loosen_15 ?_
      intro x4
      refine m_if_eq hC 75 dX1_loosen_16 (by decide) ?_ ?_
      · refine m_iinc hC (fun x5 => [(0, .ref (g 13)), (1, .int a), (2, .int x5)]) [1, 2, 0] dX1_loosen_75 (j := 2) rfl (by decide) (by decide) (fun _ => rfl) (fun _ => rfl) ?_
        intro x5
        refine m_goto hC 2 dX1_loosen_78 (by decide) ?_
        exact hr3 _ _
      · refine m_aload_n hC dX1_loosen_19 0 rfl ?_
        refine m_iload_n hC dX1_loosen_20 2 rfl ?_
        refine m_iload_n hC dX1_loosen_21 2 rfl ?_
        refine m_iconst hC (1) dX1_loosen_22 (by decide) ?_
        refine m_isub hC dX1_loosen_23 ?_
        refine m_cIPV hC (As := [.int x1, .int (x1 - 1)]) (wc_ok y g) (cwV 2 hC.1.2.2.2.2 gX1_loosen_X1_standsBeside rfl rfl rfl (by decide +kernel) ⟨Nat.le_of_ble_eq_true rfl, Nat.le_of_ble_eq_true rfl⟩) (wc_13 y g S2) rfl (fun xq hq => kX1_standsBeside l D y g x1 (x1 - 1) S2 xq hq) rfl (Nat.le_of_ble_eq_true rfl) dX1_loosen_24 ?_
        intro x6
        refine m_jn (fun J8 => ∀ (x7 : Int32), Sm p l e (headSpec wsX1_loosen rmX1_loosen).room s m args below meth c D vwCl (wc y g) (AC g s.heap.size) 4 Q x0 (J8 x7) S2 35 [(0, .ref (g 13)), (1, .int a), (2, .int x1)] [.int x7]) ?_ (fun J8 hJ8 => ?_)
        · intro x7
          refine m_aload_n hC dX1_loosen_35 0 rfl ?_
          refine m_iload_n hC dX1_loosen_36 2 rfl ?_
          refine m_iload_n hC dX1_loosen_37 2 rfl ?_
          refine m_iconst hC (1) dX1_loosen_38 (by decide) ?_
          refine m_iadd hC dX1_loosen_39 ?_
          refine m_cIPV hC (As := [.int x1, .int (x1 + 1)]) (wc_ok y g) (cwV 2 hC.1.2.2.2.2 gX1_loosen_X1_standsBeside rfl rfl rfl (by decide +kernel) ⟨Nat.le_of_ble_eq_true rfl, Nat.le_of_ble_eq_true rfl⟩) (wc_13 y g S2) rfl (fun xq hq => kX1_standsBeside l D y g x1 (x1 + 1) S2 xq hq) rfl (Nat.le_of_ble_eq_true rfl) dX1_loosen_40 ?_
          intro x9
          refine m_jn (fun J11 => ∀ (x10 : Int32), Sm p l e (headSpec wsX1_loosen rmX1_loosen).room s m args below meth c D vwCl (wc y g) (AC g s.heap.size) 4 Q x0 (J11 x10) S2 51 [(0, .ref (g 13)), (1, .int a), (2, .int x1)] [.int x10, .int x7]) ?_ (fun J11 hJ11 => ?_)
          · intro x10
            refine m_iadd hC dX1_loosen_51 ?_
            refine m_nmI ?_
            intro x12
            refine m_istore_n hC [(0, .ref (g 13)), (1, .int a), (2, .int x1), (3, .int x12)] [1, 2, 3, 0] dX1_loosen_52 (by decide) rfl rfl ?_
            refine m_aload_n hC dX1_loosen_53 0 rfl ?_
            refine m_get hC iX1_loosen_X1 (wc_13 y g S2) rfl 5 (by decide) (List.mem_of_getElem? (i := 3) rfl) rfl rfl dX1_loosen_54 ?_
            refine m_iload_n hC dX1_loosen_57 2 rfl ?_
            refine m_iconst hC (0) dX1_loosen_58 (by decide) ?_
            refine m_aload_n hC dX1_loosen_59 0 rfl ?_
            refine m_get hC iX1_loosen_X1 (wc_13 y g S2) rfl 5 (by decide) (List.mem_of_getElem? (i := 3) rfl) rfl rfl dX1_loosen_60 ?_
            refine m_iload_n hC dX1_loosen_63 2 rfl ?_
            refine m_iald hC (wc_17 y g S2) (t0 := 0) rfl dX1_loosen_64 ?_
            intro x13
            refine m_iload_n hC dX1_loosen_65 1 rfl ?_
            refine m_iconst hC (1) dX1_loosen_66 (by decide) ?_
            refine m_iload_n hC dX1_loosen_67 3 rfl ?_
            refine m_iadd hC dX1_loosen_68 ?_
            refine m_imul hC dX1_loosen_69 ?_
            refine m_isub hC dX1_loosen_70 ?_
            refine m_max hC (List.mem_of_getElem? (i := 4) rfl) (List.mem_of_getElem? (i := 5) rfl) (List.mem_of_getElem? (i := 6) rfl) (List.mem_of_getElem? (i := 7) rfl) (Nat.le_of_ble_eq_true rfl) (Nat.le_of_ble_eq_true rfl) dX1_loosen_71 ?_
            refine m_iast hC (wc_17 y g S2) (t0 := 0) rfl (wcs_17 y g S2) dX1_loosen_74 ?_
            intro S14
            refine m_iinc hC (fun x15 => [(0, .ref (g 13)), (1, .int a), (2, .int x15), (3, .int x12)]) [1, 2, 0, 3] dX1_loosen_75 (j := 2) rfl (by decide) (by decide) (fun _ => rfl) (fun _ => rfl) ?_
            intro x15
            refine m_goto hC 2 dX1_loosen_78 (by decide) ?_
            refine m_lv [(0, .ref (g 13)), (1, .int a), (2, .int x15)] [0, 1, 2] rfl ?_
            exact hr3 _ _
          · refine m_if_eq hC 50 dX1_loosen_43 (by decide) ?_ ?_
            · refine m_iconst hC (1) dX1_loosen_50 (by decide) ?_
              exact hJ11 _
            · refine m_iconst hC (0) dX1_loosen_46 (by decide) ?_
              refine m_goto hC 51 dX1_loosen_47 (by decide) ?_
              exact hJ11 _
        · refine m_if_eq hC 34 dX1_loosen_27 (by decide) ?_ ?_
          · refine m_iconst hC (1) dX1_loosen_34 (by decide) ?_
            exact hJ8 _
          · refine m_iconst hC (0) dX1_loosen_30 (by decide) ?_
            refine m_goto hC 35 dX1_loosen_31 (by decide) ?_
            exact hJ8 _
def fX1_raise_L7 (N : Nat) (r4 : Int32 → St → Option (St)) : Int32 → St → Option (St) := fun x2 S3 =>
  if x2 < (S3.1 13 9) then
    stI S3 19 144 x2 0 fun S7 =>
    nmI (x2 + 1) fun x8 =>
    r4 x8 S7
  else
    caS (fX1_layAnew N S3) fun x5 S6 =>
    some S6
def fX1_raise (N : Nat) (S : St) : Option (St) :=
  pfI S 13 10 1 fun S1 =>
  itN (fun _ _ => none) (fX1_raise_L7 N) N 0 S1
abbrev rmX1_raise : Room := { frames := 1, cells := 0, slots := 0, locals := 22 }
theorem iX1_raise_X1 : ∀ w ∈ wsX10, w ∈ wsX1_raise := fun w h => List.mem_cons_of_mem _ (List.mem_append_right _ h)
set_option maxHeartbeats 4000000 in
set_option maxRecDepth 100000 in
theorem kX1_raise (l : Launch) (D : va_G) (y : Cy) (g : Nat → Nat) (N : Nat) (S : St) (x0 : St) (h : fX1_raise N S = some x0) : KV l yX1_raise wsX1_raise rmX1_raise D vwCl (tz y) (wc y g) (AC g) [.ref (g 13)] S (fun S2 => S2 = x0) := by
  refine m_entryV (wc_ok y g) (by decide) rfl (Nat.le_of_ble_eq_true rfl) (lv := [(0, .ref (g 13))]) rfl h ?_
  intro p e s m args below meth c hC hr hlocks
  obtain ⟨Q, hQ⟩ : ∃ Q, Q = (MQ below (va_Qv (fun S2 => S2 = x0) (Bw D vwCl (tz y) (wc y g) (AC g s.heap.size)) (AC g s.heap.size)) args s 0 0 (AC g s.heap.size)) := ⟨_, rfl⟩
  rw [← hQ]
  have hret : ∀ (S2 : St) (pc : Nat) (lv : List (Nat × Value)), decode cX1_raise pc = .ok (.return_, 1) → Sm p l e (headSpec wsX1_raise rmX1_raise).room s m args below meth c D vwCl (wc y g) (AC g s.heap.size) 2 Q x0 (some S2) S2 pc lv [] := by
    rw [hQ]
    exact fun S2 pc lv hd => m_vret hC hr hlocks hd
  clear hQ
  unfold fX1_raise
  refine m_aload_n hC dX1_raise_0 0 rfl ?_
  refine m_iconst hC (1) dX1_raise_1 (by decide) ?_
  refine m_putI (ty := .boolean) hC iX1_raise_X1 tyX1 tyX1_ok nmX1 (wc_13 y g S) rfl 10 (by decide) (List.mem_of_getElem? (i := 1) rfl) rfl rfl (by decide +kernel) rfl rfl (Nat.le_of_ble_eq_true rfl) dX1_raise_2 (wcf_13_10 y g S _) ?_
  intro S1
  refine m_iconst hC (0) dX1_raise_5 (by decide) ?_
  refine m_istore_n hC [(0, .ref (g 13)), (1, .int 0)] [1, 0] dX1_raise_6 (by decide) rfl rfl ?_
  refine (m_it (z := (fun _ _ => none)) (F := fX1_raise_L7 N) N (fun r4 => ∀ (x2 : Int32) (S3 : St), Sm p l e (headSpec wsX1_raise rmX1_raise).room s m args below meth c D vwCl (wc y g) (AC g s.heap.size) 2 Q x0 (r4 x2 S3) S3 7 [(0, .ref (g 13)), (1, .int x2)] []) ?_ ?_) 0 S1
  · exact fun _ _ => m_none
  · intro r4 hr4 x2 S3
    unfold fX1_raise_L7
    refine m_iload_n hC dX1_raise_7 1 rfl ?_
    refine m_aload_n hC dX1_raise_8 0 rfl ?_
    refine m_get hC iX1_raise_X1 (wc_13 y g S3) rfl 9 (by decide) (List.mem_of_getElem? (i := 2) rfl) rfl rfl dX1_raise_9 ?_
    refine m_icmp_ge hC 28 dX1_raise_12 (by decide) ?_ ?_
    · refine m_aload_n hC dX1_raise_28 0 rfl ?_
      refine m_cIV hC (As := []) (wc_ok y g) (cwV 0 hC.1.2.2.2.2 gX1_raise_X1_layAnew rfl rfl rfl (by decide +kernel) ⟨Nat.le_of_ble_eq_true rfl, Nat.le_of_ble_eq_true rfl⟩) (wc_13 y g S3) rfl (fun xq hq => kX1_layAnew l D y g N S3 xq hq) rfl (Nat.le_of_ble_eq_true rfl) dX1_raise_29 ?_
      intro x5 S6
      refine m_pop hC dX1_raise_32 rfl ?_
      exact hret _ _ _ dX1_raise_33
    · refine m_aload_n hC dX1_raise_15 0 rfl ?_
      refine m_get hC iX1_raise_X1 (wc_13 y g S3) rfl 7 (by decide) (List.mem_of_getElem? (i := 3) rfl) rfl rfl dX1_raise_16 ?_
      refine m_iload_n hC dX1_raise_19 1 rfl ?_
      refine m_iconst hC (0) dX1_raise_20 (by decide) ?_
      refine m_zast hC (by decide) (wc_19 y g S3) (t0 := 1) rfl (wcs_19 y g S3) dX1_raise_21 ?_
      intro S7
      refine m_iinc hC (fun x8 => [(0, .ref (g 13)), (1, .int x8)]) [1, 0] dX1_raise_22 (j := 1) rfl (by decide) (by decide) (fun _ => rfl) (fun _ => rfl) ?_
      intro x8
      refine m_goto hC 7 dX1_raise_25 (by decide) ?_
      exact hr4 _ _
end
section
def fX2_begin_L32 (N : Nat) (r8 : Int32 → St → Option (St)) : Int32 → St → Option (St) := fun x6 S7 =>
  if x6 < (S7.1 1 5) then
    caP (fX4_inHeaps N x6 S7) fun x9 =>
    stI S7 22 8 x6 x9 fun S10 =>
    nmI (x6 + 1) fun x11 =>
    r8 x11 S10
  else
    some S7
def fX2_begin (N : Nat) (S : St) : Option (St) :=
  caV (fX1_forget S) fun S1 =>
  pfI S1 21 7 0 fun S2 =>
  pfI S2 21 5 0 fun S3 =>
  pfI S3 21 6 0 fun S4 =>
  caV (fJ7_fill_53178 N 23 6 0 S4) fun S5 =>
  itN (fun _ _ => none) (fX2_begin_L32 N) N 0 S5
abbrev rmX2_begin : Room := { frames := 1, cells := 0, slots := 0, locals := 23 }
theorem iX2_begin_X2 : ∀ w ∈ wsX20, w ∈ wsX2_begin := fun w h => List.mem_cons_of_mem _ (List.mem_append_left _ (List.mem_append_left _ (List.mem_append_right _ h)))
theorem iX2_begin_X4 : ∀ w ∈ wsX40, w ∈ wsX2_begin := fun w h => List.mem_cons_of_mem _ (List.mem_append_left _ (List.mem_append_right _ h))
theorem iX2_begin_X1 : ∀ w ∈ wsX10, w ∈ wsX2_begin := fun w h => List.mem_cons_of_mem _ (List.mem_append_right _ h)
set_option maxHeartbeats 4000000 in
set_option maxRecDepth 100000 in
theorem kX2_begin (l : Launch) (D : va_G) (y : Cy) (g : Nat → Nat) (N : Nat) (S : St) (x0 : St) (h : fX2_begin N S = some x0) : KV l yX2_begin wsX2_begin rmX2_begin D vwCl (tz y) (wc y g) (AC g) [.ref (g 21)] S (fun S2 => S2 = x0) := by
  refine m_entryV (wc_ok y g) (by decide) rfl (Nat.le_of_ble_eq_true rfl) (lv := [(0, .ref (g 21))]) rfl h ?_
  intro p e s m args below meth c hC hr hlocks
  obtain ⟨Q, hQ⟩ : ∃ Q, Q = (MQ below (va_Qv (fun S2 => S2 = x0) (Bw D vwCl (tz y) (wc y g) (AC g s.heap.size)) (AC g s.heap.size)) args s 0 0 (AC g s.heap.size)) := ⟨_, rfl⟩
  rw [← hQ]
  have hret : ∀ (S2 : St) (pc : Nat) (lv : List (Nat × Value)), decode cX2_begin pc = .ok (.return_, 1) → Sm p l e (headSpec wsX2_begin rmX2_begin).room s m args below meth c D vwCl (wc y g) (AC g s.heap.size) 2 Q x0 (some S2) S2 pc lv [] := by
    rw [hQ]
    exact fun S2 pc lv hd => m_vret hC hr hlocks hd
  clear hQ
  unfold fX2_begin
  refine m_aload_n hC dX2_begin_0 0 rfl ?_
  refine m_get hC iX2_begin_X2 (wc_21 y g S) rfl 2 (by decide) (List.mem_of_getElem? (i := 1) rfl) rfl rfl dX2_begin_1 ?_
  refine m_cVV hC (As := []) (wc_ok y g) (cwV 0 hC.1.2.2.2.2 gX2_begin_X1_forget rfl rfl rfl (by decide +kernel) ⟨Nat.le_of_ble_eq_true rfl, Nat.le_of_ble_eq_true rfl⟩) (wc_13 y g S) rfl (fun xq hq => kX1_forget l D y g S xq hq) rfl (Nat.le_of_ble_eq_true rfl) dX2_begin_4 ?_
  intro S1
  refine m_aload_n hC dX2_begin_7 0 rfl ?_
  refine m_iconst hC (0) dX2_begin_8 (by decide) ?_
  refine m_putI (ty := .int) hC iX2_begin_X2 tyX2 tyX2_ok nmX2 (wc_21 y g S1) rfl 7 (by decide) (List.mem_of_getElem? (i := 2) rfl) rfl rfl (by decide +kernel) rfl rfl (Nat.le_of_ble_eq_true rfl) dX2_begin_9 (wcf_21_7 y g S1 _) ?_
  intro S2
  refine m_aload_n hC dX2_begin_12 0 rfl ?_
  refine m_iconst hC (0) dX2_begin_13 (by decide) ?_
  refine m_putI (ty := .int) hC iX2_begin_X2 tyX2 tyX2_ok nmX2 (wc_21 y g S2) rfl 5 (by decide) (List.mem_of_getElem? (i := 3) rfl) rfl rfl (by decide +kernel) rfl rfl (Nat.le_of_ble_eq_true rfl) dX2_begin_14 (wcf_21_5 y g S2 _) ?_
  intro S3
  refine m_aload_n hC dX2_begin_17 0 rfl ?_
  refine m_iconst hC (0) dX2_begin_18 (by decide) ?_
  refine m_putI (ty := .int) hC iX2_begin_X2 tyX2 tyX2_ok nmX2 (wc_21 y g S3) rfl 6 (by decide) (List.mem_of_getElem? (i := 4) rfl) rfl rfl (by decide +kernel) rfl rfl (Nat.le_of_ble_eq_true rfl) dX2_begin_19 (wcf_21_6 y g S3 _) ?_
  intro S4
  refine m_aload_n hC dX2_begin_22 0 rfl ?_
  refine m_get hC iX2_begin_X2 (wc_21 y g S4) rfl 4 (by decide) (List.mem_of_getElem? (i := 5) rfl) rfl rfl dX2_begin_23 ?_
  refine m_iconst hC (0) dX2_begin_26 (by decide) ?_
  refine m_cVS hC (As := [.ref (g 23), .int 0]) (wc_ok y g) (va_cwS 2 hC.1.2.2.2.2 gX2_begin_J7_fill_53178 rfl rfl rfl (by decide +kernel) ⟨Nat.le_of_ble_eq_true rfl, Nat.le_of_ble_eq_true rfl⟩) (fun xq hq => kJ7_fill_53178 l D y g N 23 6 0 (fun S => wc_23 y g S) (fun S f => wcs_23 y g S f) S4 xq hq) rfl (Nat.le_of_ble_eq_true rfl) dX2_begin_27 ?_
  intro S5
  refine m_iconst hC (0) dX2_begin_30 (by decide) ?_
  refine m_istore_n hC [(0, .ref (g 21)), (1, .int 0)] [1, 0] dX2_begin_31 (by decide) rfl rfl ?_
  refine (m_it (z := (fun _ _ => none)) (F := fX2_begin_L32 N) N (fun r8 => ∀ (x6 : Int32) (S7 : St), Sm p l e (headSpec wsX2_begin rmX2_begin).room s m args below meth c D vwCl (wc y g) (AC g s.heap.size) 2 Q x0 (r8 x6 S7) S7 32 [(0, .ref (g 21)), (1, .int x6)] []) ?_ ?_) 0 S5
  · exact fun _ _ => m_none
  · intro r8 hr8 x6 S7
    unfold fX2_begin_L32
    refine m_iload_n hC dX2_begin_32 1 rfl ?_
    refine m_aload_n hC dX2_begin_33 0 rfl ?_
    refine m_get hC iX2_begin_X2 (wc_21 y g S7) rfl 0 (by decide) (List.mem_of_getElem? (i := 6) rfl) rfl rfl dX2_begin_34 ?_
    refine m_get hC iX2_begin_X4 (wc_1 y g S7) rfl 5 (by decide) (List.mem_of_getElem? (i := 7) rfl) rfl rfl dX2_begin_37 ?_
    refine m_icmp_ge hC 63 dX2_begin_40 (by decide) ?_ ?_
    · exact hret _ _ _ dX2_begin_63
    · refine m_aload_n hC dX2_begin_43 0 rfl ?_
      refine m_get hC iX2_begin_X2 (wc_21 y g S7) rfl 3 (by decide) (List.mem_of_getElem? (i := 8) rfl) rfl rfl dX2_begin_44 ?_
      refine m_iload_n hC dX2_begin_47 1 rfl ?_
      refine m_aload_n hC dX2_begin_48 0 rfl ?_
      refine m_get hC iX2_begin_X2 (wc_21 y g S7) rfl 0 (by decide) (List.mem_of_getElem? (i := 6) rfl) rfl rfl dX2_begin_49 ?_
      refine m_iload_n hC dX2_begin_52 1 rfl ?_
      refine m_cIPV hC (As := [.int x6]) (wc_ok y g) (cwV 1 hC.1.2.2.2.2 gX2_begin_X4_inHeaps rfl rfl rfl (by decide +kernel) ⟨Nat.le_of_ble_eq_true rfl, Nat.le_of_ble_eq_true rfl⟩) (wc_1 y g S7) rfl (fun xq hq => kX4_inHeaps l D y g N x6 S7 xq hq) rfl (Nat.le_of_ble_eq_true rfl) dX2_begin_53 ?_
      intro x9
      refine m_iast hC (wc_22 y g S7) (t0 := 0) rfl (wcs_22 y g S7) dX2_begin_56 ?_
      intro S10
      refine m_iinc hC (fun x11 => [(0, .ref (g 21)), (1, .int x11)]) [1, 0] dX2_begin_57 (j := 1) rfl (by decide) (by decide) (fun _ => rfl) (fun _ => rfl) ?_
      intro x11
      refine m_goto hC 32 dX2_begin_60 (by decide) ?_
      exact hr8 _ _
def fX2_endsWell (a : Int32) (S : St) : Option (Int32) :=
  ldI 8 (S.1 2) a fun x1 =>
  nmI ((S.1 21 6) + x1) fun x2 =>
  jn (fun (x3 : Int32) =>
      if x2 ≤ (S.1 12 3) then
        if x3 = 0 then
          some 1
        else
          some 0
      else
        some 0) fun J4 =>
  if (S.1 21 5) ≤ 0 then
    J4 0
  else
    ldI 6 (S.1 23) ((S.1 21 5) - 1) fun x5 =>
    if ((x5 >>> (x2 &&& 31)) &&& 1) = 1 then
      J4 1
    else
      J4 0
abbrev rmX2_endsWell : Room := { frames := 0, cells := 0, slots := 0, locals := 0 }
theorem iX2_endsWell_X2 : ∀ w ∈ wsX20, w ∈ wsX2_endsWell := fun w h => List.mem_cons_of_mem _ (List.mem_append_left _ (List.mem_append_left _ (List.mem_append_right _ h)))
theorem iX2_endsWell_X4 : ∀ w ∈ wsX40, w ∈ wsX2_endsWell := fun w h => List.mem_cons_of_mem _ (List.mem_append_left _ (List.mem_append_right _ h))
theorem iX2_endsWell_X3 : ∀ w ∈ wsX30, w ∈ wsX2_endsWell := fun w h => List.mem_cons_of_mem _ (List.mem_append_right _ h)
set_option maxHeartbeats 4000000 in
set_option maxRecDepth 100000 in
theorem kX2_endsWell (l : Launch) (D : va_G) (y : Cy) (g : Nat → Nat) (a : Int32) (S : St) (x0 : Int32) (h : fX2_endsWell a S = some x0) : KI l yX2_endsWell wsX2_endsWell rmX2_endsWell D vwCl (tz y) (wc y g) (AC g) [.ref (g 21), .int a] S (fun r S2 => r = x0 ∧ S2 = S) := by
  refine m_entryIP (wc_ok y g) (by decide) rfl (Nat.le_of_ble_eq_true rfl) (lv := [(0, .ref (g 21)), (1, .int a)]) rfl h ?_
  intro p e s m args below meth c hC hr hlocks
  obtain ⟨Q, hQ⟩ : ∃ Q, Q = (MQ below (va_Qi (fun r S2 => r = x0 ∧ S2 = S) (Bw D vwCl (tz y) (wc y g) (AC g s.heap.size)) (AC g s.heap.size)) args s 0 0 (AC g s.heap.size)) := ⟨_, rfl⟩
  rw [← hQ]
  have hret : ∀ (v : Int32) (pc : Nat) (lv : List (Nat × Value)), decode cX2_endsWell pc = .ok (.ireturn, 1) → narrow .boolean (.int v) = .int v → Sm p l e (headSpec wsX2_endsWell rmX2_endsWell).room s m args below meth c D vwCl (wc y g) (AC g s.heap.size) 4 Q x0 (some v) S pc lv [.int v] := by
    rw [hQ]
    exact fun v pc lv hd hz => m_zretP hC hz hr hlocks hd
  clear hQ
  unfold fX2_endsWell
  refine m_aload_n hC dX2_endsWell_0 0 rfl ?_
  refine m_get hC iX2_endsWell_X2 (wc_21 y g S) rfl 6 (by decide) (List.mem_of_getElem? (i := 1) rfl) rfl rfl dX2_endsWell_1 ?_
  refine m_aload_n hC dX2_endsWell_4 0 rfl ?_
  refine m_get hC iX2_endsWell_X2 (wc_21 y g S) rfl 0 (by decide) (List.mem_of_getElem? (i := 2) rfl) rfl rfl dX2_endsWell_5 ?_
  refine m_get hC iX2_endsWell_X4 (wc_1 y g S) rfl 0 (by decide) (List.mem_of_getElem? (i := 3) rfl) rfl rfl dX2_endsWell_8 ?_
  refine m_iload_n hC dX2_endsWell_11 1 rfl ?_
  refine m_iald hC (wc_2 y g S) (t0 := 0) rfl dX2_endsWell_12 ?_
  intro x1
  refine m_iadd hC dX2_endsWell_13 ?_
  refine m_nmI ?_
  intro x2
  refine m_istore_n hC [(0, .ref (g 21)), (1, .int a), (2, .int x2)] [1, 2, 0] dX2_endsWell_14 (by decide) rfl rfl ?_
  refine m_aload_n hC dX2_endsWell_15 0 rfl ?_
  refine m_get hC iX2_endsWell_X2 (wc_21 y g S) rfl 5 (by decide) (List.mem_of_getElem? (i := 4) rfl) rfl rfl dX2_endsWell_16 ?_
  refine m_jn (fun J4 => ∀ (x3 : Int32), Sm p l e (headSpec wsX2_endsWell rmX2_endsWell).room s m args below meth c D vwCl (wc y g) (AC g s.heap.size) 4 Q x0 (J4 x3) S 46 [(0, .ref (g 21)), (2, .int x2)] [.int x3]) ?_ (fun J4 hJ4 => ?_)
  · intro x3
    refine m_istore_n hC [(0, .ref (g 21)), (2, .int x2), (3, .int x3)] [1, 2, 0] dX2_endsWell_46 (by decide) rfl rfl ?_
    refine m_iload_n hC dX2_endsWell_47 1 rfl ?_
    refine m_aload_n hC dX2_endsWell_48 0 rfl ?_
    refine m_get hC iX2_endsWell_X2 (wc_21 y g S) rfl 1 (by decide) (List.mem_of_getElem? (i := 6) rfl) rfl rfl dX2_endsWell_49 ?_
    refine m_get hC iX2_endsWell_X3 (wc_12 y g S) rfl 3 (by decide) (List.mem_of_getElem? (i := 7) rfl) rfl rfl dX2_endsWell_52 ?_
    refine m_icmp_gt hC 66 dX2_endsWell_55 (by decide) ?_ ?_
    · refine m_iconst hC (0) dX2_endsWell_66 (by decide) ?_
      exact hret _ _ _ dX2_endsWell_67 rfl
    · refine m_iload_n hC dX2_endsWell_58 2 rfl ?_
      refine m_if_ne hC 66 dX2_endsWell_59 (by decide) ?_ ?_
      · refine m_iconst hC (0) dX2_endsWell_66 (by decide) ?_
        exact hret _ _ _ dX2_endsWell_67 rfl
      · refine m_iconst hC (1) dX2_endsWell_62 (by decide) ?_
        refine m_goto hC 67 dX2_endsWell_63 (by decide) ?_
        exact hret _ _ _ dX2_endsWell_67 rfl
  · refine m_if_le hC 45 dX2_endsWell_19 (by decide) ?_ ?_
    · refine m_iconst hC (0) dX2_endsWell_45 (by decide) ?_
      refine m_lv [(0, .ref (g 21)), (2, .int x2)] [0, 2] rfl ?_
      exact hJ4 _
    · refine m_aload_n hC dX2_endsWell_22 0 rfl ?_
      refine m_get hC iX2_endsWell_X2 (wc_21 y g S) rfl 4 (by decide) (List.mem_of_getElem? (i := 5) rfl) rfl rfl dX2_endsWell_23 ?_
      refine m_aload_n hC dX2_endsWell_26 0 rfl ?_
      refine m_get hC iX2_endsWell_X2 (wc_21 y g S) rfl 5 (by decide) (List.mem_of_getElem? (i := 4) rfl) rfl rfl dX2_endsWell_27 ?_
      refine m_iconst hC (1) dX2_endsWell_30 (by decide) ?_
      refine m_isub hC dX2_endsWell_31 ?_
      refine m_iald hC (wc_23 y g S) (t0 := 0) rfl dX2_endsWell_32 ?_
      intro x5
      refine m_iload_n hC dX2_endsWell_33 2 rfl ?_
      refine m_ishr hC dX2_endsWell_34 ?_
      refine m_iconst hC (1) dX2_endsWell_35 (by decide) ?_
      refine m_iand hC dX2_endsWell_36 ?_
      refine m_iconst hC (1) dX2_endsWell_37 (by decide) ?_
      refine m_icmp_ne hC 45 dX2_endsWell_38 (by decide) ?_ ?_
      · refine m_iconst hC (0) dX2_endsWell_45 (by decide) ?_
        refine m_lv [(0, .ref (g 21)), (2, .int x2)] [0, 2] rfl ?_
        exact hJ4 _
      · refine m_iconst hC (1) dX2_endsWell_41 (by decide) ?_
        refine m_goto hC 46 dX2_endsWell_42 (by decide) ?_
        refine m_lv [(0, .ref (g 21)), (2, .int x2)] [0, 2] rfl ?_
        exact hJ4 _
def fX2_nextToTry_L2 (S : St) (r2 : Int32 → Option (Int32)) : Int32 → Option (Int32) := fun x1 =>
  if x1 < (S.1 1 5) then
    ldI 8 (S.1 22) x1 fun x3 =>
    if x3 ≤ 0 then
      nmI (x1 + 1) fun x4 =>
      r2 x4
    else
      ldI 8 (S.1 3) x1 fun x5 =>
      caP (fX3_width (S.1 21 5) S) fun x6 =>
      if x5 ≤ (x6 + 1) then
        caP (fX2_endsWell x1 S) fun x8 =>
        if x8 = 0 then
          nmI (x1 + 1) fun x9 =>
          r2 x9
        else
          some x1
      else
        nmI (x1 + 1) fun x7 =>
        r2 x7
  else
    some (-1)
def fX2_nextToTry (N : Nat) (a : Int32) (S : St) : Option (Int32) :=
  itN (fun _ => none) (fX2_nextToTry_L2 S) N a
abbrev rmX2_nextToTry : Room := { frames := 2, cells := 0, slots := 0, locals := 42 }
theorem iX2_nextToTry_X2 : ∀ w ∈ wsX20, w ∈ wsX2_nextToTry := fun w h => List.mem_cons_of_mem _ (List.mem_append_left _ (List.mem_append_left _ (List.mem_append_right _ h)))
theorem iX2_nextToTry_X4 : ∀ w ∈ wsX40, w ∈ wsX2_nextToTry := fun w h => List.mem_cons_of_mem _ (List.mem_append_left _ (List.mem_append_right _ h))
theorem iX2_nextToTry_X3 : ∀ w ∈ wsX30, w ∈ wsX2_nextToTry := fun w h => List.mem_cons_of_mem _ (List.mem_append_right _ h)
set_option maxHeartbeats 4000000 in
set_option maxRecDepth 100000 in
theorem kX2_nextToTry (l : Launch) (D : va_G) (y : Cy) (g : Nat → Nat) (N : Nat) (a : Int32) (S : St) (x0 : Int32) (h : fX2_nextToTry N a S = some x0) : KI l yX2_nextToTry wsX2_nextToTry rmX2_nextToTry D vwCl (tz y) (wc y g) (AC g) [.ref (g 21), .int a] S (fun r S2 => r = x0 ∧ S2 = S) := by
  refine m_entryIP (wc_ok y g) (by decide) rfl (Nat.le_of_ble_eq_true rfl) (lv := [(0, .ref (g 21)), (1, .int a)]) rfl h ?_
  intro p e s m args below meth c hC hr hlocks
  obtain ⟨Q, hQ⟩ : ∃ Q, Q = (MQ below (va_Qi (fun r S2 => r = x0 ∧ S2 = S) (Bw D vwCl (tz y) (wc y g) (AC g s.heap.size)) (AC g s.heap.size)) args s 0 0 (AC g s.heap.size)) := ⟨_, rfl⟩
  rw [← hQ]
  have hret : ∀ (v : Int32) (pc : Nat) (lv : List (Nat × Value)), decode cX2_nextToTry pc = .ok (.ireturn, 1) → Sm p l e (headSpec wsX2_nextToTry rmX2_nextToTry).room s m args below meth c D vwCl (wc y g) (AC g s.heap.size) 3 Q x0 (some v) S pc lv [.int v] := by
    rw [hQ]
    exact fun v pc lv hd => m_iretP hC hr hlocks hd
  clear hQ
  unfold fX2_nextToTry
  refine m_iload_n hC dX2_nextToTry_0 1 rfl ?_
  refine m_istore_n hC [(0, .ref (g 21)), (1, .int a), (2, .int a)] [1, 2, 0] dX2_nextToTry_1 (by decide) rfl rfl ?_
  refine m_lv [(0, .ref (g 21)), (2, .int a)] [0, 2] rfl ?_
  refine (m_it (z := (fun _ => none)) (F := fX2_nextToTry_L2 S) N (fun r2 => ∀ (x1 : Int32), Sm p l e (headSpec wsX2_nextToTry rmX2_nextToTry).room s m args below meth c D vwCl (wc y g) (AC g s.heap.size) 3 Q x0 (r2 x1) S 2 [(0, .ref (g 21)), (2, .int x1)] []) ?_ ?_) a
  · exact fun _ => m_none
  · intro r2 hr2 x1
    unfold fX2_nextToTry_L2
    refine m_iload_n hC dX2_nextToTry_2 1 rfl ?_
    refine m_aload_n hC dX2_nextToTry_3 0 rfl ?_
    refine m_get hC iX2_nextToTry_X2 (wc_21 y g S) rfl 0 (by decide) (List.mem_of_getElem? (i := 1) rfl) rfl rfl dX2_nextToTry_4 ?_
    refine m_get hC iX2_nextToTry_X4 (wc_1 y g S) rfl 5 (by decide) (List.mem_of_getElem? (i := 2) rfl) rfl rfl dX2_nextToTry_7 ?_
    refine m_icmp_ge hC 63 dX2_nextToTry_10 (by decide) ?_ ?_
    · refine m_iconst hC (-1) dX2_nextToTry_63 (by decide) ?_
      exact hret _ _ _ dX2_nextToTry_64
    · refine m_aload_n hC dX2_nextToTry_13 0 rfl ?_
      refine m_get hC iX2_nextToTry_X2 (wc_21 y g S) rfl 3 (by decide) (List.mem_of_getElem? (i := 3) rfl) rfl rfl dX2_nextToTry_14 ?_
      refine m_iload_n hC dX2_nextToTry_17 1 rfl ?_
      refine m_iald hC (wc_22 y g S) (t0 := 0) rfl dX2_nextToTry_18 ?_
      intro x3
      refine m_if_le hC 57 dX2_nextToTry_19 (by decide) ?_ ?_
      · refine m_iinc hC (fun x4 => [(0, .ref (g 21)), (2, .int x4)]) [1, 0] dX2_nextToTry_57 (j := 1) rfl (by decide) (by decide) (fun _ => rfl) (fun _ => rfl) ?_
        intro x4
        refine m_goto hC 2 dX2_nextToTry_60 (by decide) ?_
        exact hr2 _
      · refine m_aload_n hC dX2_nextToTry_22 0 rfl ?_
        refine m_get hC iX2_nextToTry_X2 (wc_21 y g S) rfl 0 (by decide) (List.mem_of_getElem? (i := 1) rfl) rfl rfl dX2_nextToTry_23 ?_
        refine m_get hC iX2_nextToTry_X4 (wc_1 y g S) rfl 1 (by decide) (List.mem_of_getElem? (i := 4) rfl) rfl rfl dX2_nextToTry_26 ?_
        refine m_iload_n hC dX2_nextToTry_29 1 rfl ?_
        refine m_iald hC (wc_3 y g S) (t0 := 0) rfl dX2_nextToTry_30 ?_
        intro x5
        refine m_aload_n hC dX2_nextToTry_31 0 rfl ?_
        refine m_get hC iX2_nextToTry_X2 (wc_21 y g S) rfl 1 (by decide) (List.mem_of_getElem? (i := 5) rfl) rfl rfl dX2_nextToTry_32 ?_
        refine m_aload_n hC dX2_nextToTry_35 0 rfl ?_
        refine m_get hC iX2_nextToTry_X2 (wc_21 y g S) rfl 5 (by decide) (List.mem_of_getElem? (i := 6) rfl) rfl rfl dX2_nextToTry_36 ?_
        refine m_cIPV hC (As := [.int (S.1 21 5)]) (wc_ok y g) (cwV 1 hC.1.2.2.2.2 gX2_nextToTry_X3_width rfl rfl rfl (by decide +kernel) ⟨Nat.le_of_ble_eq_true rfl, Nat.le_of_ble_eq_true rfl⟩) (wc_12 y g S) rfl (fun xq hq => kX3_width l D y g (S.1 21 5) S xq hq) rfl (Nat.le_of_ble_eq_true rfl) dX2_nextToTry_39 ?_
        intro x6
        refine m_iconst hC (1) dX2_nextToTry_42 (by decide) ?_
        refine m_iadd hC dX2_nextToTry_43 ?_
        refine m_icmp_gt hC 57 dX2_nextToTry_44 (by decide) ?_ ?_
        · refine m_iinc hC (fun x7 => [(0, .ref (g 21)), (2, .int x7)]) [1, 0] dX2_nextToTry_57 (j := 1) rfl (by decide) (by decide) (fun _ => rfl) (fun _ => rfl) ?_
          intro x7
          refine m_goto hC 2 dX2_nextToTry_60 (by decide) ?_
          exact hr2 _
        · refine m_aload_n hC dX2_nextToTry_47 0 rfl ?_
          refine m_iload_n hC dX2_nextToTry_48 1 rfl ?_
          refine m_cIPV hC (As := [.int x1]) (wc_ok y g) (cwV 1 hC.1.2.2.2.2 gX2_nextToTry_X2_endsWell rfl rfl rfl (by decide +kernel) ⟨Nat.le_of_ble_eq_true rfl, Nat.le_of_ble_eq_true rfl⟩) (wc_21 y g S) rfl (fun xq hq => kX2_endsWell l D y g x1 S xq hq) rfl (Nat.le_of_ble_eq_true rfl) dX2_nextToTry_49 ?_
          intro x8
          refine m_if_eq hC 57 dX2_nextToTry_52 (by decide) ?_ ?_
          · refine m_iinc hC (fun x9 => [(0, .ref (g 21)), (2, .int x9)]) [1, 0] dX2_nextToTry_57 (j := 1) rfl (by decide) (by decide) (fun _ => rfl) (fun _ => rfl) ?_
            intro x9
            refine m_goto hC 2 dX2_nextToTry_60 (by decide) ?_
            exact hr2 _
          · refine m_iload_n hC dX2_nextToTry_55 1 rfl ?_
            exact hret _ _ _ dX2_nextToTry_56
def fX2_jointAt (a : Int32) (S : St) : Option (Int32) :=
  if a < (S.1 12 3) then
    some (1 <<< (a &&& 31))
  else
    some 0
abbrev rmX2_jointAt : Room := { frames := 0, cells := 0, slots := 0, locals := 0 }
theorem iX2_jointAt_X2 : ∀ w ∈ wsX20, w ∈ wsX2_jointAt := fun w h => List.mem_cons_of_mem _ (List.mem_append_left _ (List.mem_append_right _ h))
theorem iX2_jointAt_X3 : ∀ w ∈ wsX30, w ∈ wsX2_jointAt := fun w h => List.mem_cons_of_mem _ (List.mem_append_right _ h)
set_option maxHeartbeats 4000000 in
set_option maxRecDepth 100000 in
theorem kX2_jointAt (l : Launch) (D : va_G) (y : Cy) (g : Nat → Nat) (a : Int32) (S : St) (x0 : Int32) (h : fX2_jointAt a S = some x0) : KI l yX2_jointAt wsX2_jointAt rmX2_jointAt D vwCl (tz y) (wc y g) (AC g) [.ref (g 21), .int a] S (fun r S2 => r = x0 ∧ S2 = S) := by
  refine m_entryIP (wc_ok y g) (by decide) rfl (Nat.le_of_ble_eq_true rfl) (lv := [(0, .ref (g 21)), (1, .int a)]) rfl h ?_
  intro p e s m args below meth c hC hr hlocks
  obtain ⟨Q, hQ⟩ : ∃ Q, Q = (MQ below (va_Qi (fun r S2 => r = x0 ∧ S2 = S) (Bw D vwCl (tz y) (wc y g) (AC g s.heap.size)) (AC g s.heap.size)) args s 0 0 (AC g s.heap.size)) := ⟨_, rfl⟩
  rw [← hQ]
  have hret : ∀ (v : Int32) (pc : Nat) (lv : List (Nat × Value)), decode cX2_jointAt pc = .ok (.ireturn, 1) → Sm p l e (headSpec wsX2_jointAt rmX2_jointAt).room s m args below meth c D vwCl (wc y g) (AC g s.heap.size) 2 Q x0 (some v) S pc lv [.int v] := by
    rw [hQ]
    exact fun v pc lv hd => m_iretP hC hr hlocks hd
  clear hQ
  unfold fX2_jointAt
  refine m_iload_n hC dX2_jointAt_0 1 rfl ?_
  refine m_aload_n hC dX2_jointAt_1 0 rfl ?_
  refine m_get hC iX2_jointAt_X2 (wc_21 y g S) rfl 1 (by decide) (List.mem_of_getElem? (i := 1) rfl) rfl rfl dX2_jointAt_2 ?_
  refine m_get hC iX2_jointAt_X3 (wc_12 y g S) rfl 3 (by decide) (List.mem_of_getElem? (i := 2) rfl) rfl rfl dX2_jointAt_5 ?_
  refine m_icmp_ge hC 17 dX2_jointAt_8 (by decide) ?_ ?_
  · refine m_iconst hC (0) dX2_jointAt_17 (by decide) ?_
    exact hret _ _ _ dX2_jointAt_18
  · refine m_iconst hC (1) dX2_jointAt_11 (by decide) ?_
    refine m_iload_n hC dX2_jointAt_12 1 rfl ?_
    refine m_ishl hC dX2_jointAt_13 ?_
    refine m_goto hC 18 dX2_jointAt_14 (by decide) ?_
    exact hret _ _ _ dX2_jointAt_18
def fX2_takeUp (S : St) : Option (Int32 × St) :=
  nmI ((S.1 13 9) - 1) fun x1 =>
  ldI 144 (S.1 14) x1 fun x2 =>
  ldI 144 (S.1 15) x1 fun x3 =>
  pfI S 21 5 x3 fun S4 =>
  ldI 144 (S4.1 16) x1 fun x5 =>
  pfI S4 21 6 x5 fun S6 =>
  ldI 6 (S6.1 23) (S6.1 21 5) fun x7 =>
  caP (fX1_end x1 S6) fun x8 =>
  caP (fX2_jointAt x8 S6) fun x9 =>
  stI S6 23 6 (S6.1 21 5) (x7 ^^^ x9) fun S10 =>
  ldI 8 (S10.1 22) x2 fun x11 =>
  stI S10 22 8 x2 (x11 + 1) fun S12 =>
  pfI S12 13 9 x1 fun S13 =>
  some (x2, S13)
abbrev rmX2_takeUp : Room := { frames := 1, cells := 0, slots := 0, locals := 21 }
theorem iX2_takeUp_X2 : ∀ w ∈ wsX20, w ∈ wsX2_takeUp := fun w h => List.mem_cons_of_mem _ (List.mem_append_left _ (List.mem_append_left _ (List.mem_append_left _ (List.mem_append_right _ h))))
theorem iX2_takeUp_X1 : ∀ w ∈ wsX10, w ∈ wsX2_takeUp := fun w h => List.mem_cons_of_mem _ (List.mem_append_left _ (List.mem_append_left _ (List.mem_append_right _ h)))
theorem iX2_takeUp_X4 : ∀ w ∈ wsX40, w ∈ wsX2_takeUp := fun w h => List.mem_cons_of_mem _ (List.mem_append_left _ (List.mem_append_right _ h))
theorem iX2_takeUp_X3 : ∀ w ∈ wsX30, w ∈ wsX2_takeUp := fun w h => List.mem_cons_of_mem _ (List.mem_append_right _ h)
set_option maxHeartbeats 4000000 in
set_option maxRecDepth 100000 in
theorem kX2_takeUp (l : Launch) (D : va_G) (y : Cy) (g : Nat → Nat) (S : St) (x0 : Int32 × St) (h : fX2_takeUp S = some x0) : KI l yX2_takeUp wsX2_takeUp rmX2_takeUp D vwCl (tz y) (wc y g) (AC g) [.ref (g 21)] S (fun r S2 => (r, S2) = x0) := by
  refine m_entryI (wc_ok y g) (by decide) rfl (Nat.le_of_ble_eq_true rfl) (lv := [(0, .ref (g 21))]) rfl h ?_
  intro p e s m args below meth c hC hr hlocks
  obtain ⟨Q, hQ⟩ : ∃ Q, Q = (MQ below (va_Qi (fun r S2 => (r, S2) = x0) (Bw D vwCl (tz y) (wc y g) (AC g s.heap.size)) (AC g s.heap.size)) args s 0 0 (AC g s.heap.size)) := ⟨_, rfl⟩
  rw [← hQ]
  have hret : ∀ (v : Int32) (S2 : St) (pc : Nat) (lv : List (Nat × Value)), decode cX2_takeUp pc = .ok (.ireturn, 1) → Sm p l e (headSpec wsX2_takeUp rmX2_takeUp).room s m args below meth c D vwCl (wc y g) (AC g s.heap.size) 3 Q x0 (some (v, S2)) S2 pc lv [.int v] := by
    rw [hQ]
    exact fun v S2 pc lv hd => m_iret hC hr hlocks hd
  clear hQ
  unfold fX2_takeUp
  refine m_aload_n hC dX2_takeUp_0 0 rfl ?_
  refine m_get hC iX2_takeUp_X2 (wc_21 y g S) rfl 2 (by decide) (List.mem_of_getElem? (i := 1) rfl) rfl rfl dX2_takeUp_1 ?_
  refine m_get hC iX2_takeUp_X1 (wc_13 y g S) rfl 9 (by decide) (List.mem_of_getElem? (i := 2) rfl) rfl rfl dX2_takeUp_4 ?_
  refine m_iconst hC (1) dX2_takeUp_7 (by decide) ?_
  refine m_isub hC dX2_takeUp_8 ?_
  refine m_nmI ?_
  intro x1
  refine m_istore_n hC [(0, .ref (g 21)), (1, .int x1)] [1, 0] dX2_takeUp_9 (by decide) rfl rfl ?_
  refine m_aload_n hC dX2_takeUp_10 0 rfl ?_
  refine m_get hC iX2_takeUp_X2 (wc_21 y g S) rfl 2 (by decide) (List.mem_of_getElem? (i := 1) rfl) rfl rfl dX2_takeUp_11 ?_
  refine m_get hC iX2_takeUp_X1 (wc_13 y g S) rfl 2 (by decide) (List.mem_of_getElem? (i := 3) rfl) rfl rfl dX2_takeUp_14 ?_
  refine m_iload_n hC dX2_takeUp_17 1 rfl ?_
  refine m_iald hC (wc_14 y g S) (t0 := 0) rfl dX2_takeUp_18 ?_
  intro x2
  refine m_istore_n hC [(0, .ref (g 21)), (1, .int x1), (2, .int x2)] [1, 2, 0] dX2_takeUp_19 (by decide) rfl rfl ?_
  refine m_aload_n hC dX2_takeUp_20 0 rfl ?_
  refine m_aload_n hC dX2_takeUp_21 0 rfl ?_
  refine m_get hC iX2_takeUp_X2 (wc_21 y g S) rfl 2 (by decide) (List.mem_of_getElem? (i := 1) rfl) rfl rfl dX2_takeUp_22 ?_
  refine m_get hC iX2_takeUp_X1 (wc_13 y g S) rfl 3 (by decide) (List.mem_of_getElem? (i := 4) rfl) rfl rfl dX2_takeUp_25 ?_
  refine m_iload_n hC dX2_takeUp_28 1 rfl ?_
  refine m_iald hC (wc_15 y g S) (t0 := 0) rfl dX2_takeUp_29 ?_
  intro x3
  refine m_putI (ty := .int) hC iX2_takeUp_X2 tyX2 tyX2_ok nmX2 (wc_21 y g S) rfl 5 (by decide) (List.mem_of_getElem? (i := 5) rfl) rfl rfl (by decide +kernel) rfl rfl (Nat.le_of_ble_eq_true rfl) dX2_takeUp_30 (wcf_21_5 y g S _) ?_
  intro S4
  refine m_aload_n hC dX2_takeUp_33 0 rfl ?_
  refine m_aload_n hC dX2_takeUp_34 0 rfl ?_
  refine m_get hC iX2_takeUp_X2 (wc_21 y g S4) rfl 2 (by decide) (List.mem_of_getElem? (i := 1) rfl) rfl rfl dX2_takeUp_35 ?_
  refine m_get hC iX2_takeUp_X1 (wc_13 y g S4) rfl 4 (by decide) (List.mem_of_getElem? (i := 6) rfl) rfl rfl dX2_takeUp_38 ?_
  refine m_iload_n hC dX2_takeUp_41 1 rfl ?_
  refine m_iald hC (wc_16 y g S4) (t0 := 0) rfl dX2_takeUp_42 ?_
  intro x5
  refine m_putI (ty := .int) hC iX2_takeUp_X2 tyX2 tyX2_ok nmX2 (wc_21 y g S4) rfl 6 (by decide) (List.mem_of_getElem? (i := 7) rfl) rfl rfl (by decide +kernel) rfl rfl (Nat.le_of_ble_eq_true rfl) dX2_takeUp_43 (wcf_21_6 y g S4 _) ?_
  intro S6
  refine m_aload_n hC dX2_takeUp_46 0 rfl ?_
  refine m_get hC iX2_takeUp_X2 (wc_21 y g S6) rfl 4 (by decide) (List.mem_of_getElem? (i := 8) rfl) rfl rfl dX2_takeUp_47 ?_
  refine m_aload_n hC dX2_takeUp_50 0 rfl ?_
  refine m_get hC iX2_takeUp_X2 (wc_21 y g S6) rfl 5 (by decide) (List.mem_of_getElem? (i := 5) rfl) rfl rfl dX2_takeUp_51 ?_
  refine m_dup2 hC dX2_takeUp_54 rfl rfl ?_
  refine m_iald hC (wc_23 y g S6) (t0 := 0) rfl dX2_takeUp_55 ?_
  intro x7
  refine m_aload_n hC dX2_takeUp_56 0 rfl ?_
  refine m_aload_n hC dX2_takeUp_57 0 rfl ?_
  refine m_get hC iX2_takeUp_X2 (wc_21 y g S6) rfl 2 (by decide) (List.mem_of_getElem? (i := 1) rfl) rfl rfl dX2_takeUp_58 ?_
  refine m_iload_n hC dX2_takeUp_61 1 rfl ?_
  refine m_cIPV hC (As := [.int x1]) (wc_ok y g) (cwV 1 hC.1.2.2.2.2 gX2_takeUp_X1_end rfl rfl rfl (by decide +kernel) ⟨Nat.le_of_ble_eq_true rfl, Nat.le_of_ble_eq_true rfl⟩) (wc_13 y g S6) rfl (fun xq hq => kX1_end l D y g x1 S6 xq hq) rfl (Nat.le_of_ble_eq_true rfl) dX2_takeUp_62 ?_
  intro x8
  refine m_cIPV hC (As := [.int x8]) (wc_ok y g) (cwV 1 hC.1.2.2.2.2 gX2_takeUp_X2_jointAt rfl rfl rfl (by decide +kernel) ⟨Nat.le_of_ble_eq_true rfl, Nat.le_of_ble_eq_true rfl⟩) (wc_21 y g S6) rfl (fun xq hq => kX2_jointAt l D y g x8 S6 xq hq) rfl (Nat.le_of_ble_eq_true rfl) dX2_takeUp_65 ?_
  intro x9
  refine m_ixor hC dX2_takeUp_68 ?_
  refine m_iast hC (wc_23 y g S6) (t0 := 0) rfl (wcs_23 y g S6) dX2_takeUp_69 ?_
  intro S10
  refine m_aload_n hC dX2_takeUp_70 0 rfl ?_
  refine m_get hC iX2_takeUp_X2 (wc_21 y g S10) rfl 3 (by decide) (List.mem_of_getElem? (i := 9) rfl) rfl rfl dX2_takeUp_71 ?_
  refine m_iload_n hC dX2_takeUp_74 2 rfl ?_
  refine m_dup2 hC dX2_takeUp_75 rfl rfl ?_
  refine m_iald hC (wc_22 y g S10) (t0 := 0) rfl dX2_takeUp_76 ?_
  intro x11
  refine m_iconst hC (1) dX2_takeUp_77 (by decide) ?_
  refine m_iadd hC dX2_takeUp_78 ?_
  refine m_iast hC (wc_22 y g S10) (t0 := 0) rfl (wcs_22 y g S10) dX2_takeUp_79 ?_
  intro S12
  refine m_aload_n hC dX2_takeUp_80 0 rfl ?_
  refine m_get hC iX2_takeUp_X2 (wc_21 y g S12) rfl 2 (by decide) (List.mem_of_getElem? (i := 1) rfl) rfl rfl dX2_takeUp_81 ?_
  refine m_iload_n hC dX2_takeUp_84 1 rfl ?_
  refine m_putI (ty := .int) hC iX2_takeUp_X1 tyX1 tyX1_ok nmX1 (wc_13 y g S12) rfl 9 (by decide) (List.mem_of_getElem? (i := 2) rfl) rfl rfl (by decide +kernel) rfl rfl (Nat.le_of_ble_eq_true rfl) dX2_takeUp_85 (wcf_13_9 y g S12 _) ?_
  intro S13
  refine m_iload_n hC dX2_takeUp_88 2 rfl ?_
  exact hret _ _ _ _ dX2_takeUp_89
def fX2_lay (a : Int32) (S : St) : Option (St) :=
  caV (fX1_add a (S.1 21 5) (S.1 21 6) S) fun S1 =>
  ldI 8 (S1.1 22) a fun x2 =>
  stI S1 22 8 a (x2 - 1) fun S3 =>
  ldI 8 (S3.1 2) a fun x4 =>
  pfI S3 21 6 ((S3.1 21 6) + x4) fun S5 =>
  ldI 6 (S5.1 23) (S5.1 21 5) fun x6 =>
  caP (fX2_jointAt (S5.1 21 6) S5) fun x7 =>
  stI S5 23 6 (S5.1 21 5) (x6 ^^^ x7) fun S8 =>
  some S8
abbrev rmX2_lay : Room := { frames := 1, cells := 0, slots := 0, locals := 23 }
theorem iX2_lay_X2 : ∀ w ∈ wsX20, w ∈ wsX2_lay := fun w h => List.mem_cons_of_mem _ (List.mem_append_left _ (List.mem_append_left _ (List.mem_append_left _ (List.mem_append_right _ h))))
theorem iX2_lay_X4 : ∀ w ∈ wsX40, w ∈ wsX2_lay := fun w h => List.mem_cons_of_mem _ (List.mem_append_left _ (List.mem_append_left _ (List.mem_append_right _ h)))
theorem iX2_lay_X1 : ∀ w ∈ wsX10, w ∈ wsX2_lay := fun w h => List.mem_cons_of_mem _ (List.mem_append_left _ (List.mem_append_right _ h))
theorem iX2_lay_X3 : ∀ w ∈ wsX30, w ∈ wsX2_lay := fun w h => List.mem_cons_of_mem _ (List.mem_append_right _ h)
set_option maxHeartbeats 4000000 in
set_option maxRecDepth 100000 in
theorem kX2_lay (l : Launch) (D : va_G) (y : Cy) (g : Nat → Nat) (a : Int32) (S : St) (x0 : St) (h : fX2_lay a S = some x0) : KV l yX2_lay wsX2_lay rmX2_lay D vwCl (tz y) (wc y g) (AC g) [.ref (g 21), .int a] S (fun S2 => S2 = x0) := by
  refine m_entryV (wc_ok y g) (by decide) rfl (Nat.le_of_ble_eq_true rfl) (lv := [(0, .ref (g 21)), (1, .int a)]) rfl h ?_
  intro p e s m args below meth c hC hr hlocks
  obtain ⟨Q, hQ⟩ : ∃ Q, Q = (MQ below (va_Qv (fun S2 => S2 = x0) (Bw D vwCl (tz y) (wc y g) (AC g s.heap.size)) (AC g s.heap.size)) args s 0 0 (AC g s.heap.size)) := ⟨_, rfl⟩
  rw [← hQ]
  have hret : ∀ (S2 : St) (pc : Nat) (lv : List (Nat × Value)), decode cX2_lay pc = .ok (.return_, 1) → Sm p l e (headSpec wsX2_lay rmX2_lay).room s m args below meth c D vwCl (wc y g) (AC g s.heap.size) 2 Q x0 (some S2) S2 pc lv [] := by
    rw [hQ]
    exact fun S2 pc lv hd => m_vret hC hr hlocks hd
  clear hQ
  unfold fX2_lay
  refine m_aload_n hC dX2_lay_0 0 rfl ?_
  refine m_get hC iX2_lay_X2 (wc_21 y g S) rfl 2 (by decide) (List.mem_of_getElem? (i := 1) rfl) rfl rfl dX2_lay_1 ?_
  refine m_iload_n hC dX2_lay_4 1 rfl ?_
  refine m_aload_n hC dX2_lay_5 0 rfl ?_
  refine m_get hC iX2_lay_X2 (wc_21 y g S) rfl 5 (by decide) (List.mem_of_getElem? (i := 2) rfl) rfl rfl dX2_lay_6 ?_
  refine m_aload_n hC dX2_lay_9 0 rfl ?_
  refine m_get hC iX2_lay_X2 (wc_21 y g S) rfl 6 (by decide) (List.mem_of_getElem? (i := 3) rfl) rfl rfl dX2_lay_10 ?_
  refine m_cVV hC (As := [.int a, .int (S.1 21 5), .int (S.1 21 6)]) (wc_ok y g) (cwV 3 hC.1.2.2.2.2 gX2_lay_X1_add rfl rfl rfl (by decide +kernel) ⟨Nat.le_of_ble_eq_true rfl, Nat.le_of_ble_eq_true rfl⟩) (wc_13 y g S) rfl (fun xq hq => kX1_add l D y g a (S.1 21 5) (S.1 21 6) S xq hq) rfl (Nat.le_of_ble_eq_true rfl) dX2_lay_13 ?_
  intro S1
  refine m_aload_n hC dX2_lay_16 0 rfl ?_
  refine m_get hC iX2_lay_X2 (wc_21 y g S1) rfl 3 (by decide) (List.mem_of_getElem? (i := 4) rfl) rfl rfl dX2_lay_17 ?_
  refine m_iload_n hC dX2_lay_20 1 rfl ?_
  refine m_dup2 hC dX2_lay_21 rfl rfl ?_
  refine m_iald hC (wc_22 y g S1) (t0 := 0) rfl dX2_lay_22 ?_
  intro x2
  refine m_iconst hC (1) dX2_lay_23 (by decide) ?_
  refine m_isub hC dX2_lay_24 ?_
  refine m_iast hC (wc_22 y g S1) (t0 := 0) rfl (wcs_22 y g S1) dX2_lay_25 ?_
  intro S3
  refine m_aload_n hC dX2_lay_26 0 rfl ?_
  refine m_dup hC dX2_lay_27 rfl ?_
  refine m_get hC iX2_lay_X2 (wc_21 y g S3) rfl 6 (by decide) (List.mem_of_getElem? (i := 3) rfl) rfl rfl dX2_lay_28 ?_
  refine m_aload_n hC dX2_lay_31 0 rfl ?_
  refine m_get hC iX2_lay_X2 (wc_21 y g S3) rfl 0 (by decide) (List.mem_of_getElem? (i := 5) rfl) rfl rfl dX2_lay_32 ?_
  refine m_get hC iX2_lay_X4 (wc_1 y g S3) rfl 0 (by decide) (List.mem_of_getElem? (i := 6) rfl) rfl rfl dX2_lay_35 ?_
  refine m_iload_n hC dX2_lay_38 1 rfl ?_
  refine m_iald hC (wc_2 y g S3) (t0 := 0) rfl dX2_lay_39 ?_
  intro x4
  refine m_iadd hC dX2_lay_40 ?_
  refine m_putI (ty := .int) hC iX2_lay_X2 tyX2 tyX2_ok nmX2 (wc_21 y g S3) rfl 6 (by decide) (List.mem_of_getElem? (i := 3) rfl) rfl rfl (by decide +kernel) rfl rfl (Nat.le_of_ble_eq_true rfl) dX2_lay_41 (wcf_21_6 y g S3 _) ?_
  intro S5
  refine m_aload_n hC dX2_lay_44 0 rfl ?_
  refine m_get hC iX2_lay_X2 (wc_21 y g S5) rfl 4 (by decide) (List.mem_of_getElem? (i := 7) rfl) rfl rfl dX2_lay_45 ?_
  refine m_aload_n hC dX2_lay_48 0 rfl ?_
  refine m_get hC iX2_lay_X2 (wc_21 y g S5) rfl 5 (by decide) (List.mem_of_getElem? (i := 2) rfl) rfl rfl dX2_lay_49 ?_
  refine m_dup2 hC dX2_lay_52 rfl rfl ?_
  refine m_iald hC (wc_23 y g S5) (t0 := 0) rfl dX2_lay_53 ?_
  intro x6
  refine m_aload_n hC dX2_lay_54 0 rfl ?_
  refine m_aload_n hC dX2_lay_55 0 rfl ?_
  refine m_get hC iX2_lay_X2 (wc_21 y g S5) rfl 6 (by decide) (List.mem_of_getElem? (i := 3) rfl) rfl rfl dX2_lay_56 ?_
  refine m_cIPV hC (As := [.int (S5.1 21 6)]) (wc_ok y g) (cwV 1 hC.1.2.2.2.2 gX2_lay_X2_jointAt rfl rfl rfl (by decide +kernel) ⟨Nat.le_of_ble_eq_true rfl, Nat.le_of_ble_eq_true rfl⟩) (wc_21 y g S5) rfl (fun xq hq => kX2_jointAt l D y g (S5.1 21 6) S5 xq hq) rfl (Nat.le_of_ble_eq_true rfl) dX2_lay_59 ?_
  intro x7
  refine m_ixor hC dX2_lay_62 ?_
  refine m_iast hC (wc_23 y g S5) (t0 := 0) rfl (wcs_23 y g S5) dX2_lay_63 ?_
  intro S8
  exact hret _ _ _ dX2_lay_64
def fX2_hasThroughsAsked_L12 (S : St) (K5 : Int32 → Option (Int32)) (r4 : Int32 → Int32 → Option (Int32)) : Int32 → Int32 → Option (Int32) := fun x2 x3 =>
  if x3 < 0 then
    K5 x2
  else
    ldI 144 (S.1 15) x3 fun x8 =>
    if x8 = (S.1 21 5) then
      caP (fX1_isThroughStone x3 S) fun x9 =>
      if x9 = 0 then
        nmI (x2 + 0) fun x10 =>
        nmI (x3 + (-1)) fun x11 =>
        r4 x10 x11
      else
        nmI (x2 + 1) fun x12 =>
        nmI (x3 + (-1)) fun x13 =>
        r4 x12 x13
    else
      K5 x2
def fX2_hasThroughsAsked (N : Nat) (S : St) : Option (Int32) :=
  nmI ((S.1 13 9) - 1) fun x1 =>
  itN (fun _ _ => none) (fX2_hasThroughsAsked_L12 S (fun (x6 : Int32) =>
      caP (fX3_throughsAsked (S.1 21 5) S) fun x7 =>
      if x6 < x7 then
        some 0
      else
        some 1)) N 0 x1
abbrev rmX2_hasThroughsAsked : Room := { frames := 3, cells := 0, slots := 0, locals := 63 }
theorem iX2_hasThroughsAsked_X2 : ∀ w ∈ wsX20, w ∈ wsX2_hasThroughsAsked := fun w h => List.mem_cons_of_mem _ (List.mem_append_left _ (List.mem_append_left _ (List.mem_append_left _ (List.mem_append_right _ h))))
theorem iX2_hasThroughsAsked_X1 : ∀ w ∈ wsX10, w ∈ wsX2_hasThroughsAsked := fun w h => List.mem_cons_of_mem _ (List.mem_append_left _ (List.mem_append_left _ (List.mem_append_right _ h)))
theorem iX2_hasThroughsAsked_X4 : ∀ w ∈ wsX40, w ∈ wsX2_hasThroughsAsked := fun w h => List.mem_cons_of_mem _ (List.mem_append_left _ (List.mem_append_right _ h))
theorem iX2_hasThroughsAsked_X3 : ∀ w ∈ wsX30, w ∈ wsX2_hasThroughsAsked := fun w h => List.mem_cons_of_mem _ (List.mem_append_right _ h)
set_option maxHeartbeats 4000000 in
set_option maxRecDepth 100000 in
theorem kX2_hasThroughsAsked (l : Launch) (D : va_G) (y : Cy) (g : Nat → Nat) (N : Nat) (S : St) (x0 : Int32) (h : fX2_hasThroughsAsked N S = some x0) : KI l yX2_hasThroughsAsked wsX2_hasThroughsAsked rmX2_hasThroughsAsked D vwCl (tz y) (wc y g) (AC g) [.ref (g 21)] S (fun r S2 => r = x0 ∧ S2 = S) := by
  refine m_entryIP (wc_ok y g) (by decide) rfl (Nat.le_of_ble_eq_true rfl) (lv := [(0, .ref (g 21))]) rfl h ?_
  intro p e s m args below meth c hC hr hlocks
  obtain ⟨Q, hQ⟩ : ∃ Q, Q = (MQ below (va_Qi (fun r S2 => r = x0 ∧ S2 = S) (Bw D vwCl (tz y) (wc y g) (AC g s.heap.size)) (AC g s.heap.size)) args s 0 0 (AC g s.heap.size)) := ⟨_, rfl⟩
  rw [← hQ]
  have hret : ∀ (v : Int32) (pc : Nat) (lv : List (Nat × Value)), decode cX2_hasThroughsAsked pc = .ok (.ireturn, 1) → narrow .boolean (.int v) = .int v → Sm p l e (headSpec wsX2_hasThroughsAsked rmX2_hasThroughsAsked).room s m args below meth c D vwCl (wc y g) (AC g s.heap.size) 3 Q x0 (some v) S pc lv [.int v] := by
    rw [hQ]
    exact fun v pc lv hd hz => m_zretP hC hz hr hlocks hd
  clear hQ
  unfold fX2_hasThroughsAsked
  refine m_iconst hC (0) dX2_hasThroughsAsked_0 (by decide) ?_
  refine m_istore_n hC [(0, .ref (g 21)), (1, .int 0)] [1, 0] dX2_hasThroughsAsked_1 (by decide) rfl rfl ?_
  refine m_aload_n hC dX2_hasThroughsAsked_2 0 rfl ?_
  refine m_get hC iX2_hasThroughsAsked_X2 (wc_21 y g S) rfl 2 (by decide) (List.mem_of_getElem? (i := 1) rfl) rfl rfl dX2_hasThroughsAsked_3 ?_
  refine m_get hC iX2_hasThroughsAsked_X1 (wc_13 y g S) rfl 9 (by decide) (List.mem_of_getElem? (i := 2) rfl) rfl rfl dX2_hasThroughsAsked_6 ?_
  refine m_iconst hC (1) dX2_hasThroughsAsked_9 (by decide) ?_
  refine m_isub hC dX2_hasThroughsAsked_10 ?_
  refine m_nmI ?_
  intro x1
  refine m_istore_n hC [(0, .ref (g 21)), (1, .int 0), (2, .int x1)] [1, 2, 0] dX2_hasThroughsAsked_11 (by decide) rfl rfl ?_
  refine (m_itK (z := (fun _ _ => none)) (F := fX2_hasThroughsAsked_L12 S) N (fun K5 => ∀ (x6 : Int32), Sm p l e (headSpec wsX2_hasThroughsAsked rmX2_hasThroughsAsked).room s m args below meth c D vwCl (wc y g) (AC g s.heap.size) 3 Q x0 (K5 x6) S 57 [(0, .ref (g 21)), (1, .int x6)] []) (fun r4 => ∀ (x2 : Int32) (x3 : Int32), Sm p l e (headSpec wsX2_hasThroughsAsked rmX2_hasThroughsAsked).room s m args below meth c D vwCl (wc y g) (AC g s.heap.size) 3 Q x0 (r4 x2 x3) S 12 [(0, .ref (g 21)), (1, .int x2), (2, .int x3)] []) ?_ ?_ ?_) 0 x1
  · exact fun _ _ => m_none
  · intro x6
    refine m_iload_n hC dX2_hasThroughsAsked_57 1 rfl ?_
    refine m_aload_n hC dX2_hasThroughsAsked_58 0 rfl ?_
    refine m_get hC iX2_hasThroughsAsked_X2 (wc_21 y g S) rfl 1 (by decide) (List.mem_of_getElem? (i := 5) rfl) rfl rfl dX2_hasThroughsAsked_59 ?_
    refine m_aload_n hC dX2_hasThroughsAsked_62 0 rfl ?_
    refine m_get hC iX2_hasThroughsAsked_X2 (wc_21 y g S) rfl 5 (by decide) (List.mem_of_getElem? (i := 4) rfl) rfl rfl dX2_hasThroughsAsked_63 ?_
    refine m_cIPV hC (As := [.int (S.1 21 5)]) (wc_ok y g) (cwV 1 hC.1.2.2.2.2 gX2_hasThroughsAsked_X3_throughsAsked rfl rfl rfl (by decide +kernel) ⟨Nat.le_of_ble_eq_true rfl, Nat.le_of_ble_eq_true rfl⟩) (wc_12 y g S) rfl (fun xq hq => kX3_throughsAsked l D y g (S.1 21 5) S xq hq) rfl (Nat.le_of_ble_eq_true rfl) dX2_hasThroughsAsked_66 ?_
    intro x7
    refine m_icmp_lt hC 76 dX2_hasThroughsAsked_69 (by decide) ?_ ?_
    · refine m_iconst hC (0) dX2_hasThroughsAsked_76 (by decide) ?_
      exact hret _ _ _ dX2_hasThroughsAsked_77 rfl
    · refine m_iconst hC (1) dX2_hasThroughsAsked_72 (by decide) ?_
      refine m_goto hC 77 dX2_hasThroughsAsked_73 (by decide) ?_
      exact hret _ _ _ dX2_hasThroughsAsked_77 rfl
  · intro K5 hK5 r4 hr4 x2 x3
    unfold fX2_hasThroughsAsked_L12
    refine m_iload_n hC dX2_hasThroughsAsked_12 2 rfl ?_
    refine m_if_lt hC 57 dX2_hasThroughsAsked_13 (by decide) ?_ ?_
    · refine m_lv [(0, .ref (g 21)), (1, .int x2)] [0, 1] rfl ?_
      exact hK5 _
    · refine m_aload_n hC dX2_hasThroughsAsked_16 0 rfl ?_
      refine m_get hC iX2_hasThroughsAsked_X2 (wc_21 y g S) rfl 2 (by decide) (List.mem_of_getElem? (i := 1) rfl) rfl rfl dX2_hasThroughsAsked_17 ?_
      refine m_get hC iX2_hasThroughsAsked_X1 (wc_13 y g S) rfl 3 (by decide) (List.mem_of_getElem? (i := 3) rfl) rfl rfl dX2_hasThroughsAsked_20 ?_
      refine m_iload_n hC dX2_hasThroughsAsked_23 2 rfl ?_
      refine m_iald hC (wc_15 y g S) (t0 := 0) rfl dX2_hasThroughsAsked_24 ?_
      intro x8
      refine m_aload_n hC dX2_hasThroughsAsked_25 0 rfl ?_
      refine m_get hC iX2_hasThroughsAsked_X2 (wc_21 y g S) rfl 5 (by decide) (List.mem_of_getElem? (i := 4) rfl) rfl rfl dX2_hasThroughsAsked_26 ?_
      refine m_icmp_ne hC 57 dX2_hasThroughsAsked_29 (by decide) ?_ ?_
      · refine m_lv [(0, .ref (g 21)), (1, .int x2)] [0, 1] rfl ?_
        exact hK5 _
      · refine m_iload_n hC dX2_hasThroughsAsked_32 1 rfl ?_
        refine m_aload_n hC dX2_hasThroughsAsked_33 0 rfl ?_
        refine m_get hC iX2_hasThroughsAsked_X2 (wc_21 y g S) rfl 2 (by decide) (List.mem_of_getElem? (i := 1) rfl) rfl rfl dX2_hasThroughsAsked_34 ?_
        refine m_iload_n hC dX2_hasThroughsAsked_37 2 rfl ?_
        refine m_cIPV hC (As := [.int x3]) (wc_ok y g) (cwV 1 hC.1.2.2.2.2 gX2_hasThroughsAsked_X1_isThroughStone rfl rfl rfl (by decide +kernel) ⟨Nat.le_of_ble_eq_true rfl, Nat.le_of_ble_eq_true rfl⟩) (wc_13 y g S) rfl (fun xq hq => kX1_isThroughStone l D y g x3 S xq hq) rfl (Nat.le_of_ble_eq_true rfl) dX2_hasThroughsAsked_38 ?_
        intro x9
        refine m_if_eq hC 48 dX2_hasThroughsAsked_41 (by decide) ?_ ?_
        · refine m_iconst hC (0) dX2_hasThroughsAsked_48 (by decide) ?_
          refine m_iadd hC dX2_hasThroughsAsked_49 ?_
          refine m_nmI ?_
          intro x10
          refine m_istore_n hC [(0, .ref (g 21)), (1, .int x10), (2, .int x3)] [1, 0, 2] dX2_hasThroughsAsked_50 (by decide) rfl rfl ?_
          refine m_iinc hC (fun x11 => [(0, .ref (g 21)), (1, .int x10), (2, .int x11)]) [1, 2, 0] dX2_hasThroughsAsked_51 (j := 2) rfl (by decide) (by decide) (fun _ => rfl) (fun _ => rfl) ?_
          intro x11
          refine m_goto hC 12 dX2_hasThroughsAsked_54 (by decide) ?_
          exact hr4 _ _
        · refine m_iconst hC (1) dX2_hasThroughsAsked_44 (by decide) ?_
          refine m_goto hC 49 dX2_hasThroughsAsked_45 (by decide) ?_
          refine m_iadd hC dX2_hasThroughsAsked_49 ?_
          refine m_nmI ?_
          intro x12
          refine m_istore_n hC [(0, .ref (g 21)), (1, .int x12), (2, .int x3)] [1, 0, 2] dX2_hasThroughsAsked_50 (by decide) rfl rfl ?_
          refine m_iinc hC (fun x13 => [(0, .ref (g 21)), (1, .int x12), (2, .int x13)]) [1, 2, 0] dX2_hasThroughsAsked_51 (j := 2) rfl (by decide) (by decide) (fun _ => rfl) (fun _ => rfl) ?_
          intro x13
          refine m_goto hC 12 dX2_hasThroughsAsked_54 (by decide) ?_
          exact hr4 _ _
def fX2_firstWhole_L12 (N : Nat) (r6 : Int32 → Int32 → St → Option (Int32 × St)) : Int32 → Int32 → St → Option (Int32 × St) := fun x3 x4 S5 =>
  if x4 < 40002 then
    if x3 = (-1) then
      if (S5.1 13 9) = 0 then
        some (0, S5)
      else
        caS (fX2_takeUp S5) fun x18 S19 =>
        caP (fX2_nextToTry N (x18 + 1) S19) fun x20 =>
        nmI (x4 + 1) fun x21 =>
        r6 x20 x21 S19
    else
      if (S5.1 21 7) < 20000 then
        pfI S5 21 7 ((S5.1 21 7) + 1) fun S7 =>
        caV (fX2_lay x3 S7) fun S8 =>
        if (S8.1 21 6) < (S8.1 12 3) then
          caP (fX2_nextToTry N 0 S8) fun x16 =>
          nmI (x4 + 1) fun x17 =>
          r6 x16 x17 S8
        else
          caP (fX2_hasThroughsAsked N S8) fun x9 =>
          if x9 = 0 then
            nmI (-1) fun x14 =>
            nmI (x4 + 1) fun x15 =>
            r6 x14 x15 S8
          else
            if ((S8.1 21 5) + 1) = (S8.1 12 4) then
              some ((S8.1 13 9), S8)
            else
              pfI S8 21 5 ((S8.1 21 5) + 1) fun S10 =>
              pfI S10 21 6 0 fun S11 =>
              caP (fX2_nextToTry N 0 S11) fun x12 =>
              nmI (x4 + 1) fun x13 =>
              r6 x12 x13 S11
      else
        some ((-2), S5)
  else
    some ((-2), S5)
def fX2_firstWhole (N : Nat) (S : St) : Option (Int32 × St) :=
  caV (fX2_begin N S) fun S1 =>
  caP (fX2_nextToTry N 0 S1) fun x2 =>
  itN (fun _ _ _ => none) (fX2_firstWhole_L12 N) N x2 0 S1
abbrev rmX2_firstWhole : Room := { frames := 4, cells := 0, slots := 0, locals := 85 }
theorem iX2_firstWhole_X2 : ∀ w ∈ wsX20, w ∈ wsX2_firstWhole := fun w h => List.mem_cons_of_mem _ (List.mem_append_left _ (List.mem_append_left _ (List.mem_append_left _ (List.mem_append_right _ h))))
theorem iX2_firstWhole_X1 : ∀ w ∈ wsX10, w ∈ wsX2_firstWhole := fun w h => List.mem_cons_of_mem _ (List.mem_append_left _ (List.mem_append_left _ (List.mem_append_right _ h)))
theorem iX2_firstWhole_X3 : ∀ w ∈ wsX30, w ∈ wsX2_firstWhole := fun w h => List.mem_cons_of_mem _ (List.mem_append_left _ (List.mem_append_right _ h))
theorem iX2_firstWhole_X4 : ∀ w ∈ wsX40, w ∈ wsX2_firstWhole := fun w h => List.mem_cons_of_mem _ (List.mem_append_right _ h)
set_option maxHeartbeats 4000000 in
set_option maxRecDepth 100000 in
theorem kX2_firstWhole (l : Launch) (D : va_G) (y : Cy) (g : Nat → Nat) (N : Nat) (S : St) (x0 : Int32 × St) (h : fX2_firstWhole N S = some x0) : KI l yX2_firstWhole wsX2_firstWhole rmX2_firstWhole D vwCl (tz y) (wc y g) (AC g) [.ref (g 21)] S (fun r S2 => (r, S2) = x0) := by
  refine m_entryI (wc_ok y g) (by decide) rfl (Nat.le_of_ble_eq_true rfl) (lv := [(0, .ref (g 21))]) rfl h ?_
  intro p e s m args below meth c hC hr hlocks
  obtain ⟨Q, hQ⟩ : ∃ Q, Q = (MQ below (va_Qi (fun r S2 => (r, S2) = x0) (Bw D vwCl (tz y) (wc y g) (AC g s.heap.size)) (AC g s.heap.size)) args s 0 0 (AC g s.heap.size)) := ⟨_, rfl⟩
  rw [← hQ]
  have hret : ∀ (v : Int32) (S2 : St) (pc : Nat) (lv : List (Nat × Value)), decode cX2_firstWhole pc = .ok (.ireturn, 1) → Sm p l e (headSpec wsX2_firstWhole rmX2_firstWhole).room s m args below meth c D vwCl (wc y g) (AC g s.heap.size) 3 Q x0 (some (v, S2)) S2 pc lv [.int v] := by
    rw [hQ]
    exact fun v S2 pc lv hd => m_iret hC hr hlocks hd
  clear hQ
  unfold fX2_firstWhole
  refine m_aload_n hC dX2_firstWhole_0 0 rfl ?_
  refine m_cVV hC (As := []) (wc_ok y g) (cwV 0 hC.1.2.2.2.2 gX2_firstWhole_X2_begin rfl rfl rfl (by decide +kernel) ⟨Nat.le_of_ble_eq_true rfl, Nat.le_of_ble_eq_true rfl⟩) (wc_21 y g S) rfl (fun xq hq => kX2_begin l D y g N S xq hq) rfl (Nat.le_of_ble_eq_true rfl) dX2_firstWhole_1 ?_
  intro S1
  refine m_aload_n hC dX2_firstWhole_4 0 rfl ?_
  refine m_iconst hC (0) dX2_firstWhole_5 (by decide) ?_
  refine m_cIPV hC (As := [.int 0]) (wc_ok y g) (cwV 1 hC.1.2.2.2.2 gX2_firstWhole_X2_nextToTry rfl rfl rfl (by decide +kernel) ⟨Nat.le_of_ble_eq_true rfl, Nat.le_of_ble_eq_true rfl⟩) (wc_21 y g S1) rfl (fun xq hq => kX2_nextToTry l D y g N 0 S1 xq hq) rfl (Nat.le_of_ble_eq_true rfl) dX2_firstWhole_6 ?_
  intro x2
  refine m_istore_n hC [(0, .ref (g 21)), (1, .int x2)] [1, 0] dX2_firstWhole_9 (by decide) rfl rfl ?_
  refine m_iconst hC (0) dX2_firstWhole_10 (by decide) ?_
  refine m_istore_n hC [(0, .ref (g 21)), (1, .int x2), (2, .int 0)] [1, 2, 0] dX2_firstWhole_11 (by decide) rfl rfl ?_
  refine (m_it (z := (fun _ _ _ => none)) (F := fX2_firstWhole_L12 N) N (fun r6 => ∀ (x3 : Int32) (x4 : Int32) (S5 : St), Sm p l e (headSpec wsX2_firstWhole rmX2_firstWhole).room s m args below meth c D vwCl (wc y g) (AC g s.heap.size) 3 Q x0 (r6 x3 x4 S5) S5 12 [(0, .ref (g 21)), (1, .int x3), (2, .int x4)] []) ?_ ?_) x2 0 S1
  · exact fun _ _ _ => m_none
  · intro r6 hr6 x3 x4 S5
    unfold fX2_firstWhole_L12
    refine m_iload_n hC dX2_firstWhole_12 2 rfl ?_
    refine m_ldc hC (List.mem_of_getElem? (i := 1) rfl) dX2_firstWhole_13 ?_
    refine m_icmp_ge hC 163 dX2_firstWhole_15 (by decide) ?_ ?_
    · refine m_bipush hC (-2) dX2_firstWhole_163 (by decide) ?_
      exact hret _ _ _ _ dX2_firstWhole_165
    · refine m_iload_n hC dX2_firstWhole_18 1 rfl ?_
      refine m_iconst hC (-1) dX2_firstWhole_19 (by decide) ?_
      refine m_icmp_ne hC 49 dX2_firstWhole_20 (by decide) ?_ ?_
      · refine m_aload_n hC dX2_firstWhole_49 0 rfl ?_
        refine m_get hC iX2_firstWhole_X2 (wc_21 y g S5) rfl 7 (by decide) (List.mem_of_getElem? (i := 4) rfl) rfl rfl dX2_firstWhole_50 ?_
        refine m_sipush hC (20000) dX2_firstWhole_53 (by decide) ?_
        refine m_icmp_lt hC 62 dX2_firstWhole_56 (by decide) ?_ ?_
        · refine m_aload_n hC dX2_firstWhole_62 0 rfl ?_
          refine m_dup hC dX2_firstWhole_63 rfl ?_
          refine m_get hC iX2_firstWhole_X2 (wc_21 y g S5) rfl 7 (by decide) (List.mem_of_getElem? (i := 4) rfl) rfl rfl dX2_firstWhole_64 ?_
          refine m_iconst hC (1) dX2_firstWhole_67 (by decide) ?_
          refine m_iadd hC dX2_firstWhole_68 ?_
          refine m_putI (ty := .int) hC iX2_firstWhole_X2 tyX2 tyX2_ok nmX2 (wc_21 y g S5) rfl 7 (by decide) (List.mem_of_getElem? (i := 4) rfl) rfl rfl (by decide +kernel) rfl rfl (Nat.le_of_ble_eq_true rfl) dX2_firstWhole_69 (wcf_21_7 y g S5 _) ?_
          intro S7
          refine m_aload_n hC dX2_firstWhole_72 0 rfl ?_
          refine m_iload_n hC dX2_firstWhole_73 1 rfl ?_
          refine m_cVV hC (As := [.int x3]) (wc_ok y g) (cwV 1 hC.1.2.2.2.2 gX2_firstWhole_X2_lay rfl rfl rfl (by decide +kernel) ⟨Nat.le_of_ble_eq_true rfl, Nat.le_of_ble_eq_true rfl⟩) (wc_21 y g S7) rfl (fun xq hq => kX2_lay l D y g x3 S7 xq hq) rfl (Nat.le_of_ble_eq_true rfl) dX2_firstWhole_74 ?_
          intro S8
          refine m_aload_n hC dX2_firstWhole_77 0 rfl ?_
          refine m_get hC iX2_firstWhole_X2 (wc_21 y g S8) rfl 6 (by decide) (List.mem_of_getElem? (i := 5) rfl) rfl rfl dX2_firstWhole_78 ?_
          refine m_aload_n hC dX2_firstWhole_81 0 rfl ?_
          refine m_get hC iX2_firstWhole_X2 (wc_21 y g S8) rfl 1 (by decide) (List.mem_of_getElem? (i := 6) rfl) rfl rfl dX2_firstWhole_82 ?_
          refine m_get hC iX2_firstWhole_X3 (wc_12 y g S8) rfl 3 (by decide) (List.mem_of_getElem? (i := 7) rfl) rfl rfl dX2_firstWhole_85 ?_
          refine m_icmp_ge hC 100 dX2_firstWhole_88 (by decide) ?_ ?_
          · refine m_aload_n hC dX2_firstWhole_100 0 rfl ?_
            refine m_cIPV hC (As := []) (wc_ok y g) (cwV 0 hC.1.2.2.2.2 gX2_firstWhole_X2_hasThroughsAsked rfl rfl rfl (by decide +kernel) ⟨Nat.le_of_ble_eq_true rfl, Nat.le_of_ble_eq_true rfl⟩) (wc_21 y g S8) rfl (fun xq hq => kX2_hasThroughsAsked l D y g N S8 xq hq) rfl (Nat.le_of_ble_eq_true rfl) dX2_firstWhole_101 ?_
            intro x9
            refine m_if_ne hC 112 dX2_firstWhole_104 (by decide) ?_ ?_
            · refine m_aload_n hC dX2_firstWhole_112 0 rfl ?_
              refine m_get hC iX2_firstWhole_X2 (wc_21 y g S8) rfl 5 (by decide) (List.mem_of_getElem? (i := 8) rfl) rfl rfl dX2_firstWhole_113 ?_
              refine m_iconst hC (1) dX2_firstWhole_116 (by decide) ?_
              refine m_iadd hC dX2_firstWhole_117 ?_
              refine m_aload_n hC dX2_firstWhole_118 0 rfl ?_
              refine m_get hC iX2_firstWhole_X2 (wc_21 y g S8) rfl 1 (by decide) (List.mem_of_getElem? (i := 6) rfl) rfl rfl dX2_firstWhole_119 ?_
              refine m_get hC iX2_firstWhole_X3 (wc_12 y g S8) rfl 4 (by decide) (List.mem_of_getElem? (i := 9) rfl) rfl rfl dX2_firstWhole_122 ?_
              refine m_icmp_ne hC 136 dX2_firstWhole_125 (by decide) ?_ ?_
              · refine m_aload_n hC dX2_firstWhole_136 0 rfl ?_
                refine m_dup hC dX2_firstWhole_137 rfl ?_
                refine m_get hC iX2_firstWhole_X2 (wc_21 y g S8) rfl 5 (by decide) (List.mem_of_getElem? (i := 8) rfl) rfl rfl dX2_firstWhole_138 ?_
                refine m_iconst hC (1) dX2_firstWhole_141 (by decide) ?_
                refine m_iadd hC dX2_firstWhole_142 ?_
                refine m_putI (ty := .int) hC iX2_firstWhole_X2 tyX2 tyX2_ok nmX2 (wc_21 y g S8) rfl 5 (by decide) (List.mem_of_getElem? (i := 8) rfl) rfl rfl (by decide +kernel) rfl rfl (Nat.le_of_ble_eq_true rfl) dX2_firstWhole_143 (wcf_21_5 y g S8 _) ?_
                intro S10
                refine m_aload_n hC dX2_firstWhole_146 0 rfl ?_
                refine m_iconst hC (0) dX2_firstWhole_147 (by decide) ?_
                refine m_putI (ty := .int) hC iX2_firstWhole_X2 tyX2 tyX2_ok nmX2 (wc_21 y g S10) rfl 6 (by decide) (List.mem_of_getElem? (i := 5) rfl) rfl rfl (by decide +kernel) rfl rfl (Nat.le_of_ble_eq_true rfl) dX2_firstWhole_148 (wcf_21_6 y g S10 _) ?_
                intro S11
                refine m_aload_n hC dX2_firstWhole_151 0 rfl ?_
                refine m_iconst hC (0) dX2_firstWhole_152 (by decide) ?_
                refine m_cIPV hC (As := [.int 0]) (wc_ok y g) (cwV 1 hC.1.2.2.2.2 gX2_firstWhole_X2_nextToTry rfl rfl rfl (by decide +kernel) ⟨Nat.le_of_ble_eq_true rfl, Nat.le_of_ble_eq_true rfl⟩) (wc_21 y g S11) rfl (fun xq hq => kX2_nextToTry l D y g N 0 S11 xq hq) rfl (Nat.le_of_ble_eq_true rfl) dX2_firstWhole_153 ?_
                intro x12
                refine m_istore_n hC [(0, .ref (g 21)), (1, .int x12), (2, .int x4)] [1, 0, 2] dX2_firstWhole_156 (by decide) rfl rfl ?_
                refine m_iinc hC (fun x13 => [(0, .ref (g 21)), (1, .int x12), (2, .int x13)]) [1, 2, 0] dX2_firstWhole_157 (j := 2) rfl (by decide) (by decide) (fun _ => rfl) (fun _ => rfl) ?_
                intro x13
                refine m_goto hC 12 dX2_firstWhole_160 (by decide) ?_
                exact hr6 _ _ _
              · refine m_aload_n hC dX2_firstWhole_128 0 rfl ?_
                refine m_get hC iX2_firstWhole_X2 (wc_21 y g S8) rfl 2 (by decide) (List.mem_of_getElem? (i := 2) rfl) rfl rfl dX2_firstWhole_129 ?_
                refine m_get hC iX2_firstWhole_X1 (wc_13 y g S8) rfl 9 (by decide) (List.mem_of_getElem? (i := 3) rfl) rfl rfl dX2_firstWhole_132 ?_
                exact hret _ _ _ _ dX2_firstWhole_135
            · refine m_iconst hC (-1) dX2_firstWhole_107 (by decide) ?_
              refine m_nmI ?_
              intro x14
              refine m_istore_n hC [(0, .ref (g 21)), (1, .int x14), (2, .int x4)] [1, 0, 2] dX2_firstWhole_108 (by decide) rfl rfl ?_
              refine m_goto hC 157 dX2_firstWhole_109 (by decide) ?_
              refine m_iinc hC (fun x15 => [(0, .ref (g 21)), (1, .int x14), (2, .int x15)]) [1, 2, 0] dX2_firstWhole_157 (j := 2) rfl (by decide) (by decide) (fun _ => rfl) (fun _ => rfl) ?_
              intro x15
              refine m_goto hC 12 dX2_firstWhole_160 (by decide) ?_
              exact hr6 _ _ _
          · refine m_aload_n hC dX2_firstWhole_91 0 rfl ?_
            refine m_iconst hC (0) dX2_firstWhole_92 (by decide) ?_
            refine m_cIPV hC (As := [.int 0]) (wc_ok y g) (cwV 1 hC.1.2.2.2.2 gX2_firstWhole_X2_nextToTry rfl rfl rfl (by decide +kernel) ⟨Nat.le_of_ble_eq_true rfl, Nat.le_of_ble_eq_true rfl⟩) (wc_21 y g S8) rfl (fun xq hq => kX2_nextToTry l D y g N 0 S8 xq hq) rfl (Nat.le_of_ble_eq_true rfl) dX2_firstWhole_93 ?_
            intro x16
            refine m_istore_n hC [(0, .ref (g 21)), (1, .int x16), (2, .int x4)] [1, 0, 2] dX2_firstWhole_96 (by decide) rfl rfl ?_
            refine m_goto hC 157 dX2_firstWhole_97 (by decide) ?_
            refine m_iinc hC (fun x17 => [(0, .ref (g 21)), (1, .int x16), (2, .int x17)]) [1, 2, 0] dX2_firstWhole_157 (j := 2) rfl (by decide) (by decide) (fun _ => rfl) (fun _ => rfl) ?_
            intro x17
            refine m_goto hC 12 dX2_firstWhole_160 (by decide) ?_
            exact hr6 _ _ _
        · refine m_bipush hC (-2) dX2_firstWhole_59 (by decide) ?_
          exact hret _ _ _ _ dX2_firstWhole_61
      · refine m_aload_n hC dX2_firstWhole_23 0 rfl ?_
        refine m_get hC iX2_firstWhole_X2 (wc_21 y g S5) rfl 2 (by decide) (List.mem_of_getElem? (i := 2) rfl) rfl rfl dX2_firstWhole_24 ?_
        refine m_get hC iX2_firstWhole_X1 (wc_13 y g S5) rfl 9 (by decide) (List.mem_of_getElem? (i := 3) rfl) rfl rfl dX2_firstWhole_27 ?_
        refine m_if_ne hC 35 dX2_firstWhole_30 (by decide) ?_ ?_
        · refine m_aload_n hC dX2_firstWhole_35 0 rfl ?_
          refine m_aload_n hC dX2_firstWhole_36 0 rfl ?_
          refine m_cIV hC (As := []) (wc_ok y g) (cwV 0 hC.1.2.2.2.2 gX2_firstWhole_X2_takeUp rfl rfl rfl (by decide +kernel) ⟨Nat.le_of_ble_eq_true rfl, Nat.le_of_ble_eq_true rfl⟩) (wc_21 y g S5) rfl (fun xq hq => kX2_takeUp l D y g S5 xq hq) rfl (Nat.le_of_ble_eq_true rfl) dX2_firstWhole_37 ?_
          intro x18 S19
          refine m_iconst hC (1) dX2_firstWhole_40 (by decide) ?_
          refine m_iadd hC dX2_firstWhole_41 ?_
          refine m_cIPV hC (As := [.int (x18 + 1)]) (wc_ok y g) (cwV 1 hC.1.2.2.2.2 gX2_firstWhole_X2_nextToTry rfl rfl rfl (by decide +kernel) ⟨Nat.le_of_ble_eq_true rfl, Nat.le_of_ble_eq_true rfl⟩) (wc_21 y g S19) rfl (fun xq hq => kX2_nextToTry l D y g N (x18 + 1) S19 xq hq) rfl (Nat.le_of_ble_eq_true rfl) dX2_firstWhole_42 ?_
          intro x20
          refine m_istore_n hC [(0, .ref (g 21)), (1, .int x20), (2, .int x4)] [1, 0, 2] dX2_firstWhole_45 (by decide) rfl rfl ?_
          refine m_goto hC 157 dX2_firstWhole_46 (by decide) ?_
          refine m_iinc hC (fun x21 => [(0, .ref (g 21)), (1, .int x20), (2, .int x21)]) [1, 2, 0] dX2_firstWhole_157 (j := 2) rfl (by decide) (by decide) (fun _ => rfl) (fun _ => rfl) ?_
          intro x21
          refine m_goto hC 12 dX2_firstWhole_160 (by decide) ?_
          exact hr6 _ _ _
        · refine m_iconst hC (0) dX2_firstWhole_33 (by decide) ?_
          exact hret _ _ _ _ dX2_firstWhole_34
end
