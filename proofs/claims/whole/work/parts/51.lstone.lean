def w53 (y : Cy) (g : Nat → Nat) (S : St) : va_W := wc y g S ++ [(g 52, .inl (y.2.2.2, 1, .inr (.inl S.2)))]
def A53 (g : Nat → Nat) (sz : Nat) : Nat → Prop := fun q => (∃ k, k < 53 ∧ q = g k) ∨ sz ≤ q
theorem wc_len (y : Cy) (g : Nat → Nat) (S : St) : (wc y g S).length = 52 := rfl
theorem w53_lo {y : Cy} {g : Nat → Nat} {S : St} {k : Nat} {q : Nat × va_E} (h : (wc y g S)[k]? = some q) : (w53 y g S)[k]? = some q := by
  have hk : k < (wc y g S).length := (List.getElem?_eq_some_iff.mp h).1
  unfold w53
  rw [List.getElem?_append_left hk]
  exact h
theorem w53_hi (y : Cy) (g : Nat → Nat) (S : St) : (w53 y g S)[52]? = some (g 52, .inl (y.2.2.2, 1, .inr (.inl S.2))) := rfl
theorem w53_cases {y : Cy} {g : Nat → Nat} {S : St} {k : Nat} {q : Nat × va_E} (h : (w53 y g S)[k]? = some q) : (wc y g S)[k]? = some q ∨ (k = 52 ∧ q = (g 52, .inl (y.2.2.2, 1, .inr (.inl S.2)))) := by
  by_cases hk : k < 52
  · left
    unfold w53 at h
    rw [List.getElem?_append_left (by rw [wc_len]; exact hk)] at h
    exact h
  · right
    have hl : k < (w53 y g S).length := (List.getElem?_eq_some_iff.mp h).1
    have hl2 : (w53 y g S).length = 53 := rfl
    have e : k = 52 := by omega
    subst e
    rw [w53_hi] at h
    exact ⟨rfl, (Option.some.inj h).symm⟩
theorem w53_A {y : Cy} {g : Nat → Nat} {S : St} {k : Nat} {q : Nat × va_E} (h : (w53 y g S)[k]? = some q) (sz : Nat) : A53 g sz q.1 := by
  rcases w53_cases h with h | ⟨rfl, rfl⟩
  · rcases (wc_ok y g).1 S k q h sz with ⟨i, hi, e⟩ | h
    · exact Or.inl ⟨i, by omega, e⟩
    · exact Or.inr h
  · exact Or.inl ⟨52, by omega, rfl⟩
theorem w53_set (y : Cy) (g : Nat → Nat) (S : St) (f : Nat → Int64) : (w53 y g S).set 52 (g 52, .inl (y.2.2.2, 1, .inr (.inl f))) = w53 y g (S.1, f) := rfl
theorem AC_53 {g : Nat → Nat} {a b q : Nat} (hab : a ≤ b) (h : AC g b q) : A53 g a q := by
  rcases h with ⟨k, hk, e⟩ | h
  · exact Or.inl ⟨k, by omega, e⟩
  · exact Or.inr (Nat.le_trans hab h)
/-- the class's world came back: with the row of longs beside it -/
theorem w53_back {D : va_G} {cl : List vw_C} {y : Cy} {g : Nat → Nat} {S : St} {H H1 : Heap} {A : Nat → Prop} (hP : va_P D cl (w53 y g S) H) (hD : va_D A (w53 y g S)) (S2 : St) (h2 : S2.2 = S.2) (hP1 : va_P D cl (wc y g S2) H1) (hk : ∀ q : Nat, q < H.size → ¬ AC g H.size q → H1[q]? = H[q]?) : va_P D cl (w53 y g S2) H1 := by
  intro k q hq
  rcases w53_cases hq with h | ⟨rfl, rfl⟩
  · exact hP1 k q h
  · have h0 := hP 52 _ (w53_hi y g S)
    have hlt : g 52 < H.size := h0.lt
    have hna : ¬ AC g H.size (g 52) := by
      rintro (⟨k, hk2, e⟩ | h)
      · have hfst : ((wc y g S).map Prod.fst)[k]? = some (g k) := by rw [wc_fst, List.getElem?_map, List.getElem?_range hk2]; rfl
        rw [List.getElem?_map] at hfst
        cases hx : (wc y g S)[k]? with
        | none => rw [hx] at hfst; cases hfst
        | some x =>
          rw [hx] at hfst
          have e2 : x.1 = g k := Option.some.inj hfst
          have := hD.1 52 k _ x (w53_hi y g S) (w53_lo hx) (by rw [e2, ← e])
          omega
      · omega
    have h1 := h0.kept (hk (g 52) hlt hna)
    rw [← h2] at h1
    exact h1
abbrev rmL_stone : Room := { frames := 7, cells := 1, slots := 6, locals := 112 }
theorem castIO : Cond.castable "java/lang/IndexOutOfBoundsException" "java/lang/IndexOutOfBoundsException" ∈ xw1 := by decide +kernel
theorem castNS : Cond.castable "java/util/NoSuchElementException" "java/util/NoSuchElementException" ∈ xw2 := by decide +kernel
set_option maxHeartbeats 4000000 in
set_option maxRecDepth 100000 in
theorem kL_stone (l : Launch) (hl : l.stackTraces = false) (D : va_G) (y : Cy) (g : Nat → Nat) (sa1 sa2 : Nat) (a : Int32) (b : Int32) (S : St) (x0 : Int32 × Int32) (h : fX5_stone a b S = some x0) (sz : Nat) : Met l yL_stone wsL_stone rmL_stone (va_Pc [.ref (g 0), .int a, .int b, .ref (g 52)] (fun U => Bp D vwCl (tz y) (w53 y g) sz S U ∧ EXT (A53 g sz) sa1 sa2 U U.heap ∧ va_Nc "java/util/NoSuchElementException" "java/lang/IndexOutOfBoundsException" U)) (va_Qi (fun r S2 => r = x0.1 ∧ S2.1 = S.1 ∧ (x0.1 = 0 → S2.2 0 = x0.2.toInt64)) (Bw D vwCl (tz y) (w53 y g) (A53 g sz)) (A53 g sz)) 1 6 (A53 g sz) := by
  refine va_MetW (by decide) rfl ?_
  intro p e s m args below meth c s₁ B hml hv
  obtain ⟨hargs, ⟨hsz, hP, hK, hD0⟩, hE, hNc⟩ := hv
  subst hsz
  have hl0 := lv_entry [Value.ref (g 0), .int a, .int b, .ref (g 52)] (n := 5) (Nat.le_of_ble_eq_true rfl)
  have hC : Cx p m c cL_stone 5 s args wsL_stone yL_stone.cls D vwCl (tz y) := ⟨⟨B.exec, B.bytes, hml, findClass_of_methodNamed B.named, atoms_spec (ws := wsL_stone) B.pre⟩, hK⟩
  have hr := B.returns
  have hlocks := B.notSynchronized
  have hts := hC.1.2.2.2.2
  have hx := hC.1.1
  have hb := hC.1.2.1
  have htab : c.exceptionTable.toList = tableOf [(0, 10, 13, 13), (0, 10, 17, 15)] := vx_table (x := yL_stone) B (hts _ List.mem_cons_self)
  have hD : va_D (A53 g s.heap.size) (w53 y g S) := ⟨hD0.1, fun k q hk => w53_A hk _⟩
  have hS : va_S (A53 g s.heap.size) s.heap s.heap [] := va_S.rf
  have hPc : va_P D vwCl (wc y g S) s.heap := fun k q hk => hP k q (w53_lo hk)
  have hDc : va_D (fun _ => True) (wc y g S) := ⟨fun i j p q hi hj => hD0.1 i j p q (w53_lo hi) (w53_lo hj), fun _ _ _ => trivial⟩
  have he : entryFrame m args 5 = F0 m 0 ((lg_sl [Value.ref (g 0), .int a, .int b, .ref (g 52)] ++ List.replicate (5 - (lg_sl [Value.ref (g 0), .int a, .int b, .ref (g 52)]).length) Slot.unset).toArray) [] := by rw [hargs]; exact lg_entry_eq _ _ _
  rw [he]
  generalize (lg_sl [Value.ref (g 0), .int a, .int b, .ref (g 52)] ++ List.replicate (5 - (lg_sl [Value.ref (g 0), .int a, .int b, .ref (g 52)]).length) Slot.unset).toArray = ls at hl0 ⊢
  have hl0 : lv_has ls 5 [(0, .ref (g 0)), (1, .int a), (2, .int b), (3, .ref (g 52))] := hl0
  refine lv_aload_n hx hb dL_stone_0 rfl (lv_at hl0 3 rfl) ?_
  refine lv_iconst (v := 0) hx hb dL_stone_1 (by decide) ?_
  refine lv_aload_n hx hb dL_stone_2 rfl (lv_at hl0 0 rfl) ?_
  refine lv_iload_n hx hb dL_stone_3 rfl (lv_at hl0 1 rfl) ?_
  refine lv_iload_n hx hb dL_stone_4 rfl (lv_at hl0 2 rfl) ?_
  refine vx_calli (vx_runV (As := [.int a, .int b]) (rest := [.int 0, .ref (g 52)]) hC.1 (kX5_stone l hl D y g sa1 sa2 a b S x0 h s.heap.size) (cwV 2 hts gL_stone_X5_stone rfl rfl rfl (by decide +kernel) ⟨Nat.le_of_ble_eq_true rfl, Nat.le_of_ble_eq_true rfl⟩)
    ⟨fun a U g mk q => by obtain ⟨q0, ⟨q1, qP, qK, qD⟩, qE⟩ := q; exact ⟨q0, ⟨q1, qP, va_K.moved (u := U) (U := U.calling g mk a) (Vm.Alike.refl U.vm) qK, qD⟩, (EXT.same (s := U) (U := U.calling g mk a) rfl qE : EXT _ _ _ (U.calling g mk a) U.heap)⟩, va_recv hK hPc (ci := 5) (q0 := 0) rfl rfl, fun U hU hW => ⟨rfl, ⟨by rw [hU], by rw [hU]; exact hPc, va_K.moved hW.alike hK, hDc⟩, by rw [hU]; exact hE.go hW (fun _ _ _ => rfl) (fun q hq => AC_53 (Nat.le_refl _) hq)⟩⟩
    rfl rfl hl0.1 rfl (lv_room (Nat.le_of_ble_eq_true rfl)) dL_stone_5 ⟨Nat.le_of_ble_eq_true rfl, Nat.le_of_ble_eq_true rfl⟩) hS (fun q _ hq => AC_53 (Nat.le_refl _) hq) (fun q hq => AC_53 (Nat.le_refl _) hq) (fun q _ hq => AC_53 (Nat.le_refl _) hq) ?_ ?_
  · intro E ce q9 u t H1 locs1 ht hvm hpx hBX hz1 hk1 hS1 hce hcv hcl
    obtain ⟨hEx, hP1, hK1, hD1⟩ := hBX
    rw [ht] at hP1
    have hP2 := w53_back hP hD S rfl hP1 hk1
    rcases hEx with ⟨rfl, hx0⟩ | ⟨rfl, hx0⟩
    · refine vx_catch (own := RL) (name := "java/lang/IndexOutOfBoundsException") hC.1.2.2.2.1 [] ⟨0, 10, 13, 13⟩ [⟨0, 10, 17, 15⟩] (by rw [htab]; rfl) (fun z hz => nomatch hz) (by decide) (by decide) (hts _ (List.mem_of_getElem? (i := 1) rfl)) (va_tabs (xw1_c _ castIO).2 rfl (hE.2.2.2.2.1 _ castIO)) hce hcv hcl ?_
      refine lv_astore (lv' := [(4, .ref q9), (0, .ref (g 0)), (1, .int a), (2, .int b), (3, .ref (g 52))]) hx hb dL_stone_13 hl0 (by decide) rfl (fun ls hl1 => ?_)
      refine lv_iconst (v := 1) hx hb dL_stone_15 (by decide) ?_
      exact W.iret (v := 1) hx hb hr (fun t ht hW => ⟨⟨1, S, rfl, ⟨by rw [hx0], rfl, fun h0 => by rw [hx0] at h0; exact absurd h0 (by decide)⟩, by rw [ht]; exact hP2, va_K.moved hW.alike hK, hD⟩, hS1.F ht⟩) hS1.2.2 dL_stone_16 hlocks
    · refine vx_catch (own := RL) (name := "java/util/NoSuchElementException") hC.1.2.2.2.1 [⟨0, 10, 13, 13⟩] ⟨0, 10, 17, 15⟩ [] (by rw [htab]; rfl) (fun z hz => by rw [List.mem_singleton.mp hz]; exact Or.inr ⟨by decide, "java/lang/IndexOutOfBoundsException", hts _ (List.mem_of_getElem? (i := 1) rfl), hNc⟩) (by decide) (by decide) (hts _ (List.mem_of_getElem? (i := 2) rfl)) (va_tabs (xw2_c _ castNS).2 rfl (hE.2.2.2.2.2 _ castNS)) hce hcv hcl ?_
      refine lv_astore (lv' := [(4, .ref q9), (0, .ref (g 0)), (1, .int a), (2, .int b), (3, .ref (g 52))]) hx hb dL_stone_17 hl0 (by decide) rfl (fun ls hl1 => ?_)
      refine lv_iconst (v := 2) hx hb dL_stone_19 (by decide) ?_
      exact W.iret (v := 2) hx hb hr (fun t ht hW => ⟨⟨2, S, rfl, ⟨by rw [hx0], rfl, fun h0 => by rw [hx0] at h0; exact absurd h0 (by decide)⟩, by rw [ht]; exact hP2, va_K.moved hW.alike hK, hD⟩, hS1.F ht⟩) hS1.2.2 dL_stone_20 hlocks
  · intro r u t H1 locs1 ht hvm hw hB hz1 hk1 hS1
    obtain ⟨hw1, hw2⟩ := hw
    subst hw2
    obtain ⟨hP1, hK1, hD1⟩ := hB
    rw [ht] at hP1
    have hP2 := w53_back hP hD u rfl hP1 hk1
    refine lv_i2l (v := r.toInt64) hx hb dL_stone_8 rfl ?_
    refine va_last hx hb hK hP2 hD hS1 52 3 (w53_hi y g u) rfl (show vp_in (nI 0) 1 from vp_in_nI (by decide) (by decide)) dL_stone_9 (fun H2 locs2 hP3 hD3 hS3 => ?_)
    rw [w53_set] at hP3 hD3
    refine lv_goto (tgt := 21) hx hb dL_stone_10 (by decide) ?_
    refine lv_iconst (v := 0) hx hb dL_stone_21 (by decide) ?_
    exact W.iret (v := 0) hx hb hr (fun t ht hW => ⟨⟨0, (u.1, vp_updL u.2 (Int32.toNatClampNeg 0) r.toInt64), rfl, ⟨by rw [← hw1], rfl, fun h0 => by rw [← hw1]; rfl⟩, by rw [ht]; exact hP3, va_K.moved hW.alike hK, hD3⟩, hS3.F ht⟩) hS3.2.2 dL_stone_22 hlocks
