abbrev Cy : Type := ClassId × ClassId × ClassId × ClassId
abbrev tz (y : Cy) : List (ClassId × FieldType) := [(y.1, .int), (y.2.1, .boolean), (y.2.2.1, .array .int), (y.2.2.2, .long)]
theorem rows_at (g : Nat → Nat) (b n j : Nat) (hj : j < n) : (fun j => if j < n then some (g (b + j)) else none) j = some (g (b + j)) := if_pos hj
def wc (y : Cy) (g : Nat → Nat) (S : St) : va_W :=
  [(g 0, .inr (5, [.ref (g 1), .ref (g 12), .ref (g 13), .ref (g 21), .ref (g 24)])),
   (g 1, .inr (4, [.ref (g 2), .ref (g 3), .ref (g 4), .ref (g 5), .ref (g 6), .int (S.1 1 5), .int (S.1 1 6)])),
   (g 2, .inl (y.1, 8, .inl (S.1 2))),
   (g 3, .inl (y.1, 8, .inl (S.1 3))),
   (g 4, .inl (y.1, 5, .inl (S.1 4))),
   (g 5, .inl (y.1, 5, .inl (S.1 5))),
   (g 6, .inl (y.2.2.1, 5, .inr (.inr (.inr (.inr (fun j => if j < 5 then some (g (7 + j)) else none)))))),
   (g 7, .inl (y.1, 8, .inl (S.1 7))),
   (g 8, .inl (y.1, 8, .inl (S.1 8))),
   (g 9, .inl (y.1, 8, .inl (S.1 9))),
   (g 10, .inl (y.1, 8, .inl (S.1 10))),
   (g 11, .inl (y.1, 8, .inl (S.1 11))),
   (g 12, .inr (3, [.int (S.1 12 0), .int (S.1 12 1), .int (S.1 12 2), .int (S.1 12 3), .int (S.1 12 4), .int (S.1 12 5), .int (S.1 12 6), .int (S.1 12 7), .int (S.1 12 8)])),
   (g 13, .inr (1, [.ref (g 1), .ref (g 12), .ref (g 14), .ref (g 15), .ref (g 16), .ref (g 17), .ref (g 18), .ref (g 19), .ref (g 20), .int (S.1 13 9), .int (S.1 13 10), .int (S.1 13 11)])),
   (g 14, .inl (y.1, 144, .inl (S.1 14))),
   (g 15, .inl (y.1, 144, .inl (S.1 15))),
   (g 16, .inl (y.1, 144, .inl (S.1 16))),
   (g 17, .inl (y.1, 144, .inl (S.1 17))),
   (g 18, .inl (y.1, 144, .inl (S.1 18))),
   (g 19, .inl (y.2.1, 144, .inl (S.1 19))),
   (g 20, .inl (y.1, 6, .inl (S.1 20))),
   (g 21, .inr (2, [.ref (g 1), .ref (g 12), .ref (g 13), .ref (g 22), .ref (g 23), .int (S.1 21 5), .int (S.1 21 6), .int (S.1 21 7)])),
   (g 22, .inl (y.1, 8, .inl (S.1 22))),
   (g 23, .inl (y.1, 6, .inl (S.1 23))),
   (g 24, .inr (0, [.ref (g 1), .ref (g 12), .ref (g 13), .ref (g 25), .ref (g 31), .ref (g 32), .ref (g 38), .ref (g 44), .ref (g 50), .ref (g 51)])),
   (g 25, .inl (y.2.2.1, 5, .inr (.inr (.inr (.inr (fun j => if j < 5 then some (g (26 + j)) else none)))))),
   (g 26, .inl (y.1, 8, .inl (S.1 26))),
   (g 27, .inl (y.1, 8, .inl (S.1 27))),
   (g 28, .inl (y.1, 8, .inl (S.1 28))),
   (g 29, .inl (y.1, 8, .inl (S.1 29))),
   (g 30, .inl (y.1, 8, .inl (S.1 30))),
   (g 31, .inl (y.1, 5, .inl (S.1 31))),
   (g 32, .inl (y.2.2.1, 5, .inr (.inr (.inr (.inr (fun j => if j < 5 then some (g (33 + j)) else none)))))),
   (g 33, .inl (y.1, 24, .inl (S.1 33))),
   (g 34, .inl (y.1, 24, .inl (S.1 34))),
   (g 35, .inl (y.1, 24, .inl (S.1 35))),
   (g 36, .inl (y.1, 24, .inl (S.1 36))),
   (g 37, .inl (y.1, 24, .inl (S.1 37))),
   (g 38, .inl (y.2.2.1, 5, .inr (.inr (.inr (.inr (fun j => if j < 5 then some (g (39 + j)) else none)))))),
   (g 39, .inl (y.1, 5, .inl (S.1 39))),
   (g 40, .inl (y.1, 5, .inl (S.1 40))),
   (g 41, .inl (y.1, 5, .inl (S.1 41))),
   (g 42, .inl (y.1, 5, .inl (S.1 42))),
   (g 43, .inl (y.1, 5, .inl (S.1 43))),
   (g 44, .inl (y.2.2.1, 5, .inr (.inr (.inr (.inr (fun j => if j < 5 then some (g (45 + j)) else none)))))),
   (g 45, .inl (y.1, 5, .inl (S.1 45))),
   (g 46, .inl (y.1, 5, .inl (S.1 46))),
   (g 47, .inl (y.1, 5, .inl (S.1 47))),
   (g 48, .inl (y.1, 5, .inl (S.1 48))),
   (g 49, .inl (y.1, 5, .inl (S.1 49))),
   (g 50, .inl (y.1, 5, .inl (S.1 50))),
   (g 51, .inl (y.1, 5, .inl (S.1 51)))]
def AC (g : Nat → Nat) (sz : Nat) : Nat → Prop := fun q => (∃ k, k < 52 ∧ q = g k) ∨ sz ≤ q
theorem wc_0 (y : Cy) (g : Nat → Nat) (S : St) : (wc y g S)[0]? = some (g 0, .inr (5, [.ref (g 1), .ref (g 12), .ref (g 13), .ref (g 21), .ref (g 24)])) := rfl
theorem wc_1 (y : Cy) (g : Nat → Nat) (S : St) : (wc y g S)[1]? = some (g 1, .inr (4, [.ref (g 2), .ref (g 3), .ref (g 4), .ref (g 5), .ref (g 6), .int (S.1 1 5), .int (S.1 1 6)])) := rfl
theorem wcf_1_5 (y : Cy) (g : Nat → Nat) (S : St) (v : Int32) : (wc y g S).set 1 (g 1, .inr (4, ([.ref (g 2), .ref (g 3), .ref (g 4), .ref (g 5), .ref (g 6), .int (S.1 1 5), .int (S.1 1 6)] : List Value).set 5 (.int v))) = wc y g (wr S 1 5 v) := rfl
theorem wcf_1_6 (y : Cy) (g : Nat → Nat) (S : St) (v : Int32) : (wc y g S).set 1 (g 1, .inr (4, ([.ref (g 2), .ref (g 3), .ref (g 4), .ref (g 5), .ref (g 6), .int (S.1 1 5), .int (S.1 1 6)] : List Value).set 6 (.int v))) = wc y g (wr S 1 6 v) := rfl
theorem wc_2 (y : Cy) (g : Nat → Nat) (S : St) : (wc y g S)[2]? = some (g 2, .inl (y.1, 8, .inl (S.1 2))) := rfl
theorem wcs_2 (y : Cy) (g : Nat → Nat) (S : St) (f : Nat → Int32) : (wc y g S).set 2 (g 2, .inl (y.1, 8, .inl f)) = wc y g (wrow S 2 f) := rfl
theorem wc_3 (y : Cy) (g : Nat → Nat) (S : St) : (wc y g S)[3]? = some (g 3, .inl (y.1, 8, .inl (S.1 3))) := rfl
theorem wcs_3 (y : Cy) (g : Nat → Nat) (S : St) (f : Nat → Int32) : (wc y g S).set 3 (g 3, .inl (y.1, 8, .inl f)) = wc y g (wrow S 3 f) := rfl
theorem wc_4 (y : Cy) (g : Nat → Nat) (S : St) : (wc y g S)[4]? = some (g 4, .inl (y.1, 5, .inl (S.1 4))) := rfl
theorem wcs_4 (y : Cy) (g : Nat → Nat) (S : St) (f : Nat → Int32) : (wc y g S).set 4 (g 4, .inl (y.1, 5, .inl f)) = wc y g (wrow S 4 f) := rfl
theorem wc_5 (y : Cy) (g : Nat → Nat) (S : St) : (wc y g S)[5]? = some (g 5, .inl (y.1, 5, .inl (S.1 5))) := rfl
theorem wcs_5 (y : Cy) (g : Nat → Nat) (S : St) (f : Nat → Int32) : (wc y g S).set 5 (g 5, .inl (y.1, 5, .inl f)) = wc y g (wrow S 5 f) := rfl
theorem wc_6 (y : Cy) (g : Nat → Nat) (S : St) : (wc y g S)[6]? = some (g 6, .inl (y.2.2.1, 5, .inr (.inr (.inr (.inr (fun j => if j < 5 then some (g (7 + j)) else none)))))) := rfl
theorem wc_r7 (y : Cy) (g : Nat → Nat) (S : St) (j : Nat) (hj : j < 5) : (wc y g S)[7 + j]? = some (g (7 + j), .inl (y.1, 8, .inl (S.1 (7 + j)))) := by
  rcases (show j = 0 ∨ j = 1 ∨ j = 2 ∨ j = 3 ∨ j = 4 by omega) with rfl | rfl | rfl | rfl | rfl <;> rfl
theorem wcs_r7 (y : Cy) (g : Nat → Nat) (S : St) (j : Nat) (hj : j < 5) (f : Nat → Int32) : (wc y g S).set (7 + j) (g (7 + j), .inl (y.1, 8, .inl f)) = wc y g (wrow S (7 + j) f) := by
  rcases (show j = 0 ∨ j = 1 ∨ j = 2 ∨ j = 3 ∨ j = 4 by omega) with rfl | rfl | rfl | rfl | rfl <;> rfl
theorem wc_7 (y : Cy) (g : Nat → Nat) (S : St) : (wc y g S)[7]? = some (g 7, .inl (y.1, 8, .inl (S.1 7))) := rfl
theorem wcs_7 (y : Cy) (g : Nat → Nat) (S : St) (f : Nat → Int32) : (wc y g S).set 7 (g 7, .inl (y.1, 8, .inl f)) = wc y g (wrow S 7 f) := rfl
theorem wc_8 (y : Cy) (g : Nat → Nat) (S : St) : (wc y g S)[8]? = some (g 8, .inl (y.1, 8, .inl (S.1 8))) := rfl
theorem wcs_8 (y : Cy) (g : Nat → Nat) (S : St) (f : Nat → Int32) : (wc y g S).set 8 (g 8, .inl (y.1, 8, .inl f)) = wc y g (wrow S 8 f) := rfl
theorem wc_9 (y : Cy) (g : Nat → Nat) (S : St) : (wc y g S)[9]? = some (g 9, .inl (y.1, 8, .inl (S.1 9))) := rfl
theorem wcs_9 (y : Cy) (g : Nat → Nat) (S : St) (f : Nat → Int32) : (wc y g S).set 9 (g 9, .inl (y.1, 8, .inl f)) = wc y g (wrow S 9 f) := rfl
theorem wc_10 (y : Cy) (g : Nat → Nat) (S : St) : (wc y g S)[10]? = some (g 10, .inl (y.1, 8, .inl (S.1 10))) := rfl
theorem wcs_10 (y : Cy) (g : Nat → Nat) (S : St) (f : Nat → Int32) : (wc y g S).set 10 (g 10, .inl (y.1, 8, .inl f)) = wc y g (wrow S 10 f) := rfl
theorem wc_11 (y : Cy) (g : Nat → Nat) (S : St) : (wc y g S)[11]? = some (g 11, .inl (y.1, 8, .inl (S.1 11))) := rfl
theorem wcs_11 (y : Cy) (g : Nat → Nat) (S : St) (f : Nat → Int32) : (wc y g S).set 11 (g 11, .inl (y.1, 8, .inl f)) = wc y g (wrow S 11 f) := rfl
theorem wc_12 (y : Cy) (g : Nat → Nat) (S : St) : (wc y g S)[12]? = some (g 12, .inr (3, [.int (S.1 12 0), .int (S.1 12 1), .int (S.1 12 2), .int (S.1 12 3), .int (S.1 12 4), .int (S.1 12 5), .int (S.1 12 6), .int (S.1 12 7), .int (S.1 12 8)])) := rfl
theorem wcf_12_0 (y : Cy) (g : Nat → Nat) (S : St) (v : Int32) : (wc y g S).set 12 (g 12, .inr (3, ([.int (S.1 12 0), .int (S.1 12 1), .int (S.1 12 2), .int (S.1 12 3), .int (S.1 12 4), .int (S.1 12 5), .int (S.1 12 6), .int (S.1 12 7), .int (S.1 12 8)] : List Value).set 0 (.int v))) = wc y g (wr S 12 0 v) := rfl
theorem wcf_12_1 (y : Cy) (g : Nat → Nat) (S : St) (v : Int32) : (wc y g S).set 12 (g 12, .inr (3, ([.int (S.1 12 0), .int (S.1 12 1), .int (S.1 12 2), .int (S.1 12 3), .int (S.1 12 4), .int (S.1 12 5), .int (S.1 12 6), .int (S.1 12 7), .int (S.1 12 8)] : List Value).set 1 (.int v))) = wc y g (wr S 12 1 v) := rfl
theorem wcf_12_2 (y : Cy) (g : Nat → Nat) (S : St) (v : Int32) : (wc y g S).set 12 (g 12, .inr (3, ([.int (S.1 12 0), .int (S.1 12 1), .int (S.1 12 2), .int (S.1 12 3), .int (S.1 12 4), .int (S.1 12 5), .int (S.1 12 6), .int (S.1 12 7), .int (S.1 12 8)] : List Value).set 2 (.int v))) = wc y g (wr S 12 2 v) := rfl
theorem wcf_12_3 (y : Cy) (g : Nat → Nat) (S : St) (v : Int32) : (wc y g S).set 12 (g 12, .inr (3, ([.int (S.1 12 0), .int (S.1 12 1), .int (S.1 12 2), .int (S.1 12 3), .int (S.1 12 4), .int (S.1 12 5), .int (S.1 12 6), .int (S.1 12 7), .int (S.1 12 8)] : List Value).set 3 (.int v))) = wc y g (wr S 12 3 v) := rfl
theorem wcf_12_4 (y : Cy) (g : Nat → Nat) (S : St) (v : Int32) : (wc y g S).set 12 (g 12, .inr (3, ([.int (S.1 12 0), .int (S.1 12 1), .int (S.1 12 2), .int (S.1 12 3), .int (S.1 12 4), .int (S.1 12 5), .int (S.1 12 6), .int (S.1 12 7), .int (S.1 12 8)] : List Value).set 4 (.int v))) = wc y g (wr S 12 4 v) := rfl
theorem wcf_12_5 (y : Cy) (g : Nat → Nat) (S : St) (v : Int32) : (wc y g S).set 12 (g 12, .inr (3, ([.int (S.1 12 0), .int (S.1 12 1), .int (S.1 12 2), .int (S.1 12 3), .int (S.1 12 4), .int (S.1 12 5), .int (S.1 12 6), .int (S.1 12 7), .int (S.1 12 8)] : List Value).set 5 (.int v))) = wc y g (wr S 12 5 v) := rfl
theorem wcf_12_6 (y : Cy) (g : Nat → Nat) (S : St) (v : Int32) : (wc y g S).set 12 (g 12, .inr (3, ([.int (S.1 12 0), .int (S.1 12 1), .int (S.1 12 2), .int (S.1 12 3), .int (S.1 12 4), .int (S.1 12 5), .int (S.1 12 6), .int (S.1 12 7), .int (S.1 12 8)] : List Value).set 6 (.int v))) = wc y g (wr S 12 6 v) := rfl
theorem wcf_12_7 (y : Cy) (g : Nat → Nat) (S : St) (v : Int32) : (wc y g S).set 12 (g 12, .inr (3, ([.int (S.1 12 0), .int (S.1 12 1), .int (S.1 12 2), .int (S.1 12 3), .int (S.1 12 4), .int (S.1 12 5), .int (S.1 12 6), .int (S.1 12 7), .int (S.1 12 8)] : List Value).set 7 (.int v))) = wc y g (wr S 12 7 v) := rfl
theorem wcf_12_8 (y : Cy) (g : Nat → Nat) (S : St) (v : Int32) : (wc y g S).set 12 (g 12, .inr (3, ([.int (S.1 12 0), .int (S.1 12 1), .int (S.1 12 2), .int (S.1 12 3), .int (S.1 12 4), .int (S.1 12 5), .int (S.1 12 6), .int (S.1 12 7), .int (S.1 12 8)] : List Value).set 8 (.int v))) = wc y g (wr S 12 8 v) := rfl
theorem wc_13 (y : Cy) (g : Nat → Nat) (S : St) : (wc y g S)[13]? = some (g 13, .inr (1, [.ref (g 1), .ref (g 12), .ref (g 14), .ref (g 15), .ref (g 16), .ref (g 17), .ref (g 18), .ref (g 19), .ref (g 20), .int (S.1 13 9), .int (S.1 13 10), .int (S.1 13 11)])) := rfl
theorem wcf_13_9 (y : Cy) (g : Nat → Nat) (S : St) (v : Int32) : (wc y g S).set 13 (g 13, .inr (1, ([.ref (g 1), .ref (g 12), .ref (g 14), .ref (g 15), .ref (g 16), .ref (g 17), .ref (g 18), .ref (g 19), .ref (g 20), .int (S.1 13 9), .int (S.1 13 10), .int (S.1 13 11)] : List Value).set 9 (.int v))) = wc y g (wr S 13 9 v) := rfl
theorem wcf_13_10 (y : Cy) (g : Nat → Nat) (S : St) (v : Int32) : (wc y g S).set 13 (g 13, .inr (1, ([.ref (g 1), .ref (g 12), .ref (g 14), .ref (g 15), .ref (g 16), .ref (g 17), .ref (g 18), .ref (g 19), .ref (g 20), .int (S.1 13 9), .int (S.1 13 10), .int (S.1 13 11)] : List Value).set 10 (.int v))) = wc y g (wr S 13 10 v) := rfl
theorem wcf_13_11 (y : Cy) (g : Nat → Nat) (S : St) (v : Int32) : (wc y g S).set 13 (g 13, .inr (1, ([.ref (g 1), .ref (g 12), .ref (g 14), .ref (g 15), .ref (g 16), .ref (g 17), .ref (g 18), .ref (g 19), .ref (g 20), .int (S.1 13 9), .int (S.1 13 10), .int (S.1 13 11)] : List Value).set 11 (.int v))) = wc y g (wr S 13 11 v) := rfl
theorem wc_14 (y : Cy) (g : Nat → Nat) (S : St) : (wc y g S)[14]? = some (g 14, .inl (y.1, 144, .inl (S.1 14))) := rfl
theorem wcs_14 (y : Cy) (g : Nat → Nat) (S : St) (f : Nat → Int32) : (wc y g S).set 14 (g 14, .inl (y.1, 144, .inl f)) = wc y g (wrow S 14 f) := rfl
theorem wc_15 (y : Cy) (g : Nat → Nat) (S : St) : (wc y g S)[15]? = some (g 15, .inl (y.1, 144, .inl (S.1 15))) := rfl
theorem wcs_15 (y : Cy) (g : Nat → Nat) (S : St) (f : Nat → Int32) : (wc y g S).set 15 (g 15, .inl (y.1, 144, .inl f)) = wc y g (wrow S 15 f) := rfl
theorem wc_16 (y : Cy) (g : Nat → Nat) (S : St) : (wc y g S)[16]? = some (g 16, .inl (y.1, 144, .inl (S.1 16))) := rfl
theorem wcs_16 (y : Cy) (g : Nat → Nat) (S : St) (f : Nat → Int32) : (wc y g S).set 16 (g 16, .inl (y.1, 144, .inl f)) = wc y g (wrow S 16 f) := rfl
theorem wc_17 (y : Cy) (g : Nat → Nat) (S : St) : (wc y g S)[17]? = some (g 17, .inl (y.1, 144, .inl (S.1 17))) := rfl
theorem wcs_17 (y : Cy) (g : Nat → Nat) (S : St) (f : Nat → Int32) : (wc y g S).set 17 (g 17, .inl (y.1, 144, .inl f)) = wc y g (wrow S 17 f) := rfl
theorem wc_18 (y : Cy) (g : Nat → Nat) (S : St) : (wc y g S)[18]? = some (g 18, .inl (y.1, 144, .inl (S.1 18))) := rfl
theorem wcs_18 (y : Cy) (g : Nat → Nat) (S : St) (f : Nat → Int32) : (wc y g S).set 18 (g 18, .inl (y.1, 144, .inl f)) = wc y g (wrow S 18 f) := rfl
theorem wc_19 (y : Cy) (g : Nat → Nat) (S : St) : (wc y g S)[19]? = some (g 19, .inl (y.2.1, 144, .inl (S.1 19))) := rfl
theorem wcs_19 (y : Cy) (g : Nat → Nat) (S : St) (f : Nat → Int32) : (wc y g S).set 19 (g 19, .inl (y.2.1, 144, .inl f)) = wc y g (wrow S 19 f) := rfl
theorem wc_20 (y : Cy) (g : Nat → Nat) (S : St) : (wc y g S)[20]? = some (g 20, .inl (y.1, 6, .inl (S.1 20))) := rfl
theorem wcs_20 (y : Cy) (g : Nat → Nat) (S : St) (f : Nat → Int32) : (wc y g S).set 20 (g 20, .inl (y.1, 6, .inl f)) = wc y g (wrow S 20 f) := rfl
theorem wc_21 (y : Cy) (g : Nat → Nat) (S : St) : (wc y g S)[21]? = some (g 21, .inr (2, [.ref (g 1), .ref (g 12), .ref (g 13), .ref (g 22), .ref (g 23), .int (S.1 21 5), .int (S.1 21 6), .int (S.1 21 7)])) := rfl
theorem wcf_21_5 (y : Cy) (g : Nat → Nat) (S : St) (v : Int32) : (wc y g S).set 21 (g 21, .inr (2, ([.ref (g 1), .ref (g 12), .ref (g 13), .ref (g 22), .ref (g 23), .int (S.1 21 5), .int (S.1 21 6), .int (S.1 21 7)] : List Value).set 5 (.int v))) = wc y g (wr S 21 5 v) := rfl
theorem wcf_21_6 (y : Cy) (g : Nat → Nat) (S : St) (v : Int32) : (wc y g S).set 21 (g 21, .inr (2, ([.ref (g 1), .ref (g 12), .ref (g 13), .ref (g 22), .ref (g 23), .int (S.1 21 5), .int (S.1 21 6), .int (S.1 21 7)] : List Value).set 6 (.int v))) = wc y g (wr S 21 6 v) := rfl
theorem wcf_21_7 (y : Cy) (g : Nat → Nat) (S : St) (v : Int32) : (wc y g S).set 21 (g 21, .inr (2, ([.ref (g 1), .ref (g 12), .ref (g 13), .ref (g 22), .ref (g 23), .int (S.1 21 5), .int (S.1 21 6), .int (S.1 21 7)] : List Value).set 7 (.int v))) = wc y g (wr S 21 7 v) := rfl
theorem wc_22 (y : Cy) (g : Nat → Nat) (S : St) : (wc y g S)[22]? = some (g 22, .inl (y.1, 8, .inl (S.1 22))) := rfl
theorem wcs_22 (y : Cy) (g : Nat → Nat) (S : St) (f : Nat → Int32) : (wc y g S).set 22 (g 22, .inl (y.1, 8, .inl f)) = wc y g (wrow S 22 f) := rfl
theorem wc_23 (y : Cy) (g : Nat → Nat) (S : St) : (wc y g S)[23]? = some (g 23, .inl (y.1, 6, .inl (S.1 23))) := rfl
theorem wcs_23 (y : Cy) (g : Nat → Nat) (S : St) (f : Nat → Int32) : (wc y g S).set 23 (g 23, .inl (y.1, 6, .inl f)) = wc y g (wrow S 23 f) := rfl
theorem wc_24 (y : Cy) (g : Nat → Nat) (S : St) : (wc y g S)[24]? = some (g 24, .inr (0, [.ref (g 1), .ref (g 12), .ref (g 13), .ref (g 25), .ref (g 31), .ref (g 32), .ref (g 38), .ref (g 44), .ref (g 50), .ref (g 51)])) := rfl
theorem wc_25 (y : Cy) (g : Nat → Nat) (S : St) : (wc y g S)[25]? = some (g 25, .inl (y.2.2.1, 5, .inr (.inr (.inr (.inr (fun j => if j < 5 then some (g (26 + j)) else none)))))) := rfl
theorem wc_r26 (y : Cy) (g : Nat → Nat) (S : St) (j : Nat) (hj : j < 5) : (wc y g S)[26 + j]? = some (g (26 + j), .inl (y.1, 8, .inl (S.1 (26 + j)))) := by
  rcases (show j = 0 ∨ j = 1 ∨ j = 2 ∨ j = 3 ∨ j = 4 by omega) with rfl | rfl | rfl | rfl | rfl <;> rfl
theorem wcs_r26 (y : Cy) (g : Nat → Nat) (S : St) (j : Nat) (hj : j < 5) (f : Nat → Int32) : (wc y g S).set (26 + j) (g (26 + j), .inl (y.1, 8, .inl f)) = wc y g (wrow S (26 + j) f) := by
  rcases (show j = 0 ∨ j = 1 ∨ j = 2 ∨ j = 3 ∨ j = 4 by omega) with rfl | rfl | rfl | rfl | rfl <;> rfl
theorem wc_26 (y : Cy) (g : Nat → Nat) (S : St) : (wc y g S)[26]? = some (g 26, .inl (y.1, 8, .inl (S.1 26))) := rfl
theorem wcs_26 (y : Cy) (g : Nat → Nat) (S : St) (f : Nat → Int32) : (wc y g S).set 26 (g 26, .inl (y.1, 8, .inl f)) = wc y g (wrow S 26 f) := rfl
theorem wc_27 (y : Cy) (g : Nat → Nat) (S : St) : (wc y g S)[27]? = some (g 27, .inl (y.1, 8, .inl (S.1 27))) := rfl
theorem wcs_27 (y : Cy) (g : Nat → Nat) (S : St) (f : Nat → Int32) : (wc y g S).set 27 (g 27, .inl (y.1, 8, .inl f)) = wc y g (wrow S 27 f) := rfl
theorem wc_28 (y : Cy) (g : Nat → Nat) (S : St) : (wc y g S)[28]? = some (g 28, .inl (y.1, 8, .inl (S.1 28))) := rfl
theorem wcs_28 (y : Cy) (g : Nat → Nat) (S : St) (f : Nat → Int32) : (wc y g S).set 28 (g 28, .inl (y.1, 8, .inl f)) = wc y g (wrow S 28 f) := rfl
theorem wc_29 (y : Cy) (g : Nat → Nat) (S : St) : (wc y g S)[29]? = some (g 29, .inl (y.1, 8, .inl (S.1 29))) := rfl
theorem wcs_29 (y : Cy) (g : Nat → Nat) (S : St) (f : Nat → Int32) : (wc y g S).set 29 (g 29, .inl (y.1, 8, .inl f)) = wc y g (wrow S 29 f) := rfl
theorem wc_30 (y : Cy) (g : Nat → Nat) (S : St) : (wc y g S)[30]? = some (g 30, .inl (y.1, 8, .inl (S.1 30))) := rfl
theorem wcs_30 (y : Cy) (g : Nat → Nat) (S : St) (f : Nat → Int32) : (wc y g S).set 30 (g 30, .inl (y.1, 8, .inl f)) = wc y g (wrow S 30 f) := rfl
theorem wc_31 (y : Cy) (g : Nat → Nat) (S : St) : (wc y g S)[31]? = some (g 31, .inl (y.1, 5, .inl (S.1 31))) := rfl
theorem wcs_31 (y : Cy) (g : Nat → Nat) (S : St) (f : Nat → Int32) : (wc y g S).set 31 (g 31, .inl (y.1, 5, .inl f)) = wc y g (wrow S 31 f) := rfl
theorem wc_32 (y : Cy) (g : Nat → Nat) (S : St) : (wc y g S)[32]? = some (g 32, .inl (y.2.2.1, 5, .inr (.inr (.inr (.inr (fun j => if j < 5 then some (g (33 + j)) else none)))))) := rfl
theorem wc_r33 (y : Cy) (g : Nat → Nat) (S : St) (j : Nat) (hj : j < 5) : (wc y g S)[33 + j]? = some (g (33 + j), .inl (y.1, 24, .inl (S.1 (33 + j)))) := by
  rcases (show j = 0 ∨ j = 1 ∨ j = 2 ∨ j = 3 ∨ j = 4 by omega) with rfl | rfl | rfl | rfl | rfl <;> rfl
theorem wcs_r33 (y : Cy) (g : Nat → Nat) (S : St) (j : Nat) (hj : j < 5) (f : Nat → Int32) : (wc y g S).set (33 + j) (g (33 + j), .inl (y.1, 24, .inl f)) = wc y g (wrow S (33 + j) f) := by
  rcases (show j = 0 ∨ j = 1 ∨ j = 2 ∨ j = 3 ∨ j = 4 by omega) with rfl | rfl | rfl | rfl | rfl <;> rfl
theorem wc_33 (y : Cy) (g : Nat → Nat) (S : St) : (wc y g S)[33]? = some (g 33, .inl (y.1, 24, .inl (S.1 33))) := rfl
theorem wcs_33 (y : Cy) (g : Nat → Nat) (S : St) (f : Nat → Int32) : (wc y g S).set 33 (g 33, .inl (y.1, 24, .inl f)) = wc y g (wrow S 33 f) := rfl
theorem wc_34 (y : Cy) (g : Nat → Nat) (S : St) : (wc y g S)[34]? = some (g 34, .inl (y.1, 24, .inl (S.1 34))) := rfl
theorem wcs_34 (y : Cy) (g : Nat → Nat) (S : St) (f : Nat → Int32) : (wc y g S).set 34 (g 34, .inl (y.1, 24, .inl f)) = wc y g (wrow S 34 f) := rfl
theorem wc_35 (y : Cy) (g : Nat → Nat) (S : St) : (wc y g S)[35]? = some (g 35, .inl (y.1, 24, .inl (S.1 35))) := rfl
theorem wcs_35 (y : Cy) (g : Nat → Nat) (S : St) (f : Nat → Int32) : (wc y g S).set 35 (g 35, .inl (y.1, 24, .inl f)) = wc y g (wrow S 35 f) := rfl
theorem wc_36 (y : Cy) (g : Nat → Nat) (S : St) : (wc y g S)[36]? = some (g 36, .inl (y.1, 24, .inl (S.1 36))) := rfl
theorem wcs_36 (y : Cy) (g : Nat → Nat) (S : St) (f : Nat → Int32) : (wc y g S).set 36 (g 36, .inl (y.1, 24, .inl f)) = wc y g (wrow S 36 f) := rfl
theorem wc_37 (y : Cy) (g : Nat → Nat) (S : St) : (wc y g S)[37]? = some (g 37, .inl (y.1, 24, .inl (S.1 37))) := rfl
theorem wcs_37 (y : Cy) (g : Nat → Nat) (S : St) (f : Nat → Int32) : (wc y g S).set 37 (g 37, .inl (y.1, 24, .inl f)) = wc y g (wrow S 37 f) := rfl
theorem wc_38 (y : Cy) (g : Nat → Nat) (S : St) : (wc y g S)[38]? = some (g 38, .inl (y.2.2.1, 5, .inr (.inr (.inr (.inr (fun j => if j < 5 then some (g (39 + j)) else none)))))) := rfl
theorem wc_r39 (y : Cy) (g : Nat → Nat) (S : St) (j : Nat) (hj : j < 5) : (wc y g S)[39 + j]? = some (g (39 + j), .inl (y.1, 5, .inl (S.1 (39 + j)))) := by
  rcases (show j = 0 ∨ j = 1 ∨ j = 2 ∨ j = 3 ∨ j = 4 by omega) with rfl | rfl | rfl | rfl | rfl <;> rfl
theorem wcs_r39 (y : Cy) (g : Nat → Nat) (S : St) (j : Nat) (hj : j < 5) (f : Nat → Int32) : (wc y g S).set (39 + j) (g (39 + j), .inl (y.1, 5, .inl f)) = wc y g (wrow S (39 + j) f) := by
  rcases (show j = 0 ∨ j = 1 ∨ j = 2 ∨ j = 3 ∨ j = 4 by omega) with rfl | rfl | rfl | rfl | rfl <;> rfl
theorem wc_39 (y : Cy) (g : Nat → Nat) (S : St) : (wc y g S)[39]? = some (g 39, .inl (y.1, 5, .inl (S.1 39))) := rfl
theorem wcs_39 (y : Cy) (g : Nat → Nat) (S : St) (f : Nat → Int32) : (wc y g S).set 39 (g 39, .inl (y.1, 5, .inl f)) = wc y g (wrow S 39 f) := rfl
theorem wc_40 (y : Cy) (g : Nat → Nat) (S : St) : (wc y g S)[40]? = some (g 40, .inl (y.1, 5, .inl (S.1 40))) := rfl
theorem wcs_40 (y : Cy) (g : Nat → Nat) (S : St) (f : Nat → Int32) : (wc y g S).set 40 (g 40, .inl (y.1, 5, .inl f)) = wc y g (wrow S 40 f) := rfl
theorem wc_41 (y : Cy) (g : Nat → Nat) (S : St) : (wc y g S)[41]? = some (g 41, .inl (y.1, 5, .inl (S.1 41))) := rfl
theorem wcs_41 (y : Cy) (g : Nat → Nat) (S : St) (f : Nat → Int32) : (wc y g S).set 41 (g 41, .inl (y.1, 5, .inl f)) = wc y g (wrow S 41 f) := rfl
theorem wc_42 (y : Cy) (g : Nat → Nat) (S : St) : (wc y g S)[42]? = some (g 42, .inl (y.1, 5, .inl (S.1 42))) := rfl
theorem wcs_42 (y : Cy) (g : Nat → Nat) (S : St) (f : Nat → Int32) : (wc y g S).set 42 (g 42, .inl (y.1, 5, .inl f)) = wc y g (wrow S 42 f) := rfl
theorem wc_43 (y : Cy) (g : Nat → Nat) (S : St) : (wc y g S)[43]? = some (g 43, .inl (y.1, 5, .inl (S.1 43))) := rfl
theorem wcs_43 (y : Cy) (g : Nat → Nat) (S : St) (f : Nat → Int32) : (wc y g S).set 43 (g 43, .inl (y.1, 5, .inl f)) = wc y g (wrow S 43 f) := rfl
theorem wc_44 (y : Cy) (g : Nat → Nat) (S : St) : (wc y g S)[44]? = some (g 44, .inl (y.2.2.1, 5, .inr (.inr (.inr (.inr (fun j => if j < 5 then some (g (45 + j)) else none)))))) := rfl
theorem wc_r45 (y : Cy) (g : Nat → Nat) (S : St) (j : Nat) (hj : j < 5) : (wc y g S)[45 + j]? = some (g (45 + j), .inl (y.1, 5, .inl (S.1 (45 + j)))) := by
  rcases (show j = 0 ∨ j = 1 ∨ j = 2 ∨ j = 3 ∨ j = 4 by omega) with rfl | rfl | rfl | rfl | rfl <;> rfl
theorem wcs_r45 (y : Cy) (g : Nat → Nat) (S : St) (j : Nat) (hj : j < 5) (f : Nat → Int32) : (wc y g S).set (45 + j) (g (45 + j), .inl (y.1, 5, .inl f)) = wc y g (wrow S (45 + j) f) := by
  rcases (show j = 0 ∨ j = 1 ∨ j = 2 ∨ j = 3 ∨ j = 4 by omega) with rfl | rfl | rfl | rfl | rfl <;> rfl
theorem wc_45 (y : Cy) (g : Nat → Nat) (S : St) : (wc y g S)[45]? = some (g 45, .inl (y.1, 5, .inl (S.1 45))) := rfl
theorem wcs_45 (y : Cy) (g : Nat → Nat) (S : St) (f : Nat → Int32) : (wc y g S).set 45 (g 45, .inl (y.1, 5, .inl f)) = wc y g (wrow S 45 f) := rfl
theorem wc_46 (y : Cy) (g : Nat → Nat) (S : St) : (wc y g S)[46]? = some (g 46, .inl (y.1, 5, .inl (S.1 46))) := rfl
theorem wcs_46 (y : Cy) (g : Nat → Nat) (S : St) (f : Nat → Int32) : (wc y g S).set 46 (g 46, .inl (y.1, 5, .inl f)) = wc y g (wrow S 46 f) := rfl
theorem wc_47 (y : Cy) (g : Nat → Nat) (S : St) : (wc y g S)[47]? = some (g 47, .inl (y.1, 5, .inl (S.1 47))) := rfl
theorem wcs_47 (y : Cy) (g : Nat → Nat) (S : St) (f : Nat → Int32) : (wc y g S).set 47 (g 47, .inl (y.1, 5, .inl f)) = wc y g (wrow S 47 f) := rfl
theorem wc_48 (y : Cy) (g : Nat → Nat) (S : St) : (wc y g S)[48]? = some (g 48, .inl (y.1, 5, .inl (S.1 48))) := rfl
theorem wcs_48 (y : Cy) (g : Nat → Nat) (S : St) (f : Nat → Int32) : (wc y g S).set 48 (g 48, .inl (y.1, 5, .inl f)) = wc y g (wrow S 48 f) := rfl
theorem wc_49 (y : Cy) (g : Nat → Nat) (S : St) : (wc y g S)[49]? = some (g 49, .inl (y.1, 5, .inl (S.1 49))) := rfl
theorem wcs_49 (y : Cy) (g : Nat → Nat) (S : St) (f : Nat → Int32) : (wc y g S).set 49 (g 49, .inl (y.1, 5, .inl f)) = wc y g (wrow S 49 f) := rfl
theorem wc_50 (y : Cy) (g : Nat → Nat) (S : St) : (wc y g S)[50]? = some (g 50, .inl (y.1, 5, .inl (S.1 50))) := rfl
theorem wcs_50 (y : Cy) (g : Nat → Nat) (S : St) (f : Nat → Int32) : (wc y g S).set 50 (g 50, .inl (y.1, 5, .inl f)) = wc y g (wrow S 50 f) := rfl
theorem wc_51 (y : Cy) (g : Nat → Nat) (S : St) : (wc y g S)[51]? = some (g 51, .inl (y.1, 5, .inl (S.1 51))) := rfl
theorem wcs_51 (y : Cy) (g : Nat → Nat) (S : St) (f : Nat → Int32) : (wc y g S).set 51 (g 51, .inl (y.1, 5, .inl f)) = wc y g (wrow S 51 f) := rfl
theorem wc_fst (y : Cy) (g : Nat → Nat) (S : St) : (wc y g S).map Prod.fst = (List.range 52).map g := rfl
theorem wc_ok (y : Cy) (g : Nat → Nat) : Wok (wc y g) (AC g) := by
  refine ⟨fun S k q hk sz => ?_, fun a b q hab h => ?_, fun sz q h => Or.inr h⟩
  · have h1 : ((wc y g S).map Prod.fst)[k]? = some q.1 := by rw [List.getElem?_map, hk]; rfl
    rw [wc_fst, List.getElem?_map] at h1
    cases h2 : (List.range 52)[k]? with
    | none => rw [h2] at h1; cases h1
    | some i =>
      rw [h2] at h1
      have h3 : i < 52 := List.mem_range.mp (List.mem_of_getElem? h2)
      exact Or.inl ⟨i, h3, (Option.some.inj h1).symm⟩
  · rcases h with h | h
    · exact Or.inl h
    · exact Or.inr (Nat.le_trans hab h)
def wm (y : Cy) (g : Nat → Nat) (S : St) : va_W :=
  [(g 0, .inr (6, [.int (S.1 0 0), .ref (g 1), .ref (g 2), .int (S.1 0 3), .ref (g 3), .ref (g 4), .ref (g 5), .ref (g 6), .int (S.1 0 8), .int (S.1 0 9), .int (S.1 0 10), .int (S.1 0 11), .int (S.1 0 12), .int (S.1 0 13), .int (S.1 0 14), .int (S.1 0 15), .int (S.1 0 16), .int (S.1 0 17), .int (S.1 0 18), .int (S.1 0 19), .ref (g 7), .ref (g 8), .ref (g 9), .ref (g 10), .ref (g 11), .ref (g 12), .int (S.1 0 26), .int (S.1 0 27), .int (S.1 0 28), .ref (g 13), .ref (g 14), .ref (g 15), .ref (g 16), .ref (g 17), .ref (g 18), .ref (g 19), .ref (g 20)])),
   (g 1, .inl (y.1, 8, .inl (S.1 1))),
   (g 2, .inl (y.1, 8, .inl (S.1 2))),
   (g 3, .inl (y.1, 5, .inl (S.1 3))),
   (g 4, .inl (y.1, 5, .inl (S.1 4))),
   (g 5, .inl (y.1, 40, .inl (S.1 5))),
   (g 6, .inl (y.1, 40, .inl (S.1 6))),
   (g 7, .inl (y.1, 150, .inl (S.1 7))),
   (g 8, .inl (y.1, 150, .inl (S.1 8))),
   (g 9, .inl (y.1, 150, .inl (S.1 9))),
   (g 10, .inl (y.1, 150, .inl (S.1 10))),
   (g 11, .inl (y.2.1, 150, .inl (S.1 11))),
   (g 12, .inl (y.1, 150, .inl (S.1 12))),
   (g 13, .inl (y.1, 8, .inl (S.1 13))),
   (g 14, .inl (y.1, 150, .inl (S.1 14))),
   (g 15, .inl (y.1, 150, .inl (S.1 15))),
   (g 16, .inl (y.1, 5, .inl (S.1 16))),
   (g 17, .inl (y.2.2.2, 5, .inr (.inl S.2))),
   (g 18, .inl (y.1, 5, .inl (S.1 18))),
   (g 19, .inl (y.2.1, 150, .inl (S.1 19))),
   (g 20, .inl (y.1, 150, .inl (S.1 20)))]
def AM (g : Nat → Nat) (sz : Nat) : Nat → Prop := fun q => (∃ k, k < 21 ∧ q = g k) ∨ sz ≤ q
theorem wm_0 (y : Cy) (g : Nat → Nat) (S : St) : (wm y g S)[0]? = some (g 0, .inr (6, [.int (S.1 0 0), .ref (g 1), .ref (g 2), .int (S.1 0 3), .ref (g 3), .ref (g 4), .ref (g 5), .ref (g 6), .int (S.1 0 8), .int (S.1 0 9), .int (S.1 0 10), .int (S.1 0 11), .int (S.1 0 12), .int (S.1 0 13), .int (S.1 0 14), .int (S.1 0 15), .int (S.1 0 16), .int (S.1 0 17), .int (S.1 0 18), .int (S.1 0 19), .ref (g 7), .ref (g 8), .ref (g 9), .ref (g 10), .ref (g 11), .ref (g 12), .int (S.1 0 26), .int (S.1 0 27), .int (S.1 0 28), .ref (g 13), .ref (g 14), .ref (g 15), .ref (g 16), .ref (g 17), .ref (g 18), .ref (g 19), .ref (g 20)])) := rfl
theorem wmf_0_0 (y : Cy) (g : Nat → Nat) (S : St) (v : Int32) : (wm y g S).set 0 (g 0, .inr (6, ([.int (S.1 0 0), .ref (g 1), .ref (g 2), .int (S.1 0 3), .ref (g 3), .ref (g 4), .ref (g 5), .ref (g 6), .int (S.1 0 8), .int (S.1 0 9), .int (S.1 0 10), .int (S.1 0 11), .int (S.1 0 12), .int (S.1 0 13), .int (S.1 0 14), .int (S.1 0 15), .int (S.1 0 16), .int (S.1 0 17), .int (S.1 0 18), .int (S.1 0 19), .ref (g 7), .ref (g 8), .ref (g 9), .ref (g 10), .ref (g 11), .ref (g 12), .int (S.1 0 26), .int (S.1 0 27), .int (S.1 0 28), .ref (g 13), .ref (g 14), .ref (g 15), .ref (g 16), .ref (g 17), .ref (g 18), .ref (g 19), .ref (g 20)] : List Value).set 0 (.int v))) = wm y g (wr S 0 0 v) := rfl
theorem wmf_0_3 (y : Cy) (g : Nat → Nat) (S : St) (v : Int32) : (wm y g S).set 0 (g 0, .inr (6, ([.int (S.1 0 0), .ref (g 1), .ref (g 2), .int (S.1 0 3), .ref (g 3), .ref (g 4), .ref (g 5), .ref (g 6), .int (S.1 0 8), .int (S.1 0 9), .int (S.1 0 10), .int (S.1 0 11), .int (S.1 0 12), .int (S.1 0 13), .int (S.1 0 14), .int (S.1 0 15), .int (S.1 0 16), .int (S.1 0 17), .int (S.1 0 18), .int (S.1 0 19), .ref (g 7), .ref (g 8), .ref (g 9), .ref (g 10), .ref (g 11), .ref (g 12), .int (S.1 0 26), .int (S.1 0 27), .int (S.1 0 28), .ref (g 13), .ref (g 14), .ref (g 15), .ref (g 16), .ref (g 17), .ref (g 18), .ref (g 19), .ref (g 20)] : List Value).set 3 (.int v))) = wm y g (wr S 0 3 v) := rfl
theorem wmf_0_8 (y : Cy) (g : Nat → Nat) (S : St) (v : Int32) : (wm y g S).set 0 (g 0, .inr (6, ([.int (S.1 0 0), .ref (g 1), .ref (g 2), .int (S.1 0 3), .ref (g 3), .ref (g 4), .ref (g 5), .ref (g 6), .int (S.1 0 8), .int (S.1 0 9), .int (S.1 0 10), .int (S.1 0 11), .int (S.1 0 12), .int (S.1 0 13), .int (S.1 0 14), .int (S.1 0 15), .int (S.1 0 16), .int (S.1 0 17), .int (S.1 0 18), .int (S.1 0 19), .ref (g 7), .ref (g 8), .ref (g 9), .ref (g 10), .ref (g 11), .ref (g 12), .int (S.1 0 26), .int (S.1 0 27), .int (S.1 0 28), .ref (g 13), .ref (g 14), .ref (g 15), .ref (g 16), .ref (g 17), .ref (g 18), .ref (g 19), .ref (g 20)] : List Value).set 8 (.int v))) = wm y g (wr S 0 8 v) := rfl
theorem wmf_0_9 (y : Cy) (g : Nat → Nat) (S : St) (v : Int32) : (wm y g S).set 0 (g 0, .inr (6, ([.int (S.1 0 0), .ref (g 1), .ref (g 2), .int (S.1 0 3), .ref (g 3), .ref (g 4), .ref (g 5), .ref (g 6), .int (S.1 0 8), .int (S.1 0 9), .int (S.1 0 10), .int (S.1 0 11), .int (S.1 0 12), .int (S.1 0 13), .int (S.1 0 14), .int (S.1 0 15), .int (S.1 0 16), .int (S.1 0 17), .int (S.1 0 18), .int (S.1 0 19), .ref (g 7), .ref (g 8), .ref (g 9), .ref (g 10), .ref (g 11), .ref (g 12), .int (S.1 0 26), .int (S.1 0 27), .int (S.1 0 28), .ref (g 13), .ref (g 14), .ref (g 15), .ref (g 16), .ref (g 17), .ref (g 18), .ref (g 19), .ref (g 20)] : List Value).set 9 (.int v))) = wm y g (wr S 0 9 v) := rfl
theorem wmf_0_10 (y : Cy) (g : Nat → Nat) (S : St) (v : Int32) : (wm y g S).set 0 (g 0, .inr (6, ([.int (S.1 0 0), .ref (g 1), .ref (g 2), .int (S.1 0 3), .ref (g 3), .ref (g 4), .ref (g 5), .ref (g 6), .int (S.1 0 8), .int (S.1 0 9), .int (S.1 0 10), .int (S.1 0 11), .int (S.1 0 12), .int (S.1 0 13), .int (S.1 0 14), .int (S.1 0 15), .int (S.1 0 16), .int (S.1 0 17), .int (S.1 0 18), .int (S.1 0 19), .ref (g 7), .ref (g 8), .ref (g 9), .ref (g 10), .ref (g 11), .ref (g 12), .int (S.1 0 26), .int (S.1 0 27), .int (S.1 0 28), .ref (g 13), .ref (g 14), .ref (g 15), .ref (g 16), .ref (g 17), .ref (g 18), .ref (g 19), .ref (g 20)] : List Value).set 10 (.int v))) = wm y g (wr S 0 10 v) := rfl
theorem wmf_0_11 (y : Cy) (g : Nat → Nat) (S : St) (v : Int32) : (wm y g S).set 0 (g 0, .inr (6, ([.int (S.1 0 0), .ref (g 1), .ref (g 2), .int (S.1 0 3), .ref (g 3), .ref (g 4), .ref (g 5), .ref (g 6), .int (S.1 0 8), .int (S.1 0 9), .int (S.1 0 10), .int (S.1 0 11), .int (S.1 0 12), .int (S.1 0 13), .int (S.1 0 14), .int (S.1 0 15), .int (S.1 0 16), .int (S.1 0 17), .int (S.1 0 18), .int (S.1 0 19), .ref (g 7), .ref (g 8), .ref (g 9), .ref (g 10), .ref (g 11), .ref (g 12), .int (S.1 0 26), .int (S.1 0 27), .int (S.1 0 28), .ref (g 13), .ref (g 14), .ref (g 15), .ref (g 16), .ref (g 17), .ref (g 18), .ref (g 19), .ref (g 20)] : List Value).set 11 (.int v))) = wm y g (wr S 0 11 v) := rfl
theorem wmf_0_12 (y : Cy) (g : Nat → Nat) (S : St) (v : Int32) : (wm y g S).set 0 (g 0, .inr (6, ([.int (S.1 0 0), .ref (g 1), .ref (g 2), .int (S.1 0 3), .ref (g 3), .ref (g 4), .ref (g 5), .ref (g 6), .int (S.1 0 8), .int (S.1 0 9), .int (S.1 0 10), .int (S.1 0 11), .int (S.1 0 12), .int (S.1 0 13), .int (S.1 0 14), .int (S.1 0 15), .int (S.1 0 16), .int (S.1 0 17), .int (S.1 0 18), .int (S.1 0 19), .ref (g 7), .ref (g 8), .ref (g 9), .ref (g 10), .ref (g 11), .ref (g 12), .int (S.1 0 26), .int (S.1 0 27), .int (S.1 0 28), .ref (g 13), .ref (g 14), .ref (g 15), .ref (g 16), .ref (g 17), .ref (g 18), .ref (g 19), .ref (g 20)] : List Value).set 12 (.int v))) = wm y g (wr S 0 12 v) := rfl
theorem wmf_0_13 (y : Cy) (g : Nat → Nat) (S : St) (v : Int32) : (wm y g S).set 0 (g 0, .inr (6, ([.int (S.1 0 0), .ref (g 1), .ref (g 2), .int (S.1 0 3), .ref (g 3), .ref (g 4), .ref (g 5), .ref (g 6), .int (S.1 0 8), .int (S.1 0 9), .int (S.1 0 10), .int (S.1 0 11), .int (S.1 0 12), .int (S.1 0 13), .int (S.1 0 14), .int (S.1 0 15), .int (S.1 0 16), .int (S.1 0 17), .int (S.1 0 18), .int (S.1 0 19), .ref (g 7), .ref (g 8), .ref (g 9), .ref (g 10), .ref (g 11), .ref (g 12), .int (S.1 0 26), .int (S.1 0 27), .int (S.1 0 28), .ref (g 13), .ref (g 14), .ref (g 15), .ref (g 16), .ref (g 17), .ref (g 18), .ref (g 19), .ref (g 20)] : List Value).set 13 (.int v))) = wm y g (wr S 0 13 v) := rfl
theorem wmf_0_14 (y : Cy) (g : Nat → Nat) (S : St) (v : Int32) : (wm y g S).set 0 (g 0, .inr (6, ([.int (S.1 0 0), .ref (g 1), .ref (g 2), .int (S.1 0 3), .ref (g 3), .ref (g 4), .ref (g 5), .ref (g 6), .int (S.1 0 8), .int (S.1 0 9), .int (S.1 0 10), .int (S.1 0 11), .int (S.1 0 12), .int (S.1 0 13), .int (S.1 0 14), .int (S.1 0 15), .int (S.1 0 16), .int (S.1 0 17), .int (S.1 0 18), .int (S.1 0 19), .ref (g 7), .ref (g 8), .ref (g 9), .ref (g 10), .ref (g 11), .ref (g 12), .int (S.1 0 26), .int (S.1 0 27), .int (S.1 0 28), .ref (g 13), .ref (g 14), .ref (g 15), .ref (g 16), .ref (g 17), .ref (g 18), .ref (g 19), .ref (g 20)] : List Value).set 14 (.int v))) = wm y g (wr S 0 14 v) := rfl
theorem wmf_0_15 (y : Cy) (g : Nat → Nat) (S : St) (v : Int32) : (wm y g S).set 0 (g 0, .inr (6, ([.int (S.1 0 0), .ref (g 1), .ref (g 2), .int (S.1 0 3), .ref (g 3), .ref (g 4), .ref (g 5), .ref (g 6), .int (S.1 0 8), .int (S.1 0 9), .int (S.1 0 10), .int (S.1 0 11), .int (S.1 0 12), .int (S.1 0 13), .int (S.1 0 14), .int (S.1 0 15), .int (S.1 0 16), .int (S.1 0 17), .int (S.1 0 18), .int (S.1 0 19), .ref (g 7), .ref (g 8), .ref (g 9), .ref (g 10), .ref (g 11), .ref (g 12), .int (S.1 0 26), .int (S.1 0 27), .int (S.1 0 28), .ref (g 13), .ref (g 14), .ref (g 15), .ref (g 16), .ref (g 17), .ref (g 18), .ref (g 19), .ref (g 20)] : List Value).set 15 (.int v))) = wm y g (wr S 0 15 v) := rfl
theorem wmf_0_16 (y : Cy) (g : Nat → Nat) (S : St) (v : Int32) : (wm y g S).set 0 (g 0, .inr (6, ([.int (S.1 0 0), .ref (g 1), .ref (g 2), .int (S.1 0 3), .ref (g 3), .ref (g 4), .ref (g 5), .ref (g 6), .int (S.1 0 8), .int (S.1 0 9), .int (S.1 0 10), .int (S.1 0 11), .int (S.1 0 12), .int (S.1 0 13), .int (S.1 0 14), .int (S.1 0 15), .int (S.1 0 16), .int (S.1 0 17), .int (S.1 0 18), .int (S.1 0 19), .ref (g 7), .ref (g 8), .ref (g 9), .ref (g 10), .ref (g 11), .ref (g 12), .int (S.1 0 26), .int (S.1 0 27), .int (S.1 0 28), .ref (g 13), .ref (g 14), .ref (g 15), .ref (g 16), .ref (g 17), .ref (g 18), .ref (g 19), .ref (g 20)] : List Value).set 16 (.int v))) = wm y g (wr S 0 16 v) := rfl
theorem wmf_0_17 (y : Cy) (g : Nat → Nat) (S : St) (v : Int32) : (wm y g S).set 0 (g 0, .inr (6, ([.int (S.1 0 0), .ref (g 1), .ref (g 2), .int (S.1 0 3), .ref (g 3), .ref (g 4), .ref (g 5), .ref (g 6), .int (S.1 0 8), .int (S.1 0 9), .int (S.1 0 10), .int (S.1 0 11), .int (S.1 0 12), .int (S.1 0 13), .int (S.1 0 14), .int (S.1 0 15), .int (S.1 0 16), .int (S.1 0 17), .int (S.1 0 18), .int (S.1 0 19), .ref (g 7), .ref (g 8), .ref (g 9), .ref (g 10), .ref (g 11), .ref (g 12), .int (S.1 0 26), .int (S.1 0 27), .int (S.1 0 28), .ref (g 13), .ref (g 14), .ref (g 15), .ref (g 16), .ref (g 17), .ref (g 18), .ref (g 19), .ref (g 20)] : List Value).set 17 (.int v))) = wm y g (wr S 0 17 v) := rfl
theorem wmf_0_18 (y : Cy) (g : Nat → Nat) (S : St) (v : Int32) : (wm y g S).set 0 (g 0, .inr (6, ([.int (S.1 0 0), .ref (g 1), .ref (g 2), .int (S.1 0 3), .ref (g 3), .ref (g 4), .ref (g 5), .ref (g 6), .int (S.1 0 8), .int (S.1 0 9), .int (S.1 0 10), .int (S.1 0 11), .int (S.1 0 12), .int (S.1 0 13), .int (S.1 0 14), .int (S.1 0 15), .int (S.1 0 16), .int (S.1 0 17), .int (S.1 0 18), .int (S.1 0 19), .ref (g 7), .ref (g 8), .ref (g 9), .ref (g 10), .ref (g 11), .ref (g 12), .int (S.1 0 26), .int (S.1 0 27), .int (S.1 0 28), .ref (g 13), .ref (g 14), .ref (g 15), .ref (g 16), .ref (g 17), .ref (g 18), .ref (g 19), .ref (g 20)] : List Value).set 18 (.int v))) = wm y g (wr S 0 18 v) := rfl
theorem wmf_0_19 (y : Cy) (g : Nat → Nat) (S : St) (v : Int32) : (wm y g S).set 0 (g 0, .inr (6, ([.int (S.1 0 0), .ref (g 1), .ref (g 2), .int (S.1 0 3), .ref (g 3), .ref (g 4), .ref (g 5), .ref (g 6), .int (S.1 0 8), .int (S.1 0 9), .int (S.1 0 10), .int (S.1 0 11), .int (S.1 0 12), .int (S.1 0 13), .int (S.1 0 14), .int (S.1 0 15), .int (S.1 0 16), .int (S.1 0 17), .int (S.1 0 18), .int (S.1 0 19), .ref (g 7), .ref (g 8), .ref (g 9), .ref (g 10), .ref (g 11), .ref (g 12), .int (S.1 0 26), .int (S.1 0 27), .int (S.1 0 28), .ref (g 13), .ref (g 14), .ref (g 15), .ref (g 16), .ref (g 17), .ref (g 18), .ref (g 19), .ref (g 20)] : List Value).set 19 (.int v))) = wm y g (wr S 0 19 v) := rfl
theorem wmf_0_26 (y : Cy) (g : Nat → Nat) (S : St) (v : Int32) : (wm y g S).set 0 (g 0, .inr (6, ([.int (S.1 0 0), .ref (g 1), .ref (g 2), .int (S.1 0 3), .ref (g 3), .ref (g 4), .ref (g 5), .ref (g 6), .int (S.1 0 8), .int (S.1 0 9), .int (S.1 0 10), .int (S.1 0 11), .int (S.1 0 12), .int (S.1 0 13), .int (S.1 0 14), .int (S.1 0 15), .int (S.1 0 16), .int (S.1 0 17), .int (S.1 0 18), .int (S.1 0 19), .ref (g 7), .ref (g 8), .ref (g 9), .ref (g 10), .ref (g 11), .ref (g 12), .int (S.1 0 26), .int (S.1 0 27), .int (S.1 0 28), .ref (g 13), .ref (g 14), .ref (g 15), .ref (g 16), .ref (g 17), .ref (g 18), .ref (g 19), .ref (g 20)] : List Value).set 26 (.int v))) = wm y g (wr S 0 26 v) := rfl
theorem wmf_0_27 (y : Cy) (g : Nat → Nat) (S : St) (v : Int32) : (wm y g S).set 0 (g 0, .inr (6, ([.int (S.1 0 0), .ref (g 1), .ref (g 2), .int (S.1 0 3), .ref (g 3), .ref (g 4), .ref (g 5), .ref (g 6), .int (S.1 0 8), .int (S.1 0 9), .int (S.1 0 10), .int (S.1 0 11), .int (S.1 0 12), .int (S.1 0 13), .int (S.1 0 14), .int (S.1 0 15), .int (S.1 0 16), .int (S.1 0 17), .int (S.1 0 18), .int (S.1 0 19), .ref (g 7), .ref (g 8), .ref (g 9), .ref (g 10), .ref (g 11), .ref (g 12), .int (S.1 0 26), .int (S.1 0 27), .int (S.1 0 28), .ref (g 13), .ref (g 14), .ref (g 15), .ref (g 16), .ref (g 17), .ref (g 18), .ref (g 19), .ref (g 20)] : List Value).set 27 (.int v))) = wm y g (wr S 0 27 v) := rfl
theorem wmf_0_28 (y : Cy) (g : Nat → Nat) (S : St) (v : Int32) : (wm y g S).set 0 (g 0, .inr (6, ([.int (S.1 0 0), .ref (g 1), .ref (g 2), .int (S.1 0 3), .ref (g 3), .ref (g 4), .ref (g 5), .ref (g 6), .int (S.1 0 8), .int (S.1 0 9), .int (S.1 0 10), .int (S.1 0 11), .int (S.1 0 12), .int (S.1 0 13), .int (S.1 0 14), .int (S.1 0 15), .int (S.1 0 16), .int (S.1 0 17), .int (S.1 0 18), .int (S.1 0 19), .ref (g 7), .ref (g 8), .ref (g 9), .ref (g 10), .ref (g 11), .ref (g 12), .int (S.1 0 26), .int (S.1 0 27), .int (S.1 0 28), .ref (g 13), .ref (g 14), .ref (g 15), .ref (g 16), .ref (g 17), .ref (g 18), .ref (g 19), .ref (g 20)] : List Value).set 28 (.int v))) = wm y g (wr S 0 28 v) := rfl
theorem wm_1 (y : Cy) (g : Nat → Nat) (S : St) : (wm y g S)[1]? = some (g 1, .inl (y.1, 8, .inl (S.1 1))) := rfl
theorem wms_1 (y : Cy) (g : Nat → Nat) (S : St) (f : Nat → Int32) : (wm y g S).set 1 (g 1, .inl (y.1, 8, .inl f)) = wm y g (wrow S 1 f) := rfl
theorem wm_2 (y : Cy) (g : Nat → Nat) (S : St) : (wm y g S)[2]? = some (g 2, .inl (y.1, 8, .inl (S.1 2))) := rfl
theorem wms_2 (y : Cy) (g : Nat → Nat) (S : St) (f : Nat → Int32) : (wm y g S).set 2 (g 2, .inl (y.1, 8, .inl f)) = wm y g (wrow S 2 f) := rfl
theorem wm_3 (y : Cy) (g : Nat → Nat) (S : St) : (wm y g S)[3]? = some (g 3, .inl (y.1, 5, .inl (S.1 3))) := rfl
theorem wms_3 (y : Cy) (g : Nat → Nat) (S : St) (f : Nat → Int32) : (wm y g S).set 3 (g 3, .inl (y.1, 5, .inl f)) = wm y g (wrow S 3 f) := rfl
theorem wm_4 (y : Cy) (g : Nat → Nat) (S : St) : (wm y g S)[4]? = some (g 4, .inl (y.1, 5, .inl (S.1 4))) := rfl
theorem wms_4 (y : Cy) (g : Nat → Nat) (S : St) (f : Nat → Int32) : (wm y g S).set 4 (g 4, .inl (y.1, 5, .inl f)) = wm y g (wrow S 4 f) := rfl
theorem wm_5 (y : Cy) (g : Nat → Nat) (S : St) : (wm y g S)[5]? = some (g 5, .inl (y.1, 40, .inl (S.1 5))) := rfl
theorem wms_5 (y : Cy) (g : Nat → Nat) (S : St) (f : Nat → Int32) : (wm y g S).set 5 (g 5, .inl (y.1, 40, .inl f)) = wm y g (wrow S 5 f) := rfl
theorem wm_6 (y : Cy) (g : Nat → Nat) (S : St) : (wm y g S)[6]? = some (g 6, .inl (y.1, 40, .inl (S.1 6))) := rfl
theorem wms_6 (y : Cy) (g : Nat → Nat) (S : St) (f : Nat → Int32) : (wm y g S).set 6 (g 6, .inl (y.1, 40, .inl f)) = wm y g (wrow S 6 f) := rfl
theorem wm_7 (y : Cy) (g : Nat → Nat) (S : St) : (wm y g S)[7]? = some (g 7, .inl (y.1, 150, .inl (S.1 7))) := rfl
theorem wms_7 (y : Cy) (g : Nat → Nat) (S : St) (f : Nat → Int32) : (wm y g S).set 7 (g 7, .inl (y.1, 150, .inl f)) = wm y g (wrow S 7 f) := rfl
theorem wm_8 (y : Cy) (g : Nat → Nat) (S : St) : (wm y g S)[8]? = some (g 8, .inl (y.1, 150, .inl (S.1 8))) := rfl
theorem wms_8 (y : Cy) (g : Nat → Nat) (S : St) (f : Nat → Int32) : (wm y g S).set 8 (g 8, .inl (y.1, 150, .inl f)) = wm y g (wrow S 8 f) := rfl
theorem wm_9 (y : Cy) (g : Nat → Nat) (S : St) : (wm y g S)[9]? = some (g 9, .inl (y.1, 150, .inl (S.1 9))) := rfl
theorem wms_9 (y : Cy) (g : Nat → Nat) (S : St) (f : Nat → Int32) : (wm y g S).set 9 (g 9, .inl (y.1, 150, .inl f)) = wm y g (wrow S 9 f) := rfl
theorem wm_10 (y : Cy) (g : Nat → Nat) (S : St) : (wm y g S)[10]? = some (g 10, .inl (y.1, 150, .inl (S.1 10))) := rfl
theorem wms_10 (y : Cy) (g : Nat → Nat) (S : St) (f : Nat → Int32) : (wm y g S).set 10 (g 10, .inl (y.1, 150, .inl f)) = wm y g (wrow S 10 f) := rfl
theorem wm_11 (y : Cy) (g : Nat → Nat) (S : St) : (wm y g S)[11]? = some (g 11, .inl (y.2.1, 150, .inl (S.1 11))) := rfl
theorem wms_11 (y : Cy) (g : Nat → Nat) (S : St) (f : Nat → Int32) : (wm y g S).set 11 (g 11, .inl (y.2.1, 150, .inl f)) = wm y g (wrow S 11 f) := rfl
theorem wm_12 (y : Cy) (g : Nat → Nat) (S : St) : (wm y g S)[12]? = some (g 12, .inl (y.1, 150, .inl (S.1 12))) := rfl
theorem wms_12 (y : Cy) (g : Nat → Nat) (S : St) (f : Nat → Int32) : (wm y g S).set 12 (g 12, .inl (y.1, 150, .inl f)) = wm y g (wrow S 12 f) := rfl
theorem wm_13 (y : Cy) (g : Nat → Nat) (S : St) : (wm y g S)[13]? = some (g 13, .inl (y.1, 8, .inl (S.1 13))) := rfl
theorem wms_13 (y : Cy) (g : Nat → Nat) (S : St) (f : Nat → Int32) : (wm y g S).set 13 (g 13, .inl (y.1, 8, .inl f)) = wm y g (wrow S 13 f) := rfl
theorem wm_14 (y : Cy) (g : Nat → Nat) (S : St) : (wm y g S)[14]? = some (g 14, .inl (y.1, 150, .inl (S.1 14))) := rfl
theorem wms_14 (y : Cy) (g : Nat → Nat) (S : St) (f : Nat → Int32) : (wm y g S).set 14 (g 14, .inl (y.1, 150, .inl f)) = wm y g (wrow S 14 f) := rfl
theorem wm_15 (y : Cy) (g : Nat → Nat) (S : St) : (wm y g S)[15]? = some (g 15, .inl (y.1, 150, .inl (S.1 15))) := rfl
theorem wms_15 (y : Cy) (g : Nat → Nat) (S : St) (f : Nat → Int32) : (wm y g S).set 15 (g 15, .inl (y.1, 150, .inl f)) = wm y g (wrow S 15 f) := rfl
theorem wm_16 (y : Cy) (g : Nat → Nat) (S : St) : (wm y g S)[16]? = some (g 16, .inl (y.1, 5, .inl (S.1 16))) := rfl
theorem wms_16 (y : Cy) (g : Nat → Nat) (S : St) (f : Nat → Int32) : (wm y g S).set 16 (g 16, .inl (y.1, 5, .inl f)) = wm y g (wrow S 16 f) := rfl
theorem wm_17 (y : Cy) (g : Nat → Nat) (S : St) : (wm y g S)[17]? = some (g 17, .inl (y.2.2.2, 5, .inr (.inl S.2))) := rfl
theorem wms_17 (y : Cy) (g : Nat → Nat) (S : St) (f : Nat → Int64) : (wm y g S).set 17 (g 17, .inl (y.2.2.2, 5, .inr (.inl f))) = wm y g (S.1, f) := rfl
theorem wm_18 (y : Cy) (g : Nat → Nat) (S : St) : (wm y g S)[18]? = some (g 18, .inl (y.1, 5, .inl (S.1 18))) := rfl
theorem wms_18 (y : Cy) (g : Nat → Nat) (S : St) (f : Nat → Int32) : (wm y g S).set 18 (g 18, .inl (y.1, 5, .inl f)) = wm y g (wrow S 18 f) := rfl
theorem wm_19 (y : Cy) (g : Nat → Nat) (S : St) : (wm y g S)[19]? = some (g 19, .inl (y.2.1, 150, .inl (S.1 19))) := rfl
theorem wms_19 (y : Cy) (g : Nat → Nat) (S : St) (f : Nat → Int32) : (wm y g S).set 19 (g 19, .inl (y.2.1, 150, .inl f)) = wm y g (wrow S 19 f) := rfl
theorem wm_20 (y : Cy) (g : Nat → Nat) (S : St) : (wm y g S)[20]? = some (g 20, .inl (y.1, 150, .inl (S.1 20))) := rfl
theorem wms_20 (y : Cy) (g : Nat → Nat) (S : St) (f : Nat → Int32) : (wm y g S).set 20 (g 20, .inl (y.1, 150, .inl f)) = wm y g (wrow S 20 f) := rfl
theorem wm_fst (y : Cy) (g : Nat → Nat) (S : St) : (wm y g S).map Prod.fst = (List.range 21).map g := rfl
theorem wm_ok (y : Cy) (g : Nat → Nat) : Wok (wm y g) (AM g) := by
  refine ⟨fun S k q hk sz => ?_, fun a b q hab h => ?_, fun sz q h => Or.inr h⟩
  · have h1 : ((wm y g S).map Prod.fst)[k]? = some q.1 := by rw [List.getElem?_map, hk]; rfl
    rw [wm_fst, List.getElem?_map] at h1
    cases h2 : (List.range 21)[k]? with
    | none => rw [h2] at h1; cases h1
    | some i =>
      rw [h2] at h1
      have h3 : i < 21 := List.mem_range.mp (List.mem_of_getElem? h2)
      exact Or.inl ⟨i, h3, (Option.some.inj h1).symm⟩
  · rcases h with h | h
    · exact Or.inl h
    · exact Or.inr (Nat.le_trans hab h)
def itN {α : Type} (z : α) (F : α → α) : Nat → α
  | 0 => z
  | n + 1 => F (itN z F n)
def jn {γ β : Type} (K : γ) (B : γ → Option β) : Option β := B K
theorem m_it {γ : Type} {z : γ} {F : γ → γ} (N : Nat) (PR : γ → Prop) (h0 : PR z) (hs : ∀ r, PR r → PR (F r)) : PR (itN z F N) := by
  induction N with
  | zero => exact h0
  | succ n ih => exact hs _ ih
theorem m_itK {κ γ : Type} {K : κ} {z : γ} {F : κ → γ → γ} (N : Nat) (PK : κ → Prop) (PR : γ → Prop) (h0 : PR z) (hK : PK K) (hs : ∀ K, PK K → ∀ r, PR r → PR (F K r)) : PR (itN z (F K) N) := by
  induction N with
  | zero => exact h0
  | succ n ih => exact hs _ hK _ ih
section SIM2
variable {p : Program} {l : Launch} {e : Env} {R : Room} {s : State} {m : MethodId} {args : Array Value} {below : List Frame} {meth : Method} {c : Code} {Q : State → Prop}
variable {cc : ByteArray} {D : va_G} {cl : List vw_C} {tys : List (ClassId × FieldType)} {wd : St → va_W} {A : Nat → Prop} {nL : Nat} {Ts : List Cond} {own : String}
variable {β : Type} {x0 : β} {S : St} {pc : Nat} {lv : List (Nat × Value)} {st : List Value}
theorem m_none : Sm p l e R s m args below meth c D cl wd A nL Q x0 none S pc lv st := fun hd => by cases hd
theorem m_jn {γ : Type} {K : γ} {B : γ → Option β} (P : γ → Prop) (h1 : P K) (h2 : ∀ J, P J → Sm p l e R s m args below meth c D cl wd A nL Q x0 (B J) S pc lv st) : Sm p l e R s m args below meth c D cl wd A nL Q x0 (jn K B) S pc lv st := h2 K h1
theorem m_if {q : Prop} [Decidable q] {dt de : Option β} (h1 : q → Sm p l e R s m args below meth c D cl wd A nL Q x0 dt S pc lv st) (h2 : ¬ q → Sm p l e R s m args below meth c D cl wd A nL Q x0 de S pc lv st) : Sm p l e R s m args below meth c D cl wd A nL Q x0 (if q then dt else de) S pc lv st := by
  by_cases h : q
  · rw [if_pos h]; exact h1 h
  · rw [if_neg h]; exact h2 h
theorem m_tin (hC : Cx p m c cc nL s args Ts own D cl tys) {d : Option β} {dflt lo hi : Int} {offs : Array Int} {len : Nat} {x : Int32} {off : Int} (v : Int) (tgt : Nat) (hv : x.toInt = v) (hdg : decode cc pc = .ok (.tableswitch dflt lo hi offs, len)) (h1 : ¬ v < lo) (h2 : ¬ hi < v) (ho : offs[(v - lo).toNat]? = some off) (ht : (pc : Int) + off = (tgt : Int)) (kk : Sm p l e R s m args below meth c D cl wd A nL Q x0 d S tgt lv st) : Sm p l e R s m args below meth c D cl wd A nL Q x0 d S pc lv (.int x :: st) := by
  subst hv
  exact fun hd H locs hP hD hS ls hl => lv_tableIn hC.1.1 hC.1.2.1 hdg h1 h2 ho ht (kk hd H locs hP hD hS ls hl)
theorem m_tout (hC : Cx p m c cc nL s args Ts own D cl tys) {d : Option β} {dflt lo hi : Int} {offs : Array Int} {len : Nat} {x : Int32} (tgt : Nat) (hdg : decode cc pc = .ok (.tableswitch dflt lo hi offs, len)) (h : x.toInt < lo ∨ hi < x.toInt) (ht : (pc : Int) + dflt = (tgt : Int)) (kk : Sm p l e R s m args below meth c D cl wd A nL Q x0 d S tgt lv st) : Sm p l e R s m args below meth c D cl wd A nL Q x0 d S pc lv (.int x :: st) :=
  fun hd H locs hP hD hS ls hl => lv_tableOut hC.1.1 hC.1.2.1 hdg h ht (kk hd H locs hP hD hS ls hl)
end SIM2
