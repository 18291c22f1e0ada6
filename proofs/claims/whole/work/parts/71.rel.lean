/-! the relation -/
/-- a number within bounds -/
def rg (x : Int32) (a b : Nat) : Prop := ∃ v : Nat, a ≤ v ∧ v ≤ b ∧ x = nI v
/-- its natural number -/
def nt (x : Int32) : Nat := x.toNatClampNeg
theorem nt_nI {v : Nat} (h : v < 2 ^ 31) : nt (nI v) = v := nI_clamp h
theorem rg_nt {x : Int32} {a b : Nat} (h : rg x a b) (hb : b < 2 ^ 31) : x = nI (nt x) ∧ a ≤ nt x ∧ nt x ≤ b := by
  obtain ⟨v, h1, h2, rfl⟩ := h
  rw [nt_nI (by omega)]
  exact ⟨rfl, h1, h2⟩
/-- kinds -/
def RK (S T : St) : Prop := S.1 1 5 = T.1 0 0 ∧ rg (T.1 0 0) 0 8 ∧ (∀ i, i < 8 → S.1 2 i = T.1 1 i) ∧ (∀ i, i < 8 → S.1 3 i = T.1 2 i) ∧ (∀ i, i < nt (T.1 0 0) → rg (T.1 1 i) 1 6) ∧ (∀ i, i < nt (T.1 0 0) → rg (T.1 2 i) 1 4)
/-- a place on the map -/
abbrev mp (x : Int32) : Prop := -100 ≤ x ∧ x ≤ 100
/-- heaps -/
def RH (S T : St) : Prop := S.1 1 6 = T.1 0 3 ∧ rg (T.1 0 3) 0 5 ∧ (∀ i, i < 5 → S.1 4 i = T.1 3 i) ∧ (∀ i, i < 5 → S.1 5 i = T.1 4 i) ∧ (∀ i, i < 5 → mp (T.1 3 i)) ∧ (∀ i, i < 5 → mp (T.1 4 i))
/-- what lies in the heaps -/
def RA (S T : St) : Prop := (∀ h k, h < 5 → k < 8 → S.1 (7 + h) k = T.1 5 (8 * h + k)) ∧ ∀ j, j < 40 → rg (T.1 5 j) 0 60
/-- the wall that is told -/
def RW (S T : St) : Prop := (∀ j, j < 9 → S.1 12 j = T.1 0 (8 + j)) ∧ (T.1 0 8 = 0 ∨ (T.1 0 8 = 1 ∧ mp (T.1 0 9) ∧ mp (T.1 0 10) ∧ rg (T.1 0 11) 2 24 ∧ rg (T.1 0 12) 1 6 ∧ rg (T.1 0 13) 1 4 ∧ rg (T.1 0 14) 0 1 ∧ rg (T.1 0 15) 0 63 ∧ rg (T.1 0 16) 0 3))
/-- the stones of the plan, in numbers -/
def kd (T : St) (i : Nat) : Nat := nt (T.1 7 i)
def ln (T : St) (i : Nat) : Nat := nt (T.1 1 (kd T i))
/-- where a stone of a row of lengths comes to lie in courses of length L -/
def pos (L : Nat) (l : Nat → Nat) : Nat → Nat × Nat
  | 0 => (0, 0)
  | i + 1 => if (pos L l i).2 + l i = L then ((pos L l i).1 + 1, 0) else ((pos L l i).1, (pos L l i).2 + l i)
/-- how many of the first n are of kind k -/
def cnt (f : Nat → Nat) (k : Nat) : Nat → Nat
  | 0 => 0
  | n + 1 => cnt f k n + (if f n = k then 1 else 0)
/-- a sum over the heaps -/
def sm (f : Nat → Nat) : Nat → Nat
  | 0 => 0
  | n + 1 => sm f n + f n
/-- the plan is a wall, and its stones were there -/
def PL (T : St) (n : Nat) : Prop := (∀ i, i < n → rg (T.1 7 i) 0 7 ∧ kd T i < nt (T.1 0 0)) ∧ (∀ i, i < n → T.1 8 i = nI (pos (nt (T.1 0 11)) (ln T) i).1 ∧ T.1 9 i = nI (pos (nt (T.1 0 11)) (ln T) i).2 ∧ (pos (nt (T.1 0 11)) (ln T) i).2 + ln T i ≤ nt (T.1 0 11) ∧ (pos (nt (T.1 0 11)) (ln T) i).1 < nt (T.1 0 12)) ∧ pos (nt (T.1 0 11)) (ln T) n = (nt (T.1 0 12), 0) ∧ (∀ j, j < 40 → rg (T.1 6 j) 0 60) ∧ (∀ k, k < nt (T.1 0 0) → cnt (kd T) k n ≤ sm (fun h => nt (T.1 6 (8 * h + k))) (nt (T.1 0 3))) ∧ T.1 0 8 = 1
/-- plan and built wall -/
def RP (S T : St) : Prop := S.1 13 9 = T.1 0 19 ∧ S.1 13 10 = T.1 0 18 ∧ S.1 21 7 = T.1 0 26 ∧ S.1 13 11 = (if T.1 0 18 = 0 then 0 else T.1 0 27) ∧ rg (T.1 0 19) 0 144 ∧ T.1 0 17 = (if nt (T.1 0 19) = 0 then 0 else 1) ∧ (T.1 0 18 = 0 ∨ (T.1 0 18 = 1 ∧ 0 < nt (T.1 0 19))) ∧
  (0 < nt (T.1 0 19) → PL T (nt (T.1 0 19)) ∧ (∀ i, i < nt (T.1 0 19) → S.1 14 i = T.1 7 i ∧ S.1 15 i = T.1 8 i ∧ S.1 16 i = T.1 9 i) ∧ (∀ h k, h < nt (T.1 0 3) → k < 8 → S.1 (26 + h) k = T.1 6 (8 * h + k)) ∧ (T.1 0 18 = 0 → ∀ j, j < 40 → T.1 6 j = T.1 5 j)) ∧
  (T.1 0 18 = 1 → ∀ i, i < nt (T.1 0 19) → S.1 17 i = T.1 10 i ∧ S.1 18 i = T.1 12 i ∧ S.1 19 i = T.1 11 i ∧ rg (T.1 10 i) 0 99 ∧ rg (T.1 11 i) 0 1)
def math_R (S T : St) : Prop := RK S T ∧ RH S T ∧ RA S T ∧ RW S T ∧ RP S T
theorem rg_0 {b : Nat} : rg 0 0 b := ⟨0, Nat.le_refl _, Nat.zero_le _, nI_0.symm⟩
theorem nt_0 : nt 0 = 0 := by decide
theorem mp_0 : mp 0 := by unfold mp; decide
theorem math_0 : math_R ZS ZS := by
  refine ⟨⟨rfl, rg_0, fun _ _ => rfl, fun _ _ => rfl, fun i hi => ?_, fun i hi => ?_⟩, ⟨rfl, rg_0, fun _ _ => rfl, fun _ _ => rfl, fun _ _ => mp_0, fun _ _ => mp_0⟩, ⟨fun _ _ _ _ => rfl, fun _ _ => rg_0⟩, ⟨fun _ _ => rfl, Or.inl rfl⟩, rfl, rfl, rfl, rfl, rg_0, rfl, Or.inl rfl, fun h => ?_, fun h => ?_⟩
  · exact absurd hi (by show ¬ i < nt 0; rw [nt_0]; omega)
  · exact absurd hi (by show ¬ i < nt 0; rw [nt_0]; omega)
  · exact absurd h (by show ¬ 0 < nt 0; rw [nt_0]; omega)
  · exact absurd h (by show ¬ (0 : Int32) = 1; decide)
/-- kd, ln, PL speak of some cells alone -/
theorem ln_eq {T T2 : St} (h7 : T2.1 7 = T.1 7) (h1 : T2.1 1 = T.1 1) : ln T2 = ln T := by
  funext i
  unfold ln kd
  rw [h7, h1]
theorem kd_eq {T T2 : St} (h7 : T2.1 7 = T.1 7) : kd T2 = kd T := by
  funext i
  unfold kd
  rw [h7]
theorem PL_eq {T T2 : St} {n : Nat} (h1 : T2.1 1 = T.1 1) (h6 : T2.1 6 = T.1 6) (h7 : T2.1 7 = T.1 7) (h8 : T2.1 8 = T.1 8) (h9 : T2.1 9 = T.1 9) (a0 : T2.1 0 0 = T.1 0 0) (a3 : T2.1 0 3 = T.1 0 3) (a8 : T2.1 0 8 = T.1 0 8) (a11 : T2.1 0 11 = T.1 0 11) (a12 : T2.1 0 12 = T.1 0 12) (h : PL T n) : PL T2 n := by
  unfold PL at h ⊢
  rw [ln_eq h7 h1, kd_eq h7, h6, h7, h8, h9, a0, a3, a8, a11, a12]
  exact h
/-- the reference's own mark of what was thrown is nobody's -/
theorem R_thrown {S T : St} (v : Int32) (h : math_R S T) : math_R S (wr T 0 28 v) := by
  have hr : ∀ c, c ≠ 0 → (wr T 0 28 v).1 c = T.1 c := fun c hc => z_wr_row hc
  have h0 : ∀ j, j ≠ 28 → (wr T 0 28 v).1 0 j = T.1 0 j := fun j hj => z_wr_oth hj
  obtain ⟨hK, hH, hA, hW, hP⟩ := h
  unfold math_R RK RH RA RW RP
  rw [hr 1 (by omega), hr 2 (by omega), hr 3 (by omega), hr 4 (by omega), hr 5 (by omega), hr 6 (by omega), hr 7 (by omega), hr 8 (by omega), hr 9 (by omega), hr 10 (by omega), hr 11 (by omega), hr 12 (by omega), h0 0 (by omega), h0 3 (by omega), h0 8 (by omega), h0 9 (by omega), h0 10 (by omega), h0 11 (by omega), h0 12 (by omega), h0 13 (by omega), h0 14 (by omega), h0 15 (by omega), h0 16 (by omega), h0 17 (by omega), h0 18 (by omega), h0 19 (by omega), h0 26 (by omega), h0 27 (by omega)]
  refine ⟨hK, hH, hA, ⟨fun j hj => by rw [h0 (8 + j) (by omega)]; exact hW.1 j hj, hW.2⟩, hP.1, hP.2.1, hP.2.2.1, hP.2.2.2.1, hP.2.2.2.2.1, hP.2.2.2.2.2.1, hP.2.2.2.2.2.2.1, fun hn => ?_, hP.2.2.2.2.2.2.2.2⟩
  obtain ⟨h1, h2⟩ := hP.2.2.2.2.2.2.2.1 hn
  exact ⟨PL_eq (hr 1 (by omega)) (hr 6 (by omega)) (hr 7 (by omega)) (hr 8 (by omega)) (hr 9 (by omega)) (h0 0 (by omega)) (h0 3 (by omega)) (h0 8 (by omega)) (h0 11 (by omega)) (h0 12 (by omega)) h1, h2⟩
