/-! the least toil: sums, and why prices show that a way of taking is the least -/
def sj (act : Nat → Bool) (f : Nat → Int) : Nat → Int
  | 0 => 0
  | i + 1 => sj act f i + (if act i = true then f i else 0)
def sx (f : Nat → Int) : Nat → Int
  | 0 => 0
  | n + 1 => sx f n + f n
theorem sj_succ (act : Nat → Bool) (f : Nat → Int) (i : Nat) : sj act f (i + 1) = sj act f i + (if act i = true then f i else 0) := rfl
theorem sx_succ (f : Nat → Int) (n : Nat) : sx f (n + 1) = sx f n + f n := rfl
theorem sj_le {act : Nat → Bool} {f g : Nat → Int} : ∀ {i : Nat}, (∀ j, j < i → act j = true → f j ≤ g j) → sj act f i ≤ sj act g i := by
  intro i
  induction i with
  | zero => intro _; exact Int.le_refl _
  | succ i ih =>
    intro h
    have h1 := ih (fun j hj => h j (by omega))
    rw [sj_succ, sj_succ]
    by_cases e : act i = true
    · have h2 := h i (by omega) e
      rw [if_pos e, if_pos e]
      omega
    · rw [if_neg e, if_neg e]
      omega
theorem sj_eq {act : Nat → Bool} {f g : Nat → Int} {i : Nat} (h : ∀ j, j < i → act j = true → f j = g j) : sj act f i = sj act g i := by
  have h1 := sj_le (i := i) (fun j hj ha => Int.le_of_eq (h j hj ha))
  have h2 := sj_le (i := i) (fun j hj ha => Int.le_of_eq (h j hj ha).symm)
  omega
theorem sj_add (act : Nat → Bool) (f g : Nat → Int) (i : Nat) : sj act (fun j => f j + g j) i = sj act f i + sj act g i := by
  induction i with
  | zero => rfl
  | succ i ih =>
    rw [sj_succ, sj_succ, sj_succ, ih]
    by_cases e : act i = true
    · rw [if_pos e, if_pos e, if_pos e]; omega
    · rw [if_neg e, if_neg e, if_neg e]; omega
theorem sj_mul (act : Nat → Bool) (c : Int) (f : Nat → Int) (i : Nat) : sj act (fun j => c * f j) i = c * sj act f i := by
  induction i with
  | zero => exact (Int.mul_zero c).symm
  | succ i ih =>
    rw [sj_succ, sj_succ, ih, Int.mul_add]
    by_cases e : act i = true
    · rw [if_pos e, if_pos e]
    · rw [if_neg e, if_neg e, Int.mul_zero]
theorem sx_le {f g : Nat → Int} : ∀ {n : Nat}, (∀ x, x < n → f x ≤ g x) → sx f n ≤ sx g n := by
  intro n
  induction n with
  | zero => intro _; exact Int.le_refl _
  | succ n ih =>
    intro h
    have h1 := ih (fun x hx => h x (by omega))
    have h2 := h n (by omega)
    rw [sx_succ, sx_succ]
    omega
theorem sx_eq {f g : Nat → Int} {n : Nat} (h : ∀ x, x < n → f x = g x) : sx f n = sx g n := by
  have h1 := sx_le (n := n) (fun x hx => Int.le_of_eq (h x hx))
  have h2 := sx_le (n := n) (fun x hx => Int.le_of_eq (h x hx).symm)
  omega
theorem sx_add (f g : Nat → Int) (n : Nat) : sx (fun x => f x + g x) n = sx f n + sx g n := by
  induction n with
  | zero => rfl
  | succ n ih => rw [sx_succ, sx_succ, sx_succ, ih]; omega
theorem sx_0 (n : Nat) : sx (fun _ => 0) n = 0 := by
  induction n with
  | zero => rfl
  | succ n ih => rw [sx_succ, ih]; rfl
theorem sx_one (P : Nat → Int) (a : Nat) : ∀ n, sx (fun x => P x * (if a = x then 1 else 0)) n = if a < n then P a else 0 := by
  intro n
  induction n with
  | zero => rw [if_neg (by omega)]; rfl
  | succ n ih =>
    rw [sx_succ, ih]
    by_cases e : a = n
    · subst e
      rw [if_neg (by omega), if_pos rfl, if_pos (by omega), Int.mul_one, Int.zero_add]
    · rw [if_neg e, Int.mul_zero, Int.add_zero]
      by_cases h : a < n
      · rw [if_pos h, if_pos (by omega)]
      · rw [if_neg h, if_neg (by omega)]
/-- how many stand at x -/
def nx (act : Nat → Bool) (tk : Nat → Nat) (x i : Nat) : Int := sj act (fun j => if tk j = x then 1 else 0) i
theorem sj_swap {act : Nat → Bool} {tk : Nat → Nat} {n : Nat} (P : Nat → Int) : ∀ {i : Nat}, (∀ j, j < i → act j = true → tk j < n) → sj act (fun j => P (tk j)) i = sx (fun x => P x * nx act tk x i) n := by
  intro i
  induction i with
  | zero =>
    intro _
    have : sx (fun x => P x * nx act tk x 0) n = sx (fun _ => 0) n := sx_eq (fun x _ => Int.mul_zero _)
    rw [this, sx_0]; rfl
  | succ i ih =>
    intro h
    rw [sj_succ, ih (fun j hj => h j (by omega))]
    by_cases e : act i = true
    · rw [if_pos e]
      have h1 : sx (fun x => P x * nx act tk x (i + 1)) n = sx (fun x => P x * nx act tk x i + P x * (if tk i = x then 1 else 0)) n := sx_eq (fun x _ => by
        show P x * (sj act _ (i + 1)) = _
        rw [sj_succ, if_pos e, Int.mul_add]; rfl)
      rw [h1, sx_add, sx_one, if_pos (h i (by omega) e)]
    · rw [if_neg e, Int.add_zero]
      exact sx_eq (fun x _ => by
        show _ = P x * (sj act _ (i + 1))
        rw [sj_succ, if_neg e, Int.add_zero]; rfl)
/-- a way of taking the first i stones, with prices that show it to be the least -/
def Opt (n : Nat) (act : Nat → Bool) (W : Nat → Nat → Int) (cap : Nat → Int) (i : Nat) (tk : Nat → Nat) (P : Nat → Int) : Prop :=
  (∀ j, j < i → act j = true → tk j < n) ∧ (∀ x, x < n → 0 ≤ P x) ∧ (∀ x, x < n → nx act tk x i ≤ cap x) ∧ (∀ x, x < n → 0 < P x → nx act tk x i = cap x) ∧ (∀ j x, j < i → act j = true → x < n → W j (tk j) + P (tk j) ≤ W j x + P x)
theorem Opt_le {n i : Nat} {act : Nat → Bool} {W : Nat → Nat → Int} {cap P : Nat → Int} {tk tk2 : Nat → Nat} (h : Opt n act W cap i tk P) (h1 : ∀ j, j < i → act j = true → tk2 j < n) (h2 : ∀ x, x < n → nx act tk2 x i ≤ cap x) : sj act (fun j => W j (tk j)) i ≤ sj act (fun j => W j (tk2 j)) i := by
  obtain ⟨o1, o2, o3, o4, o5⟩ := h
  have a1 : sj act (fun j => W j (tk j) + P (tk j)) i ≤ sj act (fun j => W j (tk2 j) + P (tk2 j)) i := sj_le (fun j hj ha => o5 j _ hj ha (h1 j hj ha))
  rw [sj_add act (fun j => W j (tk j)) (fun j => P (tk j)), sj_add act (fun j => W j (tk2 j)) (fun j => P (tk2 j)), sj_swap P o1, sj_swap P h1] at a1
  have a2 : sx (fun x => P x * nx act tk2 x i) n ≤ sx (fun x => P x * nx act tk x i) n := sx_le (fun x hx => by
    have p0 := o2 x hx
    by_cases e : 0 < P x
    · have e1 := o4 x hx e
      have e2 := h2 x hx
      exact Int.mul_le_mul_of_nonneg_left (by omega) p0
    · have : P x = 0 := by omega
      rw [this, Int.zero_mul, Int.zero_mul]
      exact Int.le_refl _)
  omega
theorem Opt_eq {n i : Nat} {act : Nat → Bool} {W1 W2 : Nat → Nat → Int} {cap P1 P2 : Nat → Int} {tk1 tk2 : Nat → Nat} (c : Int) (hc : 0 ≤ c) (hW : ∀ j x, j < i → act j = true → x < n → W1 j x = c * W2 j x) (h1 : Opt n act W1 cap i tk1 P1) (h2 : Opt n act W2 cap i tk2 P2) : sj act (fun j => W1 j (tk1 j)) i = c * sj act (fun j => W2 j (tk2 j)) i := by
  have a1 := Opt_le h1 h2.1 h2.2.2.1
  have a2 := Opt_le h2 h1.1 h1.2.2.1
  have e1 : sj act (fun j => W1 j (tk1 j)) i = c * sj act (fun j => W2 j (tk1 j)) i := by
    rw [← sj_mul]
    exact sj_eq (fun j hj ha => hW j _ hj ha (h1.1 j hj ha))
  have e2 : sj act (fun j => W1 j (tk2 j)) i = c * sj act (fun j => W2 j (tk2 j)) i := by
    rw [← sj_mul]
    exact sj_eq (fun j hj ha => hW j _ hj ha (h2.1 j hj ha))
  have a3 := Int.mul_le_mul_of_nonneg_left a2 hc
  omega
/-- one place of a row changed -/
def up1 {α : Type} (f : Nat → α) (i : Nat) (v : α) : Nat → α := fun j => if j = i then v else f j
theorem up1_eq {α : Type} {f : Nat → α} {i : Nat} {v : α} : up1 f i v i = v := if_pos rfl
theorem up1_ne {α : Type} {f : Nat → α} {i j : Nat} {v : α} (h : j ≠ i) : up1 f i v j = f j := if_neg h
theorem sj_up {act : Nat → Bool} {tk : Nat → Nat} {j h : Nat} (F : Nat → Nat → Int) (ha : act j = true) : ∀ {i : Nat}, j < i → sj act (fun l => F l (up1 tk j h l)) i = sj act (fun l => F l (tk l)) i + F j h - F j (tk j) := by
  intro i
  induction i with
  | zero => intro h; omega
  | succ i ih =>
    intro hj
    rw [sj_succ, sj_succ]
    by_cases e : j = i
    · subst e
      have e1 : sj act (fun l => F l (up1 tk j h l)) j = sj act (fun l => F l (tk l)) j := sj_eq (fun l hl _ => by
        show F l (up1 tk j h l) = F l (tk l)
        rw [up1_ne (by omega)])
      rw [e1, if_pos ha, if_pos ha, up1_eq]
      omega
    · rw [ih (by omega), up1_ne (fun h => e h.symm)]
      omega
theorem nx_up {act : Nat → Bool} {tk : Nat → Nat} {j h i : Nat} (x : Nat) (ha : act j = true) (hj : j < i) : nx act (up1 tk j h) x i = nx act tk x i + (if h = x then 1 else 0) - (if tk j = x then 1 else 0) := sj_up (fun _ t => if t = x then 1 else 0) ha hj
theorem nx_succ (act : Nat → Bool) (tk : Nat → Nat) (x i : Nat) : nx act tk x (i + 1) = nx act tk x i + (if act i = true then (if tk i = x then 1 else 0) else 0) := rfl
theorem nx_eq {act : Nat → Bool} {tk tk2 : Nat → Nat} {x i : Nat} (h : ∀ j, j < i → act j = true → tk j = tk2 j) : nx act tk x i = nx act tk2 x i := sj_eq (fun j hj ha => by
  show (if tk j = x then (1 : Int) else 0) = (if tk2 j = x then 1 else 0)
  rw [h j hj ha])
theorem nx_pos (act : Nat → Bool) (tk : Nat → Nat) (x i : Nat) : 0 ≤ nx act tk x i := by
  induction i with
  | zero => exact Int.le_refl _
  | succ i ih =>
    rw [nx_succ]
    by_cases e : act i = true
    · rw [if_pos e]
      by_cases e2 : tk i = x
      · rw [if_pos e2]; omega
      · rw [if_neg e2]; omega
    · rw [if_neg e]; omega
theorem Opt_0 {n : Nat} {act : Nat → Bool} {W : Nat → Nat → Int} {cap : Nat → Int} {tk : Nat → Nat} (hc : ∀ x, x < n → 0 ≤ cap x) : Opt n act W cap 0 tk (fun _ => 0) :=
  ⟨fun j hj => absurd hj (by omega), fun _ _ => Int.le_refl _, hc, fun _ _ h => absurd h (Int.lt_irrefl 0), fun j _ hj => absurd hj (by omega)⟩
theorem Opt_skip {n i : Nat} {act : Nat → Bool} {W : Nat → Nat → Int} {cap P : Nat → Int} {tk : Nat → Nat} (ha : ¬ act i = true) (h : Opt n act W cap i tk P) : Opt n act W cap (i + 1) tk P := by
  obtain ⟨o1, o2, o3, o4, o5⟩ := h
  have e : ∀ x, nx act tk x (i + 1) = nx act tk x i := fun x => by rw [nx_succ, if_neg ha, Int.add_zero]
  refine ⟨fun j hj hb => ?_, o2, fun x hx => by rw [e]; exact o3 x hx, fun x hx hp => by rw [e]; exact o4 x hx hp, fun j x hj hb hx => ?_⟩
  · by_cases ej : j = i
    · subst ej; exact absurd hb ha
    · exact o1 j (by omega) hb
  · by_cases ej : j = i
    · subst ej; exact absurd hb ha
    · exact o5 j x (by omega) hb hx
/-- somewhere one is left -/
theorem Opt_room {n i : Nat} {act : Nat → Bool} {W : Nat → Nat → Int} {cap P : Nat → Int} {tk : Nat → Nat} (h : Opt n act W cap i tk P) (hc : sj act (fun _ => 1) i < sx cap n) : ∃ x, x < n ∧ nx act tk x i < cap x := by
  apply Classical.byContradiction
  intro hno
  have h1 : sx cap n ≤ sx (fun x => 1 * nx act tk x i) n := sx_le (fun x hx => by
    have : ¬ nx act tk x i < cap x := fun h => hno ⟨x, hx, h⟩
    show _ ≤ 1 * _
    omega)
  rw [← sj_swap (fun _ => 1) h.1] at h1
  omega
