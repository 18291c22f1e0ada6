/-! the shortest chains -/
abbrev kl (d P : Nat → Int) (q : Nat → Nat) (a b : Nat) : Prop := d a + P a < d b + P b ∨ (d a + P a = d b + P b ∧ q a < q b)
/-- what holds in round m of the search for chains; dn: what was tried in this round; u: the round of the latest change; q: its hour -/
def BF (n i : Nat) (act : Nat → Bool) (W : Nat → Nat → Int) (tk : Nat → Nat) (P Wi : Nat → Int) (m : Nat) (dn : Nat → Nat → Prop) (d : Nat → Int) (fr : Nat → Option Nat) (u q : Nat → Nat) : Prop :=
  (∀ b, b < n → d b ≤ Wi b) ∧ (∀ b, b < n → fr b = none → u b = 0 ∧ d b = Wi b) ∧
  (∀ b j, b < n → fr b = some j → j < i ∧ act j = true ∧ d (tk j) + W j b - W j (tk j) ≤ d b ∧ u b ≤ u (tk j) + 1 ∧ kl d P q (tk j) b) ∧
  (∀ j b, j < i → act j = true → b < n → d b ≤ d (tk j) + W j b - W j (tk j) ∨ (m ≤ u (tk j) + 1 ∧ (dn j b → m ≤ u (tk j)))) ∧ (∀ b, b < n → u b ≤ m)
theorem BF_0 {n i : Nat} {act : Nat → Bool} {W : Nat → Nat → Int} {tk : Nat → Nat} {P Wi d : Nat → Int} {fr : Nat → Option Nat} (hd : ∀ b, b < n → d b = Wi b) (hf : ∀ b, b < n → fr b = none) : BF n i act W tk P Wi 1 (fun _ _ => False) d fr (fun _ => 0) (fun _ => 0) :=
  ⟨fun b hb => Int.le_of_eq (hd b hb), fun b hb _ => ⟨rfl, hd b hb⟩, fun b j hb h => by rw [hf b hb] at h; exact absurd h (by simp), fun _ _ _ _ _ => Or.inr ⟨Nat.le_refl _, fun h => h.elim⟩, fun _ _ => Nat.zero_le _⟩
theorem BF_next {n i m : Nat} {act : Nat → Bool} {W : Nat → Nat → Int} {tk : Nat → Nat} {P Wi d : Nat → Int} {fr : Nat → Option Nat} {u q : Nat → Nat} {dn : Nat → Nat → Prop} (hall : ∀ j b, j < i → act j = true → b < n → dn j b) (h : BF n i act W tk P Wi m dn d fr u q) : BF n i act W tk P Wi (m + 1) (fun _ _ => False) d fr u q := by
  obtain ⟨h1, h2, h3, h4, h5⟩ := h
  refine ⟨h1, h2, h3, fun j b hj ha hb => ?_, fun b hb => by have := h5 b hb; omega⟩
  rcases h4 j b hj ha hb with h | ⟨h, h'⟩
  · exact Or.inl h
  · have := h' (hall j b hj ha hb)
    exact Or.inr ⟨by omega, fun h => h.elim⟩
theorem BF_no {n i m : Nat} {act : Nat → Bool} {W : Nat → Nat → Int} {tk : Nat → Nat} {P Wi d : Nat → Int} {fr : Nat → Option Nat} {u q : Nat → Nat} {dn dn2 : Nat → Nat → Prop} (h : BF n i act W tk P Wi m dn d fr u q) (hd : ∀ j b, j < i → act j = true → b < n → dn2 j b → dn j b ∨ d b ≤ d (tk j) + W j b - W j (tk j)) : BF n i act W tk P Wi m dn2 d fr u q := by
  obtain ⟨h1, h2, h3, h4, h5⟩ := h
  refine ⟨h1, h2, h3, fun j b hj ha hb => ?_, h5⟩
  rcases h4 j b hj ha hb with h | ⟨h, h'⟩
  · exact Or.inl h
  · by_cases e : d b ≤ d (tk j) + W j b - W j (tk j)
    · exact Or.inl e
    · refine Or.inr ⟨h, fun hx => ?_⟩
      rcases hd j b hj ha hb hx with h6 | h6
      · exact h' h6
      · exact absurd h6 e
theorem q_top (q : Nat → Nat) : ∀ n, ∃ M, ∀ x, x < n → q x < M := by
  intro n
  induction n with
  | zero => exact ⟨0, fun x hx => absurd hx (by omega)⟩
  | succ n ih =>
    obtain ⟨M, hM⟩ := ih
    refine ⟨M + q n + 1, fun x hx => ?_⟩
    by_cases e : x = n
    · subst e; omega
    · have := hM x (by omega)
      omega
theorem BF_up {n i m j0 b0 : Nat} {act : Nat → Bool} {W : Nat → Nat → Int} {tk : Nat → Nat} {cap P Wi d : Nat → Int} {fr : Nat → Option Nat} {u q : Nat → Nat} {dn dn2 : Nat → Nat → Prop} (hO : Opt n act W cap i tk P) (h : BF n i act W tk P Wi m dn d fr u q) (hj0 : j0 < i) (ha0 : act j0 = true) (hb0 : b0 < n) (hlt : d (tk j0) + W j0 b0 - W j0 (tk j0) < d b0)
    (hd : ∀ j b, j < i → act j = true → b < n → dn2 j b → dn j b ∨ (tk j = tk j0 ∧ b = b0 ∧ W j0 b0 - W j0 (tk j0) ≤ W j b0 - W j (tk j0))) : ∃ u2 q2, BF n i act W tk P Wi m dn2 (up1 d b0 (d (tk j0) + W j0 b0 - W j0 (tk j0))) (up1 fr b0 (some j0)) u2 q2 ∧ u2 b0 = m := by
  obtain ⟨h1, h2, h3, h4, h5⟩ := h
  obtain ⟨o1, o2, o3, o4, o5⟩ := hO
  obtain ⟨M, hM⟩ := q_top q n
  obtain ⟨a0, ea0⟩ : ∃ a0, a0 = tk j0 := ⟨_, rfl⟩
  have han : a0 < n := by rw [ea0]; exact o1 j0 hj0 ha0
  obtain ⟨v, hv⟩ : ∃ v, v = d (tk j0) + W j0 b0 - W j0 (tk j0) := ⟨_, rfl⟩
  rw [← hv] at hlt ⊢
  rw [← ea0] at hv hd
  have hne : a0 ≠ b0 := by
    intro e
    rw [e] at hv
    omega
  have hu : m ≤ u a0 + 1 := by
    rcases h4 j0 b0 hj0 ha0 hb0 with h | ⟨h, _⟩
    · rw [← ea0] at h; omega
    · rw [ea0]; exact h
  have hcs := o5 j0 b0 hj0 ha0 hb0
  rw [← ea0] at hcs
  refine ⟨up1 u b0 m, up1 q b0 M, ⟨?_, ?_, ?_, ?_, ?_⟩, up1_eq⟩
  · intro b hb
    by_cases e : b = b0
    · rw [e, up1_eq]; have := h1 b0 hb0; omega
    · rw [up1_ne e]; exact h1 b hb
  · intro b hb hf
    by_cases e : b = b0
    · rw [e, up1_eq] at hf; exact absurd hf (by simp)
    · rw [up1_ne e] at hf ⊢
      rw [up1_ne e]
      exact h2 b hb hf
  · intro b j hb hf
    by_cases e : b = b0
    · rw [e, up1_eq] at hf
      have : j0 = j := Option.some.inj hf
      subst this
      rw [e]
      unfold kl
      rw [← ea0, up1_eq, up1_eq, up1_eq, up1_ne hne, up1_ne hne, up1_ne hne]
      have hq := hM a0 han
      refine ⟨hj0, ha0, by omega, hu, ?_⟩
      by_cases e2 : d a0 + P a0 < v + P b0
      · exact Or.inl e2
      · exact Or.inr ⟨by omega, hq⟩
    · rw [up1_ne e] at hf
      obtain ⟨c1, c2, c3, c4, c5⟩ := h3 b j hb hf
      unfold kl at c5 ⊢
      rw [up1_ne e, up1_ne e, up1_ne e]
      by_cases e2 : tk j = b0
      · rw [e2] at c3 c4 c5 ⊢
        have := h5 b0 hb0
        rw [up1_eq, up1_eq, up1_eq]
        exact ⟨c1, c2, by omega, by omega, Or.inl (by rcases c5 with c5 | c5 <;> omega)⟩
      · rw [up1_ne e2, up1_ne e2, up1_ne e2]
        exact ⟨c1, c2, c3, c4, c5⟩
  · intro j b hj ha hb
    by_cases e2 : tk j = b0
    · rw [e2, up1_eq, up1_eq]
      exact Or.inr ⟨by omega, fun _ => Nat.le_refl _⟩
    · rw [up1_ne e2, up1_ne e2]
      by_cases e : b = b0
      · subst e
        rw [up1_eq]
        by_cases e3 : v ≤ d (tk j) + W j b - W j (tk j)
        · exact Or.inl e3
        · rcases h4 j b hj ha hb with h | ⟨h, h'⟩
          · exact absurd (by omega) e3
          · refine Or.inr ⟨h, fun hx => ?_⟩
            rcases hd j b hj ha hb hx with h6 | ⟨h6, _, h7⟩
            · exact h' h6
            · rw [h6] at e3
              exact absurd (by omega) e3
      · rw [up1_ne e]
        rcases h4 j b hj ha hb with h | ⟨h, h'⟩
        · exact Or.inl h
        · refine Or.inr ⟨h, fun hx => ?_⟩
          rcases hd j b hj ha hb hx with h6 | ⟨_, h6, _⟩
          · exact h' h6
          · exact absurd h6 e
  · intro b hb
    by_cases e : b = b0
    · rw [e, up1_eq]; exact Nat.le_refl _
    · rw [up1_ne e]; exact h5 b hb
theorem cB_lt {f g : Nat → Bool} {a : Nat} : ∀ {n : Nat}, a < n → (∀ x, x < n → f x = true → g x = true) → f a = false → g a = true → cB f n < cB g n := by
  intro n
  induction n with
  | zero => intro h; omega
  | succ n ih =>
    intro h1 h2 h3 h4
    rw [cB_succ, cB_succ]
    by_cases e : a = n
    · subst e
      rw [h3, h4, if_neg (by simp), if_pos rfl]
      have : ∀ m, m ≤ a → cB f m ≤ cB g m := by
        intro m
        induction m with
        | zero => intro _; exact Nat.le_refl _
        | succ m ihm =>
          intro hm
          have i1 := ihm (by omega)
          have i2 := h2 m (by omega)
          rw [cB_succ, cB_succ]
          by_cases ef : f m = true
          · rw [if_pos ef, if_pos (i2 ef)]; omega
          · rw [if_neg ef]; omega
      have := this a (Nat.le_refl _)
      omega
    · have i1 := ih (by omega) (fun x hx => h2 x (by omega)) h3 h4
      have i2 := h2 n (by omega)
      by_cases ef : f n = true
      · rw [if_pos ef, if_pos (i2 ef)]; omega
      · rw [if_neg ef]; omega
theorem BF_rank {n i m : Nat} {act : Nat → Bool} {W : Nat → Nat → Int} {tk : Nat → Nat} {P Wi d : Nat → Int} {fr : Nat → Option Nat} {u q : Nat → Nat} {dn : Nat → Nat → Prop} (htk : ∀ j, j < i → act j = true → tk j < n) (h : BF n i act W tk P Wi m dn d fr u q) : ∃ R : Nat → Nat, (∀ b, b < n → R b < n) ∧ (∀ b j, b < n → fr b = some j → R (tk j) < R b) ∧ (∀ b, b < n → u b ≤ R b) := by
  obtain ⟨h1, h2, h3, h4, h5⟩ := h
  obtain ⟨R, hR⟩ : ∃ R : Nat → Nat, R = fun b => cB (fun x => decide (kl d P q x b)) n := ⟨_, rfl⟩
  have hirr : ∀ b, ¬ kl d P q b b := by
    intro b h
    unfold kl at h
    omega
  have r1 : ∀ b, b < n → R b < n := by
    intro b hb
    rw [hR]
    have h6 : cB (fun x => decide (kl d P q x b)) n < cB (fun _ => true) n := cB_lt (a := b) hb (fun _ _ _ => rfl) (by
      exact decide_eq_false (hirr b)) rfl
    have h7 := cB_le (fun _ => true) n
    show cB _ n < n
    omega
  have r2 : ∀ b j, b < n → fr b = some j → R (tk j) < R b := by
    intro b j hb hf
    obtain ⟨c1, c2, c3, c4, c5⟩ := h3 b j hb hf
    rw [hR]
    refine cB_lt (a := tk j) (htk j c1 c2) (fun x _ hx => ?_) ?_ ?_
    · have hx := of_decide_eq_true hx
      apply decide_eq_true
      unfold kl at c5 hx ⊢
      omega
    · exact decide_eq_false (hirr _)
    · exact decide_eq_true c5
  refine ⟨R, r1, r2, ?_⟩
  have : ∀ r b, b < n → R b ≤ r → u b ≤ R b := by
    intro r
    induction r with
    | zero =>
      intro b hb hr
      cases hf : fr b with
      | none => rw [(h2 b hb hf).1]; exact Nat.zero_le _
      | some j => have := r2 b j hb hf; omega
    | succ r ih =>
      intro b hb hr
      cases hf : fr b with
      | none => rw [(h2 b hb hf).1]; exact Nat.zero_le _
      | some j =>
        have i1 := r2 b j hb hf
        obtain ⟨c1, c2, c3, c4, c5⟩ := h3 b j hb hf
        have i2 := ih (tk j) (htk j c1 c2) (by omega)
        omega
  exact fun b hb => this (R b) b hb (Nat.le_refl _)
/-- the chains are not too cheap -/
theorem BF_low {n i m : Nat} {act : Nat → Bool} {W : Nat → Nat → Int} {tk : Nat → Nat} {P Wi d : Nat → Int} {fr : Nat → Option Nat} {u q : Nat → Nat} {dn : Nat → Nat → Prop} (hn : n ≤ 5) (htk : ∀ j, j < i → act j = true → tk j < n) (hW : ∀ j x, j < i → act j = true → x < n → 0 ≤ W j x ∧ W j x ≤ 20000) (hWi : ∀ x, x < n → 0 ≤ Wi x ∧ Wi x ≤ 20000) (h : BF n i act W tk P Wi m dn d fr u q) : ∀ b, b < n → -100000 ≤ d b ∧ d b ≤ 20000 := by
  obtain ⟨R, r1, r2, -⟩ := BF_rank htk h
  obtain ⟨h1, h2, h3, h4, h5⟩ := h
  have : ∀ r b, b < n → R b ≤ r → -(20000 * (R b : Int)) ≤ d b := by
    intro r
    induction r with
    | zero =>
      intro b hb hr
      cases hf : fr b with
      | none => have := (h2 b hb hf).2; have := hWi b hb; omega
      | some j => have := r2 b j hb hf; omega
    | succ r ih =>
      intro b hb hr
      cases hf : fr b with
      | none => have := (h2 b hb hf).2; have := hWi b hb; omega
      | some j =>
        have i1 := r2 b j hb hf
        obtain ⟨c1, c2, c3, c4, c5⟩ := h3 b j hb hf
        have i2 := ih (tk j) (htk j c1 c2) (by omega)
        have w1 := hW j b c1 c2 hb
        have w2 := hW j (tk j) c1 c2 (htk j c1 c2)
        omega
  intro b hb
  have e1 := this (R b) b hb (Nat.le_refl _)
  have e2 := r1 b hb
  have e3 := h1 b hb
  have e4 := hWi b hb
  omega
/-- what the search for chains ends with -/
def Fx (n i : Nat) (act : Nat → Bool) (W : Nat → Nat → Int) (tk : Nat → Nat) (Wi d : Nat → Int) (fr : Nat → Option Nat) (R : Nat → Nat) : Prop :=
  (∀ b, b < n → d b ≤ Wi b) ∧ (∀ b, b < n → fr b = none → d b = Wi b) ∧ (∀ b j, b < n → fr b = some j → j < i ∧ act j = true ∧ d b = d (tk j) + W j b - W j (tk j) ∧ R (tk j) < R b) ∧ (∀ j b, j < i → act j = true → b < n → d b ≤ d (tk j) + W j b - W j (tk j)) ∧ (∀ b, b < n → R b < n)
theorem BF_fix {n i m : Nat} {act : Nat → Bool} {W : Nat → Nat → Int} {tk : Nat → Nat} {P Wi d : Nat → Int} {fr : Nat → Option Nat} {u q : Nat → Nat} {dn : Nat → Nat → Prop} (htk : ∀ j, j < i → act j = true → tk j < n) (h : BF n i act W tk P Wi m dn d fr u q) (hall : (∀ j b, j < i → act j = true → b < n → d b ≤ d (tk j) + W j b - W j (tk j)) ∨ n < m) : ∃ R, Fx n i act W tk Wi d fr R := by
  obtain ⟨R, r1, r2, r3⟩ := BF_rank htk h
  obtain ⟨h1, h2, h3, h4, h5⟩ := h
  have hfx : ∀ j b, j < i → act j = true → b < n → d b ≤ d (tk j) + W j b - W j (tk j) := by
    intro j b hj ha hb
    rcases hall with hall | hm
    · exact hall j b hj ha hb
    · rcases h4 j b hj ha hb with h | ⟨e1, _⟩
      · exact h
      · have e2 := r3 (tk j) (htk j hj ha)
        have e3 := r1 (tk j) (htk j hj ha)
        omega
  refine ⟨R, h1, fun b hb hf => (h2 b hb hf).2, fun b j hb hf => ?_, hfx, r1⟩
  obtain ⟨c1, c2, c3, c4, c5⟩ := h3 b j hb hf
  have := hfx j b c1 c2 hb
  exact ⟨c1, c2, by omega, r2 b j hb hf⟩
/-- going back along the chain -/
def pm (P d : Nat → Int) (best x : Nat) : Int := if P x ≤ d best - d x then d best - d x else P x
def Wk (n i : Nat) (act : Nat → Bool) (W : Nat → Nat → Int) (tk : Nat → Nat) (P d : Nat → Int) (R : Nat → Nat) (best h : Nat) (tk2 : Nat → Nat) : Prop :=
  h < n ∧ (∀ j, j < i → act j = true → tk2 j < n) ∧ (∀ x, x < n → nx act tk2 x i = nx act tk x i + (if best = x then 1 else 0) - (if h = x then 1 else 0)) ∧ sj act (fun j => W j (tk2 j)) i = sj act (fun j => W j (tk j)) i + d best - d h ∧
  (∀ j x, j < i → act j = true → x < n → W j (tk2 j) + pm P d best (tk2 j) ≤ W j x + pm P d best x) ∧ P h ≤ d best - d h ∧ (∀ j, j < i → act j = true → R (tk j) < R h → tk2 j = tk j)
theorem pm_le (P d : Nat → Int) (best x : Nat) : P x ≤ pm P d best x ∧ d best - d x ≤ pm P d best x := by
  unfold pm
  split <;> omega
theorem pm_or (P d : Nat → Int) (best x : Nat) : pm P d best x = P x ∨ pm P d best x = d best - d x := by
  unfold pm
  split <;> omega
theorem Wk_0 {n i : Nat} {act : Nat → Bool} {W : Nat → Nat → Int} {tk : Nat → Nat} {cap P Wi d : Nat → Int} {fr : Nat → Option Nat} {R : Nat → Nat} {best : Nat} (hO : Opt n act W cap i tk P) (hF : Fx n i act W tk Wi d fr R) (hb : best < n) (hbc : nx act tk best i < cap best) : Wk n i act W tk P d R best best tk := by
  obtain ⟨o1, o2, o3, o4, o5⟩ := hO
  obtain ⟨f1, f2, f3, f4, f5⟩ := hF
  refine ⟨hb, o1, fun x hx => by omega, by omega, fun j x hj ha hx => ?_, ?_, fun _ _ _ _ => rfl⟩
  · have e1 := o5 j x hj ha hx
    have e2 := f4 j x hj ha hx
    have e3 := pm_le P d best x
    rcases pm_or P d best (tk j) with e | e <;> omega
  · have p0 := o2 best hb
    by_cases e : 0 < P best
    · have := o4 best hb e
      omega
    · omega
theorem Wk_step {n i h j : Nat} {act : Nat → Bool} {W : Nat → Nat → Int} {tk tk2 : Nat → Nat} {cap P Wi d : Nat → Int} {fr : Nat → Option Nat} {R : Nat → Nat} {best : Nat} (hO : Opt n act W cap i tk P) (hF : Fx n i act W tk Wi d fr R) (hw : Wk n i act W tk P d R best h tk2) (hf : fr h = some j) : tk2 j = tk j ∧ Wk n i act W tk P d R best (tk j) (up1 tk2 j h) := by
  obtain ⟨o1, o2, o3, o4, o5⟩ := hO
  obtain ⟨f1, f2, f3, f4, f5⟩ := hF
  obtain ⟨w1, w2, w3, w4, w5, w6, w7⟩ := hw
  obtain ⟨c1, c2, c3, c4⟩ := f3 h j w1 hf
  have e0 := w7 j c1 c2 c4
  refine ⟨e0, o1 j c1 c2, fun l hl ha => ?_, fun x hx => ?_, ?_, fun l x hl ha hx => ?_, ?_, fun l hl ha hr => ?_⟩
  · by_cases e : l = j
    · rw [e, up1_eq]; exact w1
    · rw [up1_ne e]; exact w2 l hl ha
  · rw [nx_up x c2 c1, w3 x hx, e0]
    omega
  · rw [sj_up W c2 c1, w4, e0]
    omega
  · by_cases e : l = j
    · rw [e, up1_eq]
      have e2 := f4 j x c1 c2 hx
      have e3 := pm_le P d best x
      have e4 : pm P d best h = d best - d h := by unfold pm; rw [if_pos w6]
      rw [e4]
      omega
    · rw [up1_ne e]; exact w5 l x hl ha hx
  · have e1 := o5 j h c1 c2 w1
    omega
  · have e : l ≠ j := by
      intro e
      rw [e] at hr
      omega
    rw [up1_ne e]
    exact w7 l hl ha (by omega)
theorem Wk_end {n i h : Nat} {act : Nat → Bool} {W : Nat → Nat → Int} {tk tk2 : Nat → Nat} {cap P d : Nat → Int} {fr : Nat → Option Nat} {R : Nat → Nat} {best : Nat} (hO : Opt n act W cap i tk P) (hF : Fx n i act W tk (W i) d fr R) (hb : best < n) (hbc : nx act tk best i < cap best) (hmin : ∀ x, x < n → nx act tk x i < cap x → d best ≤ d x) (ha : act i = true) (hw : Wk n i act W tk P d R best h tk2) (hf : fr h = none) : Opt n act W cap (i + 1) (up1 tk2 i h) (pm P d best) ∧ sj act (fun j => W j (up1 tk2 i h j)) (i + 1) = sj act (fun j => W j (tk j)) i + d best ∧ (∀ x, x < n → nx act (up1 tk2 i h) x (i + 1) = nx act tk x i + (if best = x then 1 else 0)) := by
  obtain ⟨o1, o2, o3, o4, o5⟩ := id hO
  obtain ⟨f1, f2, f3, f4, f5⟩ := hF
  obtain ⟨w1, w2, w3, w4, w5, w6, w7⟩ := hw
  have hdh := f2 h w1 hf
  have hnx : ∀ x, x < n → nx act (up1 tk2 i h) x (i + 1) = nx act tk x i + (if best = x then 1 else 0) := by
    intro x hx
    rw [nx_succ, if_pos ha, up1_eq, nx_eq (tk2 := tk2) (fun j hj _ => up1_ne (by omega)), w3 x hx]
    omega
  have hpb : P best = 0 := by
    have p0 := o2 best hb
    by_cases e : 0 < P best
    · have := o4 best hb e
      omega
    · omega
  refine ⟨⟨fun j hj hj2 => ?_, fun x hx => ?_, fun x hx => ?_, fun x hx hp => ?_, fun j x hj hj2 hx => ?_⟩, ?_, hnx⟩
  · by_cases e : j = i
    · rw [e, up1_eq]; exact w1
    · rw [up1_ne e]; exact w2 j (by omega) hj2
  · have e1 := pm_le P d best x
    have e2 := o2 x hx
    omega
  · rw [hnx x hx]
    have := o3 x hx
    by_cases e : best = x
    · subst e; rw [if_pos rfl]; omega
    · rw [if_neg e]; omega
  · rw [hnx x hx]
    by_cases e : best = x
    · subst e
      rcases pm_or P d best best with e1 | e1 <;> omega
    · rw [if_neg e]
      have e1 := o3 x hx
      by_cases e2 : nx act tk x i < cap x
      · have e3 := hmin x hx e2
        have e4 := o4 x hx
        rcases pm_or P d best x with e1 | e1
        · have := e4 (by omega)
          omega
        · omega
      · omega
  · by_cases e : j = i
    · rw [e, up1_eq]
      have e3 := pm_le P d best x
      have e4 : pm P d best h = d best - d h := by unfold pm; rw [if_pos w6]
      have e5 := f1 x hx
      rw [e4]
      omega
    · rw [up1_ne e]; exact w5 j x (by omega) hj2 hx
  · rw [sj_succ, if_pos ha, up1_eq]
    have : sj act (fun j => W j (up1 tk2 i h j)) i = sj act (fun j => W j (tk2 j)) i := sj_eq (fun j hj _ => by
      show W j (up1 tk2 i h j) = W j (tk2 j)
      rw [up1_ne (by omega)])
    rw [this, w4]
    omega
