/-! Chains of promises: what a reference counts as. -/
theorem ch_pig : ∀ (n : Nat) (g : Nat → Nat), (∀ i, i ≤ n → g i < n) → ∃ i j, i < j ∧ j ≤ n ∧ g i = g j
  | 0, g, h => absurd (h 0 (Nat.le_refl _)) (Nat.not_lt_zero _)
  | n + 1, g, h => by
    by_cases hx : ∃ i, i ≤ n ∧ g i = g (n + 1)
    · obtain ⟨i, h1, h2⟩ := hx
      exact ⟨i, n + 1, by omega, Nat.le_refl _, h2⟩
    · have hx' : ∀ i, i ≤ n → g i ≠ g (n + 1) := fun i hi he => hx ⟨i, hi, he⟩
      have hv := h (n + 1) (Nat.le_refl _)
      obtain ⟨i, j, h1, h2, h3⟩ := ch_pig n (fun i => if g i = n then g (n + 1) else g i) (fun i hi => by
        have hi1 := h i (by omega)
        have hi2 := hx' i hi
        show (if g i = n then g (n + 1) else g i) < n
        by_cases hn : g i = n
        · rw [if_pos hn]; omega
        · rw [if_neg hn]; omega)
      refine ⟨i, j, h1, by omega, ?_⟩
      have hi2 := hx' i (by omega)
      have hj2 := hx' j h2
      have h3 : (if g i = n then g (n + 1) else g i) = (if g j = n then g (n + 1) else g j) := h3
      by_cases a : g i = n
      · by_cases b : g j = n
        · omega
        · rw [if_pos a, if_neg b] at h3; exact absurd h3.symm hj2
      · by_cases b : g j = n
        · rw [if_neg a, if_pos b] at h3; exact absurd h3 hi2
        · rw [if_neg a, if_neg b] at h3; exact h3
def ch_it {α : Type} (nx : α → Option α) : Nat → α → α
  | 0, r => r
  | f + 1, r => match nx r with
    | none => r
    | some a => ch_it nx f a
theorem ch_it_stop {α : Type} {nx : α → Option α} : ∀ (f : Nat) {r : α}, nx r = none → ch_it nx f r = r
  | 0, _, _ => rfl
  | f + 1, r, h => by simp only [ch_it, h]
theorem ch_it_add {α : Type} {nx : α → Option α} : ∀ (f g : Nat) (r : α), ch_it nx (f + g) r = ch_it nx g (ch_it nx f r)
  | 0, g, r => by rw [Nat.zero_add]; rfl
  | f + 1, g, r => by
    rw [show f + 1 + g = (f + g) + 1 by omega]
    cases h : nx r with
    | none => simp only [ch_it, h]; exact (ch_it_stop g h).symm
    | some a => simp only [ch_it, h]; exact ch_it_add f g a
/-- it ends somewhere -/
def ch_fin {α : Type} (nx : α → Option α) (r : α) : Prop := ∃ f, nx (ch_it nx f r) = none
/-- then it ends within as many steps as there are numbers -/
theorem ch_bound {α : Type} {nx : α → Option α} {N : Nat} (num : α → Nat) (hnum : ∀ r a, nx r = some a → num r < N) (hinj : ∀ r a r' a', nx r = some a → nx r' = some a' → num r = num r' → r = r') {r : α} (hf : ch_fin nx r) : nx (ch_it nx N r) = none := by
  cases hN : nx (ch_it nx N r) with
  | none => rfl
  | some a0 =>
    exfalso
    have hall : ∀ i, i ≤ N → ∃ a, nx (ch_it nx i r) = some a := by
      intro i hi
      cases h : nx (ch_it nx i r) with
      | some a => exact ⟨a, rfl⟩
      | none =>
        have := ch_it_add (nx := nx) i (N - i) r
        rw [show i + (N - i) = N by omega, ch_it_stop _ h] at this
        rw [this, h] at hN
        cases hN
    obtain ⟨i, j, h1, h2, h3⟩ := ch_pig N (fun i => num (ch_it nx i r)) (fun i hi => by
      obtain ⟨a, ha⟩ := hall i hi
      exact hnum _ a ha)
    obtain ⟨a, ha⟩ := hall i (by omega)
    obtain ⟨b, hb⟩ := hall j h2
    have heq : ch_it nx i r = ch_it nx j r := hinj _ a _ b ha hb h3
    have hper : ∀ m, ch_it nx (i + m * (j - i)) r = ch_it nx i r := by
      intro m
      induction m with
      | zero => rw [Nat.zero_mul, Nat.add_zero]
      | succ m ih =>
        rw [show i + (m + 1) * (j - i) = (i + m * (j - i)) + (j - i) by rw [Nat.succ_mul]; omega, ch_it_add, ih, ← ch_it_add, show i + (j - i) = j by omega, heq]
    obtain ⟨f, hf⟩ := hf
    have h4 : f ≤ i + f * (j - i) := by
      have : f * 1 ≤ f * (j - i) := Nat.mul_le_mul_left f (by omega)
      omega
    have h5 := ch_it_add (nx := nx) f (i + f * (j - i) - f) r
    rw [show f + (i + f * (j - i) - f) = i + f * (j - i) by omega, hper, ch_it_stop _ hf] at h5
    rw [← h5, ha] at hf
    cases hf
/-- an end is an end, whatever the number of steps -/
theorem ch_same {α : Type} {nx : α → Option α} {f g : Nat} {r : α} (hf : nx (ch_it nx f r) = none) (hg : nx (ch_it nx g r) = none) : ch_it nx f r = ch_it nx g r := by
  rcases Nat.le_total f g with h | h
  · have := ch_it_add (nx := nx) f (g - f) r
    rw [show f + (g - f) = g by omega, ch_it_stop _ hf] at this
    exact this.symm
  · have := ch_it_add (nx := nx) g (f - g) r
    rw [show g + (f - g) = f by omega, ch_it_stop _ hg] at this
    exact this
