/-! What references count as, of both sides: a promise j counts as ph j. -/
def can (ph : Nat → Rf) (r : Rf) : Rf := if r.1 = 3 then ph r.2.toNatClampNeg else r
def vR (k : Nat) (r : Rf) : Prop := r.1 = 3 → ∃ j, j < k ∧ r.2 = nI j
def CH (k : Nat) (ph : Nat → Rf) (ans : Nat → Option Rf) : Prop :=
  (∀ j, j < k → ans j = none → ph j = (3, nI j)) ∧ (∀ j a, j < k → ans j = some a → ph j = can ph a ∧ vR k a) ∧ ∃ rk : Nat → Nat, ∀ j a, j < k → ans j = some a → a.1 = 3 → rk a.2.toNatClampNeg < rk j
theorem can_p {ph : Nat → Rf} {j : Nat} (hj : j < 2 ^ 31) : can ph (3, nI j) = ph j := by
  unfold can
  rw [if_pos rfl]
  show ph (nI j).toNatClampNeg = ph j
  rw [nI_clamp hj]
theorem can_n {ph : Nat → Rf} {r : Rf} (h : ¬ r.1 = 3) : can ph r = r := by unfold can; rw [if_neg h]
theorem vR_eq {k : Nat} {r : Rf} (hv : vR k r) (h : r.1 = 3) : ∃ j, j < k ∧ r = (3, nI j) := by
  obtain ⟨j, hj, h2⟩ := hv h
  exact ⟨j, hj, Prod.ext h h2⟩
theorem nxR_p {k : Nat} {ms : Nat → Ms} {j : Nat} (hk : k ≤ 200) (hj : j < k) : nxR k ms (3, nI j) = mN (ms j) := by
  unfold nxR
  rw [if_pos rfl]
  show (match ixO k (nI j) with | some j => mN (ms j) | none => none) = _
  rw [ixO_some (by omega) hj]
theorem ch_walk {k : Nat} {ph : Nat → Rf} {ms : Nat → Ms} (h : CH k ph (fun j => mN (ms j))) (hk : k ≤ 200) : ∃ rk : Nat → Nat, ∀ N j, j < k → rk j < N → ∃ f, nxR k ms (ch_it (nxR k ms) f (3, nI j)) = none ∧ ch_it (nxR k ms) f (3, nI j) = ph j := by
  obtain ⟨h1, h2, rk, h3⟩ := h
  refine ⟨rk, fun N => ?_⟩
  induction N with
  | zero => intro j _ h; exact absurd h (Nat.not_lt_zero _)
  | succ N ih =>
    intro j hj hr
    cases ha : mN (ms j) with
    | none => exact ⟨0, by show nxR k ms (3, nI j) = none; rw [nxR_p hk hj]; exact ha, (h1 j hj ha).symm⟩
    | some a =>
      have hnx : nxR k ms (3, nI j) = some a := by rw [nxR_p hk hj]; exact ha
      obtain ⟨e1, e2⟩ := h2 j a hj ha
      by_cases h3a : a.1 = 3
      · obtain ⟨i, hi, rfl⟩ := vR_eq e2 h3a
        have hlt := h3 j _ hj ha rfl
        have hlt : rk i < rk j := by
          have e : (nI i).toNatClampNeg = i := nI_clamp (by omega)
          rw [show ((3, nI i) : Rf).2.toNatClampNeg = i from e] at hlt
          exact hlt
        obtain ⟨f, g1, g2⟩ := ih i hi (by omega)
        refine ⟨f + 1, ?_, ?_⟩
        · simp only [ch_it, hnx]; exact g1
        · simp only [ch_it, hnx]; rw [g2, e1, can_p (by omega)]
      · have hst : nxR k ms a = none := by unfold nxR; rw [if_neg h3a]
        refine ⟨1, ?_, ?_⟩
        · simp only [ch_it, hnx]; exact hst
        · simp only [ch_it, hnx]; rw [e1, can_n h3a]
theorem nxR_lt {k : Nat} {ms : Nat → Ms} (hk : k ≤ 200) {r a : Rf} (h : nxR k ms r = some a) : ∃ j, j < k ∧ r = (3, nI j) := by
  unfold nxR at h
  by_cases h3 : r.1 = 3
  · rw [if_pos h3] at h
    cases hx : ixO k r.2 with
    | none => rw [hx] at h; cases h
    | some j =>
      obtain ⟨hj, e⟩ := ixO_lt (by omega) hx
      exact ⟨j, hj, Prod.ext h3 e⟩
  · rw [if_neg h3] at h; cases h
/-- the class's countsAs is can -/
theorem cnt_can {s : St} {ph : Nat → Rf} (h : CH (sK s) ph (fun j => mN (sM s j))) (hk : sK s ≤ 200) {r : Rf} (hv : vR (sK s) r) : cnt s r = can ph r := by
  unfold cnt
  by_cases h3 : r.1 = 3
  · obtain ⟨j, hj, rfl⟩ := vR_eq hv h3
    obtain ⟨rk, hw⟩ := ch_walk h hk
    obtain ⟨f, g1, g2⟩ := hw (rk j + 1) j hj (Nat.lt_succ_self _)
    have hb : nxR (sK s) (sM s) (ch_it (nxR (sK s) (sM s)) 200 (3, nI j)) = none := by
      refine ch_bound (N := 200) (fun r => r.2.toNatClampNeg) (fun r a hr => ?_) (fun r a r' a' hr hr' he => ?_) ⟨f, g1⟩
      · obtain ⟨i, hi, rfl⟩ := nxR_lt hk hr
        show (nI i).toNatClampNeg < 200
        rw [nI_clamp (by omega)]; omega
      · obtain ⟨i, hi, rfl⟩ := nxR_lt hk hr
        obtain ⟨i', hi', rfl⟩ := nxR_lt hk hr'
        have he : (nI i).toNatClampNeg = (nI i').toNatClampNeg := he
        rw [nI_clamp (by omega), nI_clamp (by omega)] at he
        rw [he]
    rw [ch_same hb g1, g2, can_p (by omega)]
  · rw [ch_it_stop _ (by unfold nxR; rw [if_neg h3]), can_n h3]
/-- after j has been resolved to what counts as x -/
def phS (ph : Nat → Rf) (j : Nat) (x : Rf) : Nat → Rf := fun i => if ph i = (3, nI j) then x else ph i
theorem can_phS {ph : Nat → Rf} {j k : Nat} {x r : Rf} (hk : k ≤ 200) (hj : j < k) (hx : ph j = (3, nI j)) (hv : vR k r) : can (phS ph j x) r = if can ph r = (3, nI j) then x else can ph r := by
  by_cases h3 : r.1 = 3
  · obtain ⟨i, hi, rfl⟩ := vR_eq hv h3
    rw [can_p (by omega), can_p (by omega)]
    rfl
  · rw [can_n h3, can_n h3, if_neg (fun e => h3 (by rw [e]))]
theorem CH.settle {k : Nat} {ph : Nat → Rf} {ans : Nat → Option Rf} (h : CH k ph ans) (hk : k ≤ 200) {j : Nat} {a : Rf} (hj : j < k) (hn : ans j = none) (hv : vR k a) (hc : can ph a ≠ (3, nI j)) : CH k (phS ph j (can ph a)) (va_up ans j (some a)) := by
  obtain ⟨h1, h2, rk, h3⟩ := h
  have hpj := h1 j hj hn
  have nIj : ∀ i, i < k → nI i = nI j → i = j := fun i hi e => (nI_eq (by omega) (by omega)).mp e
  refine ⟨fun i hi hi0 => ?_, fun i b hi hb => ?_, fun i => if ph i = (3, nI j) then rk i + (rk a.2.toNatClampNeg + 1) else rk i, fun i b hi hb hb3 => ?_⟩
  · have hij : i ≠ j := fun e => by subst e; rw [va_up_self] at hi0; cases hi0
    rw [va_up_ne _ _ hij] at hi0
    have := h1 i hi hi0
    unfold phS
    rw [if_neg (by rw [this]; intro e; exact hij (nIj i hi (congrArg Prod.snd e)))]
    exact this
  · by_cases hij : i = j
    · subst hij
      rw [va_up_self] at hb
      cases hb
      refine ⟨?_, hv⟩
      rw [can_phS hk hj hpj hv, if_neg hc]
      unfold phS
      rw [if_pos hpj]
    · rw [va_up_ne _ _ hij] at hb
      obtain ⟨e1, e2⟩ := h2 i b hi hb
      refine ⟨?_, e2⟩
      rw [can_phS hk hj hpj e2, ← e1]
      rfl
  · obtain ⟨i', hi', rfl⟩ : ∃ i', i' < k ∧ b = (3, nI i') := by
      by_cases hij : i = j
      · subst hij; rw [va_up_self] at hb; cases hb; exact vR_eq hv hb3
      · rw [va_up_ne _ _ hij] at hb; exact vR_eq (h2 i b hi hb).2 hb3
    have e : ((3, nI i') : Rf).2.toNatClampNeg = i' := nI_clamp (by omega)
    rw [e]
    by_cases hij : i = j
    · subst hij
      rw [va_up_self] at hb
      cases hb
      have hne : ¬ ph i' = (3, nI i) := fun q => hc (by rw [can_p (by omega)]; exact q)
      show (if ph i' = (3, nI i) then _ else rk i') < (if ph i = (3, nI i) then _ else rk i)
      rw [if_neg hne, if_pos hpj, e]
      omega
    · rw [va_up_ne _ _ hij] at hb
      have hlt := h3 i _ hi hb rfl
      rw [e] at hlt
      have hph := (h2 i _ hi hb).1
      rw [can_p (by omega)] at hph
      show (if ph i' = (3, nI j) then _ else rk i') < (if ph i = (3, nI j) then _ else rk i)
      rw [hph]
      by_cases hq : ph i' = (3, nI j)
      · rw [if_pos hq, if_pos hq]; omega
      · rw [if_neg hq, if_neg hq]; exact hlt
/-- one promise more, open -/
theorem CH.more {k : Nat} {ph : Nat → Rf} {ans : Nat → Option Rf} (h : CH k ph ans) (hk : k < 200) : CH (k + 1) (va_up ph k (3, nI k)) (va_up ans k none) := by
  obtain ⟨h1, h2, rk, h3⟩ := h
  have hcan : ∀ r, vR k r → can (va_up ph k (3, nI k)) r = can ph r := by
    intro r hv
    by_cases h3 : r.1 = 3
    · obtain ⟨i, hi, rfl⟩ := vR_eq hv h3
      rw [can_p (by omega), can_p (by omega), va_up_ne _ _ (by omega)]
    · rw [can_n h3, can_n h3]
  refine ⟨fun i hi hi0 => ?_, fun i b hi hb => ?_, rk, fun i b hi hb hb3 => ?_⟩
  · by_cases hik : i = k
    · subst hik; rw [va_up_self]
    · rw [va_up_ne _ _ hik] at hi0 ⊢; exact h1 i (by omega) hi0
  · have hik : i ≠ k := fun e => by subst e; rw [va_up_self] at hb; cases hb
    rw [va_up_ne _ _ hik] at hb ⊢
    obtain ⟨e1, e2⟩ := h2 i b (by omega) hb
    exact ⟨by rw [hcan b e2]; exact e1, fun z => by obtain ⟨q, hq, e⟩ := e2 z; exact ⟨q, by omega, e⟩⟩
  · have hik : i ≠ k := fun e => by subst e; rw [va_up_self] at hb; cases hb
    rw [va_up_ne _ _ hik] at hb
    exact h3 i b (by omega) hb hb3
