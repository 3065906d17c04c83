/-! The class's objects, by their numbers: a reference is (sort, index); things, messages and lines are records; the heap holds them at the addresses that a configuration c names. -/
abbrev Rf : Type := Int32 × Int32
abbrev rN : Rf := (0, 0)
abbrev rB : Rf := (4, 0)
/-- a thing: kind, home, owner, slots, held, facet, revoked, inward, balance -/
abbrev Th : Type := Int32 × Int32 × Option Nat × (Nat → Rf) × Rf × Option Nat × Int32 × Int32 × Int32
abbrev tK (t : Th) : Int32 := t.1
abbrev tH (t : Th) : Int32 := t.2.1
abbrev tO (t : Th) : Option Nat := t.2.2.1
abbrev tS (t : Th) : Nat → Rf := t.2.2.2.1
abbrev tD (t : Th) : Rf := t.2.2.2.2.1
abbrev tF (t : Th) : Option Nat := t.2.2.2.2.2.1
abbrev tV (t : Th) : Int32 := t.2.2.2.2.2.2.1
abbrev tI (t : Th) : Int32 := t.2.2.2.2.2.2.2.1
abbrev tB (t : Th) : Int32 := t.2.2.2.2.2.2.2.2
/-- a message: verb, target, argument, answer, place, notes -/
abbrev Ms : Type := Int32 × Rf × Rf × Option Rf × Int32 × List Nat
abbrev mV (m : Ms) : Int32 := m.1
abbrev mT (m : Ms) : Rf := m.2.1
abbrev mA (m : Ms) : Rf := m.2.2.1
abbrev mN (m : Ms) : Option Rf := m.2.2.2.1
abbrev mP (m : Ms) : Int32 := m.2.2.2.2.1
abbrev mW (m : Ms) : List Nat := m.2.2.2.2.2
/-- a line: first, last, length -/
abbrev Lf : Type := Option Nat × Option Nat × Int32
/-- the addresses: (the object, nothing, broken, things, sent, queues), things, their slots, messages, their passed, lines (0, 1, 2 the queues; 3 the unrouted; 4 + j those that wait at j) -/
abbrev Cfg : Type := (Nat × Nat × Nat × Nat × Nat × Nat) × (Nat → Nat) × (Nat → Nat) × (Nat → Nat) × (Nat → Nat) × (Nat → Nat)
abbrev cO (c : Cfg) : Nat := c.1.1
abbrev cN (c : Cfg) : Nat := c.1.2.1
abbrev cB (c : Cfg) : Nat := c.1.2.2.1
abbrev cTA (c : Cfg) : Nat := c.1.2.2.2.1
abbrev cMA (c : Cfg) : Nat := c.1.2.2.2.2.1
abbrev cQA (c : Cfg) : Nat := c.1.2.2.2.2.2
abbrev cT (c : Cfg) : Nat → Nat := c.2.1
abbrev cS (c : Cfg) : Nat → Nat := c.2.2.1
abbrev cM (c : Cfg) : Nat → Nat := c.2.2.2.1
abbrev cP (c : Cfg) : Nat → Nat := c.2.2.2.2.1
abbrev cL (c : Cfg) : Nat → Nat := c.2.2.2.2.2
def IsR (w : fw_W) (a : Nat) (r : Rf) : Prop := w a = some (.inr (kR, [.inl r.1, .inl r.2]))
def cellT (c : Cfg) (i : Nat) (t : Th) (sf hd : Nat) : fw_E := .inr (kT, [.inl (nI i), .inl (tK t), .inl (tH t), .inr ((tO t).map (cT c)), .inr (some sf), .inr (some (cS c i)), .inr (some hd), .inr ((tF t).map (cT c)), .inl (tV t), .inl (tI t), .inl (tB t)])
def okT (n : Nat) (t : Th) : Prop := (∀ o, tO t = some o → o < n) ∧ (∀ o, tF t = some o → o < n)
def okM (n k : Nat) (m : Ms) (b : Option Nat) : Prop := (∀ x, x ∈ mW m → x < n) ∧ (∀ x, b = some x → x < k) ∧ (mW m).length ≤ 8
def okL (k : Nat) (l : Lf) : Prop := (∀ b, l.1 = some b → b < k) ∧ (∀ b, l.2.1 = some b → b < k)
def ThOK (w : fw_W) (c : Cfg) (n i : Nat) (t : Th) : Prop := okT n t ∧ ∃ (sf hd : Nat) (f : Nat → Option Nat), w (cT c i) = some (cellT c i t sf hd) ∧ IsR w sf (2, nI i) ∧ IsR w hd (tD t) ∧ w (cS c i) = some (.inl (aR, 4, .inr f)) ∧ ∀ q, q < 4 → ∃ r, f q = some r ∧ IsR w r (tS t q)
def isA (w : fw_W) (a : Option Nat) (r : Option Rf) : Prop := (a = none ∧ r = none) ∨ ∃ x y, a = some x ∧ r = some y ∧ IsR w x y
def cellM (c : Cfg) (j : Nat) (m : Ms) (b : Option Nat) (pr tg ar : Nat) (an : Option Nat) : fw_E := .inr (kM, [.inl (nI j), .inl (mV m), .inr (some pr), .inr (some (cL c (4 + j))), .inr (some tg), .inr (some ar), .inr an, .inl (mP m), .inr (b.map (cM c)), .inr (some (cP c j)), .inl (nI (mW m).length)])
def cellP (c : Cfg) (m : Ms) : fw_E := .inl (aT, 8, .inr (fun q => ((mW m)[q]?).map (cT c)))
def MsOK (w : fw_W) (c : Cfg) (n k j : Nat) (m : Ms) (b : Option Nat) : Prop := okM n k m b ∧ ∃ (pr tg ar : Nat) (an : Option Nat), w (cM c j) = some (cellM c j m b pr tg ar an) ∧ IsR w pr (3, nI j) ∧ IsR w tg (mT m) ∧ IsR w ar (mA m) ∧ isA w an (mN m) ∧ w (cP c j) = some (cellP c m)
def cellL (c : Cfg) (l : Lf) : fw_E := .inr (kL, [.inr (l.1.map (cM c)), .inr (l.2.1.map (cM c)), .inl l.2.2])
def cellO (c : Cfg) (n k : Nat) : fw_E := .inr (kV, [.inr (some (cN c)), .inr (some (cB c)), .inr (some (cTA c)), .inl (nI n), .inr (some (cMA c)), .inl (nI k), .inr (some (cQA c)), .inr (some (cL c 3))])
def cellTA (c : Cfg) (n : Nat) : fw_E := .inl (aT, 40, .inr (fun i => if i < n then some (cT c i) else none))
def cellMA (c : Cfg) (k : Nat) : fw_E := .inl (aM, 200, .inr (fun j => if j < k then some (cM c j) else none))
def RepK (w : fw_W) (c : Cfg) (n : Nat) (th : Nat → Th) (k : Nat) (ms : Nat → Ms) (bh : Nat → Option Nat) (lf : Nat → Lf) : Prop :=
  w (cO c) = some (cellO c n k) ∧ IsR w (cN c) rN ∧ IsR w (cB c) rB ∧ w (cTA c) = some (cellTA c n) ∧ w (cMA c) = some (cellMA c k) ∧
  (∃ f : Nat → Option Nat, w (cQA c) = some (.inl (aL, 3, .inr f)) ∧ ∀ v, v < 3 → f v = some (cL c v)) ∧
  (∀ i, i < n → ThOK w c n i (th i)) ∧ (∀ j, j < k → MsOK w c n k j (ms j) (bh j)) ∧ (∀ i, i < 4 + k → w (cL c i) = some (cellL c (lf i)) ∧ okL k (lf i)) ∧
  (∀ i j, i < n → j < n → cS c i = cS c j → i = j) ∧ (∀ i j, i < k → j < k → cP c i = cP c j → i = j) ∧ (∀ i j, i < 4 + k → j < 4 + k → cL c i = cL c j → i = j) ∧ n ≤ 40 ∧ k ≤ 200
theorem up_ne {w : fw_W} {a b : Nat} {e x : fw_E} {y : Option fw_E} (ha : w a = some e) (hb : w b = some x) (hne : x ≠ e) : va_up w a y b = some x := by
  rw [va_up_ne _ _ (fun q => hne (by subst q; exact Option.some.inj (hb.symm.trans ha)))]
  exact hb
theorem IsR.up {w : fw_W} {a b : Nat} {r : Rf} {e : fw_E} {y : Option fw_E} (h : IsR w b r) (ha : w a = some e) (hne : ∀ l, e ≠ .inr (kR, l)) : IsR (va_up w a y) b r := up_ne ha h (fun q => hne _ q.symm)
theorem isA.up {w : fw_W} {a : Nat} {o : Option Nat} {r : Option Rf} {e : fw_E} {y : Option fw_E} (h : isA w o r) (ha : w a = some e) (hne : ∀ l, e ≠ .inr (kR, l)) : isA (va_up w a y) o r := by
  rcases h with h | ⟨x, z, h1, h2, h3⟩
  · exact Or.inl h
  · exact Or.inr ⟨x, z, h1, h2, h3.up ha hne⟩
section REPK
variable {w : fw_W} {c : Cfg} {n k : Nat} {th : Nat → Th} {ms : Nat → Ms} {bh : Nat → Option Nat} {lf : Nat → Lf}
theorem RepK.n40 (R : RepK w c n th k ms bh lf) : n ≤ 40 := R.2.2.2.2.2.2.2.2.2.2.2.2.1
theorem RepK.k200 (R : RepK w c n th k ms bh lf) : k ≤ 200 := R.2.2.2.2.2.2.2.2.2.2.2.2.2
theorem RepK.aT (R : RepK w c n th k ms bh lf) {i : Nat} (h : i < n) : ThOK w c n i (th i) := R.2.2.2.2.2.2.1 i h
theorem RepK.aM (R : RepK w c n th k ms bh lf) {j : Nat} (h : j < k) : MsOK w c n k j (ms j) (bh j) := R.2.2.2.2.2.2.2.1 j h
theorem RepK.aL (R : RepK w c n th k ms bh lf) {i : Nat} (h : i < 4 + k) : w (cL c i) = some (cellL c (lf i)) ∧ okL k (lf i) := R.2.2.2.2.2.2.2.2.1 i h
theorem RepK.tinj (R : RepK w c n th k ms bh lf) {i j : Nat} (hi : i < n) (hj : j < n) (h : cT c i = cT c j) : i = j := by
  obtain ⟨-, sf, hd, f, h1, -⟩ := R.aT hi
  obtain ⟨-, sf', hd', f', h2, -⟩ := R.aT hj
  rw [h, h2] at h1
  have h3 := Option.some.inj h1
  simp only [cellT, Sum.inr.injEq, Prod.mk.injEq, List.cons.injEq, Sum.inl.injEq] at h3
  have h40 := R.n40
  exact ((nI_eq (by omega) (by omega)).mp h3.2.1).symm
theorem RepK.minj (R : RepK w c n th k ms bh lf) {i j : Nat} (hi : i < k) (hj : j < k) (h : cM c i = cM c j) : i = j := by
  obtain ⟨-, _, _, _, _, h1, -⟩ := R.aM hi
  obtain ⟨-, _, _, _, _, h2, -⟩ := R.aM hj
  rw [h, h2] at h1
  have h3 := Option.some.inj h1
  simp only [cellM, Sum.inr.injEq, Prod.mk.injEq, List.cons.injEq, Sum.inl.injEq] at h3
  have h40 := R.k200
  exact ((nI_eq (by omega) (by omega)).mp h3.2.1).symm
/-- a thing's own fields are written -/
theorem RepK.setT (R : RepK w c n th k ms bh lf) {i : Nat} (hi : i < n) {t : Th} {sf hd : Nat} (h0 : okT n t) (h1 : IsR w sf (2, nI i)) (h2 : IsR w hd (tD t)) (h3 : tS t = tS (th i)) : RepK (va_up w (cT c i) (some (cellT c i t sf hd))) c n (va_up th i t) k ms bh lf := by
  obtain ⟨-, sf0, hd0, f0, e0, e1, e2, e3, e4⟩ := R.aT hi
  have nR : ∀ l, cellT c i (th i) sf0 hd0 ≠ .inr (kR, l) := fun l h => by simp [cellT, kT, kR] at h
  obtain ⟨r1, r2, r3, r4, r5, ⟨f, r6, r6'⟩, r7, r8, r9, r10, r11, r12, r13, r14⟩ := R
  refine ⟨up_ne e0 r1 (by simp [cellO, cellT, kV, kT]), r2.up e0 nR, r3.up e0 nR, up_ne e0 r4 (by simp [cellTA, cellT]), up_ne e0 r5 (by simp [cellMA, cellT]), ⟨f, up_ne e0 r6 (by simp [cellT]), r6'⟩, ?_, ?_, fun j hj => ⟨up_ne e0 (r9 j hj).1 (by simp [cellL, cellT, kL, kT]), (r9 j hj).2⟩, r10, r11, r12, r13, r14⟩
  · intro j hj
    by_cases hji : j = i
    · subst hji
      refine ⟨by rw [va_up_self]; exact h0, sf, hd, f0, ?_, h1.up e0 nR, ?_, up_ne e0 e3 (by simp [cellT]), ?_⟩
      · rw [va_up_self, va_up_self]
      · rw [va_up_self]; exact h2.up e0 nR
      · intro q hq
        rw [va_up_self, h3]
        obtain ⟨r, a1, a2⟩ := e4 q hq
        exact ⟨r, a1, a2.up e0 nR⟩
    · obtain ⟨gk, sf1, hd1, f1, g0, g1, g2, g3, g4⟩ := r7 j hj
      rw [va_up_ne _ _ hji]
      refine ⟨gk, sf1, hd1, f1, ?_, g1.up e0 nR, g2.up e0 nR, up_ne e0 g3 (by simp [cellT]), fun q hq => ?_⟩
      · refine up_ne e0 g0 (fun q => hji ?_)
        simp only [cellT, Sum.inr.injEq, Prod.mk.injEq, List.cons.injEq, Sum.inl.injEq] at q
        exact (nI_eq (by omega) (by omega)).mp q.2.1
      · obtain ⟨r, a1, a2⟩ := g4 q hq
        exact ⟨r, a1, a2.up e0 nR⟩
  · intro j hj
    obtain ⟨gk, pr, tg, ar, an, g0, g1, g2, g3, g4, g5⟩ := r8 j hj
    exact ⟨gk, pr, tg, ar, an, up_ne e0 g0 (by simp [cellM, cellT, kM, kT]), g1.up e0 nR, g2.up e0 nR, g3.up e0 nR, g4.up e0 nR, up_ne e0 g5 (by simp [cellP, cellT])⟩
end REPK
