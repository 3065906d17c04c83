section REPK2
variable {w : fw_W} {c : Cfg} {n k : Nat} {th : Nat → Th} {ms : Nat → Ms} {bh : Nat → Option Nat} {lf : Nat → Lf}
abbrev tSet (t : Th) (s : Nat → Rf) : Th := (t.1, t.2.1, t.2.2.1, s, t.2.2.2.2)
/-- a slot is written -/
theorem RepK.setS (R : RepK w c n th k ms bh lf) {i : Nat} (hi : i < n) {f : Nat → Option Nat} (hf : w (cS c i) = some (.inl (aR, 4, .inr f))) {q r : Nat} {v : Rf} (hr : IsR w r v) : RepK (va_up w (cS c i) (some (.inl (aR, 4, .inr (va_up f q (some r)))))) c n (va_up th i (tSet (th i) (va_up (tS (th i)) q v))) k ms bh lf := by
  obtain ⟨ek, sf0, hd0, f0, e0, e1, e2, e3, e4⟩ := R.aT hi
  have hff : f0 = f := by
    have := Option.some.inj (e3.symm.trans hf)
    simp only [Sum.inl.injEq, Prod.mk.injEq, Sum.inr.injEq] at this
    exact this.2.2
  subst hff
  have nR : ∀ l, (Sum.inl (aR, 4, .inr f0) : fw_E) ≠ .inr (kR, l) := fun l h => by cases h
  obtain ⟨r1, r2, r3, r4, r5, ⟨f', r6, r6'⟩, r7, r8, r9, r10, r11, r12, r13, r14⟩ := R
  refine ⟨up_ne hf r1 (by simp [cellO]), r2.up hf nR, r3.up hf nR, up_ne hf r4 (by simp [cellTA, aR, aT]), up_ne hf r5 (by simp [cellMA, aR, aM]), ⟨f', up_ne hf r6 (by simp [aR, aL]), r6'⟩, ?_, ?_, fun j hj => ⟨up_ne hf (r9 j hj).1 (by simp [cellL]), (r9 j hj).2⟩, r10, r11, r12, r13, r14⟩
  · intro j hj
    by_cases hji : j = i
    · subst hji
      rw [va_up_self]
      refine ⟨ek, sf0, hd0, va_up f0 q (some r), up_ne hf e0 (by simp [cellT]), e1.up hf nR, e2.up hf nR, by rw [va_up_self], fun p hp => ?_⟩
      by_cases hpq : p = q
      · subst hpq
        refine ⟨r, va_up_self _ _ _, ?_⟩
        show IsR _ r (va_up (tS (th j)) p v p)
        rw [va_up_self]
        exact hr.up hf nR
      · obtain ⟨r', a1, a2⟩ := e4 p hp
        refine ⟨r', by rw [va_up_ne _ _ hpq]; exact a1, ?_⟩
        show IsR _ r' (va_up (tS (th j)) q v p)
        rw [va_up_ne _ _ hpq]
        exact a2.up hf nR
    · obtain ⟨gk, sf1, hd1, f1, g0, g1, g2, g3, g4⟩ := r7 j hj
      rw [va_up_ne _ _ hji]
      refine ⟨gk, sf1, hd1, f1, up_ne hf g0 (by simp [cellT]), g1.up hf nR, g2.up hf nR, ?_, fun q hq => ?_⟩
      · rw [va_up_ne _ _ (fun h => hji (r10 j i hj hi h))]; exact g3
      · obtain ⟨r, a1, a2⟩ := g4 q hq
        exact ⟨r, a1, a2.up hf nR⟩
  · intro j hj
    obtain ⟨gk, pr, tg, ar, an, g0, g1, g2, g3, g4, g5⟩ := r8 j hj
    exact ⟨gk, pr, tg, ar, an, up_ne hf g0 (by simp [cellM]), g1.up hf nR, g2.up hf nR, g3.up hf nR, g4.up hf nR, up_ne hf g5 (by simp [cellP, aR, aT])⟩
/-- a message's own fields are written -/
theorem RepK.setM (R : RepK w c n th k ms bh lf) {i : Nat} (hi : i < k) {m : Ms} {pr tg ar : Nat} {an : Option Nat} {b : Option Nat} (h0 : okM n k m b) (h1 : IsR w pr (3, nI i)) (h2 : IsR w tg (mT m)) (h3 : IsR w ar (mA m)) (h4 : isA w an (mN m)) (h5 : mW m = mW (ms i)) : RepK (va_up w (cM c i) (some (cellM c i m b pr tg ar an))) c n th k (va_up ms i m) (va_up bh i b) lf := by
  obtain ⟨ek, pr0, tg0, ar0, an0, e0, e1, e2, e3, e4, e5⟩ := R.aM hi
  have nR : ∀ l, cellM c i (ms i) (bh i) pr0 tg0 ar0 an0 ≠ .inr (kR, l) := fun l h => by simp [cellM, kM, kR] at h
  obtain ⟨r1, r2, r3, r4, r5, ⟨f, r6, r6'⟩, r7, r8, r9, r10, r11, r12, r13, r14⟩ := R
  refine ⟨up_ne e0 r1 (by simp [cellO, cellM, kV, kM]), r2.up e0 nR, r3.up e0 nR, up_ne e0 r4 (by simp [cellTA, cellM]), up_ne e0 r5 (by simp [cellMA, cellM]), ⟨f, up_ne e0 r6 (by simp [cellM]), r6'⟩, ?_, ?_, fun j hj => ⟨up_ne e0 (r9 j hj).1 (by simp [cellL, cellM, kL, kM]), (r9 j hj).2⟩, r10, r11, r12, r13, r14⟩
  · intro j hj
    obtain ⟨gk, sf1, hd1, f1, g0, g1, g2, g3, g4⟩ := r7 j hj
    refine ⟨gk, sf1, hd1, f1, up_ne e0 g0 (by simp [cellT, cellM, kT, kM]), g1.up e0 nR, g2.up e0 nR, up_ne e0 g3 (by simp [cellM]), fun q hq => ?_⟩
    obtain ⟨r, a1, a2⟩ := g4 q hq
    exact ⟨r, a1, a2.up e0 nR⟩
  · intro j hj
    by_cases hji : j = i
    · subst hji
      rw [va_up_self, va_up_self]
      refine ⟨h0, pr, tg, ar, an, by rw [va_up_self], h1.up e0 nR, h2.up e0 nR, h3.up e0 nR, h4.up e0 nR, ?_⟩
      have : cellP c m = cellP c (ms j) := by simp only [cellP, h5]
      rw [this]
      exact up_ne e0 e5 (by simp [cellP, cellM])
    · obtain ⟨gk, pr1, tg1, ar1, an1, g0, g1, g2, g3, g4, g5⟩ := r8 j hj
      rw [va_up_ne _ _ hji, va_up_ne _ _ hji]
      refine ⟨gk, pr1, tg1, ar1, an1, ?_, g1.up e0 nR, g2.up e0 nR, g3.up e0 nR, g4.up e0 nR, up_ne e0 g5 (by simp [cellP, cellM])⟩
      refine up_ne e0 g0 (fun q => hji ?_)
      simp only [cellM, Sum.inr.injEq, Prod.mk.injEq, List.cons.injEq, Sum.inl.injEq] at q
      exact (nI_eq (by omega) (by omega)).mp q.2.1
/-- a line's fields are written -/
theorem RepK.setL (R : RepK w c n th k ms bh lf) {i : Nat} (hi : i < 4 + k) (l : Lf) (hl : okL k l) : RepK (va_up w (cL c i) (some (cellL c l))) c n th k ms bh (va_up lf i l) := by
  have e0 := (R.aL hi).1
  have nR : ∀ l, cellL c (lf i) ≠ .inr (kR, l) := fun l h => by simp [cellL, kL, kR] at h
  obtain ⟨r1, r2, r3, r4, r5, ⟨f, r6, r6'⟩, r7, r8, r9, r10, r11, r12, r13, r14⟩ := R
  refine ⟨up_ne e0 r1 (by simp [cellO, cellL, kV, kL]), r2.up e0 nR, r3.up e0 nR, up_ne e0 r4 (by simp [cellTA, cellL]), up_ne e0 r5 (by simp [cellMA, cellL]), ⟨f, up_ne e0 r6 (by simp [cellL]), r6'⟩, ?_, ?_, fun j hj => ?_, r10, r11, r12, r13, r14⟩
  · intro j hj
    obtain ⟨gk, sf1, hd1, f1, g0, g1, g2, g3, g4⟩ := r7 j hj
    refine ⟨gk, sf1, hd1, f1, up_ne e0 g0 (by simp [cellT, cellL, kT, kL]), g1.up e0 nR, g2.up e0 nR, up_ne e0 g3 (by simp [cellL]), fun q hq => ?_⟩
    obtain ⟨r, a1, a2⟩ := g4 q hq
    exact ⟨r, a1, a2.up e0 nR⟩
  · intro j hj
    obtain ⟨gk, pr1, tg1, ar1, an1, g0, g1, g2, g3, g4, g5⟩ := r8 j hj
    exact ⟨gk, pr1, tg1, ar1, an1, up_ne e0 g0 (by simp [cellM, cellL, kM, kL]), g1.up e0 nR, g2.up e0 nR, g3.up e0 nR, g4.up e0 nR, up_ne e0 g5 (by simp [cellP, cellL])⟩
  · by_cases hji : j = i
    · subst hji
      rw [va_up_self, va_up_self]
      exact ⟨rfl, hl⟩
    · rw [va_up_ne _ _ hji, va_up_ne _ _ (fun h => hji (r12 j i hj hi h))]
      exact r9 j hj
/-- a new reference -/
theorem IsR.new {b q : Nat} {r : Rf} {e : fw_E} (h : IsR w b r) (hq : w q = none) : IsR (va_up w q (some e)) b r := by
  unfold IsR at h ⊢
  rw [va_up_ne _ _ (fun z => by subst z; rw [hq] at h; cases h)]
  exact h
theorem up_new {b q : Nat} {x e : fw_E} (h : w b = some x) (hq : w q = none) : va_up w q (some e) b = some x := by
  rw [va_up_ne _ _ (fun z => by subst z; rw [hq] at h; cases h)]
  exact h
/-- cells that are nobody's come -/
theorem RepK.mono (R : RepK w c n th k ms bh lf) {w' : fw_W} (hm : ∀ a e, w a = some e → w' a = some e) : RepK w' c n th k ms bh lf := by
  have hR : ∀ {b r}, IsR w b r → IsR w' b r := fun h => hm _ _ h
  obtain ⟨r1, r2, r3, r4, r5, ⟨f, r6, r6'⟩, r7, r8, r9, r10, r11, r12, r13, r14⟩ := R
  refine ⟨hm _ _ r1, hR r2, hR r3, hm _ _ r4, hm _ _ r5, ⟨f, hm _ _ r6, r6'⟩, ?_, ?_, fun j hj => ⟨hm _ _ (r9 j hj).1, (r9 j hj).2⟩, r10, r11, r12, r13, r14⟩
  · intro j hj
    obtain ⟨gk, sf1, hd1, f1, g0, g1, g2, g3, g4⟩ := r7 j hj
    refine ⟨gk, sf1, hd1, f1, hm _ _ g0, hR g1, hR g2, hm _ _ g3, fun p hp => ?_⟩
    obtain ⟨r, a1, a2⟩ := g4 p hp
    exact ⟨r, a1, hR a2⟩
  · intro j hj
    obtain ⟨gk, pr1, tg1, ar1, an1, g0, g1, g2, g3, g4, g5⟩ := r8 j hj
    refine ⟨gk, pr1, tg1, ar1, an1, hm _ _ g0, hR g1, hR g2, hR g3, ?_, hm _ _ g5⟩
    rcases g4 with h | ⟨x, z, h1, h2, h3⟩
    · exact Or.inl h
    · exact Or.inr ⟨x, z, h1, h2, hR h3⟩
theorem RepK.grow (R : RepK w c n th k ms bh lf) {q : Nat} {e : fw_E} (hq : w q = none) : RepK (va_up w q (some e)) c n th k ms bh lf := R.mono (fun _ _ h => up_new h hq)
end REPK2
