section REPK5
variable {w : fw_W} {c : Cfg} {n k : Nat} {th : Nat → Th} {ms : Nat → Ms} {bh : Nat → Option Nat} {lf : Nat → Lf}
/-- a message's own fields and its notes are written -/
theorem RepK.setMP (R : RepK w c n th k ms bh lf) {i : Nat} (hi : i < k) {m : Ms} {pr tg ar : Nat} {an : Option Nat} {b : Option Nat} (h0 : okM n k m b) (h1 : IsR w pr (3, nI i)) (h2 : IsR w tg (mT m)) (h3 : IsR w ar (mA m)) (h4 : isA w an (mN m)) : RepK (va_up (va_up w (cP c i) (some (cellP c m))) (cM c i) (some (cellM c i m b pr tg ar an))) c n th k (va_up ms i m) (va_up bh i b) lf := by
  obtain ⟨ek, pr0, tg0, ar0, an0, e0, e1, e2, e3, e4, e5⟩ := R.aM hi
  have nR : ∀ l, cellM c i (ms i) (bh i) pr0 tg0 ar0 an0 ≠ .inr (kR, l) := fun l h => by simp [cellM, kM, kR] at h
  have nP : ∀ l, cellP c (ms i) ≠ .inr (kR, l) := fun l h => by simp [cellP] at h
  have e0' : va_up w (cP c i) (some (cellP c m)) (cM c i) = some (cellM c i (ms i) (bh i) pr0 tg0 ar0 an0) := up_ne e5 e0 (by simp [cellM, cellP])
  obtain ⟨r1, r2, r3, r4, r5, ⟨f, r6, r6'⟩, r7, r8, r9, r10, r11, r12, r13, r14⟩ := R
  have hR : ∀ {x r}, IsR w x r → IsR (va_up (va_up w (cP c i) (some (cellP c m))) (cM c i) (some (cellM c i m b pr tg ar an))) x r := fun h => (h.up e5 nP).up e0' nR
  have hA : ∀ {a r}, isA w a r → isA (va_up (va_up w (cP c i) (some (cellP c m))) (cM c i) (some (cellM c i m b pr tg ar an))) a r := fun h => by
    rcases h with h | ⟨x, z, h1, h2, h3⟩
    · exact Or.inl h
    · exact Or.inr ⟨x, z, h1, h2, hR h3⟩
  have hK : ∀ {a x}, w a = some x → x ≠ cellP c (ms i) → x ≠ cellM c i (ms i) (bh i) pr0 tg0 ar0 an0 → va_up (va_up w (cP c i) (some (cellP c m))) (cM c i) (some (cellM c i m b pr tg ar an)) a = some x := fun h h1 h2 => up_ne e0' (up_ne e5 h h1) h2
  refine ⟨hK r1 (by simp [cellO, cellP]) (by simp [cellO, cellM, kV, kM]), hR r2, hR r3, hK r4 (by simp [cellTA, cellP]) (by simp [cellTA, cellM]), hK r5 (by simp [cellMA, cellP, aM, aT]) (by simp [cellMA, cellM]), ⟨f, hK r6 (by simp [cellP, aL, aT]) (by simp [cellM]), r6'⟩, ?_, ?_, fun j hj => ⟨hK (r9 j hj).1 (by simp [cellL, cellP]) (by simp [cellL, cellM, kL, kM]), (r9 j hj).2⟩, r10, r11, r12, r13, r14⟩
  · intro j hj
    obtain ⟨gk, sf1, hd1, f1, g0, g1, g2, g3, g4⟩ := r7 j hj
    refine ⟨gk, sf1, hd1, f1, hK g0 (by simp [cellT, cellP]) (by simp [cellT, cellM, kT, kM]), hR g1, hR g2, hK g3 (by simp [cellP, aR, aT]) (by simp [cellM]), fun q hq => ?_⟩
    obtain ⟨r, a1, a2⟩ := g4 q hq
    exact ⟨r, a1, hR a2⟩
  · intro j hj
    by_cases hji : j = i
    · subst hji
      rw [va_up_self, va_up_self]
      refine ⟨h0, pr, tg, ar, an, by rw [va_up_self], hR h1, hR h2, hR h3, hA h4, ?_⟩
      rw [va_up_ne _ _ (fun e => by rw [e, e0] at e5; simp [cellM, cellP] at e5), va_up_self]
    · obtain ⟨gk, pr1, tg1, ar1, an1, g0, g1, g2, g3, g4, g5⟩ := r8 j hj
      rw [va_up_ne _ _ hji, va_up_ne _ _ hji]
      refine ⟨gk, pr1, tg1, ar1, an1, hK g0 (by simp [cellM, cellP]) (fun q => hji ?_), hR g1, hR g2, hR g3, hA g4, ?_⟩
      · simp only [cellM, Sum.inr.injEq, Prod.mk.injEq, List.cons.injEq, Sum.inl.injEq] at q
        exact (nI_eq (by omega) (by omega)).mp q.2.1
      · rw [va_up_ne _ _ (fun e => by rw [e, e0] at g5; simp [cellM, cellP] at g5), va_up_ne _ _ (fun e => hji (r11 j i hj hi e))]
        exact g5
end REPK5
