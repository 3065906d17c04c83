section REPK4
variable {w : fw_W} {c c' : Cfg} {n k : Nat} {th : Nat → Th} {ms : Nat → Ms} {bh : Nat → Option Nat} {lf : Nat → Lf}
/-- the configuration with one message more -/
def cAddM (c : Cfg) (k q qp ql : Nat) : Cfg := (c.1, c.2.1, c.2.2.1, va_up (cM c) k q, va_up (cP c) k qp, va_up (cL c) (4 + k) ql)
theorem cAddM_ext (q qp ql : Nat) : Cext n k c (cAddM c k q qp ql) := by
  refine ⟨rfl, fun _ _ => ⟨rfl, rfl⟩, fun j hj => ⟨?_, ?_⟩, fun i hi => ?_⟩
  · show va_up (cM c) k q j = cM c j
    rw [va_up_ne _ _ (by omega)]
  · show va_up (cP c) k qp j = cP c j
    rw [va_up_ne _ _ (by omega)]
  · show va_up (cL c) (4 + k) ql i = cL c i
    rw [va_up_ne _ _ (by omega)]
/-- a new message is put at its place -/
theorem RepK.pushM (R : RepK w c n th k ms bh lf) (hk : k < 200) {q qp ql pr tg ar : Nat} {an : Option Nat} {m : Ms} {b : Option Nat} {l : Lf} (hq : w q = some (cellM (cAddM c k q qp ql) k m b pr tg ar an)) (hok : okM n k m b) (hpr : IsR w pr (3, nI k)) (htg : IsR w tg (mT m)) (har : IsR w ar (mA m)) (han : isA w an (mN m)) (hqp : w qp = some (cellP c m)) (hql : w ql = some (cellL c l)) (hl : okL k l) (hnew1 : ∀ i, i < k → cP c i ≠ qp) (hnew2 : ∀ i, i < 4 + k → cL c i ≠ ql) :
    RepK (va_up (va_up w (cMA c) (some (cellMA (cAddM c k q qp ql) (k + 1)))) (cO c) (some (cellO (cAddM c k q qp ql) n (k + 1)))) (cAddM c k q qp ql) n th (k + 1) (va_up ms k m) (va_up bh k b) (va_up lf (4 + k) l) := by
  have hE := cAddM_ext (n := n) (k := k) (c := c) q qp ql
  have R := R.recfg hE
  have hqp : w qp = some (cellP (cAddM c k q qp ql) m) := hqp
  have hql : w ql = some (cellL (cAddM c k q qp ql) l) := by rw [cellL_ext hE hl]; exact hql
  have hTA : cMA c = cMA (cAddM c k q qp ql) := rfl
  have hOA : cO c = cO (cAddM c k q qp ql) := rfl
  rw [hTA, hOA]
  generalize hc' : cAddM c k q qp ql = c' at R hq hqp hql ⊢
  have hcM : cM c' k = q := by rw [← hc']; exact va_up_self _ _ _
  have hcP : cP c' k = qp := by rw [← hc']; exact va_up_self _ _ _
  have hcL : cL c' (4 + k) = ql := by rw [← hc']; exact va_up_self _ _ _
  have hcP2 : ∀ i, i < k → cP c' i = cP c i := fun i hi => by rw [← hc']; exact va_up_ne _ _ (by omega)
  have hcL2 : ∀ i, i < 4 + k → cL c' i = cL c i := fun i hi => by rw [← hc']; exact va_up_ne _ _ (by omega)
  obtain ⟨r1, r2, r3, r4, r5, ⟨f', r6, r6'⟩, r7, r8, r9, r10, r11, r12, r13, r14⟩ := R
  have nMA : ∀ l, cellMA c' k ≠ .inr (kR, l) := fun l h => by simp [cellMA] at h
  have nO : ∀ l, cellO c' n k ≠ .inr (kR, l) := fun l h => by simp [cellO, kV, kR] at h
  have o1 : va_up w (cMA c') (some (cellMA c' (k + 1))) (cO c') = some (cellO c' n k) := up_ne r5 r1 (by simp [cellMA, cellO])
  have hR : ∀ {b r}, IsR w b r → IsR (va_up (va_up w (cMA c') (some (cellMA c' (k + 1)))) (cO c') (some (cellO c' n (k + 1)))) b r := fun h => (h.up r5 nMA).up o1 nO
  have hK : ∀ {b x}, w b = some x → x ≠ cellMA c' k → x ≠ cellO c' n k → va_up (va_up w (cMA c') (some (cellMA c' (k + 1)))) (cO c') (some (cellO c' n (k + 1))) b = some x := fun h h1 h2 => up_ne o1 (up_ne r5 h h1) h2
  refine ⟨va_up_self _ _ _, hR r2, hR r3, hK r4 (by simp [cellTA, cellMA, aM, aT]) (by simp [cellTA, cellO]), ?_, ⟨f', hK r6 (by simp [cellMA, aL, aM]) (by simp [cellO]), r6'⟩, ?_, ?_, ?_, r10, ?_, ?_, r13, by omega⟩
  · rw [va_up_ne _ _ (fun e => by rw [e, r1] at r5; simp [cellO, cellMA] at r5), va_up_self]
  · intro i hi
    obtain ⟨gk, sf1, hd1, f1, g0, g1, g2, g3, g4⟩ := r7 i hi
    refine ⟨gk, sf1, hd1, f1, hK g0 (by simp [cellT, cellMA]) (by simp [cellT, cellO, kT, kV]), hR g1, hR g2, hK g3 (by simp [cellMA, aR, aM]) (by simp [cellO]), fun p hp => ?_⟩
    obtain ⟨r, a1, a2⟩ := g4 p hp
    exact ⟨r, a1, hR a2⟩
  · intro j hj
    have hA : ∀ {a r}, isA w a r → isA (va_up (va_up w (cMA c') (some (cellMA c' (k + 1)))) (cO c') (some (cellO c' n (k + 1)))) a r := fun h => by
      rcases h with h | ⟨x, z, h1, h2, h3⟩
      · exact Or.inl h
      · exact Or.inr ⟨x, z, h1, h2, hR h3⟩
    by_cases hjk : j = k
    · subst hjk
      rw [va_up_self, va_up_self]
      refine ⟨⟨hok.1, fun x hx => Nat.lt_succ_of_lt (hok.2.1 x hx), hok.2.2⟩, pr, tg, ar, an, ?_, hR hpr, hR htg, hR har, hA han, ?_⟩
      · rw [hcM]; exact hK hq (by simp [cellM, cellMA]) (by simp [cellM, cellO, kM, kV])
      · rw [hcP]; exact hK hqp (by simp [cellP, cellMA, aT, aM]) (by simp [cellP, cellO])
    · obtain ⟨gk, pr1, tg1, ar1, an1, g0, g1, g2, g3, g4, g5⟩ := r8 j (by omega)
      rw [va_up_ne _ _ hjk, va_up_ne _ _ hjk]
      exact ⟨⟨gk.1, fun x hx => Nat.lt_succ_of_lt (gk.2.1 x hx), gk.2.2⟩, pr1, tg1, ar1, an1, hK g0 (by simp [cellM, cellMA]) (by simp [cellM, cellO, kM, kV]), hR g1, hR g2, hR g3, hA g4, hK g5 (by simp [cellP, cellMA, aT, aM]) (by simp [cellP, cellO])⟩
  · intro i hi
    by_cases hik : i = 4 + k
    · subst hik
      rw [va_up_self, hcL]
      exact ⟨hK hql (by simp [cellL, cellMA]) (by simp [cellL, cellO, kL, kV]), fun x hx => Nat.lt_succ_of_lt (hl.1 x hx), fun x hx => Nat.lt_succ_of_lt (hl.2 x hx)⟩
    · rw [va_up_ne _ _ hik]
      have := r9 i (by omega)
      exact ⟨hK this.1 (by simp [cellL, cellMA]) (by simp [cellL, cellO, kL, kV]), fun x hx => Nat.lt_succ_of_lt (this.2.1 x hx), fun x hx => Nat.lt_succ_of_lt (this.2.2 x hx)⟩
  · intro i j hi hj he
    by_cases h1 : i = k
    · by_cases h2 : j = k
      · omega
      · subst h1
        exfalso
        rw [hcP, hcP2 j (by omega)] at he
        exact hnew1 j (by omega) he.symm
    · by_cases h2 : j = k
      · subst h2
        exfalso
        rw [hcP, hcP2 i (by omega)] at he
        exact hnew1 i (by omega) he
      · exact r11 i j (by omega) (by omega) he
  · intro i j hi hj he
    by_cases h1 : i = 4 + k
    · by_cases h2 : j = 4 + k
      · omega
      · subst h1
        exfalso
        rw [hcL, hcL2 j (by omega)] at he
        exact hnew2 j (by omega) he.symm
    · by_cases h2 : j = 4 + k
      · subst h2
        exfalso
        rw [hcL, hcL2 i (by omega)] at he
        exact hnew2 i (by omega) he
      · exact r12 i j (by omega) (by omega) he
end REPK4
