section REPK3
variable {w : fw_W} {c c' : Cfg} {n k : Nat} {th : Nat → Th} {ms : Nat → Ms} {bh : Nat → Option Nat} {lf : Nat → Lf}
/-- c' names what c names, and perhaps more -/
def Cext (n k : Nat) (c c' : Cfg) : Prop := c'.1 = c.1 ∧ (∀ i, i < n → cT c' i = cT c i ∧ cS c' i = cS c i) ∧ (∀ j, j < k → cM c' j = cM c j ∧ cP c' j = cP c j) ∧ ∀ i, i < 4 + k → cL c' i = cL c i
theorem Cext.rf : Cext n k c c := ⟨rfl, fun _ _ => ⟨rfl, rfl⟩, fun _ _ => ⟨rfl, rfl⟩, fun _ _ => rfl⟩
theorem Cext.tr {c'' : Cfg} {n' k' : Nat} (h : Cext n k c c') (h' : Cext n' k' c' c'') (hn : n ≤ n') (hk : k ≤ k') : Cext n k c c'' := by
  obtain ⟨a1, a2, a3, a4⟩ := h
  obtain ⟨b1, b2, b3, b4⟩ := h'
  refine ⟨b1.trans a1, fun i hi => ?_, fun j hj => ?_, fun i hi => (b4 i (by omega)).trans (a4 i hi)⟩
  · exact ⟨(b2 i (by omega)).1.trans (a2 i hi).1, (b2 i (by omega)).2.trans (a2 i hi).2⟩
  · exact ⟨(b3 j (by omega)).1.trans (a3 j hj).1, (b3 j (by omega)).2.trans (a3 j hj).2⟩
theorem map_ext {o : Option Nat} {f g : Nat → Nat} (h : ∀ x, o = some x → f x = g x) : o.map f = o.map g := by
  cases o with
  | none => rfl
  | some x => exact congrArg some (h x rfl)
theorem cellT_ext (h : Cext n k c c') {i : Nat} (hi : i < n) {t : Th} (ht : okT n t) (sf hd : Nat) : cellT c' i t sf hd = cellT c i t sf hd := by
  unfold cellT
  rw [map_ext (fun x hx => (h.2.1 x (ht.1 x hx)).1), map_ext (fun x hx => (h.2.1 x (ht.2 x hx)).1), (h.2.1 i hi).2]
theorem cellM_ext (h : Cext n k c c') {j : Nat} (hj : j < k) {m : Ms} {b : Option Nat} (hm : okM n k m b) (pr tg ar : Nat) (an : Option Nat) : cellM c' j m b pr tg ar an = cellM c j m b pr tg ar an := by
  unfold cellM
  rw [map_ext (fun x hx => (h.2.2.1 x (hm.2.1 x hx)).1), (h.2.2.1 j hj).2, h.2.2.2 (4 + j) (by omega)]
theorem cellP_ext (h : Cext n k c c') {m : Ms} {b : Option Nat} (hm : okM n k m b) : cellP c' m = cellP c m := by
  unfold cellP
  congr 4
  funext q
  exact map_ext (fun x hx => (h.2.1 x (hm.1 x (List.mem_of_getElem? hx))).1)
theorem cellL_ext (h : Cext n k c c') {l : Lf} (hl : okL k l) : cellL c' l = cellL c l := by
  unfold cellL
  rw [map_ext (fun x hx => (h.2.2.1 x (hl.1 x hx)).1), map_ext (fun x hx => (h.2.2.1 x (hl.2 x hx)).1)]
theorem cellO_ext (h : Cext n k c c') (a b : Nat) : cellO c' a b = cellO c a b := by
  unfold cellO cN cB cTA cMA cQA
  rw [h.1, h.2.2.2 3 (by omega)]
theorem cellTA_ext (h : Cext n k c c') : cellTA c' n = cellTA c n := by
  unfold cellTA
  congr 4
  funext i
  by_cases hi : i < n
  · rw [if_pos hi, if_pos hi, (h.2.1 i hi).1]
  · rw [if_neg hi, if_neg hi]
theorem cellMA_ext (h : Cext n k c c') : cellMA c' k = cellMA c k := by
  unfold cellMA
  congr 4
  funext i
  by_cases hi : i < k
  · rw [if_pos hi, if_pos hi, (h.2.2.1 i hi).1]
  · rw [if_neg hi, if_neg hi]
/-- the same heap, under a configuration that names more -/
theorem RepK.recfg (R : RepK w c n th k ms bh lf) (h : Cext n k c c') : RepK w c' n th k ms bh lf := by
  obtain ⟨r1, r2, r3, r4, r5, ⟨f, r6, r6'⟩, r7, r8, r9, r10, r11, r12, r13, r14⟩ := R
  have hc1 := h.1
  refine ⟨by rw [cellO_ext h]; unfold cO; rw [hc1]; exact r1, by unfold cN; rw [hc1]; exact r2, by unfold cB; rw [hc1]; exact r3, by rw [cellTA_ext h]; unfold cTA; rw [hc1]; exact r4, by rw [cellMA_ext h]; unfold cMA; rw [hc1]; exact r5, ⟨f, by unfold cQA; rw [hc1]; exact r6, fun v hv => by rw [h.2.2.2 v (by omega)]; exact r6' v hv⟩, ?_, ?_, ?_, ?_, ?_, ?_, r13, r14⟩
  · intro i hi
    obtain ⟨gk, sf1, hd1, f1, g0, g1, g2, g3, g4⟩ := r7 i hi
    refine ⟨gk, sf1, hd1, f1, ?_, g1, g2, ?_, g4⟩
    · rw [cellT_ext h hi gk, (h.2.1 i hi).1]; exact g0
    · rw [(h.2.1 i hi).2]; exact g3
  · intro j hj
    obtain ⟨gk, pr1, tg1, ar1, an1, g0, g1, g2, g3, g4, g5⟩ := r8 j hj
    refine ⟨gk, pr1, tg1, ar1, an1, ?_, g1, g2, g3, g4, ?_⟩
    · rw [cellM_ext h hj gk, (h.2.2.1 j hj).1]; exact g0
    · rw [cellP_ext h gk, (h.2.2.1 j hj).2]; exact g5
  · intro i hi
    rw [cellL_ext h (r9 i hi).2, h.2.2.2 i hi]
    exact r9 i hi
  · intro i j hi hj
    rw [(h.2.1 i hi).2, (h.2.1 j hj).2]
    exact r10 i j hi hj
  · intro i j hi hj
    rw [(h.2.2.1 i hi).2, (h.2.2.1 j hj).2]
    exact r11 i j hi hj
  · intro i j hi hj
    rw [h.2.2.2 i hi, h.2.2.2 j hj]
    exact r12 i j hi hj
/-- the configuration with one thing more -/
def cAddT (c : Cfg) (n q qs : Nat) : Cfg := (c.1, va_up (cT c) n q, va_up (cS c) n qs, c.2.2.2)
theorem cAddT_ext (q qs : Nat) : Cext n k c (cAddT c n q qs) := by
  refine ⟨rfl, fun i hi => ⟨?_, ?_⟩, fun _ _ => ⟨rfl, rfl⟩, fun _ _ => rfl⟩
  · show va_up (cT c) n q i = cT c i
    rw [va_up_ne _ _ (by omega)]
  · show va_up (cS c) n qs i = cS c i
    rw [va_up_ne _ _ (by omega)]
/-- a new thing is put at its place -/
theorem RepK.pushT (R : RepK w c n th k ms bh lf) (hn : n < 40) {q qs sf hd : Nat} {t : Th} {f : Nat → Option Nat} (hq : w q = some (cellT (cAddT c n q qs) n t sf hd)) (hok : okT n t) (hsf : IsR w sf (2, nI n)) (hhd : IsR w hd (tD t)) (hqs : w qs = some (.inl (aR, 4, .inr f))) (hsl : ∀ p, p < 4 → ∃ r, f p = some r ∧ IsR w r (tS t p)) (hnew : ∀ i, i < n → cS c i ≠ qs) :
    RepK (va_up (va_up w (cTA c) (some (cellTA (cAddT c n q qs) (n + 1)))) (cO c) (some (cellO (cAddT c n q qs) (n + 1) k))) (cAddT c n q qs) (n + 1) (va_up th n t) k ms bh lf := by
  have R := R.recfg (cAddT_ext (n := n) (k := k) (c := c) q qs)
  have hTA : cTA c = cTA (cAddT c n q qs) := rfl
  have hOA : cO c = cO (cAddT c n q qs) := rfl
  rw [hTA, hOA]
  generalize hc' : cAddT c n q qs = c' at R hq ⊢
  have hcT : cT c' n = q := by rw [← hc']; exact va_up_self _ _ _
  have hcS : cS c' n = qs := by rw [← hc']; exact va_up_self _ _ _
  have hcS2 : ∀ i, i < n → cS c' i = cS c i := fun i hi => by rw [← hc']; exact va_up_ne _ _ (by omega)
  obtain ⟨r1, r2, r3, r4, r5, ⟨f', r6, r6'⟩, r7, r8, r9, r10, r11, r12, r13, r14⟩ := R
  have nTA : ∀ l, cellTA c' n ≠ .inr (kR, l) := fun l h => by simp [cellTA] at h
  have nO : ∀ l, cellO c' n k ≠ .inr (kR, l) := fun l h => by simp [cellO, kV, kR] at h
  have o1 : va_up w (cTA c') (some (cellTA c' (n + 1))) (cO c') = some (cellO c' n k) := up_ne r4 r1 (by simp [cellTA, cellO])
  have hR : ∀ {b r}, IsR w b r → IsR (va_up (va_up w (cTA c') (some (cellTA c' (n + 1)))) (cO c') (some (cellO c' (n + 1) k))) b r := fun h => (h.up r4 nTA).up o1 nO
  have hK : ∀ {b x}, w b = some x → x ≠ cellTA c' n → x ≠ cellO c' n k → va_up (va_up w (cTA c') (some (cellTA c' (n + 1)))) (cO c') (some (cellO c' (n + 1) k)) b = some x := fun h h1 h2 => up_ne o1 (up_ne r4 h h1) h2
  refine ⟨va_up_self _ _ _, hR r2, hR r3, ?_, hK r5 (by simp [cellMA, cellTA, aM, aT]) (by simp [cellMA, cellO]), ⟨f', hK r6 (by simp [cellTA, aL, aT]) (by simp [cellO]), r6'⟩, ?_, ?_, fun j hj => ⟨hK (r9 j hj).1 (by simp [cellL, cellTA]) (by simp [cellL, cellO, kL, kV]), (r9 j hj).2⟩, ?_, r11, r12, by omega, r14⟩
  · rw [va_up_ne _ _ (fun e => by rw [e, r1] at r4; simp [cellO, cellTA] at r4), va_up_self]
  · intro i hi
    by_cases hin : i = n
    · subst hin
      rw [va_up_self]
      refine ⟨⟨fun o ho => Nat.lt_succ_of_lt (hok.1 o ho), fun o ho => Nat.lt_succ_of_lt (hok.2 o ho)⟩, sf, hd, f, ?_, hR hsf, hR hhd, ?_, fun p hp => ?_⟩
      · rw [hcT]; exact hK hq (by simp [cellT, cellTA]) (by simp [cellT, cellO, kT, kV])
      · rw [hcS]; exact hK hqs (by simp [cellTA, aR, aT]) (by simp [cellO])
      · obtain ⟨r, a1, a2⟩ := hsl p hp
        exact ⟨r, a1, hR a2⟩
    · obtain ⟨gk, sf1, hd1, f1, g0, g1, g2, g3, g4⟩ := r7 i (by omega)
      rw [va_up_ne _ _ hin]
      refine ⟨⟨fun o ho => Nat.lt_succ_of_lt (gk.1 o ho), fun o ho => Nat.lt_succ_of_lt (gk.2 o ho)⟩, sf1, hd1, f1, hK g0 (by simp [cellT, cellTA]) (by simp [cellT, cellO, kT, kV]), hR g1, hR g2, hK g3 (by simp [cellTA, aR, aT]) (by simp [cellO]), fun p hp => ?_⟩
      obtain ⟨r, a1, a2⟩ := g4 p hp
      exact ⟨r, a1, hR a2⟩
  · intro j hj
    obtain ⟨gk, pr1, tg1, ar1, an1, g0, g1, g2, g3, g4, g5⟩ := r8 j hj
    refine ⟨⟨fun x hx => Nat.lt_succ_of_lt (gk.1 x hx), gk.2⟩, pr1, tg1, ar1, an1, hK g0 (by simp [cellM, cellTA]) (by simp [cellM, cellO, kM, kV]), hR g1, hR g2, hR g3, ?_, hK g5 (by simp [cellP, cellTA]) (by simp [cellP, cellO])⟩
    rcases g4 with h | ⟨x, z, h1, h2, h3⟩
    · exact Or.inl h
    · exact Or.inr ⟨x, z, h1, h2, hR h3⟩
  · intro i j hi hj he
    by_cases h1 : i = n
    · by_cases h2 : j = n
      · omega
      · subst h1
        exfalso
        rw [hcS, hcS2 j (by omega)] at he
        exact hnew j (by omega) he.symm
    · by_cases h2 : j = n
      · subst h2
        exfalso
        rw [hcS, hcS2 i (by omega)] at he
        exact hnew i (by omega) he
      · exact r10 i j (by omega) (by omega) he
end REPK3
