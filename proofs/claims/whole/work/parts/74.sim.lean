/-! The two states side by side: things and messages (not yet the lines). -/
def vO (n : Nat) (r : Rf) : Prop := r.1 = 2 → ∃ i, i < n ∧ r.2 = nI i
def z0 (r : Rf) : Prop := r.1 = 0 ∨ r.1 = 4 → r.2 = 0
def VV (n k : Nat) (r : Rf) : Prop := vR k r ∧ vO n r ∧ z0 r
def RR (ph : Nat → Rf) (n k : Nat) (r r' : Rf) : Prop := VV n k r ∧ vR k r' ∧ can ph r = can ph r'
def RA (ph : Nat → Rf) (n k : Nat) (r r' : Rf) : Prop := VV n k r ∧ vR k r' ∧ (can ph r = can ph r' ∨ (bN (can ph r) = rB ∧ (can ph r' = rN ∨ can ph r' = rB)))
def PH (ph : Nat → Rf) (n k : Nat) : Prop := ∀ j, j < k → VV n k (ph j) ∧ (ph j).1 ≠ 0
def wfT (n : Nat) (t : Th) : Prop := (tK t = 1 ∧ tO t = none ∧ ∃ o, o < n ∧ tF t = some o) ∨ ((tK t = 2 ∨ tK t = 4 ∨ tK t = 5 ∨ tK t = 6 ∨ tK t = 8 ∨ tK t = 10) ∧ ∃ o, o < n ∧ tO t = some o) ∨ ((tK t = 0 ∨ tK t = 3 ∨ tK t = 7 ∨ tK t = 9) ∧ tO t = none)
def lk (t : Th) : Int32 := if tK t = 1 then oNum (tF t) else oNum (tO t)
def TS (ph : Nat → Rf) (n k : Nat) (t : Th) (M : Md) (i : Nat) : Prop :=
  wfT n t ∧ M.2 1 i = tK t ∧ M.2 2 i = tH t ∧ M.2 3 i = lk t ∧ M.2 4 i = tB t ∧ M.2 5 i = tI t ∧ M.2 6 i = tV t ∧ RR ph n k (tD t) (M.2 7 i, M.2 8 i) ∧ ∀ q, q < 4 → RR ph n k (tS t q) (M.2 9 (4 * i + q), M.2 10 (4 * i + q))
def MSm (ph : Nat → Rf) (n k : Nat) (th : Nat → Th) (m : Ms) (M : Md) (j : Nat) : Prop :=
  (∃ v, v < 16 ∧ mV m = nI v) ∧ M.2 18 j = mV m ∧ RR ph n k (mT m) (M.2 16 j, M.2 17 j) ∧ RR ph n k (mA m) (M.2 19 j, M.2 20 j) ∧ (mW m).length ≤ 8 ∧ M.2 24 j = nI (mW m).length ∧ ∀ x p, (mW m)[x]? = some p → p < n ∧ ∃ o, o < n ∧ tO (th p) = some o ∧ M.2 25 (8 * j + x) = nI o ∧ M.2 26 (8 * j + x) = tI (th p)
def Sm (ph : Nat → Rf) (s : St) (M : Md) : Prop := (sN s ≤ 40 ∧ sK s ≤ 200) ∧ good s ∧ CH (sK s) ph (fun j => mN (sM s j)) ∧ CH (sK s) ph (dAns M) ∧ PH ph (sN s) (sK s) ∧ (M.1 0 = nI (sN s) ∧ M.1 11 = nI (sK s)) ∧ (∀ i, i < sN s → TS ph (sN s) (sK s) (sT s i) M i) ∧ (∀ j, j < sK s → MSm ph (sN s) (sK s) (sT s) (sM s j) M j) ∧ ∀ q, 4 * sN s ≤ q → q < 160 → M.2 10 q = 0
def Fr (M M' : Md) : Prop := M'.1 15 = M.1 15 ∧ ∀ j, M'.2 12 j = M.2 12 j ∧ M'.2 13 j = M.2 13 j ∧ M'.2 14 j = M.2 14 j
theorem Fr.rf {M : Md} : Fr M M := ⟨rfl, fun _ => ⟨rfl, rfl, rfl⟩⟩
theorem Fr.tr {M M' M'' : Md} (h : Fr M M') (h' : Fr M' M'') : Fr M M'' := ⟨h'.1.trans h.1, fun j => ⟨(h'.2 j).1.trans (h.2 j).1, (h'.2 j).2.1.trans (h.2 j).2.1, (h'.2 j).2.2.trans (h.2 j).2.2⟩⟩
theorem Fr.hold {M M' : Md} {a b : Int32} (h : Fr M M') : Fr M (mHold M' a b) := h
theorem Fr.st {M M' : Md} (h : Fr M M') {f : Nat} {g : Nat → Int32} (hf : f ≠ 12 ∧ f ≠ 13 ∧ f ≠ 14) : Fr M (M'.1, va_up M'.2 f g) := ⟨h.1, fun j => by
  show va_up M'.2 f g 12 j = _ ∧ va_up M'.2 f g 13 j = _ ∧ va_up M'.2 f g 14 j = _
  rw [va_up_ne _ _ (Ne.symm hf.1), va_up_ne _ _ (Ne.symm hf.2.1), va_up_ne _ _ (Ne.symm hf.2.2)]
  exact h.2 j⟩
theorem Fr.make {M M' : Md} (h : Fr M M') {n : Nat} {a b c : Int32} : Fr M (mMake M' n a b c) := ⟨h.1, fun j => by simpa [mMake] using h.2 j⟩
section SIM
variable {ph : Nat → Rf} {n k : Nat} {s : St} {M M' : Md} {r r' : Rf} {t : Th} {i j : Nat}
theorem VV.up1 (h : VV n k r) : VV (n + 1) k r := ⟨h.1, fun q => by obtain ⟨i, hi, e⟩ := h.2.1 q; exact ⟨i, by omega, e⟩, h.2.2⟩
theorem RR.up1 (h : RR ph n k r r') : RR ph (n + 1) k r r' := ⟨h.1.up1, h.2⟩
theorem RA.up1 (h : RA ph n k r r') : RA ph (n + 1) k r r' := ⟨h.1.up1, h.2⟩
theorem RR.a (h : RR ph n k r r') : RA ph n k r r' := ⟨h.1, h.2.1, Or.inl h.2.2⟩
theorem RA.bne (h : RA ph n k r r') : bN (can ph r) = bN (can ph r') := by
  rcases h.2.2 with e | ⟨e, e' | e'⟩
  · rw [e]
  · rw [e, e']; rfl
  · rw [e, e']; rfl
theorem VV.lit {a b : Int32} (h2 : a ≠ 2) (h3 : a ≠ 3) (h0 : (a = 0 ∨ a = 4) → b = 0) : VV n k (a, b) := ⟨fun q => absurd q h3, fun q => absurd q h2, h0⟩
theorem VV.brk : VV n k rB := VV.lit (by decide) (by decide) (fun _ => rfl)
theorem VV.not : VV n k rN := VV.lit (by decide) (by decide) (fun _ => rfl)
theorem VV.num (x : Int32) : VV n k (1, x) := VV.lit (by decide) (by decide) (fun q => by rcases q with q | q <;> exact absurd q (by decide))
theorem VV.obj (h : i < n) : VV n k (2, nI i) := ⟨fun q => absurd (show (2 : Int32) = 3 from q) (by decide), fun _ => ⟨i, h, rfl⟩, fun q => by rcases q with q | q <;> cases q⟩
theorem VV.pro (h : j < k) : VV n k (3, nI j) := ⟨fun _ => ⟨j, h, rfl⟩, fun q => absurd (show (3 : Int32) = 2 from q) (by decide), fun q => by rcases q with q | q <;> cases q⟩
theorem RR.same (h : VV n k r) : RR ph n k r r := ⟨h, h.1, rfl⟩
theorem VV.can (hp : PH ph n k) (hk : k ≤ 200) (h : VV n k r) : VV n k (can ph r) := by
  by_cases h3 : r.1 = 3
  · obtain ⟨j, hj, rfl⟩ := vR_eq h.1 h3
    rw [can_p (by omega)]
    exact (hp j hj).1
  · rw [can_n h3]; exact h
/-- what counts is unresolved, or no promise -/
theorem CH.opn {ans : Nat → Option Rf} (h : CH k ph ans) (hk : k ≤ 200) : ∀ j, j < k → (ph j).1 = 3 → ∃ x, x < k ∧ ans x = none ∧ ph j = (3, nI x) := by
  obtain ⟨h1, h2, rk, h3⟩ := h
  have : ∀ N j, j < k → rk j < N → (ph j).1 = 3 → ∃ x, x < k ∧ ans x = none ∧ ph j = (3, nI x) := by
    intro N
    induction N with
    | zero => intro j _ h; exact absurd h (Nat.not_lt_zero _)
    | succ N ih =>
      intro j hj hr hp
      cases ha : ans j with
      | none => exact ⟨j, hj, ha, h1 j hj ha⟩
      | some a =>
        obtain ⟨e1, e2⟩ := h2 j a hj ha
        by_cases h3a : a.1 = 3
        · obtain ⟨x, hx, rfl⟩ := vR_eq e2 h3a
          have hlt := h3 j _ hj ha rfl
          rw [show ((3, nI x) : Rf).2.toNatClampNeg = x from nI_clamp (by omega)] at hlt
          rw [can_p (by omega)] at e1
          rw [e1] at hp ⊢
          exact ih x hx (by omega) hp
        · rw [can_n h3a] at e1
          rw [e1] at hp
          exact absurd hp h3a
  exact fun j hj hp => this (rk j + 1) j hj (Nat.lt_succ_self _) hp
theorem CH.idem {ans : Nat → Option Rf} (h : CH k ph ans) (hk : k ≤ 200) {r : Rf} (hv : vR k r) : can ph (can ph r) = can ph r := by
  by_cases h3 : r.1 = 3
  · obtain ⟨j, hj, rfl⟩ := vR_eq hv h3
    rw [can_p (by omega)]
    by_cases hp : (ph j).1 = 3
    · obtain ⟨x, hx, hn, e⟩ := h.opn hk j hj hp
      rw [e, can_p (by omega), h.1 x hx hn]
    · rw [can_n hp]
  · rw [can_n h3, can_n h3]
theorem CH.none_iff {ans : Nat → Option Rf} (h : CH k ph ans) (hk : k ≤ 200) (hj : j < k) : ans j = none ↔ ph j = (3, nI j) := by
  refine ⟨h.1 j hj, fun e => ?_⟩
  obtain ⟨x, hx, hn, e'⟩ := h.opn hk j hj (by rw [e])
  rw [e] at e'
  rw [nI_inj (by omega) (by omega) (congrArg Prod.snd e')]
  exact hn
theorem Sm.n40 (S : Sm ph s M) : sN s ≤ 40 := S.1.1
theorem Sm.k200 (S : Sm ph s M) : sK s ≤ 200 := S.1.2
theorem Sm.gd (S : Sm ph s M) : good s := S.2.1
theorem Sm.c1 (S : Sm ph s M) : CH (sK s) ph (fun j => mN (sM s j)) := S.2.2.1
theorem Sm.c2 (S : Sm ph s M) : CH (sK s) ph (dAns M) := S.2.2.2.1
theorem Sm.hp (S : Sm ph s M) : PH ph (sN s) (sK s) := S.2.2.2.2.1
theorem Sm.hn (S : Sm ph s M) : M.1 0 = nI (sN s) := S.2.2.2.2.2.1.1
theorem Sm.hk (S : Sm ph s M) : M.1 11 = nI (sK s) := S.2.2.2.2.2.1.2
theorem Sm.tt (S : Sm ph s M) (h : i < sN s) : TS ph (sN s) (sK s) (sT s i) M i := S.2.2.2.2.2.2.1 i h
theorem Sm.m (S : Sm ph s M) (h : j < sK s) : MSm ph (sN s) (sK s) (sT s) (sM s j) M j := S.2.2.2.2.2.2.2.1 j h
theorem Sm.z (S : Sm ph s M) {q : Nat} (h : 4 * sN s ≤ q) (h' : q < 160) : M.2 10 q = 0 := S.2.2.2.2.2.2.2.2 q h h'
theorem Sm.cntE (S : Sm ph s M) (h : VV (sN s) (sK s) r) : cnt s r = can ph r := cnt_can S.c1 S.k200 h.1
theorem Sm.hold {a b : Int32} (S : Sm ph s M) : Sm ph s (mHold M a b) := S
theorem Sm.tOfE (S : Sm ph s M) (h : VV (sN s) (sK s) r) : tOf s r = if (can ph r).1 = 2 then some (can ph r).2.toNatClampNeg else none := by
  unfold tOf
  rw [S.cntE h]
  by_cases h2 : (can ph r).1 = 2
  · rw [if_pos h2, if_pos h2]
    obtain ⟨i, hi, e⟩ := (h.can S.hp S.k200).2.1 h2
    have := S.n40
    rw [e, ixO_some (by omega) hi, nI_clamp (by omega)]
  · rw [if_neg h2, if_neg h2]
theorem Sm.aOfE (S : Sm ph s M) (h : VV (sN s) (sK s) r) : aOf s r = if (can ph r).1 = 3 then some (can ph r).2.toNatClampNeg else none := by
  unfold aOf
  rw [S.cntE h]
  by_cases h2 : (can ph r).1 = 3
  · rw [if_pos h2, if_pos h2]
    obtain ⟨i, hi, e⟩ := (h.can S.hp S.k200).1 h2
    have := S.k200
    rw [e, ixO_some (by omega) hi, nI_clamp (by omega)]
  · rw [if_neg h2, if_neg h2]
/-- rows left as they were -/
def eqT (M M' : Md) (i : Nat) : Prop := (M'.2 1 i = M.2 1 i ∧ M'.2 2 i = M.2 2 i ∧ M'.2 3 i = M.2 3 i ∧ M'.2 4 i = M.2 4 i ∧ M'.2 5 i = M.2 5 i ∧ M'.2 6 i = M.2 6 i ∧ M'.2 7 i = M.2 7 i ∧ M'.2 8 i = M.2 8 i) ∧ ∀ q, q < 4 → M'.2 9 (4 * i + q) = M.2 9 (4 * i + q) ∧ M'.2 10 (4 * i + q) = M.2 10 (4 * i + q)
def eqM (M M' : Md) (j : Nat) : Prop := (M'.2 16 j = M.2 16 j ∧ M'.2 17 j = M.2 17 j ∧ M'.2 18 j = M.2 18 j ∧ M'.2 19 j = M.2 19 j ∧ M'.2 20 j = M.2 20 j ∧ M'.2 24 j = M.2 24 j) ∧ ∀ q, q < 8 → M'.2 25 (8 * j + q) = M.2 25 (8 * j + q) ∧ M'.2 26 (8 * j + q) = M.2 26 (8 * j + q)
def eqA (M M' : Md) (j : Nat) : Prop := M'.2 21 j = M.2 21 j ∧ M'.2 22 j = M.2 22 j ∧ M'.2 23 j = M.2 23 j
theorem eqT.rf : eqT M M i := ⟨⟨rfl, rfl, rfl, rfl, rfl, rfl, rfl, rfl⟩, fun _ _ => ⟨rfl, rfl⟩⟩
theorem eqM.rf : eqM M M j := ⟨⟨rfl, rfl, rfl, rfl, rfl, rfl⟩, fun _ _ => ⟨rfl, rfl⟩⟩
theorem va_up_at {f c i : Nat} {F : Nat → Nat → Int32} {g : Nat → Int32} (h : f = c → g i = F c i) : va_up F f g c i = F c i := by
  by_cases hc : c = f
  · subst hc; rw [va_up_self]; exact h rfl
  · rw [va_up_ne _ _ hc]
theorem eqT.st {M0 : Md} (h : eqT M0 M i) {f : Nat} {g : Nat → Int32} (hg : f ≠ 9 → f ≠ 10 → f < 11 → g i = M.2 f i) (hs : f = 9 ∨ f = 10 → ∀ q, q < 4 → g (4 * i + q) = M.2 f (4 * i + q)) : eqT M0 (M.1, va_up M.2 f g) i := by
  refine ⟨⟨?_, ?_, ?_, ?_, ?_, ?_, ?_, ?_⟩, fun q hq => ⟨?_, ?_⟩⟩
  · exact (va_up_at (fun e => by subst e; exact hg (by decide) (by decide) (by decide))).trans h.1.1
  · exact (va_up_at (fun e => by subst e; exact hg (by decide) (by decide) (by decide))).trans h.1.2.1
  · exact (va_up_at (fun e => by subst e; exact hg (by decide) (by decide) (by decide))).trans h.1.2.2.1
  · exact (va_up_at (fun e => by subst e; exact hg (by decide) (by decide) (by decide))).trans h.1.2.2.2.1
  · exact (va_up_at (fun e => by subst e; exact hg (by decide) (by decide) (by decide))).trans h.1.2.2.2.2.1
  · exact (va_up_at (fun e => by subst e; exact hg (by decide) (by decide) (by decide))).trans h.1.2.2.2.2.2.1
  · exact (va_up_at (fun e => by subst e; exact hg (by decide) (by decide) (by decide))).trans h.1.2.2.2.2.2.2.1
  · exact (va_up_at (fun e => by subst e; exact hg (by decide) (by decide) (by decide))).trans h.1.2.2.2.2.2.2.2
  · exact (va_up_at (fun e => by subst e; exact hs (Or.inl rfl) q hq)).trans (h.2 q hq).1
  · exact (va_up_at (fun e => by subst e; exact hs (Or.inr rfl) q hq)).trans (h.2 q hq).2
/-- another row written, or a field of messages -/
theorem eqT.o {M0 : Md} (h : eqT M0 M i) {f a : Nat} {x : Int32} (hf : f < 9) (ha : i ≠ a) : eqT M0 (M.1, va_up M.2 f (va_up (M.2 f) a x)) i := h.st (fun _ _ _ => va_up_ne _ _ ha) (fun q => by omega)
theorem eqT.sl {M0 : Md} (h : eqT M0 M i) {f a : Nat} {x : Int32} (hf : f = 9 ∨ f = 10) (ha : ∀ q, q < 4 → 4 * i + q ≠ a) : eqT M0 (M.1, va_up M.2 f (va_up (M.2 f) a x)) i := h.st (fun a b => by omega) (fun _ q hq => va_up_ne _ _ (ha q hq))
theorem eqT.ms {M0 : Md} (h : eqT M0 M i) {f : Nat} {g : Nat → Int32} (hf : 10 < f) : eqT M0 (M.1, va_up M.2 f g) i := h.st (fun _ _ q => by omega) (fun q => by omega)
theorem eqM.st {M0 : Md} (h : eqM M0 M j) {f : Nat} {g : Nat → Int32} (hg : 16 ≤ f → f ≤ 24 → g j = M.2 f j) (hs : f = 25 ∨ f = 26 → ∀ q, q < 8 → g (8 * j + q) = M.2 f (8 * j + q)) : eqM M0 (M.1, va_up M.2 f g) j := by
  refine ⟨⟨?_, ?_, ?_, ?_, ?_, ?_⟩, fun q hq => ⟨?_, ?_⟩⟩
  · exact (va_up_at (fun e => by subst e; exact hg (by decide) (by decide))).trans h.1.1
  · exact (va_up_at (fun e => by subst e; exact hg (by decide) (by decide))).trans h.1.2.1
  · exact (va_up_at (fun e => by subst e; exact hg (by decide) (by decide))).trans h.1.2.2.1
  · exact (va_up_at (fun e => by subst e; exact hg (by decide) (by decide))).trans h.1.2.2.2.1
  · exact (va_up_at (fun e => by subst e; exact hg (by decide) (by decide))).trans h.1.2.2.2.2.1
  · exact (va_up_at (fun e => by subst e; exact hg (by decide) (by decide))).trans h.1.2.2.2.2.2
  · exact (va_up_at (fun e => by subst e; exact hs (Or.inl rfl) q hq)).trans (h.2 q hq).1
  · exact (va_up_at (fun e => by subst e; exact hs (Or.inr rfl) q hq)).trans (h.2 q hq).2
theorem eqM.o {M0 : Md} (h : eqM M0 M j) {f a : Nat} {x : Int32} (hf : f < 25) (ha : j ≠ a) : eqM M0 (M.1, va_up M.2 f (va_up (M.2 f) a x)) j := h.st (fun _ _ => va_up_ne _ _ ha) (fun q => by omega)
theorem eqM.ts {M0 : Md} (h : eqM M0 M j) {f : Nat} {g : Nat → Int32} (hf : f < 16 ∨ (20 < f ∧ f < 24)) : eqM M0 (M.1, va_up M.2 f g) j := by
  refine ⟨⟨?_, ?_, ?_, ?_, ?_, ?_⟩, fun q hq => ⟨?_, ?_⟩⟩
  · exact (va_up_at (fun e => by omega)).trans h.1.1
  · exact (va_up_at (fun e => by omega)).trans h.1.2.1
  · exact (va_up_at (fun e => by omega)).trans h.1.2.2.1
  · exact (va_up_at (fun e => by omega)).trans h.1.2.2.2.1
  · exact (va_up_at (fun e => by omega)).trans h.1.2.2.2.2.1
  · exact (va_up_at (fun e => by omega)).trans h.1.2.2.2.2.2
  · exact (va_up_at (fun e => by omega)).trans (h.2 q hq).1
  · exact (va_up_at (fun e => by omega)).trans (h.2 q hq).2
theorem eqT.make {M0 : Md} (h : eqT M0 M i) {n : Nat} {a b c : Int32} (hi : i < n) : eqT M0 (mMake M n a b c) i := by
  have hne : ¬ i = n := by omega
  refine ⟨by simpa [mMake, hne] using h.1, fun q hq => ⟨?_, ?_⟩⟩
  · have h9 : ¬ (4 * n ≤ 4 * i + q ∧ 4 * i + q < 4 * n + 4) := by omega
    simpa [mMake, h9] using (h.2 q hq).1
  · simpa [mMake] using (h.2 q hq).2
theorem eqM.make {M0 : Md} (h : eqM M0 M j) {n : Nat} {a b c : Int32} : eqM M0 (mMake M n a b c) j := by
  refine ⟨by simpa [mMake] using h.1, fun q hq => ⟨?_, ?_⟩⟩
  · simpa [mMake] using (h.2 q hq).1
  · simpa [mMake] using (h.2 q hq).2
theorem TS.eq (h : TS ph n k t M i) (e : eqT M M' i) : TS ph n k t M' i := by
  obtain ⟨⟨e1, e2, e3, e4, e5, e6, e7, e8⟩, es⟩ := e
  obtain ⟨h0, h1, h2, h3, h4, h5, h6, h7, h8⟩ := h
  refine ⟨h0, e1.trans h1, e2.trans h2, e3.trans h3, e4.trans h4, e5.trans h5, e6.trans h6, by rw [e7, e8]; exact h7, fun q hq => ?_⟩
  rw [(es q hq).1, (es q hq).2]
  exact h8 q hq
theorem wfT.up1 (h : wfT n t) : wfT (n + 1) t := by
  rcases h with ⟨a, b, o, c, d⟩ | ⟨a, o, c, d⟩ | h
  · exact Or.inl ⟨a, b, o, by omega, d⟩
  · exact Or.inr (Or.inl ⟨a, o, by omega, d⟩)
  · exact Or.inr (Or.inr h)
theorem TS.up1 (h : TS ph n k t M i) : TS ph (n + 1) k t M i := ⟨h.1.up1, h.2.1, h.2.2.1, h.2.2.2.1, h.2.2.2.2.1, h.2.2.2.2.2.1, h.2.2.2.2.2.2.1, h.2.2.2.2.2.2.2.1.up1, fun q hq => (h.2.2.2.2.2.2.2.2 q hq).up1⟩
theorem MSm.eq {th : Nat → Th} {m : Ms} (h : MSm ph n k th m M j) (e : eqM M M' j) : MSm ph n k th m M' j := by
  obtain ⟨⟨e1, e2, e3, e4, e5, e6⟩, es⟩ := e
  obtain ⟨h0, h1, h2, h3, h4, h5, h6⟩ := h
  refine ⟨h0, e3.trans h1, by rw [e1, e2]; exact h2, by rw [e4, e5]; exact h3, h4, e6.trans h5, fun x p hp => ?_⟩
  have hx : x < 8 := by have := (List.getElem?_eq_some_iff.mp hp).1; omega
  rw [(es x hx).1, (es x hx).2]
  exact h6 x p hp
theorem MSm.th {th th' : Nat → Th} {m : Ms} (h : MSm ph n k th m M j) (e : ∀ p, p < n → tO (th' p) = tO (th p) ∧ tI (th' p) = tI (th p)) : MSm ph n k th' m M j := ⟨h.1, h.2.1, h.2.2.1, h.2.2.2.1, h.2.2.2.2.1, h.2.2.2.2.2.1, fun x p hp => by
  obtain ⟨a, o, b, c, d⟩ := h.2.2.2.2.2.2 x p hp
  exact ⟨a, o, b, by rw [(e p a).1]; exact c, by rw [(e p a).2]; exact d⟩⟩
theorem MSm.up1 {th : Nat → Th} {m : Ms} (h : MSm ph n k th m M j) : MSm ph (n + 1) k th m M j := ⟨h.1, h.2.1, h.2.2.1.up1, h.2.2.2.1.up1, h.2.2.2.2.1, h.2.2.2.2.2.1, fun x p hp => by
  obtain ⟨a, o, b, c⟩ := h.2.2.2.2.2.2 x p hp
  exact ⟨by omega, o, by omega, c⟩⟩
theorem CH.eq {a a' : Nat → Option Rf} (h : CH k ph a) (e : ∀ j, j < k → a' j = a j) : CH k ph a' :=
  ⟨fun j hj q => h.1 j hj (by rw [← e j hj]; exact q), fun j x hj q => h.2.1 j x hj (by rw [← e j hj]; exact q), by
    obtain ⟨rk, hr⟩ := h.2.2
    exact ⟨rk, fun j x hj q => hr j x hj (by rw [← e j hj]; exact q)⟩⟩
theorem dAns_eq (e : eqA M M' j) : dAns M' j = dAns M j := by unfold dAns; rw [e.1, e.2.1, e.2.2]
theorem Sm.add (S : Sm ph s M) (h40 : sN s < 40) {t : Th} (hg : goodT t) (h0 : M'.1 0 = nI (sN s + 1)) (h11 : M'.1 11 = M.1 11) (eT : ∀ i, i < sN s → eqT M M' i) (eM : ∀ j, j < sK s → eqM M M' j) (eA : ∀ j, j < sK s → eqA M M' j) (ez : ∀ q, 4 * sN s ≤ q → M'.2 10 q = M.2 10 q) (ht : TS ph (sN s + 1) (sK s) t M' (sN s)) : Sm ph (sN s + 1, va_up (sT s) (sN s) t, s.2.2) M' := by
  refine ⟨⟨h40, S.k200⟩, fun i hi => ?_, S.c1, S.c2.eq (fun j hj => dAns_eq (eA j hj)), fun j hj => ⟨(S.hp j hj).1.up1, (S.hp j hj).2⟩, ⟨h0, h11.trans S.hk⟩, fun i hi => ?_, fun j hj => ?_, fun q hq hq' => ?_⟩
  · show goodT (va_up (sT s) (sN s) t i)
    by_cases h : i = sN s
    · subst h; rw [va_up_self]; exact hg
    · rw [va_up_ne _ _ h]; exact S.gd i (by have hi : i < sN s + 1 := hi; omega)
  · show TS ph (sN s + 1) (sK s) (va_up (sT s) (sN s) t i) M' i
    by_cases h : i = sN s
    · subst h; rw [va_up_self]; exact ht
    · have hi : i < sN s := by have hi : i < sN s + 1 := hi; omega
      rw [va_up_ne _ _ h]; exact ((S.tt hi).eq (eT i hi)).up1
  · exact (((S.m hj).eq (eM j hj)).th (fun p hp => by show tO (va_up (sT s) (sN s) t p) = _ ∧ tI (va_up (sT s) (sN s) t p) = _; rw [va_up_ne _ _ (by omega)]; exact ⟨rfl, rfl⟩)).up1
  · have hq : 4 * (sN s + 1) ≤ q := hq
    rw [ez q (by omega)]
    exact S.z (by omega) hq'
theorem Sm.setT (S : Sm ph s M) (hi : i < sN s) {t : Th} (hg : goodT t) (hO : tO t = tO (sT s i)) (hI : tI t = tI (sT s i)) (h0 : M'.1 0 = M.1 0) (h11 : M'.1 11 = M.1 11) (eT : ∀ i', i' < sN s → i' ≠ i → eqT M M' i') (eM : ∀ j, j < sK s → eqM M M' j) (eA : ∀ j, j < sK s → eqA M M' j) (ez : ∀ q, 4 * sN s ≤ q → M'.2 10 q = M.2 10 q) (ht : TS ph (sN s) (sK s) t M' i) : Sm ph (upT s i t) M' := by
  refine ⟨⟨S.n40, S.k200⟩, fun i' hi' => ?_, S.c1, S.c2.eq (fun j hj => dAns_eq (eA j hj)), S.hp, ⟨h0.trans S.hn, h11.trans S.hk⟩, fun i' hi' => ?_, fun j hj => ?_, fun q hq hq' => (ez q hq).trans (S.z hq hq')⟩
  · show goodT (va_up (sT s) i t i')
    by_cases h : i' = i
    · subst h; rw [va_up_self]; exact hg
    · rw [va_up_ne _ _ h]; exact S.gd i' hi'
  · show TS ph (sN s) (sK s) (va_up (sT s) i t i') M' i'
    by_cases h : i' = i
    · subst h; rw [va_up_self]; exact ht
    · rw [va_up_ne _ _ h]; exact (S.tt hi').eq (eT i' hi' h)
  · refine ((S.m hj).eq (eM j hj)).th (fun p hp => ?_)
    show tO (va_up (sT s) i t p) = _ ∧ tI (va_up (sT s) i t p) = _
    by_cases h : p = i
    · subst h; rw [va_up_self]; exact ⟨hO, hI⟩
    · rw [va_up_ne _ _ h]; exact ⟨rfl, rfl⟩
theorem Sm.setM (S : Sm ph s M) {j : Nat} {m : Ms} (hN : mN m = mN (sM s j)) (h0 : M'.1 0 = M.1 0) (h11 : M'.1 11 = M.1 11) (eT : ∀ i, i < sN s → eqT M M' i) (eM : ∀ j', j' < sK s → j' ≠ j → eqM M M' j') (eA : ∀ j, j < sK s → eqA M M' j) (ez : ∀ q, M'.2 10 q = M.2 10 q) (ht : MSm ph (sN s) (sK s) (sT s) m M' j) : Sm ph (upM s j m) M' := by
  refine ⟨⟨S.n40, S.k200⟩, S.gd, S.c1.eq (fun j' _ => ?_), S.c2.eq (fun j hj => dAns_eq (eA j hj)), S.hp, ⟨h0.trans S.hn, h11.trans S.hk⟩, fun i hi => (S.tt hi).eq (eT i hi), fun j' hj' => ?_, fun q hq hq' => (ez q).trans (S.z hq hq')⟩
  · show mN (va_up (sM s) j m j') = mN (sM s j')
    by_cases h : j' = j
    · subst h; rw [va_up_self]; exact hN
    · rw [va_up_ne _ _ h]
  · show MSm ph (sN s) (sK s) (sT s) (va_up (sM s) j m j') M' j'
    by_cases h : j' = j
    · subst h; rw [va_up_self]; exact ht
    · rw [va_up_ne _ _ h]; exact (S.m hj').eq (eM j' hj' h)
end SIM
