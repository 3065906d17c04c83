/-! The lines of both sides: those that stand at one place, in the order of their stamps. -/
def locM (M : Md) (j : Nat) : Option Nat := if M.2 12 j = 1 then some (M.2 13 j).toNatClampNeg else if M.2 12 j = 2 then some (4 + (M.2 13 j).toNatClampNeg) else none
def LnR (k : Nat) (M : Md) (ex : Nat → Prop) (ln : Nat → List Nat) : Prop := (∀ i j, j ∈ ln i ↔ j < k ∧ ¬ ex j ∧ locM M j = some i) ∧ ∀ i, (ln i).Pairwise (fun a b => M.2 14 a < M.2 14 b)
def PLc (ph w : Nat → Rf) (k : Nat) (m : Ms) (M : Md) (j : Nat) : Prop := M.2 12 j = 0 ∨ (M.2 12 j = 1 ∧ mN m = none ∧ (can ph (mT m)).1 = 2 ∧ ∃ v, v < 3 ∧ M.2 13 j = nI v) ∨ (M.2 12 j = 2 ∧ mN m = none ∧ ∃ x, x < k ∧ M.2 13 j = nI x ∧ can ph (mT m) = w x)
def LX (ph : Nat → Rf) (s : St) (M : Md) (ex : Nat → Prop) (ln : Nat → List Nat) (w : Nat → Rf) (B : Nat) : Prop :=
  LnR (sK s) M ex ln ∧ (∀ j, j < sK s → ¬ ex j → mP (sM s j) = M.2 12 j) ∧ (∀ j, j < sK s → ¬ ex j → PLc ph w (sK s) (sM s j) M j) ∧ ∃ S, S ≤ B ∧ M.1 15 = nI S ∧ ∀ j, j < sK s → ¬ ex j → M.2 12 j ≠ 0 → 0 ≤ (M.2 14 j).toInt ∧ (M.2 14 j).toInt ≤ S
def noX : Nat → Prop := fun _ => False
def w0 (x : Nat) : Rf := (3, nI x)
def LI (ph : Nat → Rf) (s : St) (M : Md) (B : Nat) : Prop := sL s 3 = [] ∧ LX ph s M noX (sL s) w0 B
theorem not_noX {j : Nat} : ¬ noX j := fun h => h
section LNS
variable {ph w : Nat → Rf} {s : St} {M : Md} {k B : Nat} {ln : Nat → List Nat}
theorem Sm.re {ph' : Nat → Rf} {s' : St} {M' : Md} (S : Sm ph s M) (hN : sN s' = sN s) (hT : sT s' = sT s) (hK : sK s' = sK s) (hm : ∀ j, j < sK s → mV (sM s' j) = mV (sM s j) ∧ mT (sM s' j) = mT (sM s j) ∧ mA (sM s' j) = mA (sM s j) ∧ mW (sM s' j) = mW (sM s j)) (h0 : M'.1 0 = M.1 0) (h11 : M'.1 11 = M.1 11) (eT : ∀ i, i < sN s → eqT M M' i) (eM : ∀ j, j < sK s → eqM M M' j) (ez : ∀ q, M'.2 10 q = M.2 10 q) (c1 : CH (sK s) ph' (fun j => mN (sM s' j))) (c2 : CH (sK s) ph' (dAns M')) (hp : PH ph' (sN s) (sK s)) (tr : ∀ r r', vR (sK s) r → vR (sK s) r' → can ph r = can ph r' → can ph' r = can ph' r') : Sm ph' s' M' := by
  have rr : ∀ {r r'}, RR ph (sN s) (sK s) r r' → RR ph' (sN s) (sK s) r r' := fun h => ⟨h.1, h.2.1, tr _ _ h.1.1 h.2.1 h.2.2⟩
  unfold Sm
  rw [hN, hK, hT]
  refine ⟨⟨S.n40, S.k200⟩, ?_, c1, c2, hp, ⟨h0.trans S.hn, h11.trans S.hk⟩, fun i hi => ?_, fun j hj => ?_, fun q hq hq' => (ez q).trans (S.z hq hq')⟩
  · intro i hi; rw [hT]; exact S.gd i (by rw [hN] at hi; exact hi)
  · have h := (S.tt hi).eq (eT i hi)
    exact ⟨h.1, h.2.1, h.2.2.1, h.2.2.2.1, h.2.2.2.2.1, h.2.2.2.2.2.1, h.2.2.2.2.2.2.1, rr h.2.2.2.2.2.2.2.1, fun q hq => rr (h.2.2.2.2.2.2.2.2 q hq)⟩
  · have h := (S.m hj).eq (eM j hj)
    obtain ⟨a1, a2, a3, a4⟩ := hm j hj
    unfold MSm
    rw [a1, a2, a3, a4]
    exact ⟨h.1, h.2.1, rr h.2.2.1, rr h.2.2.2.1, h.2.2.2.2.1, h.2.2.2.2.2.1, h.2.2.2.2.2.2⟩
theorem LnR.pop {ex : Nat → Prop} (h : LnR k M ex ln) {i m : Nat} {t : List Nat} (hl : ln i = m :: t) : LnR k M (fun j => ex j ∨ j = m) (va_up ln i t) := by
  have hm := (h.1 i m).mp (by rw [hl]; exact List.mem_cons_self)
  have hpw := h.2 i
  rw [hl] at hpw
  have hmt : m ∉ t := fun q => Int32.lt_irrefl ((List.pairwise_cons.mp hpw).1 m q)
  refine ⟨fun i' j => ?_, fun i' => ?_⟩
  · by_cases hi : i' = i
    · subst hi
      rw [va_up_self]
      have := h.1 i' j
      rw [hl] at this
      constructor
      · intro q
        obtain ⟨a, b, c⟩ := this.mp (List.mem_cons_of_mem _ q)
        exact ⟨a, fun z => z.elim b (fun e => hmt (e ▸ q)), c⟩
      · rintro ⟨a, b, c⟩
        rcases List.mem_cons.mp (this.mpr ⟨a, fun z => b (Or.inl z), c⟩) with e | q
        · exact absurd (Or.inr e) b
        · exact q
    · rw [va_up_ne _ _ hi]
      rw [h.1 i' j]
      constructor
      · rintro ⟨a, b, c⟩
        refine ⟨a, fun z => z.elim b (fun e => ?_), c⟩
        subst e
        rw [hm.2.2] at c
        cases c
        exact hi rfl
      · rintro ⟨a, b, c⟩
        exact ⟨a, fun z => b (Or.inl z), c⟩
  · by_cases hi : i' = i
    · subst hi; rw [va_up_self]; exact (List.pairwise_cons.mp hpw).2
    · rw [va_up_ne _ _ hi]; exact h.2 i'
theorem LnR.ext {ex ex' : Nat → Prop} (h : LnR k M ex ln) (e : ∀ j, ex' j ↔ ex j) : LnR k M ex' ln := ⟨fun i j => by rw [h.1 i j, e j], h.2⟩
/-- one that stood nowhere joins a line, with a stamp above all -/
theorem LnR.stand {M' : Md} {m i0 : Nat} (h : LnR k M (fun j => j = m) ln) (hm : m < k) (hl : locM M' m = some i0) (he : ∀ j, j ≠ m → M'.2 12 j = M.2 12 j ∧ M'.2 13 j = M.2 13 j ∧ M'.2 14 j = M.2 14 j) (hs : ∀ j, j ∈ ln i0 → M'.2 14 j < M'.2 14 m) : LnR k M' noX (va_up ln i0 (ln i0 ++ [m])) := by
  have hloc : ∀ j, j ≠ m → locM M' j = locM M j := fun j hj => by unfold locM; rw [(he j hj).1, (he j hj).2.1]
  have hne : ∀ i j, j ∈ ln i → j ≠ m := fun i j q => ((h.1 i j).mp q).2.1
  have key : ∀ i j, j ∈ ln i ↔ j < k ∧ j ≠ m ∧ locM M' j = some i := fun i j => by
    rw [h.1 i j]
    constructor
    · rintro ⟨a, b, c⟩; exact ⟨a, b, by rw [hloc j b]; exact c⟩
    · rintro ⟨a, b, c⟩; exact ⟨a, b, by rw [← hloc j b]; exact c⟩
  have pw : ∀ i, (ln i).Pairwise (fun a b => M'.2 14 a < M'.2 14 b) := fun i => by
    refine (h.2 i).imp_of_mem (fun {a b} ha hb q => ?_)
    rw [(he a (hne i a ha)).2.2, (he b (hne i b hb)).2.2]; exact q
  refine ⟨fun i j => ?_, fun i => ?_⟩
  · by_cases hi : i = i0
    · subst hi
      rw [va_up_self]
      constructor
      · intro q
        rcases List.mem_append.mp q with q | q
        · obtain ⟨a, b, c⟩ := (key i j).mp q
          exact ⟨a, not_noX, c⟩
        · rw [List.mem_singleton.mp q]; exact ⟨hm, not_noX, hl⟩
      · rintro ⟨a, -, c⟩
        by_cases hj : j = m
        · subst hj; exact List.mem_append_right _ (List.mem_singleton.mpr rfl)
        · exact List.mem_append_left _ ((key i j).mpr ⟨a, hj, c⟩)
    · rw [va_up_ne _ _ hi]
      rw [key i j]
      constructor
      · rintro ⟨a, b, c⟩; exact ⟨a, not_noX, c⟩
      · rintro ⟨a, -, c⟩
        exact ⟨a, fun e => by subst e; rw [hl] at c; cases c; exact hi rfl, c⟩
  · by_cases hi : i = i0
    · subst hi
      rw [va_up_self]
      exact List.pairwise_append.mpr ⟨pw i, List.pairwise_singleton _ _, fun a ha b hb => by rw [List.mem_singleton.mp hb]; exact hs a ha⟩
    · rw [va_up_ne _ _ hi]; exact pw i
/-- one that stood nowhere comes to stand nowhere -/
theorem LnR.off {M' : Md} {m : Nat} (h : LnR k M (fun j => j = m) ln) (hl : locM M' m = none) (he : ∀ j, j ≠ m → M'.2 12 j = M.2 12 j ∧ M'.2 13 j = M.2 13 j ∧ M'.2 14 j = M.2 14 j) : LnR k M' noX ln := by
  have hloc : ∀ j, j ≠ m → locM M' j = locM M j := fun j hj => by unfold locM; rw [(he j hj).1, (he j hj).2.1]
  refine ⟨fun i j => ?_, fun i => ?_⟩
  · rw [h.1 i j]
    constructor
    · rintro ⟨a, b, c⟩; exact ⟨a, not_noX, by rw [hloc j b]; exact c⟩
    · rintro ⟨a, -, c⟩
      have hj : j ≠ m := fun e => by subst e; rw [hl] at c; cases c
      exact ⟨a, hj, by rw [← hloc j hj]; exact c⟩
  · refine (h.2 i).imp_of_mem (fun {a b} ha hb q => ?_)
    rw [(he a ((h.1 i a).mp ha).2.1).2.2, (he b ((h.1 i b).mp hb).2.1).2.2]; exact q
theorem LX.pop (h : LX ph s M noX ln w B) {i m : Nat} {t : List Nat} (hl : ln i = m :: t) : LX ph s M (fun j => j = m) (va_up ln i t) w B := by
  obtain ⟨h1, h2, h3, S, h4, h5, h6⟩ := h
  exact ⟨(h1.pop hl).ext (fun j => ⟨Or.inr, fun q => q.elim False.elim id⟩), fun j hj _ => h2 j hj not_noX, fun j hj _ => h3 j hj not_noX, S, h4, h5, fun j hj _ => h6 j hj not_noX⟩
theorem locM_st (M : Md) (m : Nat) (p x : Int32) : locM (mStand M m p x) m = if p = 1 then some x.toNatClampNeg else if p = 2 then some (4 + x.toNatClampNeg) else none := by
  unfold locM
  have e1 : (mStand M m p x).2 12 m = p := by show va_up (M.2 12) m p m = p; rw [va_up_self]
  have e2 : (mStand M m p x).2 13 m = x := by show va_up (M.2 13) m x m = x; rw [va_up_self]
  rw [e1, e2]
theorem mStand_ne (M : Md) (m : Nat) (p x : Int32) : ∀ j, j ≠ m → (mStand M m p x).2 12 j = M.2 12 j ∧ (mStand M m p x).2 13 j = M.2 13 j ∧ (mStand M m p x).2 14 j = M.2 14 j := by
  intro j hj
  refine ⟨?_, ?_, ?_⟩
  · show va_up (M.2 12) m p j = _; rw [va_up_ne _ _ hj]
  · show va_up (M.2 13) m x j = _; rw [va_up_ne _ _ hj]
  · show va_up (M.2 14) m _ j = _; rw [va_up_ne _ _ hj]
theorem mStand_eqT {i m : Nat} {p x : Int32} : eqT M (mStand M m p x) i := ⟨⟨rfl, rfl, rfl, rfl, rfl, rfl, rfl, rfl⟩, fun _ _ => ⟨rfl, rfl⟩⟩
theorem mStand_eqM {j m : Nat} {p x : Int32} : eqM M (mStand M m p x) j := ⟨⟨rfl, rfl, rfl, rfl, rfl, rfl⟩, fun _ _ => ⟨rfl, rfl⟩⟩
theorem mStand_eqA {j m : Nat} {p x : Int32} : eqA M (mStand M m p x) j := ⟨rfl, rfl, rfl⟩
/-- the message m comes to stand at line i0, place p -/
theorem stand_ok (S : Sm ph s M) {m : Nat} (hm : m < sK s) (h : LX ph s M (fun j => j = m) ln w B) (hB : B + 1 < 2 ^ 31) (hN : mN (sM s m) = none) {p x : Int32} {a b : Int32} {i0 : Nat} (hp : p = 1 ∨ p = 2) (hloc : (if p = 1 then some x.toNatClampNeg else if p = 2 then some (4 + x.toNatClampNeg) else none) = some i0)
    (hPL : (p = 1 ∧ (can ph (mT (sM s m))).1 = 2 ∧ ∃ v, v < 3 ∧ x = nI v) ∨ (p = 2 ∧ ∃ y, y < sK s ∧ x = nI y ∧ can ph (mT (sM s m)) = w y)) {sl : Nat → List Nat} :
    Sm ph (sN s, sT s, sK s, va_up (sM s) m (mPl (sM s m) p), sl) (mStand (mHold M a b) m p x) ∧ LX ph (sN s, sT s, sK s, va_up (sM s) m (mPl (sM s m) p), sl) (mStand (mHold M a b) m p x) noX (va_up ln i0 (ln i0 ++ [m])) w (B + 1) := by
  have hsm : ∀ j, j < sK s → mV (va_up (sM s) m (mPl (sM s m) p) j) = mV (sM s j) ∧ mT (va_up (sM s) m (mPl (sM s m) p) j) = mT (sM s j) ∧ mA (va_up (sM s) m (mPl (sM s m) p) j) = mA (sM s j) ∧ mW (va_up (sM s) m (mPl (sM s m) p) j) = mW (sM s j) := fun j _ => by
    by_cases hj : j = m
    · subst hj; rw [va_up_self]; exact ⟨rfl, rfl, rfl, rfl⟩
    · rw [va_up_ne _ _ hj]; exact ⟨rfl, rfl, rfl, rfl⟩
  have hmn : ∀ j, mN (va_up (sM s) m (mPl (sM s m) p) j) = mN (sM s j) := fun j => by
    by_cases hj : j = m
    · subst hj; rw [va_up_self]
    · rw [va_up_ne _ _ hj]
  obtain ⟨h1, h2, h3, S0, h4, h5, h6⟩ := h
  refine ⟨(S.hold (a := a) (b := b)).re rfl rfl rfl hsm rfl rfl (fun i _ => mStand_eqT) (fun j _ => mStand_eqM) (fun _ => rfl) (S.c1.eq (fun j _ => hmn j)) (S.c2.eq (fun j _ => dAns_eq mStand_eqA)) S.hp (fun _ _ _ _ e => e), ?_⟩
  have hst : (mStand (mHold M a b) m p x).2 14 m = nI (S0 + 1) := by
    show va_up (M.2 14) m (M.1 15 + 1) m = _
    rw [va_up_self, h5, nI_1]
  have hne := mStand_ne (mHold M a b) m p x
  refine ⟨?_, fun j hj _ => ?_, fun j hj _ => ?_, S0 + 1, by omega, ?_, fun j hj _ hz => ?_⟩
  · refine LnR.stand (M := M) h1 hm ((locM_st _ _ _ _).trans hloc) hne (fun j hj => ?_)
    obtain ⟨a1, a2, a3⟩ := (h1.1 i0 j).mp hj
    rw [(hne j a2).2.2, hst]
    have hnz : M.2 12 j ≠ 0 := fun q => by unfold locM at a3; rw [q] at a3; simp at a3
    have := (h6 j a1 a2 hnz).2
    rw [Int32.lt_iff_toInt_lt, nI_toInt (by omega)]
    show (M.2 14 j).toInt < _
    omega
  · show mP (va_up (sM s) m (mPl (sM s m) p) j) = _
    by_cases hjm : j = m
    · subst hjm
      rw [va_up_self]
      show p = va_up (M.2 12) j p j
      rw [va_up_self]
    · rw [va_up_ne _ _ hjm, (hne j hjm).1]; exact h2 j hj hjm
  · show PLc ph w (sK s) (va_up (sM s) m (mPl (sM s m) p) j) _ j
    by_cases hjm : j = m
    · subst hjm
      rw [va_up_self]
      have e1 : (mStand (mHold M a b) j p x).2 12 j = p := by show va_up (M.2 12) j p j = p; rw [va_up_self]
      have e2 : (mStand (mHold M a b) j p x).2 13 j = x := by show va_up (M.2 13) j x j = x; rw [va_up_self]
      unfold PLc
      rw [e1, e2]
      rcases hPL with ⟨q1, q2, q3⟩ | ⟨q1, q3⟩
      · exact Or.inr (Or.inl ⟨q1, hN, q2, q3⟩)
      · exact Or.inr (Or.inr ⟨q1, hN, q3⟩)
    · rw [va_up_ne _ _ hjm]
      unfold PLc
      rw [(hne j hjm).1, (hne j hjm).2.1]
      exact h3 j hj hjm
  · show M.1 15 + 1 = nI (S0 + 1)
    rw [h5, nI_1]
  · by_cases hjm : j = m
    · subst hjm
      rw [hst, nI_toInt (by omega)]
      omega
    · rw [(hne j hjm).2.2]
      rw [(hne j hjm).1] at hz
      obtain ⟨b1, b2⟩ := h6 j hj hjm hz
      exact ⟨b1, by show (M.2 14 j).toInt ≤ _; omega⟩
/-- nobody is released between calls -/
theorem LX.rel (S : Sm ph s M) (h : LX ph s M noX ln w B) {jj : Nat} (hjj : ∀ x, x < sK s → x ≠ jj → w x = w0 x) (hr : jj < sK s → ¬ M.2 21 jj = 0) : ∀ j, (j < sK s ∧ relP M j = true) ↔ (j ∈ ln (4 + jj) ∧ jj < sK s) := by
  obtain ⟨h1, h2, h3, S0, h4, h5, h6⟩ := h
  have k200 := S.k200
  intro j
  constructor
  · rintro ⟨hj, hp⟩
    unfold relP at hp
    obtain ⟨p1, p2⟩ := of_decide_eq_true hp
    rcases h3 j hj not_noX with q | ⟨q, -⟩ | ⟨q, hn, x, hx, e1, e2⟩
    · rw [q] at p1; cases p1
    · rw [q] at p1; cases p1
    · by_cases hxj : x = jj
      · subst hxj
        refine ⟨(h1.1 _ j).mpr ⟨hj, not_noX, ?_⟩, hx⟩
        unfold locM
        rw [q, e1, nI_clamp (by omega)]
        rfl
      · rw [hjj x hx hxj] at e2
        exfalso
        rw [e1, nI_clamp (by omega)] at p2
        have hv := (S.m hj).2.2.1.1.1
        by_cases h3' : (mT (sM s j)).1 = 3
        · obtain ⟨y, hy, ey⟩ := vR_eq hv h3'
          rw [ey, can_p (by omega)] at e2
          obtain ⟨z, hz, hzn, ez⟩ := S.c2.opn k200 y hy (by rw [e2]; rfl)
          rw [e2] at ez
          have : x = z := nI_inj (by omega) (by omega) (congrArg Prod.snd ez)
          subst this
          unfold dAns at hzn
          rw [if_neg p2] at hzn
          cases hzn
        · rw [can_n h3'] at e2
          rw [e2] at h3'
          exact h3' rfl
  · rintro ⟨hj, hlt⟩
    obtain ⟨a, -, c⟩ := (h1.1 _ j).mp hj
    refine ⟨a, ?_⟩
    unfold relP
    rcases h3 j a not_noX with q | ⟨q, hn, -, v, hv, e1⟩ | ⟨q, hn, x, hx, e1, e2⟩
    · unfold locM at c; rw [q] at c; cases c
    · unfold locM at c; rw [q, e1, nI_clamp (by omega), if_pos rfl] at c
      simp at c; omega
    · unfold locM at c; rw [q, e1, nI_clamp (by omega)] at c
      have : x = jj := by simp at c; exact c
      subst this
      exact decide_eq_true ⟨q, by rw [e1, nI_clamp (by omega)]; exact hr hx⟩
end LNS
