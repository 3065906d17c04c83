/-! What a resolution sets loose. -/
def LoopPre (k : Nat) (M : Md) : Prop := M.1 11 = nI k ∧ ∀ i, i < k → M.2 12 i = 2 → ∃ x, x < 200 ∧ M.2 13 i = nI x
def relN (k : Nat) (M : Md) : Option Nat := mnF (relP M) (M.2 14) k
/-- the reference's loop ends, within so many rounds, in Q -/
def Cas (k : Nat) (Q : Md → Prop) : Nat → Md → Prop
  | 0, M => LoopPre k M ∧ relN k M = none ∧ Q M
  | n + 1, M => LoopPre k M ∧ ((relN k M = none ∧ Q M) ∨ ∃ m ph, relN k M = some m ∧ CH k ph (dAns M) ∧ vR k (M.2 16 m, M.2 17 m) ∧ ((can ph (M.2 16 m, M.2 17 m)).1 = 2 → ∃ i, i < 40 ∧ (can ph (M.2 16 m, M.2 17 m)).2 = nI i) ∧ Cas k Q n (mDir M m (can ph (M.2 16 m, M.2 17 m))))
theorem Cas.mono {k : Nat} {Q Q' : Md → Prop} (hQ : ∀ M, Q M → Q' M) : ∀ {n n' : Nat} {M : Md}, n ≤ n' → Cas k Q n M → Cas k Q' n' M
  | 0, 0, M, _, h => ⟨h.1, h.2.1, hQ M h.2.2⟩
  | 0, n' + 1, M, _, h => ⟨h.1, Or.inl ⟨h.2.1, hQ M h.2.2⟩⟩
  | n + 1, 0, M, hn, _ => absurd hn (Nat.not_succ_le_zero n)
  | n + 1, n' + 1, M, hn, h => by
    refine ⟨h.1, ?_⟩
    rcases h.2 with ⟨a, b⟩ | ⟨m, ph, a1, a2, a3, a4, a5⟩
    · exact Or.inl ⟨a, hQ M b⟩
    · exact Or.inr ⟨m, ph, a1, a2, a3, a4, Cas.mono hQ (by omega) a5⟩
theorem bN_3 {z : Rf} {j : Nat} (h : bN z = (3, nI j)) : z = (3, nI j) := by
  unfold bN at h
  by_cases h0 : z.1 = 0
  · rw [if_pos h0] at h; cases h
  · rw [if_neg h0] at h; exact h
theorem bN_ne0 (z : Rf) : (bN z).1 ≠ 0 := by
  unfold bN
  by_cases h0 : z.1 = 0
  · rw [if_pos h0]; decide
  · rw [if_neg h0]; exact h0
section CAS
variable {ph w : Nat → Rf} {s : St} {M : Md} {k B : Nat} {ln : Nat → List Nat}
theorem LX.pre (S : Sm ph s M) (h : LX ph s M noX ln w B) : LoopPre (sK s) M := by
  refine ⟨S.hk, fun i hi hz => ?_⟩
  have := S.k200
  rcases h.2.2.1 i hi not_noX with q | ⟨q, -⟩ | ⟨-, -, x, hx, e, -⟩
  · rw [q] at hz; cases hz
  · rw [q] at hz; cases hz
  · exact ⟨x, by omega, e⟩
def stX (ph : Nat → Rf) (j : Nat) (r : Rf) : Rf := if can ph r = (3, nI j) then rB else bN (can ph r)
theorem mSettle_ne (M : Md) (m : Nat) (a c : Rf) : ∀ j, j ≠ m → (mSettle M m a c).2 12 j = M.2 12 j ∧ (mSettle M m a c).2 13 j = M.2 13 j ∧ (mSettle M m a c).2 14 j = M.2 14 j := fun j hj => ⟨va_up_ne _ _ hj, rfl, rfl⟩
theorem settle_ok (S : Sm ph s M) {j : Nat} (hj : j < sK s) (h : LX ph s M (fun i => i = j) (sL s) w0 B) (hN : mN (sM s j) = none) {r a : Rf} (hra : RA ph (sN s) (sK s) r a) :
    Sm (phS ph j (stX ph j r)) (settleS s j r) (mSettle M j a (can ph a)) ∧ LX (phS ph j (stX ph j r)) (settleS s j r) (mSettle M j a (can ph a)) noX (sL s) (va_up w0 j (stX ph j r)) B ∧ (mSettle M j a (can ph a)).2 21 j = 1 ∧ VV (sN s) (sK s) (stX ph j r) ∧ stX ph j r ≠ (3, nI j) ∧ ∀ i, j ∉ sL s i := by
  have k200 := S.k200
  have hbe := hra.bne
  have hpj : ph j = (3, nI j) := S.c1.1 j hj hN
  have hVr := hra.1.can S.hp k200
  -- the two answers count as the same
  have hac : can ph (ansS s j r) = stX ph j r ∧ vR (sK s) (ansS s j r) := by
    unfold ansS stX
    rw [S.aOfE hra.1]
    by_cases hc : can ph r = (3, nI j)
    · rw [if_pos hc, hc]
      rw [if_pos rfl, if_pos (show some (nI j).toNatClampNeg = some j by rw [nI_clamp (by omega)])]
      exact ⟨can_n (by decide), (VV.brk (n := sN s)).1⟩
    · rw [if_neg hc]
      rw [if_neg (by
        intro q
        by_cases h3 : (can ph r).1 = 3
        · rw [if_pos h3] at q
          obtain ⟨y, hy, e⟩ := vR_eq hVr.1 h3
          rw [e] at q hc
          have : y = j := by have := Option.some.inj q; rwa [show ((3, nI y) : Rf).2.toNatClampNeg = y from nI_clamp (by omega)] at this
          subst this
          exact hc rfl
        · rw [if_neg h3] at q; cases q)]
      by_cases h0 : r.1 = 0
      · have e1 : bN r = rB := by unfold bN; rw [if_pos h0]
        rw [e1, can_n (r := r) (by rw [h0]; decide), e1]
        exact ⟨can_n (by decide), (VV.brk (n := sN s)).1⟩
      · have e1 : bN r = r := by unfold bN; rw [if_neg h0]
        rw [e1]
        refine ⟨?_, hra.1.1⟩
        unfold bN
        rw [if_neg (fun q => h0 ((can0 S.hp k200 hra.1).mp q))]
  obtain ⟨am, ham⟩ : ∃ am : Rf, am = (if badC (can ph a) j then rB else a) := ⟨_, rfl⟩
  have hcm : can ph am = stX ph j r ∧ vR (sK s) am := by
    rw [ham]
    unfold stX
    by_cases hb : badC (can ph a) j
    · rw [if_pos hb]
      refine ⟨?_, (VV.brk (n := sN s)).1⟩
      rw [can_n (r := rB) (by decide)]
      rcases hb with hb | hb
      · have e1 : bN (can ph a) = rB := by unfold bN; rw [if_pos hb]
        rw [if_neg (fun q => by rw [q, e1] at hbe; cases hbe), hbe, e1]
      · have e0 : can ph a = (3, nI j) := Prod.ext hb.1 hb.2
        rw [e0] at hbe
        rw [if_pos (bN_3 (by rw [hbe]; rfl))]
    · rw [if_neg hb]
      refine ⟨?_, hra.2.1⟩
      have e1 : bN (can ph a) = can ph a := by unfold bN; rw [if_neg (fun q => hb (Or.inl q))]
      rw [e1] at hbe
      rw [if_neg (fun q => hb (Or.inr (by rw [q] at hbe; rw [← hbe]; exact ⟨rfl, rfl⟩))), hbe]
  have hVx : VV (sN s) (sK s) (stX ph j r) := by
    unfold stX
    split
    · exact VV.brk
    · unfold bN
      split
      · exact VV.brk
      · exact hVr
  have hx0 : (stX ph j r).1 ≠ 0 := by
    unfold stX
    split
    · decide
    · exact bN_ne0 _
  have hxj : stX ph j r ≠ (3, nI j) := by
    unfold stX
    split
    · intro q; cases q
    · next hc => exact fun q => hc (bN_3 q)
  have c1 : CH (sK s) (phS ph j (stX ph j r)) (fun i => mN (sM (settleS s j r) i)) := by
    have := S.c1.settle k200 hj hN hac.2 (by rw [hac.1]; exact hxj)
    rw [hac.1] at this
    refine this.eq (fun i _ => ?_)
    show mN (va_up (sM s) j (mAns (sM s j) (ansS s j r)) i) = _
    by_cases hi : i = j
    · subst hi; rw [va_up_self, va_up_self]
    · rw [va_up_ne _ _ hi, va_up_ne _ _ hi]
  have hdn : dAns M j = none := (S.c2.none_iff k200 hj).mpr hpj
  have c2 : CH (sK s) (phS ph j (stX ph j r)) (dAns (mSettle M j a (can ph a))) := by
    have := S.c2.settle k200 hj hdn hcm.2 (by rw [hcm.1]; exact hxj)
    rw [hcm.1] at this
    refine this.eq (fun i _ => ?_)
    unfold dAns
    show (if va_up (M.2 21) j 1 i = 0 then none else some (va_up (M.2 22) j (if badC (can ph a) j then 4 else a.1) i, va_up (M.2 23) j (if badC (can ph a) j then 0 else a.2) i)) = _
    by_cases hi : i = j
    · subst hi
      rw [va_up_self, va_up_self, va_up_self, va_up_self, if_neg (by decide), ham]
      by_cases hb : badC (can ph a) i
      · rw [if_pos hb, if_pos hb, if_pos hb]
      · rw [if_neg hb, if_neg hb, if_neg hb]
    · rw [va_up_ne _ _ hi, va_up_ne _ _ hi, va_up_ne _ _ hi, va_up_ne _ _ hi]
  have hcp : ∀ {q : Rf}, vR (sK s) q → can (phS ph j (stX ph j r)) q = if can ph q = (3, nI j) then stX ph j r else can ph q := fun hq => can_phS k200 hj hpj hq
  have hsm : ∀ i, i ≠ j → sM (settleS s j r) i = sM s i := fun i hi => va_up_ne _ _ hi
  refine ⟨?_, ?_, va_up_self _ _ _, hVx, hxj, fun i q => ((h.1.1 i j).mp q).2.1 rfl⟩
  · refine S.re rfl rfl rfl (fun i _ => ?_) rfl rfl (fun i _ => ⟨⟨rfl, rfl, rfl, rfl, rfl, rfl, rfl, rfl⟩, fun _ _ => ⟨rfl, rfl⟩⟩) (fun i _ => ⟨⟨rfl, rfl, rfl, rfl, rfl, rfl⟩, fun _ _ => ⟨rfl, rfl⟩⟩) (fun _ => rfl) c1 c2 (fun i hi => ?_) (fun q q' hq hq' e => by rw [hcp hq, hcp hq', e])
    · by_cases hi : i = j
      · subst hi
        rw [show sM (settleS s i r) i = mAns (sM s i) (ansS s i r) from va_up_self _ _ _]
        exact ⟨rfl, rfl, rfl, rfl⟩
      · rw [hsm i hi]; exact ⟨rfl, rfl, rfl, rfl⟩
    · unfold phS
      split
      · exact ⟨hVx, hx0⟩
      · exact S.hp i hi
  · obtain ⟨h1, h2, h3, S0, h4, h5, h6⟩ := h
    have e0 : (mSettle M j a (can ph a)).2 12 j = 0 := va_up_self _ _ _
    have hne := mSettle_ne M j a (can ph a)
    refine ⟨h1.off (by unfold locM; rw [e0]; rfl) hne, fun i hi _ => ?_, fun i hi _ => ?_, S0, h4, h5, fun i hi _ hz => ?_⟩
    · by_cases hij : i = j
      · subst hij
        rw [e0, show sM (settleS s i r) i = mAns (sM s i) (ansS s i r) from va_up_self _ _ _]
      · rw [hsm i hij, (hne i hij).1]; exact h2 i hi hij
    · by_cases hij : i = j
      · subst hij; exact Or.inl e0
      · rw [hsm i hij]
        unfold PLc
        rw [(hne i hij).1, (hne i hij).2.1, hcp (S.m hi).2.2.1.1.1]
        rcases h3 i hi hij with q | ⟨q, hn, hc, v, hv, e⟩ | ⟨q, hn, x, hx, e, e'⟩
        · exact Or.inl q
        · refine Or.inr (Or.inl ⟨q, hn, ?_, v, hv, e⟩)
          rw [if_neg (fun z => by rw [z] at hc; cases hc)]; exact hc
        · refine Or.inr (Or.inr ⟨q, hn, x, hx, e, ?_⟩)
          rw [e']
          unfold w0
          by_cases hxj2 : x = j
          · subst hxj2; rw [if_pos rfl, va_up_self]
          · rw [if_neg (fun z => hxj2 (nI_inj (by omega) (by omega) (congrArg Prod.snd z))), va_up_ne _ _ hxj2]
    · by_cases hij : i = j
      · subst hij; exact absurd e0 hz
      · rw [(hne i hij).1] at hz
        exact h6 i hi hij hz
theorem rAll_nil {s : St} (h : sL s 3 = []) (f : Nat) : rAll f s = s := by
  cases f with
  | zero => rfl
  | succ f => unfold rAll; rw [h]
theorem rAll_cons {s : St} {m : Nat} {t : List Nat} (h : sL s 3 = m :: t) (f : Nat) : rAll (f + 1) s = rAll f (routeS (sN s, sT s, sK s, sM s, va_up (sL s) 3 t) m) := by
  conv => lhs; unfold rAll
  rw [h]
theorem LX.relNone (S : Sm ph s M) (h : LX ph s M noX ln w B) {jj : Nat} (hjj : ∀ x, x < sK s → x ≠ jj → w x = w0 x) (hr : jj < sK s → ¬ M.2 21 jj = 0) (he : jj < sK s → ln (4 + jj) = []) : relN (sK s) M = none := by
  have := h.rel S hjj hr
  unfold relN
  cases hm : mnF (relP M) (M.2 14) (sK s) with
  | none => rfl
  | some m =>
    obtain ⟨a, b, -⟩ := mnF_some hm
    have hx := (this m).mp ⟨a, b⟩
    rw [he hx.2] at hx
    exact absurd hx.1 List.not_mem_nil
theorem LI.relNone (S : Sm ph s M) (h : LI ph s M B) : relN (sK s) M = none :=
  h.2.relNone S (jj := sK s) (fun _ _ _ => rfl) (fun q => absurd q (Nat.lt_irrefl _)) (fun q => absurd q (Nat.lt_irrefl _))
/-- those that waited at jj all go one way -/
theorem casA {jj : Nat} {xd : Rf} (hx : xd.1 = 2 ∨ xd.1 = 3) (hxj : xd ≠ (3, nI jj)) : ∀ (l : List Nat) (s : St) (M : Md) (B f : Nat), Sm ph s M → VV (sN s) (sK s) xd → (xd.1 = 3 → ∃ y, y < sK s ∧ xd = (3, nI y)) → sL s 3 = l → sL s (4 + jj) = [] → LX ph s M noX (va_up (va_up (sL s) 3 []) (4 + jj) l) (va_up w0 jj xd) B → jj < sK s → ¬ M.2 21 jj = 0 → B + l.length < 2 ^ 31 → l.length ≤ f → Cas (sK s) (fun M' => ∃ ph', Sm ph' (rAll f s) M' ∧ LI ph' (rAll f s) M' (B + l.length)) l.length M := by
  intro l
  induction l with
  | nil =>
    intro s M B f S hV hx3 hl3 hl4 h hjj h21 hB hf
    have hln : va_up (va_up (sL s) 3 []) (4 + jj) [] = sL s := by
      funext i
      by_cases h4 : i = 4 + jj
      · subst h4; rw [va_up_self, hl4]
      · rw [va_up_ne _ _ h4]
        by_cases h3 : i = 3
        · subst h3; rw [va_up_self, hl3]
        · rw [va_up_ne _ _ h3]
    rw [hln] at h
    rw [rAll_nil hl3]
    refine ⟨h.pre S, h.relNone S (jj := jj) (fun x _ hx => va_up_ne _ _ hx) (fun _ => h21) (fun _ => hl4), ph, S, hl3, ?_⟩
    obtain ⟨h1, h2, h3, h4⟩ := h
    refine ⟨h1, h2, fun j hj hn => ?_, h4⟩
    rcases h3 j hj hn with q | q | ⟨q, hn', x, hx, e, e'⟩
    · exact Or.inl q
    · exact Or.inr (Or.inl q)
    · refine Or.inr (Or.inr ⟨q, hn', x, hx, e, ?_⟩)
      have hxjj : x ≠ jj := fun z => by
        subst z
        have : j ∈ sL s (4 + x) := (h1.1 _ j).mpr ⟨hj, not_noX, by unfold locM; rw [q, e, nI_clamp (by have := S.k200; omega)]; rfl⟩
        rw [hl4] at this
        cases this
      rw [e', va_up_ne _ _ hxjj]
  | cons m t ih =>
    intro s M B f S hV hx3 hl3 hl4 h hjj h21 hB hf
    have k200 := S.k200
    have n40 := S.n40
    simp only [List.length_cons] at hB hf
    obtain ⟨f, rfl⟩ : ∃ f', f = f' + 1 := ⟨f - 1, by omega⟩
    have hrel := h.rel S (jj := jj) (fun x _ hx => va_up_ne _ _ hx) (fun _ => h21)
    have hmem : ∀ j, j ∈ m :: t ↔ j < sK s ∧ relP M j = true := fun j => by
      rw [hrel j, va_up_self]
      exact ⟨fun q => ⟨q, hjj⟩, fun q => q.1⟩
    have hpw := h.1.2 (4 + jj)
    rw [va_up_self] at hpw
    have hrn : relN (sK s) M = some m := mnF_line hmem hpw
    have hm : m < sK s := ((hmem m).mp List.mem_cons_self).1
    have hpop := h.pop (i := 4 + jj) (m := m) (t := t) (va_up_self _ _ _)
    -- where it goes
    obtain ⟨hN, hct⟩ : mN (sM s m) = none ∧ can ph (mT (sM s m)) = xd := by
      have hloc := ((h.1.1 (4 + jj) m).mp (by rw [va_up_self]; exact List.mem_cons_self)).2.2
      unfold locM at hloc
      rcases h.2.2.1 m hm not_noX with q | ⟨q, -, -, v, hv, e⟩ | ⟨q, hn, x, hx', e, e'⟩
      · rw [q] at hloc; cases hloc
      · rw [q, e, if_pos rfl, nI_clamp (by omega)] at hloc
        have := Option.some.inj hloc
        omega
      · rw [q, e, nI_clamp (by omega)] at hloc
        have hxx : x = jj := by simp at hloc; exact hloc
        subst hxx
        rw [va_up_self] at e'
        exact ⟨hn, e'⟩
    have hmm := S.m hm
    have hcr : can ph (M.2 16 m, M.2 17 m) = xd := by rw [← hmm.2.2.1.2.2]; exact hct
    have Sp : Sm ph (sN s, sT s, sK s, sM s, va_up (sL s) 3 t) M := S
    refine ⟨h.pre S, Or.inr ⟨m, ph, hrn, S.c2, hmm.2.2.1.2.1, fun q => ?_, ?_⟩⟩
    · rw [hcr] at q ⊢
      obtain ⟨i, hi, e⟩ := hV.2.1 q
      exact ⟨i, by omega, e⟩
    · rw [hcr, rAll_cons hl3]
      have step : ∀ (p x : Int32) (i0 : Nat), (p = 1 ∨ p = 2) → (if p = 1 then some x.toNatClampNeg else if p = 2 then some (4 + x.toNatClampNeg) else none) = some i0 → ((p = 1 ∧ (can ph (mT (sM s m))).1 = 2 ∧ ∃ v, v < 3 ∧ x = nI v) ∨ (p = 2 ∧ ∃ y, y < sK s ∧ x = nI y ∧ can ph (mT (sM s m)) = va_up w0 jj xd y)) → i0 ≠ 3 → i0 ≠ 4 + jj → mDir M m xd = mStand (mHold M xd.1 xd.2) m p x → routeS (sN s, sT s, sK s, sM s, va_up (sL s) 3 t) m = (sN s, sT s, sK s, va_up (sM s) m (mPl (sM s m) p), va_up (va_up (sL s) 3 t) i0 (va_up (sL s) 3 t i0 ++ [m])) → Cas (sK s) (fun M' => ∃ ph', Sm ph' (rAll f (routeS (sN s, sT s, sK s, sM s, va_up (sL s) 3 t) m)) M' ∧ LI ph' (rAll f (routeS (sN s, sT s, sK s, sM s, va_up (sL s) 3 t) m)) M' (B + (m :: t).length)) t.length (mDir M m xd) := by
        intro p x i0 hp hloc hPL hi3 hi4 hdir hrt
        rw [hdir, hrt]
        obtain ⟨S', h'⟩ := stand_ok (sl := va_up (va_up (sL s) 3 t) i0 (va_up (sL s) 3 t i0 ++ [m])) (a := xd.1) (b := xd.2) S hm hpop (by omega) hN hp hloc hPL
        have hfun : va_up (va_up (va_up (va_up (sL s) 3 []) (4 + jj) (m :: t)) (4 + jj) t) i0 (va_up (va_up (va_up (sL s) 3 []) (4 + jj) (m :: t)) (4 + jj) t i0 ++ [m]) = va_up (va_up (va_up (va_up (sL s) 3 t) i0 (va_up (sL s) 3 t i0 ++ [m])) 3 []) (4 + jj) t := by
          funext i
          by_cases h4 : i = 4 + jj
          · subst h4; rw [va_up_ne _ _ (Ne.symm hi4), va_up_self, va_up_self]
          · rw [va_up_ne (j := i) (k := 4 + jj) _ _ h4]
            by_cases h3 : i = 3
            · subst h3; rw [va_up_ne _ _ (Ne.symm hi3), va_up_ne _ _ h4, va_up_ne _ _ h4, va_up_self, va_up_self]
            · rw [va_up_ne (j := i) (k := 3) _ _ h3]
              by_cases h0 : i = i0
              · subst h0
                rw [va_up_self, va_up_self, va_up_ne _ _ hi4, va_up_ne _ _ hi4, va_up_ne _ _ hi3, va_up_ne _ _ hi3]
              · rw [va_up_ne _ _ h0, va_up_ne _ _ h0, va_up_ne _ _ h4, va_up_ne _ _ h4, va_up_ne _ _ h3, va_up_ne _ _ h3]
        rw [hfun] at h'
        have := ih _ _ (B + 1) f S' hV hx3 (by show va_up (va_up (sL s) 3 t) i0 _ 3 = t; rw [va_up_ne _ _ (Ne.symm hi3), va_up_self]) (by show va_up (va_up (sL s) 3 t) i0 _ (4 + jj) = []; rw [va_up_ne _ _ (Ne.symm hi4), va_up_ne _ _ (by omega)]; exact hl4) h' hjj h21 (by omega) (by omega)
        rw [show B + (m :: t).length = B + 1 + t.length by simp only [List.length_cons]; omega]
        exact this
      have htE := Sp.tOfE hmm.2.2.1.1
      have haE := Sp.aOfE hmm.2.2.1.1
      rw [hct] at htE haE
      rcases hx with h2 | h3
      · obtain ⟨i, hi, e⟩ := hV.2.1 h2
        obtain ⟨v, hv, ev⟩ := (S.gd i hi).2.2
        have hhm := (S.tt hi).2.2.1
        refine step 1 (nI v) v (Or.inl rfl) (by rw [if_pos rfl, nI_clamp (by omega)]) (Or.inl ⟨rfl, by rw [hct]; exact h2, v, hv, rfl⟩) (by omega) (by omega) ?_ ?_
        · unfold mDir; rw [if_pos h2, e, nI_clamp (by omega), hhm, ev]
        · unfold routeS
          rw [show tOf (sN s, sT s, sK s, sM s, va_up (sL s) 3 t) (mT (sM (sN s, sT s, sK s, sM s, va_up (sL s) 3 t) m)) = some i by rw [htE, if_pos h2, e, nI_clamp (by omega)]]
          dsimp only
          rw [ev, nI_clamp (by omega)]
      · obtain ⟨y, hy, rfl⟩ := hx3 h3
        have hyj : y ≠ jj := fun q => hxj (by rw [q])
        refine step 2 (nI y) (4 + y) (Or.inr rfl) (by rw [nI_clamp (by omega)]; rfl) (Or.inr ⟨rfl, y, hy, rfl, by rw [hct, va_up_ne _ _ hyj]; rfl⟩) (by omega) (by omega) ?_ ?_
        · rfl
        · unfold routeS
          rw [show tOf (sN s, sT s, sK s, sM s, va_up (sL s) 3 t) (mT (sM (sN s, sT s, sK s, sM s, va_up (sL s) 3 t) m)) = none by rw [htE]; rfl, show aOf (sN s, sT s, sK s, sM s, va_up (sL s) 3 t) (mT (sM (sN s, sT s, sK s, sM s, va_up (sL s) 3 t) m)) = some y by rw [haE, if_pos h3, show ((3, nI y) : Rf).2.toNatClampNeg = y from nI_clamp (by omega)]]
end CAS
