/-! What breaks, breaks those that waited for it. -/
def phE (ph : Nat → Rf) : List Nat → Nat → Rf
  | [] => ph
  | m :: E => phS (phE ph E) m rB
def ansE (an : Nat → Option Rf) (E : List Nat) : Nat → Option Rf := fun i => if i ∈ E then some rB else an i
theorem phE_can {ph : Nat → Rf} {k : Nat} (hk : k ≤ 200) : ∀ (E : List Nat), (∀ e, e ∈ E → e < k ∧ ph e = (3, nI e)) → E.Nodup → ∀ r, vR k r → ((∃ x, x ∈ E ∧ can ph r = (3, nI x)) → can (phE ph E) r = rB) ∧ ((¬ ∃ x, x ∈ E ∧ can ph r = (3, nI x)) → can (phE ph E) r = can ph r)
  | [], _, _, r, _ => ⟨fun h => (by obtain ⟨x, hx, -⟩ := h; cases hx), fun _ => rfl⟩
  | m :: E, hE, hd, r, hr => by
    have hE' : ∀ e, e ∈ E → e < k ∧ ph e = (3, nI e) := fun e he => hE e (List.mem_cons_of_mem _ he)
    have hd' := List.nodup_cons.mp hd
    obtain ⟨hm, hpm⟩ := hE m List.mem_cons_self
    have hmm : phE ph E m = (3, nI m) := by
      have := (phE_can hk E hE' hd'.2 (3, nI m) (fun _ => ⟨m, hm, rfl⟩)).2 (by
        rintro ⟨x, hx, e⟩
        rw [can_p (by omega), hpm] at e
        have hxk := (hE' x hx).1
        have := nI_inj (by omega) (by omega) (congrArg Prod.snd e)
        exact hd'.1 (this ▸ hx))
      rw [can_p (by omega), can_p (by omega)] at this
      rw [this]; exact hpm
    obtain ⟨i1, i2⟩ := phE_can hk E hE' hd'.2 r hr
    have hc := can_phS (x := rB) hk hm hmm hr
    show ((∃ x, x ∈ m :: E ∧ can ph r = (3, nI x)) → can (phS (phE ph E) m rB) r = rB) ∧ ((¬ ∃ x, x ∈ m :: E ∧ can ph r = (3, nI x)) → can (phS (phE ph E) m rB) r = can ph r)
    rw [hc]
    by_cases hq : ∃ x, x ∈ E ∧ can ph r = (3, nI x)
    · rw [i1 hq, if_neg (by intro z; cases z)]
      exact ⟨fun _ => rfl, fun z => absurd (by obtain ⟨x, hx, e⟩ := hq; exact ⟨x, List.mem_cons_of_mem _ hx, e⟩) z⟩
    · rw [i2 hq]
      by_cases hrm : can ph r = (3, nI m)
      · rw [if_pos hrm]
        exact ⟨fun _ => rfl, fun z => absurd ⟨m, List.mem_cons_self, hrm⟩ z⟩
      · rw [if_neg hrm]
        refine ⟨fun z => ?_, fun _ => rfl⟩
        obtain ⟨x, hx, e⟩ := z
        rcases List.mem_cons.mp hx with rfl | hx
        · exact absurd e hrm
        · exact absurd ⟨x, hx, e⟩ hq
theorem phE_CH {ph : Nat → Rf} {k : Nat} {an : Nat → Option Rf} (hk : k ≤ 200) (h : CH k ph an) : ∀ (E : List Nat), (∀ e, e ∈ E → e < k ∧ an e = none) → E.Nodup → CH k (phE ph E) (ansE an E)
  | [], _, _ => h.eq (fun j _ => by unfold ansE; rw [if_neg List.not_mem_nil])
  | m :: E, hE, hd => by
    have hd' := List.nodup_cons.mp hd
    have ih := phE_CH hk h E (fun e he => hE e (List.mem_cons_of_mem _ he)) hd'.2
    obtain ⟨hm, hn⟩ := hE m List.mem_cons_self
    have := ih.settle hk hm (a := rB) (by unfold ansE; rw [if_neg hd'.1]; exact hn) (fun q => by cases q) (by rw [can_n (by decide)]; intro q; cases q)
    rw [can_n (r := rB) (by decide)] at this
    refine this.eq (fun j _ => ?_)
    unfold ansE
    by_cases hj : j = m
    · subst hj; rw [va_up_self, if_pos List.mem_cons_self]
    · rw [va_up_ne _ _ hj]
      by_cases hE2 : j ∈ E
      · rw [if_pos hE2, if_pos (List.mem_cons_of_mem _ hE2)]
      · rw [if_neg hE2, if_neg (fun q => (List.mem_cons.mp q).elim hj hE2)]
def sndD (ln : Nat → List Nat) (jj : Nat) : List Nat → Prop
  | [] => True
  | m :: D => (∃ x, (x = jj ∨ x ∈ D) ∧ m ∈ ln (4 + x)) ∧ sndD ln jj D
def stC (s : St) (ln : Nat → List Nat) (jj : Nat) (D l : List Nat) : St := (sN s, sT s, sK s, fun m => if m ∈ D then mAns (sM s m) rB else sM s m, fun i => if i = 3 then l else if i = 4 + jj ∨ (4 ≤ i ∧ i - 4 ∈ D) then [] else ln i)
section CA2
variable {ph : Nat → Rf} {s : St} {M : Md} {B jj : Nat} {ln : Nat → List Nat} {xd : Rf}
theorem LX.at (S : Sm ph s M) (h : LX ph s M noX ln (va_up w0 jj xd) B) {m x : Nat} (hm : m ∈ ln (4 + x)) : m < sK s ∧ x < sK s ∧ mN (sM s m) = none ∧ can ph (mT (sM s m)) = va_up w0 jj xd x ∧ M.2 12 m = 2 ∧ M.2 13 m = nI x ∧ locM M m = some (4 + x) := by
  obtain ⟨a, -, c⟩ := (h.1.1 _ m).mp hm
  have k200 := S.k200
  have c0 := c
  unfold locM at c
  rcases h.2.2.1 m a not_noX with q | ⟨q, -, -, v, hv, e⟩ | ⟨q, hn, y, hy, e, e'⟩
  · rw [q] at c; cases c
  · rw [q, e, if_pos rfl, nI_clamp (by omega)] at c
    have := Option.some.inj c
    omega
  · rw [q, e, nI_clamp (by omega)] at c
    have hyx : y = x := by simp at c; exact c
    subst hyx
    exact ⟨a, hy, hn, e', q, e, c0⟩
def CI (s : St) (ln : Nat → List Nat) (jj : Nat) (D l : List Nat) : Prop := (D ++ l).Nodup ∧ sndD ln jj D ∧ (∀ m, m ∈ l → ∃ x, (x = jj ∨ x ∈ D) ∧ m ∈ ln (4 + x)) ∧ ∀ x, (x = jj ∨ x ∈ D) → ∀ m, m ∈ ln (4 + x) → m ∈ D ∨ m ∈ l
theorem sndD_mem : ∀ {D : List Nat}, sndD ln jj D → ∀ m, m ∈ D → ∃ x, (x = jj ∨ x ∈ D) ∧ m ∈ ln (4 + x)
  | [], _, m, hm => by cases hm
  | a :: D, h, m, hm => by
    rcases List.mem_cons.mp hm with rfl | hm
    · obtain ⟨x, hx, e⟩ := h.1
      exact ⟨x, hx.imp id (List.mem_cons_of_mem _), e⟩
    · obtain ⟨x, hx, e⟩ := sndD_mem h.2 m hm
      exact ⟨x, hx.imp id (List.mem_cons_of_mem _), e⟩
theorem casC_cl (S : Sm ph s M) (h : LX ph s M noX ln (va_up w0 jj xd) B) (hjl : ∀ i, jj ∉ ln i) (hjk : jj < sK s) (hx2 : xd.1 ≠ 2) (hx3 : xd.1 ≠ 3) : ∀ (f : Nat) (D l : List Nat), CI s ln jj D l → sK s ≤ f + D.length + 1 → ∃ D', rAll f (stC s ln jj D l) = stC s ln jj D' [] ∧ CI s ln jj D' [] := by
  have k200 := S.k200
  intro f
  induction f with
  | zero =>
    intro D l hI hf
    have hall : ∀ e, e ∈ jj :: (D ++ l) → e < sK s := fun e he => by
      rcases List.mem_cons.mp he with rfl | he
      · exact hjk
      · rcases List.mem_append.mp he with he | he
        · obtain ⟨x, -, hx⟩ := sndD_mem hI.2.1 e he; exact (h.at S hx).1
        · obtain ⟨x, -, hx⟩ := hI.2.2.1 e he; exact (h.at S hx).1
    have hjn : jj ∉ D ++ l := fun he => by
      rcases List.mem_append.mp he with he | he
      · obtain ⟨x, -, hx⟩ := sndD_mem hI.2.1 jj he; exact hjl _ hx
      · obtain ⟨x, -, hx⟩ := hI.2.2.1 jj he; exact hjl _ hx
    have := ln_len (List.nodup_cons.mpr ⟨hjn, hI.1⟩) hall
    simp only [List.length_cons, List.length_append] at this
    have hl : l = [] := List.eq_nil_of_length_eq_zero (by omega)
    subst hl
    exact ⟨D, rfl, hI⟩
  | succ f ih =>
    intro D l hI hf
    cases l with
    | nil => exact ⟨D, rAll_nil rfl _, hI⟩
    | cons m t =>
      obtain ⟨hnd, hsd, hl, hcl⟩ := hI
      obtain ⟨x, hxD, hmx⟩ := hl m List.mem_cons_self
      obtain ⟨hmk, hxk, hmn, hmc, -, -, hml⟩ := h.at S hmx
      have hnd2 := List.nodup_append.mp hnd
      have hmD : m ∉ D := fun q => hnd2.2.2 m q m List.mem_cons_self rfl
      have hmt : m ∉ t := (List.nodup_cons.mp hnd2.2.1).1
      have hmj : m ≠ jj := fun q => hjl _ (q ▸ hmx)
      have hun : ∀ {e i i'}, e ∈ ln i → e ∈ ln i' → i = i' := fun {e i i'} a b => by
        have a' := ((h.1.1 i e).mp a).2.2
        have b' := ((h.1.1 i' e).mp b).2.2
        rw [a'] at b'; exact Option.some.inj b'
      -- popped
      have hpop : ((sN (stC s ln jj D (m :: t)), sT (stC s ln jj D (m :: t)), sK (stC s ln jj D (m :: t)), sM (stC s ln jj D (m :: t)), va_up (sL (stC s ln jj D (m :: t))) 3 t) : St) = stC s ln jj D t := by
        refine Prod.ext rfl (Prod.ext rfl (Prod.ext rfl (Prod.ext rfl (funext fun i => ?_))))
        show va_up (fun i => if i = 3 then m :: t else if i = 4 + jj ∨ (4 ≤ i ∧ i - 4 ∈ D) then [] else ln i) 3 t i = if i = 3 then t else if i = 4 + jj ∨ (4 ≤ i ∧ i - 4 ∈ D) then [] else ln i
        by_cases hi : i = 3
        · subst hi; rw [va_up_self, if_pos rfl]
        · rw [va_up_ne _ _ hi, if_neg hi, if_neg hi]
      have hDv : ∀ e, e ∈ D → e < sK s ∧ mN (sM s e) = none := fun e he => by
        obtain ⟨y, -, hy⟩ := sndD_mem hsd e he
        exact ⟨(h.at S hy).1, (h.at S hy).2.2.1⟩
      have hDp : ∀ e, e ∈ D → e < sK s ∧ ph e = (3, nI e) := fun e he => ⟨(hDv e he).1, S.c1.1 e (hDv e he).1 (hDv e he).2⟩
      have hch : CH (sK s) (phE ph D) (fun j => mN (sM (stC s ln jj D t) j)) := (phE_CH k200 S.c1 D hDv hnd2.1).eq (fun j _ => by
        show mN (if j ∈ D then mAns (sM s j) rB else sM s j) = ansE (fun j => mN (sM s j)) D j
        unfold ansE
        by_cases hj : j ∈ D
        · rw [if_pos hj, if_pos hj]
        · rw [if_neg hj, if_neg hj])
      have hcnt : ∀ r, vR (sK s) r → cnt (stC s ln jj D t) r = can (phE ph D) r := fun r hr => cnt_can (s := stC s ln jj D t) hch k200 hr
      have hsm : sM (stC s ln jj D t) m = sM s m := if_neg hmD
      have hvT := (S.m hmk).2.2.1.1.1
      obtain ⟨g1, g2⟩ := phE_can k200 D hDp hnd2.1 (mT (sM s m)) hvT
      have hc23 : (cnt (stC s ln jj D t) (mT (sM s m))).1 ≠ 2 ∧ (cnt (stC s ln jj D t) (mT (sM s m))).1 ≠ 3 := by
        rw [hcnt _ hvT]
        by_cases hxj : x = jj
        · subst hxj
          rw [va_up_self] at hmc
          rw [g2 (by rintro ⟨y, -, e⟩; rw [hmc] at e; exact hx3 (by rw [e])), hmc]
          exact ⟨hx2, hx3⟩
        · have hxD' : x ∈ D := hxD.resolve_left hxj
          rw [va_up_ne _ _ hxj] at hmc
          rw [g1 ⟨x, hxD', hmc⟩]
          exact ⟨by decide, by decide⟩
      have hrt : routeS (stC s ln jj D t) m = stC s ln jj (m :: D) (t ++ ln (4 + m)) := by
        unfold routeS
        rw [hsm, show tOf (stC s ln jj D t) (mT (sM s m)) = none by unfold tOf; rw [if_neg hc23.1], show aOf (stC s ln jj D t) (mT (sM s m)) = none by unfold aOf; rw [if_neg hc23.2]]
        unfold settleS
        have hans : ansS (stC s ln jj D t) m rB = rB := by
          unfold ansS aOf
          rw [hcnt rB (fun q => by cases q), can_n (r := rB) (by decide)]
          rw [if_neg (show ¬ rB.1 = 3 by decide), if_neg (by intro q; cases q)]
          rfl
        rw [hans, hsm]
        refine Prod.ext rfl (Prod.ext rfl (Prod.ext rfl (Prod.ext (funext fun e => ?_) (funext fun i => ?_))))
        · show va_up (fun e => if e ∈ D then mAns (sM s e) rB else sM s e) m (mAns (sM s m) rB) e = if e ∈ m :: D then mAns (sM s e) rB else sM s e
          by_cases he : e = m
          · subst he; rw [va_up_self, if_pos List.mem_cons_self]
          · rw [va_up_ne _ _ he]
            by_cases heD : e ∈ D
            · rw [if_pos heD, if_pos (List.mem_cons_of_mem _ heD)]
            · rw [if_neg heD, if_neg (fun q => (List.mem_cons.mp q).elim he heD)]
        · have L3 : sL (stC s ln jj D t) 3 = t := rfl
          have L4 : sL (stC s ln jj D t) (4 + m) = ln (4 + m) := by
            show (if 4 + m = 3 then t else if 4 + m = 4 + jj ∨ (4 ≤ 4 + m ∧ 4 + m - 4 ∈ D) then [] else ln (4 + m)) = _
            rw [if_neg (by omega), if_neg]
            rintro (q | q)
            · omega
            · rw [show 4 + m - 4 = m by omega] at q; exact hmD q.2
          rw [L3, L4]
          show va_up (va_up (sL (stC s ln jj D t)) 3 (t ++ ln (4 + m))) (4 + m) [] i = if i = 3 then t ++ ln (4 + m) else if i = 4 + jj ∨ (4 ≤ i ∧ i - 4 ∈ m :: D) then [] else ln i
          by_cases hi4 : i = 4 + m
          · subst hi4
            rw [va_up_self, if_neg (by omega), if_pos (Or.inr ⟨by omega, by rw [show 4 + m - 4 = m by omega]; exact List.mem_cons_self⟩)]
          · rw [va_up_ne _ _ hi4]
            by_cases hi3 : i = 3
            · subst hi3; rw [va_up_self, if_pos rfl]
            · rw [va_up_ne _ _ hi3, if_neg hi3]
              show (if i = 3 then t else if i = 4 + jj ∨ (4 ≤ i ∧ i - 4 ∈ D) then [] else ln i) = _
              rw [if_neg hi3]
              by_cases hc : i = 4 + jj ∨ (4 ≤ i ∧ i - 4 ∈ D)
              · rw [if_pos hc, if_pos (hc.imp id (fun q => ⟨q.1, List.mem_cons_of_mem _ q.2⟩))]
              · rw [if_neg hc, if_neg]
                rintro (q | ⟨q, q'⟩)
                · exact hc (Or.inl q)
                · rcases List.mem_cons.mp q' with q' | q'
                  · omega
                  · exact hc (Or.inr ⟨q, q'⟩)
      rw [rAll_cons (show sL (stC s ln jj D (m :: t)) 3 = m :: t from rfl), hpop, hrt]
      refine ih (m :: D) (t ++ ln (4 + m)) ⟨?_, ⟨⟨x, hxD, hmx⟩, hsd⟩, ?_, ?_⟩ (by simp only [List.length_cons]; omega)
      · -- nobody twice
        have hndl : (ln (4 + m)).Nodup := (h.1.2 (4 + m)).imp (fun {a b} q e => by subst e; exact Int32.lt_irrefl q)
        have hnew : ∀ e, e ∈ ln (4 + m) → e ∉ D ∧ e ∉ t ∧ e ≠ m := fun e he => by
          refine ⟨fun q => ?_, fun q => ?_, fun q => ?_⟩
          · obtain ⟨y, hy, e'⟩ := sndD_mem hsd e q
            have := hun he e'
            rcases hy with hy | hy
            · omega
            · exact hmD (by rw [show m = y by omega]; exact hy)
          · obtain ⟨y, hy, e'⟩ := hl e (List.mem_cons_of_mem _ q)
            have := hun he e'
            rcases hy with hy | hy
            · omega
            · exact hmD (by rw [show m = y by omega]; exact hy)
          · subst q
            have := hun he hmx
            rcases hxD with hy | hy
            · omega
            · exact hmD (by rw [show e = x by omega]; exact hy)
        rw [List.cons_append]
        refine List.nodup_cons.mpr ⟨fun q => ?_, ?_⟩
        · rcases List.mem_append.mp q with q | q
          · exact hmD q
          · rcases List.mem_append.mp q with q | q
            · exact hmt q
            · exact (hnew m q).2.2 rfl
        · refine List.nodup_append.mpr ⟨hnd2.1, List.nodup_append.mpr ⟨(List.nodup_cons.mp hnd2.2.1).2, hndl, fun a ha b hb e => ?_⟩, fun a ha b hb e => ?_⟩
          · subst e; exact (hnew a hb).2.1 ha
          · subst e
            rcases List.mem_append.mp hb with hb | hb
            · exact hnd2.2.2 a ha a (List.mem_cons_of_mem _ hb) rfl
            · exact (hnew a hb).1 ha
      · intro e he
        rcases List.mem_append.mp he with he | he
        · obtain ⟨y, hy, e'⟩ := hl e (List.mem_cons_of_mem _ he)
          exact ⟨y, hy.imp id (List.mem_cons_of_mem _), e'⟩
        · exact ⟨m, Or.inr List.mem_cons_self, he⟩
      · intro y hy e he
        have old : (y = jj ∨ y ∈ D) → e ∈ m :: D ∨ e ∈ t ++ ln (4 + m) := fun q => by
          rcases hcl y q e he with q | q
          · exact Or.inl (List.mem_cons_of_mem _ q)
          · rcases List.mem_cons.mp q with q | q
            · exact Or.inl (q ▸ List.mem_cons_self)
            · exact Or.inr (List.mem_append_left _ q)
        rcases hy with hy | hy
        · exact old (Or.inl hy)
        · rcases List.mem_cons.mp hy with hy | hy
          · subst hy; exact Or.inr (List.mem_append_right _ he)
          · exact old (Or.inr hy)
/-- the reference's side, so far -/
def ME (M1 : Md) (E : List Nat) (M : Md) : Prop := (M.1 0 = M1.1 0 ∧ M.1 11 = M1.1 11 ∧ M.1 15 = M1.1 15) ∧ (∀ f, f ≠ 12 → f ≠ 21 → f ≠ 22 → f ≠ 23 → M.2 f = M1.2 f) ∧ ∀ j, (j ∈ E → M.2 12 j = 0 ∧ M.2 21 j = 1 ∧ M.2 22 j = 4 ∧ M.2 23 j = 0) ∧ (j ∉ E → M.2 12 j = M1.2 12 j ∧ M.2 21 j = M1.2 21 j ∧ M.2 22 j = M1.2 22 j ∧ M.2 23 j = M1.2 23 j)
theorem ME.rf {M : Md} : ME M [] M := ⟨⟨rfl, rfl, rfl⟩, fun _ _ _ _ _ => rfl, fun _ => ⟨fun q => (by cases q), fun _ => ⟨rfl, rfl, rfl, rfl⟩⟩⟩
theorem ME.dA {M1 M : Md} {E : List Nat} (h : ME M1 E M) (j : Nat) : dAns M j = ansE (dAns M1) E j := by
  unfold ansE
  by_cases hj : j ∈ E
  · obtain ⟨-, a, b, c⟩ := (h.2.2 j).1 hj
    rw [if_pos hj]
    unfold dAns
    rw [a, b, c, if_neg (by decide)]
  · obtain ⟨-, a, b, c⟩ := (h.2.2 j).2 hj
    rw [if_neg hj]
    unfold dAns
    rw [a, b, c]
theorem ME.more {M1 M : Md} {E : List Nat} (h : ME M1 E M) (m : Nat) : ME M1 (m :: E) (mSettle M m rB rB) := by
  obtain ⟨h1, h2, h3⟩ := h
  refine ⟨h1, fun f a b c d => ?_, fun j => ?_⟩
  · rw [← h2 f a b c d]
    show va_up (va_up (va_up (va_up M.2 21 _) 22 _) 23 _) 12 _ f = M.2 f
    rw [va_up_ne _ _ a, va_up_ne _ _ d, va_up_ne _ _ c, va_up_ne _ _ b]
  · have hb : ¬ badC rB m := by rintro (q | ⟨q, -⟩) <;> cases q
    have e12 : ∀ j, (mSettle M m rB rB).2 12 j = va_up (M.2 12) m 0 j := fun _ => rfl
    have e21 : ∀ j, (mSettle M m rB rB).2 21 j = va_up (M.2 21) m 1 j := fun _ => rfl
    have e22 : ∀ j, (mSettle M m rB rB).2 22 j = va_up (M.2 22) m 4 j := fun j => by
      show va_up (M.2 22) m (if badC rB m then 4 else rB.1) j = _
      rw [if_neg hb]
    have e23 : ∀ j, (mSettle M m rB rB).2 23 j = va_up (M.2 23) m 0 j := fun j => by
      show va_up (M.2 23) m (if badC rB m then 0 else rB.2) j = _
      rw [if_neg hb]
    rw [e12, e21, e22, e23]
    by_cases hj : j = m
    · subst hj
      rw [va_up_self, va_up_self, va_up_self, va_up_self]
      exact ⟨fun _ => ⟨rfl, rfl, rfl, rfl⟩, fun q => absurd List.mem_cons_self q⟩
    · rw [va_up_ne _ _ hj, va_up_ne _ _ hj, va_up_ne _ _ hj, va_up_ne _ _ hj]
      exact ⟨fun q => (h3 j).1 ((List.mem_cons.mp q).resolve_left hj), fun q => (h3 j).2 (fun z => q (List.mem_cons_of_mem _ z))⟩
theorem ME.eqT {M1 M : Md} {E : List Nat} (h : ME M1 E M) {i : Nat} : eqT M1 M i := by
  have e : ∀ f, f ≠ 12 → f ≠ 21 → f ≠ 22 → f ≠ 23 → ∀ i, M.2 f i = M1.2 f i := fun f a b c d i => by rw [h.2.1 f a b c d]
  exact ⟨⟨e 1 (by decide) (by decide) (by decide) (by decide) i, e 2 (by decide) (by decide) (by decide) (by decide) i, e 3 (by decide) (by decide) (by decide) (by decide) i, e 4 (by decide) (by decide) (by decide) (by decide) i, e 5 (by decide) (by decide) (by decide) (by decide) i, e 6 (by decide) (by decide) (by decide) (by decide) i, e 7 (by decide) (by decide) (by decide) (by decide) i, e 8 (by decide) (by decide) (by decide) (by decide) i⟩, fun q _ => ⟨e 9 (by decide) (by decide) (by decide) (by decide) _, e 10 (by decide) (by decide) (by decide) (by decide) _⟩⟩
theorem ME.eqM {M1 M : Md} {E : List Nat} (h : ME M1 E M) {j : Nat} : eqM M1 M j := by
  have e : ∀ f, f ≠ 12 → f ≠ 21 → f ≠ 22 → f ≠ 23 → ∀ i, M.2 f i = M1.2 f i := fun f a b c d i => by rw [h.2.1 f a b c d]
  exact ⟨⟨e 16 (by decide) (by decide) (by decide) (by decide) j, e 17 (by decide) (by decide) (by decide) (by decide) j, e 18 (by decide) (by decide) (by decide) (by decide) j, e 19 (by decide) (by decide) (by decide) (by decide) j, e 20 (by decide) (by decide) (by decide) (by decide) j, e 24 (by decide) (by decide) (by decide) (by decide) j⟩, fun q _ => ⟨e 25 (by decide) (by decide) (by decide) (by decide) _, e 26 (by decide) (by decide) (by decide) (by decide) _⟩⟩
theorem ME.loc {M1 M : Md} {E : List Nat} (h : ME M1 E M) (j : Nat) : locM M j = if j ∈ E then none else locM M1 j := by
  unfold locM
  rw [h.2.1 13 (by decide) (by decide) (by decide) (by decide)]
  by_cases hj : j ∈ E
  · rw [if_pos hj, ((h.2.2 j).1 hj).1]; rfl
  · rw [if_neg hj, ((h.2.2 j).2 hj).1]
/-- both sides have broken the same ones -/
theorem casC_fin {M' : Md} {D E : List Nat} (S : Sm ph s M) (h : LX ph s M noX ln (va_up w0 jj xd) B) (h3 : ln 3 = []) (hI : CI s ln jj D []) (hE : ME M E M') (hDE : ∀ e, e ∈ E ↔ e ∈ D) : Sm (phE ph D) (stC s ln jj D []) M' ∧ LI (phE ph D) (stC s ln jj D []) M' B := by
  have k200 := S.k200
  obtain ⟨hnd, hsd, -, hcl⟩ := hI
  rw [List.append_nil] at hnd
  have hcl : ∀ x, (x = jj ∨ x ∈ D) → ∀ m, m ∈ ln (4 + x) → m ∈ D := fun x hx m hm => (hcl x hx m hm).resolve_right List.not_mem_nil
  have hDv : ∀ e, e ∈ D → e < sK s ∧ mN (sM s e) = none := fun e he => by
    obtain ⟨y, -, hy⟩ := sndD_mem hsd e he
    exact ⟨(h.at S hy).1, (h.at S hy).2.2.1⟩
  have hDp : ∀ e, e ∈ D → e < sK s ∧ ph e = (3, nI e) := fun e he => ⟨(hDv e he).1, S.c1.1 e (hDv e he).1 (hDv e he).2⟩
  have hDm : ∀ e, e ∈ D → e < sK s ∧ dAns M e = none := fun e he => ⟨(hDv e he).1, (S.c2.none_iff k200 (hDv e he).1).mpr (hDp e he).2⟩
  have hsm : ∀ j, sM (stC s ln jj D []) j = if j ∈ D then mAns (sM s j) rB else sM s j := fun _ => rfl
  have c1 : CH (sK s) (phE ph D) (fun j => mN (sM (stC s ln jj D []) j)) := (phE_CH k200 S.c1 D hDv hnd).eq (fun j _ => by
    rw [hsm]
    unfold ansE
    by_cases hj : j ∈ D
    · rw [if_pos hj, if_pos hj]
    · rw [if_neg hj, if_neg hj])
  have c2 : CH (sK s) (phE ph D) (dAns M') := (phE_CH k200 S.c2 D hDm hnd).eq (fun j _ => by
    rw [hE.dA j]
    unfold ansE
    by_cases hj : j ∈ D
    · rw [if_pos hj, if_pos ((hDE j).mpr hj)]
    · rw [if_neg hj, if_neg (fun q => hj ((hDE j).mp q))])
  have hcan := fun r hr => phE_can k200 D hDp hnd r hr
  refine ⟨?_, rfl, ?_, ?_, ?_, ?_⟩
  · refine S.re rfl rfl rfl (fun j _ => ?_) hE.1.1 hE.1.2.1 (fun i _ => hE.eqT) (fun j _ => hE.eqM) (fun q => by rw [hE.2.1 10 (by decide) (by decide) (by decide) (by decide)]) c1 c2 (fun j hj => ?_) (fun r r' hr hr' e => ?_)
    · rw [hsm]
      by_cases hjD : j ∈ D
      · rw [if_pos hjD]; exact ⟨rfl, rfl, rfl, rfl⟩
      · rw [if_neg hjD]; exact ⟨rfl, rfl, rfl, rfl⟩
    · have e1 : phE ph D j = can (phE ph D) (3, nI j) := (can_p (by omega)).symm
      obtain ⟨g1, g2⟩ := hcan (3, nI j) (fun _ => ⟨j, hj, rfl⟩)
      rw [e1]
      by_cases hq : ∃ x, x ∈ D ∧ can ph (3, nI j) = (3, nI x)
      · rw [g1 hq]; exact ⟨VV.brk, by decide⟩
      · rw [g2 hq, can_p (by omega)]; exact S.hp j hj
    · obtain ⟨g1, g2⟩ := hcan r hr
      obtain ⟨g1', g2'⟩ := hcan r' hr'
      by_cases hq : ∃ x, x ∈ D ∧ can ph r = (3, nI x)
      · rw [g1 hq, g1' (e ▸ hq)]
      · rw [g2 hq, g2' (e ▸ hq), e]
  · refine ⟨fun i j => ?_, fun i => ?_⟩
    · show j ∈ (if i = 3 then [] else if i = 4 + jj ∨ (4 ≤ i ∧ i - 4 ∈ D) then [] else ln i) ↔ j < sK s ∧ ¬ noX j ∧ locM M' j = some i
      rw [hE.loc j]
      by_cases hi3 : i = 3
      · subst hi3
        rw [if_pos rfl]
        refine ⟨fun q => (by cases q), fun ⟨a, b, c⟩ => ?_⟩
        exfalso
        by_cases hj : j ∈ E
        · rw [if_pos hj] at c; cases c
        · rw [if_neg hj] at c
          have := (h.1.1 3 j).mpr ⟨a, b, c⟩
          rw [h3] at this; cases this
      · rw [if_neg hi3]
        by_cases hc : i = 4 + jj ∨ (4 ≤ i ∧ i - 4 ∈ D)
        · rw [if_pos hc]
          refine ⟨fun q => (by cases q), fun ⟨a, b, c⟩ => ?_⟩
          exfalso
          by_cases hj : j ∈ E
          · rw [if_pos hj] at c; cases c
          · rw [if_neg hj] at c
            have hm := (h.1.1 i j).mpr ⟨a, b, c⟩
            refine hj ((hDE j).mpr ?_)
            rcases hc with rfl | ⟨h4, hD⟩
            · exact hcl jj (Or.inl rfl) j hm
            · exact hcl (i - 4) (Or.inr hD) j (by rw [show 4 + (i - 4) = i by omega]; exact hm)
        · rw [if_neg hc]
          rw [h.1.1 i j]
          by_cases hj : j ∈ E
          · rw [if_pos hj]
            refine ⟨fun ⟨a, b, c⟩ => ?_, fun ⟨_, _, c⟩ => by cases c⟩
            exfalso
            obtain ⟨x, hx, hm⟩ := sndD_mem hsd j ((hDE j).mp hj)
            have := (h.at S hm).2.2.2.2.2.2
            rw [c] at this
            have := Option.some.inj this
            subst this
            rcases hx with rfl | hx
            · exact hc (Or.inl rfl)
            · exact hc (Or.inr ⟨by omega, by rw [show 4 + x - 4 = x by omega]; exact hx⟩)
          · rw [if_neg hj]
    · show (if i = 3 then [] else if i = 4 + jj ∨ (4 ≤ i ∧ i - 4 ∈ D) then [] else ln i).Pairwise (fun a b => M'.2 14 a < M'.2 14 b)
      rw [hE.2.1 14 (by decide) (by decide) (by decide) (by decide)]
      split
      · exact List.Pairwise.nil
      · split
        · exact List.Pairwise.nil
        · exact h.1.2 i
  · intro j hj _
    rw [hsm]
    by_cases hjD : j ∈ D
    · rw [if_pos hjD, ((hE.2.2 j).1 ((hDE j).mpr hjD)).1]
    · rw [if_neg hjD, ((hE.2.2 j).2 (fun q => hjD ((hDE j).mp q))).1]; exact h.2.1 j hj not_noX
  · intro j hj _
    show PLc (phE ph D) w0 (sK s) (sM (stC s ln jj D []) j) M' j
    rw [hsm]
    by_cases hjD : j ∈ D
    · exact Or.inl ((hE.2.2 j).1 ((hDE j).mpr hjD)).1
    · rw [if_neg hjD]
      have hp := ((hE.2.2 j).2 (fun q => hjD ((hDE j).mp q))).1
      obtain ⟨g1, g2⟩ := hcan (mT (sM s j)) (S.m hj).2.2.1.1.1
      unfold PLc
      rw [hp, hE.2.1 13 (by decide) (by decide) (by decide) (by decide)]
      rcases h.2.2.1 j hj not_noX with q | ⟨q, hn, hc, v, hv, e⟩ | ⟨q, hn, x, hx, e, e'⟩
      · exact Or.inl q
      · refine Or.inr (Or.inl ⟨q, hn, ?_, v, hv, e⟩)
        rw [g2 (by rintro ⟨y, -, z⟩; rw [z] at hc; cases hc)]; exact hc
      · have hjx : j ∈ ln (4 + x) := (h.1.1 _ j).mpr ⟨hj, not_noX, by unfold locM; rw [q, e, nI_clamp (by omega)]; rfl⟩
        have hxj : x ≠ jj := fun z => hjD (hcl x (Or.inl z) j hjx)
        have hxD : x ∉ D := fun z => hjD (hcl x (Or.inr z) j hjx)
        rw [va_up_ne _ _ hxj] at e'
        refine Or.inr (Or.inr ⟨q, hn, x, hx, e, ?_⟩)
        rw [g2 (by
          rintro ⟨y, hy, z⟩
          rw [e'] at z
          have hyk := (hDv y hy).1
          have := nI_inj (by omega) (by omega) (congrArg Prod.snd z)
          exact hxD (this ▸ hy))]
        exact e'
  · obtain ⟨S0, a, b, c⟩ := h.2.2.2
    refine ⟨S0, a, hE.1.2.2.trans b, fun j hj _ hz => ?_⟩
    rw [hE.2.1 14 (by decide) (by decide) (by decide) (by decide)]
    by_cases hjE : j ∈ E
    · exact absurd ((hE.2.2 j).1 hjE).1 hz
    · rw [((hE.2.2 j).2 hjE).1] at hz
      exact c j hj not_noX hz
theorem casC_md {D : List Nat} (S : Sm ph s M) (h : LX ph s M noX ln (va_up w0 jj xd) B) (h3 : ln 3 = []) (hjk : jj < sK s) (h21 : ¬ M.2 21 jj = 0) (hjl : ∀ i, jj ∉ ln i) (hx2 : xd.1 ≠ 2) (hx3 : xd.1 ≠ 3) (hI : CI s ln jj D []) : ∀ (n : Nat) (E : List Nat) (M' : Md), ME M E M' → E.Nodup → (∀ e, e ∈ E → e ∈ D) → E.length + n = sK s → Cas (sK s) (fun M' => ∃ ph', Sm ph' (stC s ln jj D []) M' ∧ LI ph' (stC s ln jj D []) M' B) n M' := by
  have k200 := S.k200
  have hsd := hI.2.1
  have hcl : ∀ x, (x = jj ∨ x ∈ D) → ∀ m, m ∈ ln (4 + x) → m ∈ D := fun x hx m hm => (hI.2.2.2 x hx m hm).resolve_right List.not_mem_nil
  have hDv : ∀ e, e ∈ D → e < sK s ∧ mN (sM s e) = none := fun e he => by
    obtain ⟨y, -, hy⟩ := sndD_mem hsd e he
    exact ⟨(h.at S hy).1, (h.at S hy).2.2.1⟩
  have hrel := h.rel S (jj := jj) (fun x _ hx => va_up_ne _ _ hx) (fun _ => h21)
  -- who is released on the way
  have rel : ∀ {E M'}, ME M E M' → (∀ e, e ∈ E → e ∈ D) → ∀ m, m < sK s → (relP M' m = true ↔ m ∉ E ∧ ∃ x, (x = jj ∨ x ∈ E) ∧ m ∈ ln (4 + x)) := by
    intro E M' hE hED m hm
    have h13 := hE.2.1 13 (by decide) (by decide) (by decide) (by decide)
    constructor
    · intro hp
      unfold relP at hp
      rw [h13] at hp
      obtain ⟨p1, p2⟩ := of_decide_eq_true hp
      have hmE : m ∉ E := fun q => by rw [((hE.2.2 m).1 q).1] at p1; cases p1
      rw [((hE.2.2 m).2 hmE).1] at p1
      refine ⟨hmE, ?_⟩
      rcases h.2.2.1 m hm not_noX with q | ⟨q, -⟩ | ⟨q, hn, x, hx, e, e'⟩
      · rw [q] at p1; cases p1
      · rw [q] at p1; cases p1
      · have hmx : m ∈ ln (4 + x) := (h.1.1 _ m).mpr ⟨hm, not_noX, by unfold locM; rw [q, e, nI_clamp (by omega)]; rfl⟩
        refine ⟨x, ?_, hmx⟩
        by_cases hxE : x ∈ E
        · exact Or.inr hxE
        · left
          rw [e, nI_clamp (by omega), ((hE.2.2 x).2 hxE).2.1] at p2
          have := (hrel m).mp ⟨hm, by unfold relP; exact decide_eq_true ⟨q, by rw [e, nI_clamp (by omega)]; exact p2⟩⟩
          have l1 := (h.at S this.1).2.2.2.2.2.2
          have l2 := (h.at S hmx).2.2.2.2.2.2
          rw [l1] at l2
          have := Option.some.inj l2
          omega
    · rintro ⟨hmE, x, hx, hmx⟩
      obtain ⟨-, hxk, -, -, p, e, -⟩ := h.at S hmx
      unfold relP
      rw [h13]
      refine decide_eq_true ⟨((hE.2.2 m).2 hmE).1.trans p, ?_⟩
      rw [e, nI_clamp (by omega)]
      by_cases hxE : x ∈ E
      · rw [((hE.2.2 x).1 hxE).2.1]; decide
      · rw [((hE.2.2 x).2 hxE).2.1]
        have : x = jj := hx.resolve_right hxE
        subst this
        exact h21
  have pre : ∀ {E M'}, ME M E M' → LoopPre (sK s) M' := by
    intro E M' hE
    refine ⟨hE.1.2.1.trans S.hk, fun i hi hz => ?_⟩
    rw [hE.2.1 13 (by decide) (by decide) (by decide) (by decide)]
    by_cases hiE : i ∈ E
    · rw [((hE.2.2 i).1 hiE).1] at hz; cases hz
    · rw [((hE.2.2 i).2 hiE).1] at hz
      exact (h.pre S).2 i hi hz
  have done : ∀ {E M'}, ME M E M' → (∀ e, e ∈ E → e ∈ D) → relN (sK s) M' = none → ∃ ph', Sm ph' (stC s ln jj D []) M' ∧ LI ph' (stC s ln jj D []) M' B := by
    intro E M' hE hED hn
    have hno := mnF_none hn
    have sub : ∀ D', sndD ln jj D' → (∀ e, e ∈ D' → e < sK s) → ∀ e, e ∈ D' → e ∈ E := by
      intro D'
      induction D' with
      | nil => intro _ _ e he; cases he
      | cons a D' ih =>
        intro hs hb e he
        have ih' := ih hs.2 (fun e he => hb e (List.mem_cons_of_mem _ he))
        rcases List.mem_cons.mp he with rfl | he
        · obtain ⟨x, hx, hm⟩ := hs.1
          have hek := hb e List.mem_cons_self
          refine Classical.byContradiction fun hne => ?_
          have := (rel hE hED e hek).mpr ⟨hne, x, hx.imp id (ih' x), hm⟩
          rw [hno e hek] at this
          cases this
        · exact ih' e he
    exact ⟨_, casC_fin S h h3 hI hE (fun e => ⟨hED e, sub D hsd (fun e he => (hDv e he).1) e⟩)⟩
  intro n
  induction n with
  | zero =>
    intro E M' hE hnd hED hlen
    refine ⟨pre hE, ?_⟩
    have hn : relN (sK s) M' = none := by
      cases hm : relN (sK s) M' with
      | none => rfl
      | some m =>
        obtain ⟨a, b, -⟩ := mnF_some hm
        obtain ⟨q, -⟩ := (rel hE hED m a).mp b
        have := ln_len (l := m :: E) (k := sK s) (List.nodup_cons.mpr ⟨q, hnd⟩) (fun e he => by
          rcases List.mem_cons.mp he with rfl | he
          · exact a
          · exact (hDv e (hED e he)).1)
        simp only [List.length_cons] at this
        omega
    exact ⟨hn, done hE hED hn⟩
  | succ n ih =>
    intro E M' hE hnd hED hlen
    refine ⟨pre hE, ?_⟩
    cases hm : relN (sK s) M' with
    | none => exact Or.inl ⟨rfl, done hE hED hm⟩
    | some m =>
      obtain ⟨a, b, -⟩ := mnF_some hm
      obtain ⟨hmE, x, hx, hmx⟩ := (rel hE hED m a).mp b
      have hmD : m ∈ D := hcl x (hx.imp id (hED x)) m hmx
      obtain ⟨-, hxk, hmn, hmc, -, -, -⟩ := h.at S hmx
      have hEv : ∀ e, e ∈ E → e < sK s ∧ dAns M e = none := fun e he => ⟨(hDv e (hED e he)).1, (S.c2.none_iff k200 (hDv e (hED e he)).1).mpr (S.c1.1 e (hDv e (hED e he)).1 (hDv e (hED e he)).2)⟩
      have hEp : ∀ e, e ∈ E → e < sK s ∧ ph e = (3, nI e) := fun e he => ⟨(hDv e (hED e he)).1, S.c1.1 e (hDv e (hED e he)).1 (hDv e (hED e he)).2⟩
      have hch : CH (sK s) (phE ph E) (dAns M') := (phE_CH k200 S.c2 E hEv hnd).eq (fun j _ => hE.dA j)
      have hRR := (S.m a).2.2.1
      have e16 := hE.2.1 16 (by decide) (by decide) (by decide) (by decide)
      have e17 := hE.2.1 17 (by decide) (by decide) (by decide) (by decide)
      obtain ⟨g1, g2⟩ := phE_can k200 E hEp hnd (M.2 16 m, M.2 17 m) hRR.2.1
      have hcr : (can (phE ph E) (M'.2 16 m, M'.2 17 m)).1 ≠ 2 ∧ (can (phE ph E) (M'.2 16 m, M'.2 17 m)).1 ≠ 3 := by
        rw [e16, e17]
        rw [← hRR.2.2] at g1 g2
        by_cases hxE : x ∈ E
        · have hxj : x ≠ jj := fun q => by obtain ⟨y, -, hy⟩ := sndD_mem hsd x (hED x hxE); exact hjl _ (q ▸ hy)
          rw [va_up_ne _ _ hxj] at hmc
          rw [g1 ⟨x, hxE, hmc⟩]
          exact ⟨by decide, by decide⟩
        · have hxj : x = jj := hx.resolve_right hxE
          subst hxj
          rw [va_up_self] at hmc
          rw [g2 (by rintro ⟨y, -, e⟩; rw [hmc] at e; exact hx3 (by rw [e])), hmc]
          exact ⟨hx2, hx3⟩
      refine Or.inr ⟨m, phE ph E, rfl, hch, by rw [e16, e17]; exact hRR.2.1, fun q => absurd q hcr.1, ?_⟩
      rw [show mDir M' m (can (phE ph E) (M'.2 16 m, M'.2 17 m)) = mSettle M' m rB rB by unfold mDir; rw [if_neg hcr.1, if_neg hcr.2]]
      exact ih (m :: E) _ (hE.more m) (List.nodup_cons.mpr ⟨hmE, hnd⟩) (fun e he => by
        rcases List.mem_cons.mp he with rfl | he
        · exact hmD
        · exact hED e he) (by simp only [List.length_cons]; omega)
end CA2
