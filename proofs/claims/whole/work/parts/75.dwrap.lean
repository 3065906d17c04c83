/-! The reference's making and wrapping, beside the other side's. -/
theorem cb_geF {a b : Nat} (h : a < b) (hb : b < 2 ^ 31) : fw_cb .ge (nI a) (nI b) = false := Bool.eq_false_iff.mpr fun q => nI_ge h hb (fw_cb_iff.mp q)
theorem cb_geT {a b : Nat} (h : b ≤ a) (ha : a < 2 ^ 31) : fw_cb .ge (nI a) (nI b) = true := fw_cb_iff.mpr (nI_le h ha)
theorem cb_neF {x : Int32} : fw_cb .ne x x = false := Bool.eq_false_iff.mpr fun q => (fw_cb_iff.mp q) rfl
theorem cb_neT {x y : Int32} (h : x ≠ y) : fw_cb .ne x y = true := fw_cb_iff.mpr h
theorem cb_eqF {x y : Int32} (h : x ≠ y) : fw_cb .eq x y = false := Bool.eq_false_iff.mpr fun q => h (fw_cb_iff.mp q)
theorem cb_eqT {x : Int32} : fw_cb .eq x x = true := fw_cb_iff.mpr rfl
theorem mk_row (M : Md) (n : Nat) (a b c : Int32) : ((mMake M n a b c).2 1 n = a ∧ (mMake M n a b c).2 2 n = b ∧ (mMake M n a b c).2 3 n = c ∧ (mMake M n a b c).2 4 n = 0 ∧ (mMake M n a b c).2 5 n = 0 ∧ (mMake M n a b c).2 6 n = 0 ∧ (mMake M n a b c).2 7 n = 0 ∧ (mMake M n a b c).2 8 n = 0) ∧ (∀ q, q < 4 → (mMake M n a b c).2 9 (4 * n + q) = 0) ∧ (∀ q, (mMake M n a b c).2 10 q = M.2 10 q) ∧ ∀ j, eqA M (mMake M n a b c) j := by
  refine ⟨by simp [mMake], fun q hq => ?_, fun q => by simp [mMake], fun j => by simp [eqA, mMake]⟩
  have : 4 * n ≤ 4 * n + q ∧ 4 * n + q < 4 * n + 4 := by omega
  simp [mMake, this]
section DWR
variable {T : fw_T} {b : Nat} {A : Nat → Nat} {M : Md} {ph : Nat → Rf} {s : St}
theorem Sm.add' (S : Sm ph s M) (h40 : sN s < 40) {t : Th} (hg : goodT t) (hw : wfT (sN s + 1) t) (hs : tS t = fun _ => rN) {M' : Md} {x1 x2 x3 : Int32} (h0 : M'.1 0 = nI (sN s + 1)) (h11 : M'.1 11 = M.1 11) (eT : ∀ i, i < sN s → eqT M M' i) (eM : ∀ j, j < sK s → eqM M M' j) (eA : ∀ j, j < sK s → eqA M M' j) (e9 : ∀ q, M'.2 9 q = (mMake M (sN s) x1 x2 x3).2 9 q) (ez : ∀ q, M'.2 10 q = M.2 10 q)
    (ht : M'.2 1 (sN s) = tK t ∧ M'.2 2 (sN s) = tH t ∧ M'.2 3 (sN s) = lk t ∧ M'.2 4 (sN s) = tB t ∧ M'.2 5 (sN s) = tI t ∧ M'.2 6 (sN s) = tV t) (hD : RR ph (sN s + 1) (sK s) (tD t) (M'.2 7 (sN s), M'.2 8 (sN s))) : Sm ph (sN s + 1, va_up (sT s) (sN s) t, s.2.2) M' := by
  refine S.add h40 hg h0 h11 eT eM eA (fun q _ => ez q) ⟨hw, ht.1, ht.2.1, ht.2.2.1, ht.2.2.2.1, ht.2.2.2.2.1, ht.2.2.2.2.2, hD, fun q hq => ?_⟩
  rw [hs, e9, ez, (mk_row M (sN s) x1 x2 x3).2.1 q hq, S.z (by omega) (by omega)]
  exact RR.same VV.not
theorem eqA.st {M0 M : Md} {j : Nat} (h : eqA M0 M j) {f : Nat} {g : Nat → Int32} (hf : f ≠ 21 ∧ f ≠ 22 ∧ f ≠ 23) : eqA M0 (M.1, va_up M.2 f g) j := by
  refine ⟨?_, ?_, ?_⟩
  · exact (va_up_at (fun e => by omega)).trans h.1
  · exact (va_up_at (fun e => by omega)).trans h.2.1
  · exact (va_up_at (fun e => by omega)).trans h.2.2
theorem eqA.rf {M : Md} {j : Nat} : eqA M M j := ⟨rfl, rfl, rfl⟩
abbrev mFr (M : Md) (n : Nat) (kd hm to : Int32) : Md := if n < 40 then mHold (mMake M n kd hm to) 2 (nI n) else mHold M 4 0
theorem Sm.fresh (S : Sm ph s M) {kd hm : Int32} {ow : Option Nat} (hh : ∃ v, v < 3 ∧ hm = nI v) (hw : wfT (sN s + 1) (newT kd hm ow)) (hk1 : kd ≠ 1) : Sm ph (mkR s kd hm ow).1 (mFr M (sN s) kd hm (oNum ow)) ∧ RR ph (sN (mkR s kd hm ow).1) (sK (mkR s kd hm ow).1) (mkR s kd hm ow).2 ((mFr M (sN s) kd hm (oNum ow)).1 27, (mFr M (sN s) kd hm (oNum ow)).1 28) ∧ Fr M (mFr M (sN s) kd hm (oNum ow)) := by
  unfold mkR make mFr
  by_cases h : sN s < 40
  · rw [if_pos h, if_pos h]
    obtain ⟨⟨r1, r2, r3, r4, r5, r6, r7, r8⟩, r9, r10, rA⟩ := mk_row M (sN s) kd hm (oNum ow)
    refine ⟨?_, RR.same (VV.obj (i := sN s) (Nat.lt_succ_self _)), Fr.rf.make.hold⟩
    refine (S.add' (M' := mMake M (sN s) kd hm (oNum ow)) h ⟨Or.inl rfl, Or.inl rfl, hh⟩ hw rfl rfl rfl (fun i hi => eqT.rf.make hi) (fun j _ => eqM.rf.make) (fun j _ => rA j) (fun _ => rfl) r10 ⟨r1, r2, ?_, r4, r5, r6⟩ ?_).hold
    · rw [r3]; unfold lk; rw [if_neg hk1]
    · rw [r7, r8]; exact RR.same VV.not
  · rw [if_neg h, if_neg h]
    exact ⟨S, RR.same VV.brk, Fr.rf⟩
theorem oNum_lk {t : Th} {o : Nat} (h1 : tK t ≠ 1) (ho : tO t = some o) : lk t = nI o := by unfold lk; rw [if_neg h1, ho]; rfl
/-- the post of a thing that answers -/
def PS (ph : Nat → Rf) (M : Md) (f : St × Rf) : Option fw_V → Md → Prop := fun v M' => v = none ∧ Sm ph f.1 M' ∧ RA ph (sN f.1) (sK f.1) f.2 (M'.1 27, M'.1 28) ∧ Fr M M'
theorem Sm.wK (S : Sm ph s M) {i : Nat} (hi : i < sN s) (h : tK (sT s i) = 2 ∨ tK (sT s i) = 4 ∨ tK (sT s i) = 5 ∨ tK (sT s i) = 6 ∨ tK (sT s i) = 8 ∨ tK (sT s i) = 10) : ∃ o, o < sN s ∧ tO (sT s i) = some o ∧ M.2 3 i = nI o := by
  have ht := S.tt hi
  rcases ht.1 with ⟨a, -⟩ | ⟨a, o, ho, e⟩ | ⟨a, -⟩
  · rw [a] at h; rcases h with h | h | h | h | h | h <;> exact absurd h (by decide)
  · refine ⟨o, ho, e, ?_⟩
    rw [ht.2.2.2.1]
    exact oNum_lk (by intro q; rw [q] at h; rcases h with h | h | h | h | h | h <;> exact absurd h (by decide)) e
  · rcases a with a | a | a | a <;> rw [a] at h <;> rcases h with h | h | h | h | h | h <;> exact absurd h (by decide)
abbrev mWr (M : Md) (n : Nat) (hm to inw a c : Int32) : Md := (let M1 := mHold (mMake M n 10 hm to) 2 (nI n); (M1.1, va_up (va_up (va_up M1.2 5 (va_up (M1.2 5) n inw)) 7 (va_up (M1.2 7) n a)) 8 (va_up (M1.2 8) n c)))
theorem Sm.mkW (S : Sm ph s M) (h : sN s < 40) {mb : Nat} (hmb : mb < sN s) {inw : Int32} (hz : inw = 0 ∨ inw = 1) {c : Rf} (hc : VV (sN s) (sK s) c) : Sm ph (sN s + 1, va_up (sT s) (sN s) (wrT (tH (sT s mb)) mb c inw), s.2.2) (mWr M (sN s) (tH (sT s mb)) (nI mb) inw c.1 c.2) ∧ Fr M (mWr M (sN s) (tH (sT s mb)) (nI mb) inw c.1 c.2) := by
  obtain ⟨⟨r1, r2, r3, r4, r5, r6, r7, r8⟩, r9, r10, rA⟩ := mk_row M (sN s) 10 (tH (sT s mb)) (nI mb)
  refine ⟨?_, ((Fr.rf.make.st (by decide)).st (by decide)).st (by decide)⟩
  refine S.add' (t := wrT (tH (sT s mb)) mb c inw) (M' := mWr M (sN s) (tH (sT s mb)) (nI mb) inw c.1 c.2) h ⟨Or.inl rfl, hz, (S.gd mb hmb).2.2⟩ (Or.inr (Or.inl ⟨Or.inr (Or.inr (Or.inr (Or.inr (Or.inr rfl)))), mb, by omega, rfl⟩)) rfl rfl rfl (fun i hi => ?_) (fun j _ => ?_) (fun j _ => ?_) (x1 := 10) (x2 := tH (sT s mb)) (x3 := nI mb) (fun _ => rfl) r10 ⟨r1, r2, r3, r4, va_up_self _ _ _, r6⟩ ?_
  · exact (((eqT.rf.make hi).o (f := 5) (by decide) (by omega)).o (f := 7) (by decide) (by omega)).o (f := 8) (by decide) (by omega)
  · exact ((eqM.rf.make.ts (f := 5) (by decide)).ts (f := 7) (by decide)).ts (f := 8) (by decide)
  · exact (((rA j).st (f := 5) (by decide)).st (f := 7) (by decide)).st (f := 8) (by decide)
  · refine ⟨hc.up1, ?_, ?_⟩
    · show vR (sK s) (va_up _ _ _ _, va_up _ _ _ _)
      rw [va_up_self, va_up_self]; exact hc.1
    · show can ph c = can ph (va_up _ _ _ _, va_up _ _ _ _)
      rw [va_up_self, va_up_self]
def fwS (s : St) (c : Rf) (mb : Nat) (inw : Int32) : St × Rf := match findW s c mb inw with
  | some i => (s, (2, nI i))
  | none => ((mkW s c mb inw).1, rTo (mkW s c mb inw).2)
def PW (ph : Nat → Rf) (M : Md) (r : Rf) (f : St × Rf) : Option fw_V → Md → Prop := fun v M' => ∃ bb : Bool, v = some (.inl (bI bb)) ∧ Sm ph f.1 M' ∧ Fr M M' ∧ VV (sN f.1) (sK f.1) f.2 ∧ (bb = true → RR ph (sN f.1) (sK f.1) f.2 (M'.1 27, M'.1 28)) ∧ (bb = false → can ph f.2 = can ph r ∧ M' = M)
theorem m_D_wrap (l : Launch) (hT : TOK T) (S : Sm ph s M) {mb : Nat} (hmb : mb < sN s) {inw : Int32} (hz : inw = 0 ∨ inw = 1) {r : Rf} (hr : VV (sN s) (sK s) r) (h27 : M.1 27 = (can ph r).1) (h28 : M.1 28 = (can ph r).2) : CtD l T y_D_wrap W_D_wrap rm_D_wrap b A [.inr (some b), .inl (nI mb), .inl inw] M (PW ph M r (wrapS s r mb inw)) := by
  intro w R
  refine ct_D_wrap rfl (nle rfl) ?_
  intro X hl C E
  have V := hv_D_wrap hT
  suffices JD T G_D_wrap X b A 0 [some (.inr (some b)), some (.inl (nI mb)), some (.inl inw), none, none, none] [] M from this w R
  have n40 := S.n40
  have k200 := S.k200
  have hcc := S.cntE hr
  have hcV := hr.can S.hp k200
  have hci := S.c1.idem k200 hr.1
  have hwr : wrapS s r mb inw = wrapS s r mb inw := rfl
  conv at hwr => rhs; unfold wrapS
  rw [hcc] at hwr
  generalize hcd : can ph r = c at *
  refine jd_get C rfl (fg_D_D_sort V) (u := .inl c.1) (by rw [← h27]; rfl) ?_
  refine jd_get C rfl (fg_D_D_ref V) (u := .inl c.2) (by rw [← h28]; rfl) ?_
  have fin0 : ∀ {b2 : Rf} {s2 : St}, s2 = s → VV (sN s) (sK s) b2 → can ph b2 = c → PW ph M r (s2, b2) (some (.inl 0)) M := by
    rintro b2 s2 rfl h1 h2
    exact ⟨false, rfl, S, Fr.rf, h1, fun q => (by cases q), fun _ => ⟨h2.trans hcd.symm, rfl⟩⟩
  by_cases hs : c.1 = 2 ∨ c.1 = 3
  case neg =>
    rw [if_neg hs] at hwr
    rw [hwr] at E
    refine jd_icmpF C rfl (cb_eqF (fun q => hs (Or.inl q))) ?_
    refine jd_icmpF C rfl (cb_eqF (fun q => hs (Or.inr q))) ?_
    exact jd_iret C E rfl (Or.inr ⟨rfl, Or.inl rfl⟩) (fin0 rfl hcV hci)
  rw [if_pos hs] at hwr
  have search : wrapS s r mb inw = fwS s c mb inw → JD T G_D_wrap X b A 84 [some (.inr (some b)), some (.inl (nI mb)), some (.inl inw), some (.inl c.1), some (.inl c.2), none] [] M := by
    intro hE
    rw [hE] at E
    have loop : ∀ d i M1, i + d = sN s → (∃ x y, M1 = mHold M x y) → fFrom (isW s c mb inw) (sN s) d = findW s c mb inw → JD T G_D_wrap X b A 87 [some (.inr (some b)), some (.inl (nI mb)), some (.inl inw), some (.inl c.1), some (.inl c.2), some (.inl (nI i))] [] M1 := by
      intro d
      induction d with
      | zero =>
        rintro i M1 hi ⟨x, y, rfl⟩ hf
        refine jd_get C rfl (fg_D_D_objects V) (u := .inl (nI (sN s))) (by rw [← S.hn]; rfl) ?_
        refine jd_icmpT C rfl (cb_geT (by omega) (by omega)) ?_
        refine jd_get C rfl (fg_D_D_home V) rfl ?_
        refine jd_ald C hT (f := 2) rfl (by decide) rfl rfl mb rfl (by show mb < 40; omega) ?_
        rw [show (mHold M x y).2 2 mb = tH (sT s mb) from (S.tt hmb).2.2.1]
        refine jd_call C hT rfl (fc_D_D_fresh V (by decide)) (m_D_fresh (M := mHold M x y) _ hT (n := sN s) S.hn n40 10 (tH (sT s mb)) (nI mb)) (As := [.inl 10, .inl (tH (sT s mb)), .inl (nI mb)]) rfl rfl rfl (nle rfl) rfl rfl ?_
        rintro v M' ⟨rfl, rfl⟩
        unfold fwS at E
        rw [← hf] at E
        rw [show fFrom (isW s c mb inw) (sN s) 0 = none from rfl] at E
        dsimp only at E
        unfold mkW at E
        by_cases h40 : sN s < 40
        · rw [if_pos h40] at E ⊢
          dsimp only at E
          refine jd_get C rfl (fg_D_D_sort V) (u := .inl 2) rfl ?_
          refine jd_icmpF C rfl cb_neF ?_
          refine jd_get C rfl (fg_D_D_inward V) rfl ?_
          refine jd_get C rfl (fg_D_D_ref V) (u := .inl (nI (sN s))) rfl ?_
          refine jd_ast C hT (f := 5) rfl (by decide) rfl rfl (sN s) rfl h40 ?_
          refine jd_get C rfl (fg_D_D_ownSort V) rfl ?_
          refine jd_get C rfl (fg_D_D_ref V) (u := .inl (nI (sN s))) rfl ?_
          refine jd_ast C hT (f := 7) rfl (by decide) rfl rfl (sN s) rfl h40 ?_
          refine jd_get C rfl (fg_D_D_own V) rfl ?_
          refine jd_get C rfl (fg_D_D_ref V) (u := .inl (nI (sN s))) rfl ?_
          refine jd_ast C hT (f := 8) rfl (by decide) rfl rfl (sN s) rfl h40 ?_
          obtain ⟨q1, q2⟩ := (S.hold (a := x) (b := y)).mkW h40 hmb hz hcV
          exact jd_iret C E rfl (Or.inr ⟨rfl, Or.inr rfl⟩) ⟨true, rfl, q1, q2, VV.obj (Nat.lt_succ_self _), fun _ => RR.same (VV.obj (i := sN s) (Nat.lt_succ_self _)), fun q => (by cases q)⟩
        · rw [if_neg h40] at E ⊢
          refine jd_get C rfl (fg_D_D_sort V) (u := .inl 4) rfl ?_
          refine jd_icmpT C rfl (by decide) ?_
          exact jd_iret C E rfl (Or.inr ⟨rfl, Or.inr rfl⟩) ⟨true, rfl, S, Fr.rf, VV.brk, fun _ => RR.same VV.brk, fun q => (by cases q)⟩
      | succ d ih =>
        rintro i M1 hi ⟨x, y, rfl⟩ hf
        have hin : i < sN s := by omega
        have ht := S.tt hin
        have hidx : sN s - (d + 1) = i := by omega
        refine jd_get C rfl (fg_D_D_objects V) (u := .inl (nI (sN s))) (by rw [← S.hn]; rfl) ?_
        refine jd_icmpF C rfl (cb_geF (by omega) (by omega)) ?_
        have nxt : ∀ M1, (∃ x y, M1 = mHold M x y) → isW s c mb inw i = false → JD T G_D_wrap X b A 174 [some (.inr (some b)), some (.inl (nI mb)), some (.inl inw), some (.inl c.1), some (.inl c.2), some (.inl (nI i))] [] M1 := by
          intro M1 hM1 hw
          refine jd_goto C rfl ?_
          have := ih (i + 1) M1 (by omega) hM1 (by
            rw [← hf]
            show _ = (if isW s c mb inw (sN s - (d + 1)) = true then _ else _)
            rw [hidx, hw]; rfl)
          rw [← nI_1] at this
          exact this
        refine jd_get C rfl (fg_D_D_kind V) rfl ?_
        refine jd_ald C hT (f := 1) rfl (by decide) rfl rfl i rfl (by show i < 40; omega) ?_
        rw [show (mHold M x y).2 1 i = tK (sT s i) from ht.2.1]
        refine jd_icmp C rfl (fun h => ?_) (fun h => ?_)
        · exact nxt _ ⟨x, y, rfl⟩ (decide_eq_false (fun q => h q.1))
        have h10 : tK (sT s i) = 10 := Classical.not_not.mp h
        obtain ⟨o, ho, eo, e3⟩ := S.wK hin (by simp [h10])
        refine jd_get C rfl (fg_D_D_link V) rfl ?_
        refine jd_ald C hT (f := 3) rfl (by decide) rfl rfl i rfl (by show i < 40; omega) ?_
        rw [show (mHold M x y).2 3 i = nI o from e3]
        refine jd_icmp C rfl (fun h => ?_) (fun h => ?_)
        · exact nxt _ ⟨x, y, rfl⟩ (decide_eq_false (fun q => h (by have := q.2.1; rw [eo] at this; cases this; rfl)))
        have hob : o = mb := nI_inj (by omega) (by omega) (Classical.not_not.mp h)
        subst hob
        refine jd_get C rfl (fg_D_D_inward V) rfl ?_
        refine jd_ald C hT (f := 5) rfl (by decide) rfl rfl i rfl (by show i < 40; omega) ?_
        rw [show (mHold M x y).2 5 i = tI (sT s i) from ht.2.2.2.2.2.1]
        refine jd_icmp C rfl (fun h => ?_) (fun h => ?_)
        · exact nxt _ ⟨x, y, rfl⟩ (decide_eq_false (fun q => h q.2.2.1))
        have hinw : tI (sT s i) = inw := Classical.not_not.mp h
        have hD := ht.2.2.2.2.2.2.2.1
        refine jd_get C rfl (fg_D_D_ownSort V) rfl ?_
        refine jd_ald C hT (f := 7) rfl (by decide) rfl rfl i rfl (by show i < 40; omega) ?_
        refine jd_get C rfl (fg_D_D_own V) rfl ?_
        refine jd_ald C hT (f := 8) rfl (by decide) rfl rfl i rfl (by show i < 40; omega) ?_
        refine jd_call C hT rfl (fc_D_D_look V (by decide)) (m_D_look (M := mHold M x y) _ hT S.c2 k200 (s := M.2 7 i) (v := M.2 8 i) hD.2.1) (As := [.inl (M.2 7 i), .inl (M.2 8 i)]) rfl rfl rfl (nle rfl) rfl rfl ?_
        rintro v M' ⟨rfl, rfl⟩
        rw [mHold2, ← hD.2.2, ← S.cntE hD.1]
        refine jd_get C rfl (fg_D_D_sort V) (u := .inl (cnt s (tD (sT s i))).1) rfl ?_
        refine jd_icmp C rfl (fun h => ?_) (fun h => ?_)
        · exact nxt _ ⟨_, _, rfl⟩ (decide_eq_false (fun q => h (by rw [q.2.2.2])))
        have hq1 : (cnt s (tD (sT s i))).1 = c.1 := Classical.not_not.mp h
        refine jd_get C rfl (fg_D_D_ref V) (u := .inl (cnt s (tD (sT s i))).2) rfl ?_
        refine jd_icmp C rfl (fun h => ?_) (fun h => ?_)
        · exact nxt _ ⟨_, _, rfl⟩ (decide_eq_false (fun q => h (by rw [q.2.2.2])))
        have hq2 : (cnt s (tD (sT s i))).2 = c.2 := Classical.not_not.mp h
        have hw : isW s c o inw i = true := decide_eq_true ⟨h10, eo, hinw, Prod.ext hq1 hq2⟩
        have hfi : findW s c o inw = some i := by
          rw [← hf]
          show (if isW s c o inw (sN s - (d + 1)) = true then _ else _) = _
          rw [hidx, hw]; rfl
        unfold fwS at E
        rw [hfi] at E
        refine jd_call C hT rfl (fc_D_D_hold V (by decide)) (m_D_hold _ hT 2 (nI i)) (As := [.inl 2, .inl (nI i)]) rfl rfl rfl (nle rfl) rfl rfl ?_
        rintro v M' ⟨rfl, rfl⟩
        rw [mHold2]
        exact jd_iret C E rfl (Or.inr ⟨rfl, Or.inr rfl⟩) ⟨true, rfl, S.hold, Fr.rf, VV.obj hin, fun _ => RR.same (VV.obj hin), fun q => (by cases q)⟩
    refine jd_to C 87 rfl ?_
    exact loop (sN s) 0 M (Nat.zero_add _) ⟨M.1 27, M.1 28, Prod.ext (funext fun q => by
      show M.1 q = va_up (va_up M.1 27 (M.1 27)) 28 (M.1 28) q
      by_cases h8 : q = 28
      · subst h8; rw [va_up_self]
      · rw [va_up_ne _ _ h8]
        by_cases h7 : q = 27
        · subst h7; rw [va_up_self]
        · rw [va_up_ne _ _ h7]) rfl⟩ rfl
  have at23 : JD T G_D_wrap X b A 23 [some (.inr (some b)), some (.inl (nI mb)), some (.inl inw), some (.inl c.1), some (.inl c.2), none] [] M := by
    by_cases h2 : c.1 = 2
    case neg =>
      refine jd_icmpT C rfl (cb_neT h2) ?_
      refine search ?_
      rw [hwr, show kOf s 10 c = none by unfold kOf tOf; rw [S.cntE hcV, hci, if_neg h2]]
      rfl
    obtain ⟨i, hi, e2⟩ := hcV.2.1 h2
    have ht := S.tt hi
    have htO : tOf s c = some i := by
      unfold tOf; rw [S.cntE hcV, hci, if_pos h2, e2]; exact ixO_some (by omega) hi
    refine jd_icmpF C rfl (by rw [h2]; decide) ?_
    refine jd_get C rfl (fg_D_D_kind V) rfl ?_
    refine jd_ald C hT (f := 1) rfl (by decide) rfl rfl i e2 (by show i < 40; omega) ?_
    rw [ht.2.1]
    refine jd_icmp C rfl (fun h => ?_) (fun h => ?_)
    · refine search ?_
      rw [hwr, show kOf s 10 c = none by unfold kOf; rw [htO]; exact if_neg h]
      rfl
    have h10 : tK (sT s i) = 10 := Classical.not_not.mp h
    have hkO : kOf s 10 c = some i := by unfold kOf; rw [htO]; exact if_pos h10
    obtain ⟨o, ho, eo, e3⟩ := S.wK hi (by simp [h10])
    refine jd_get C rfl (fg_D_D_link V) rfl ?_
    refine jd_ald C hT (f := 3) rfl (by decide) rfl rfl i e2 (by show i < 40; omega) ?_
    rw [e3]
    refine jd_icmp C rfl (fun h => ?_) (fun h => ?_)
    · refine search ?_
      rw [hwr, hkO]
      dsimp only
      rw [if_neg (fun q => h (by rw [eo] at q; cases q; rfl))]
      rfl
    have hob : o = mb := nI_inj (by omega) (by omega) (Classical.not_not.mp h)
    subst hob
    rw [hkO] at hwr
    dsimp only at hwr
    rw [if_pos eo] at hwr
    dsimp only at hwr
    rw [hwr] at E
    refine jd_get C rfl (fg_D_D_inward V) rfl ?_
    refine jd_ald C hT (f := 5) rfl (by decide) rfl rfl i e2 (by show i < 40; omega) ?_
    rw [ht.2.2.2.2.2.1]
    refine jd_icmp C rfl (fun h => ?_) (fun h => ?_)
    · rw [if_neg h] at E
      have hD := ht.2.2.2.2.2.2.2.1
      refine jd_get C rfl (fg_D_D_ownSort V) rfl ?_
      refine jd_ald C hT (f := 7) rfl (by decide) rfl rfl i e2 (by show i < 40; omega) ?_
      refine jd_get C rfl (fg_D_D_own V) rfl ?_
      refine jd_ald C hT (f := 8) rfl (by decide) rfl rfl i e2 (by show i < 40; omega) ?_
      refine jd_call C hT rfl (fc_D_D_hold V (by decide)) (m_D_hold _ hT (M.2 7 i) (M.2 8 i)) (As := [.inl (M.2 7 i), .inl (M.2 8 i)]) rfl rfl rfl (nle rfl) rfl rfl ?_
      rintro v M' ⟨rfl, rfl⟩
      exact jd_iret C E rfl (Or.inr ⟨rfl, Or.inr rfl⟩) ⟨true, rfl, S.hold, Fr.rf, hD.1, fun _ => hD, fun q => (by cases q)⟩
    · rw [if_pos (Classical.not_not.mp h)] at E
      exact jd_iret C E rfl (Or.inr ⟨rfl, Or.inl rfl⟩) (fin0 rfl hcV hci)
  refine jd_icmp C rfl (fun _ => at23) (fun h => ?_)
  refine jd_icmpT C rfl (by rw [show c.1 = 3 from hs.resolve_left h]; decide) ?_
  exact at23
end DWR
