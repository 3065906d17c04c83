/-! The reference's cells, relaying and notes, beside the other side's. -/
section DTN
variable {T : fw_T} {b : Nat} {A : Nat → Nat} {M : Md} {ph : Nat → Rf} {s : St} {i j : Nat}
abbrev gT1 (hm : Int32) (n : Nat) : Th := (1, hm, none, fun _ => rN, rN, some (n + 1), 0, 0, 0)
abbrev gT2 (hm : Int32) (n : Nat) (r : Rf) : Th := (2, hm, some n, fun _ => rN, r, none, 0, 0, 0)
abbrev mGt (M : Md) (n : Nat) (hm x y : Int32) : Md := mSt (mSt (mMake (mMake M n 1 hm (nI (n + 1))) (n + 1) 2 hm (nI n)) 7 (n + 1) x) 8 (n + 1) y
theorem Sm.gate (S : Sm ph s M) (h : sN s + 2 ≤ 40) {hm x y : Int32} {r : Rf} (hh : ∃ v, v < 3 ∧ hm = nI v) (hr : RR ph (sN s) (sK s) r (x, y)) : Sm ph (sN s + 1 + 1, va_up (va_up (sT s) (sN s) (gT1 hm (sN s))) (sN s + 1) (gT2 hm (sN s) r), s.2.2) (mGt M (sN s) hm x y) ∧ Fr M (mGt M (sN s) hm x y) := by
  obtain ⟨⟨r1, r2, r3, r4, r5, r6, r7, r8⟩, r9, r10, rA⟩ := mk_row M (sN s) 1 hm (nI (sN s + 1))
  obtain ⟨⟨p1, p2, p3, p4, p5, p6, p7, p8⟩, p9, p10, pA⟩ := mk_row (mMake M (sN s) 1 hm (nI (sN s + 1))) (sN s + 1) 2 hm (nI (sN s))
  refine ⟨⟨⟨h, S.k200⟩, fun i hi => ?_, S.c1, S.c2.eq (fun j hj => dAns_eq ?_), fun j hj => ⟨(S.hp j hj).1.up1.up1, (S.hp j hj).2⟩, ⟨rfl, S.hk⟩, fun i hi => ?_, fun j hj => ?_, fun q hq hq' => ?_⟩, ((((Fr.rf (M := M)).make (n := sN s) (a := 1) (b := hm) (c := nI (sN s + 1))).make (n := sN s + 1) (a := 2) (b := hm) (c := nI (sN s))).st (f := 7) (by decide)).st (f := 8) (by decide)⟩
  · show goodT (va_up (va_up (sT s) (sN s) (gT1 hm (sN s))) (sN s + 1) (gT2 hm (sN s) r) i)
    by_cases h1 : i = sN s + 1
    · subst h1; rw [va_up_self]; exact ⟨Or.inl rfl, Or.inl rfl, hh⟩
    · rw [va_up_ne _ _ h1]
      by_cases h2 : i = sN s
      · subst h2; rw [va_up_self]; exact ⟨Or.inl rfl, Or.inl rfl, hh⟩
      · rw [va_up_ne _ _ h2]; exact S.gd i (by have hi : i < sN s + 1 + 1 := hi; omega)
  · refine eqA.st (f := 8) (eqA.st (f := 7) ?_ (by decide)) (by decide)
    exact ⟨(pA j).1.trans (rA j).1, (pA j).2.1.trans (rA j).2.1, (pA j).2.2.trans (rA j).2.2⟩
  · show TS ph (sN s + 1 + 1) (sK s) (va_up (va_up (sT s) (sN s) (gT1 hm (sN s))) (sN s + 1) (gT2 hm (sN s) r) i) _ i
    by_cases h1 : i = sN s + 1
    · subst h1; rw [va_up_self]
      refine ⟨Or.inr (Or.inl ⟨Or.inl rfl, sN s, by omega, rfl⟩), p1, p2, p3, p4, p5, p6, ?_, fun q hq => ?_⟩
      · show RR ph (sN s + 1 + 1) (sK s) r (va_up _ _ _ _, va_up _ _ _ _)
        rw [va_up_self, va_up_self]; exact hr.up1.up1
      · show RR ph (sN s + 1 + 1) (sK s) rN ((mMake (mMake M (sN s) 1 hm (nI (sN s + 1))) (sN s + 1) 2 hm (nI (sN s))).2 9 (4 * (sN s + 1) + q), (mMake (mMake M (sN s) 1 hm (nI (sN s + 1))) (sN s + 1) 2 hm (nI (sN s))).2 10 (4 * (sN s + 1) + q))
        rw [p9 q hq, p10, r10, S.z (by omega) (by omega)]
        exact RR.same VV.not
    · rw [va_up_ne _ _ h1]
      have hi1 : i < sN s + 1 := by have hi : i < sN s + 1 + 1 := hi; omega
      have e1 : eqT (mMake M (sN s) 1 hm (nI (sN s + 1))) (mGt M (sN s) hm x y) i := ((eqT.rf.make hi1).o (f := 7) (by decide) (by omega)).o (f := 8) (by decide) (by omega)
      by_cases h2 : i = sN s
      · subst h2; rw [va_up_self]
        refine TS.eq ⟨Or.inl ⟨rfl, rfl, sN s + 1, by omega, rfl⟩, r1, r2, r3, r4, r5, r6, ?_, fun q hq => ?_⟩ e1
        · rw [r7, r8]; exact RR.same VV.not
        · rw [r9 q hq, r10, S.z (by omega) (by omega)]; exact RR.same VV.not
      · rw [va_up_ne _ _ h2]
        have hi0 : i < sN s := by omega
        exact (((S.tt hi0).eq (eqT.rf.make hi0)).eq e1).up1.up1
  · refine MSm.up1 (MSm.up1 (((S.m hj).eq (((eqM.rf.make (n := sN s) (a := 1) (b := hm) (c := nI (sN s + 1))).make.ts (f := 7) (by decide)).ts (f := 8) (by decide))).th (fun p hp => ?_)))
    show tO (va_up (va_up (sT s) (sN s) _) (sN s + 1) _ p) = _ ∧ tI (va_up (va_up (sT s) (sN s) _) (sN s + 1) _ p) = _
    rw [va_up_ne _ _ (by omega), va_up_ne _ _ (by omega)]
    exact ⟨rfl, rfl⟩
  · have hq : 4 * (sN s + 1 + 1) ≤ q := hq
    show (mMake (mMake M (sN s) 1 hm (nI (sN s + 1))) (sN s + 1) 2 hm (nI (sN s))).2 10 q = 0
    rw [p10, r10]
    exact S.z (by omega) hq'
theorem m_D_ofCell (l : Launch) (hT : TOK T) (S : Sm ph s M) (hi : i < sN s) (hj : j < sK s) {v : Nat} (hv : v < 16) : CtD l T y_D_ofCell W_D_ofCell rm_D_ofCell b A [.inr (some b), .inl (nI j), .inl (nI i), .inl (nI v)] M (PS ph M (ansCell s i (nI v) (mA (sM s j)))) := by
  intro w R
  refine ct_D_ofCell rfl (nle rfl) ?_
  intro X hl C E
  have V := hv_D_ofCell hT
  suffices JD T G_D_ofCell X b A 0 [some (.inr (some b)), some (.inl (nI j)), some (.inl (nI i)), some (.inl (nI v)), none, none, none] [] M from this w R
  have n40 := S.n40
  have k200 := S.k200
  have ht := S.tt hi
  have hm := S.m hj
  refine jd_get C rfl (fg_D_D_home V) rfl ?_
  refine jd_ald C hT (f := 2) rfl (by decide) rfl rfl i rfl (by show i < 40; omega) ?_
  rw [ht.2.2.1]
  have brk : ∀ z1 z2, ansCell s i (nI v) (mA (sM s j)) = (s, rB) → JD T G_D_ofCell X b A 262 [some (.inr (some b)), some (.inl (nI j)), some (.inl (nI i)), some (.inl (nI v)), some (.inl (tH (sT s i))), z1, z2] [] M := by
    intro z1 z2 hE
    rw [hE] at E
    refine jd_call C hT rfl (fc_D_D_broken V (by decide)) (m_D_broken _ hT) (As := []) rfl rfl rfl (nle rfl) rfl rfl ?_
    rintro v M' ⟨rfl, rfl⟩
    exact jd_vret C E rfl rfl ⟨rfl, S.hold, (RR.same VV.brk).a, Fr.rf.hold⟩
  by_cases h4 : v < 4
  · have hE : ansCell s i (nI v) (mA (sM s j)) = (s, bN (tS (sT s i) v)) := by unfold ansCell; rw [ixO_some (by omega) h4]
    have hS := ht.2.2.2.2.2.2.2.2 v h4
    refine jd_icmpF C rfl (cb_geF (b := 4) h4 (by omega)) ?_
    refine jd_get C rfl (fg_D_D_slotSort V) rfl ?_
    refine jd_ald C hT (f := 9) rfl (by decide) rfl rfl (4 * i + v) nI_mul4 (by show 4 * i + v < 160; omega) ?_
    refine jd_get C rfl (fg_D_D_slot V) rfl ?_
    refine jd_ald C hT (f := 10) rfl (by decide) rfl rfl (4 * i + v) nI_mul4 (by show 4 * i + v < 160; omega) ?_
    refine jd_call C hT rfl (fc_D_D_look V (by decide)) (m_D_look _ hT S.c2 k200 hS.2.1) (As := [.inl (M.2 9 (4 * i + v)), .inl (M.2 10 (4 * i + v))]) rfl rfl rfl (nle rfl) rfl rfl ?_
    rintro v' M' ⟨rfl, rfl⟩
    rw [← hS.2.2]
    refine jd_get C rfl (fg_D_D_sort V) (u := .inl (can ph (tS (sT s i) v)).1) rfl ?_
    rw [hE] at E
    refine jd_if C rfl (fun h => ?_) (fun h => ?_)
    · have h : ¬ (can ph (tS (sT s i) v)).1 = 0 := h
      refine jd_get C rfl (fg_D_D_slotSort V) rfl ?_
      refine jd_ald C hT (f := 9) rfl (by decide) rfl rfl (4 * i + v) nI_mul4 (by show 4 * i + v < 160; omega) ?_
      refine jd_get C rfl (fg_D_D_slot V) rfl ?_
      refine jd_ald C hT (f := 10) rfl (by decide) rfl rfl (4 * i + v) nI_mul4 (by show 4 * i + v < 160; omega) ?_
      refine jd_call C hT rfl (fc_D_D_hold V (by decide)) (m_D_hold _ hT (M.2 9 (4 * i + v)) (M.2 10 (4 * i + v))) (As := [.inl (M.2 9 (4 * i + v)), .inl (M.2 10 (4 * i + v))]) rfl rfl rfl (nle rfl) rfl rfl ?_
      rintro v' M' ⟨rfl, rfl⟩
      rw [mHold2]
      refine jd_goto C rfl ?_
      exact jd_vret C E rfl rfl ⟨rfl, S.hold, RA.bn S.hp k200 hS, Fr.rf.hold⟩
    · have h : (can ph (tS (sT s i) v)).1 = 0 := Classical.not_not.mp h
      have h0 := (can0 S.hp k200 hS.1).mp h
      refine jd_call C hT rfl (fc_D_D_broken V (by decide)) (m_D_broken _ hT) (As := []) rfl rfl rfl (nle rfl) rfl rfl ?_
      rintro v' M' ⟨rfl, rfl⟩
      rw [mHold2]
      refine jd_goto C rfl ?_
      refine jd_vret C E rfl rfl ⟨rfl, S.hold, ?_, Fr.rf.hold⟩
      rw [show bN (tS (sT s i) v) = rB by unfold bN; rw [if_pos h0]]
      exact (RR.same VV.brk).a
  refine jd_icmpT C rfl (cb_geT (b := 4) (by omega) (by omega)) ?_
  have hx4 : ixO 4 (nI v) = none := ixO_big (nI_le (by omega) (by omega))
  by_cases h8 : v < 8
  · obtain ⟨q, rfl⟩ : ∃ q, v = 4 + q := ⟨v - 4, by omega⟩
    have hE : ansCell s i (nI (4 + q)) (mA (sM s j)) = (slotS s i q (mA (sM s j)), (1, 0)) := by unfold ansCell; rw [hx4]; dsimp only; rw [nI_s4, ixO_some (by omega) (by omega)]
    refine jd_icmpF C rfl (cb_geF (b := 8) h8 (by omega)) ?_
    refine jd_get C rfl (fg_D_D_slotSort V) rfl ?_
    refine jd_get C rfl (fg_D_D_argumentSort V) rfl ?_
    refine jd_ald C hT (f := 19) rfl (by decide) rfl rfl j rfl (by show j < 200; omega) ?_
    refine jd_ast C hT (f := 9) rfl (by decide) rfl rfl (4 * i + q) nI_mul4s (by show 4 * i + q < 160; omega) ?_
    refine jd_get C rfl (fg_D_D_slot V) rfl ?_
    refine jd_get C rfl (fg_D_D_argument V) rfl ?_
    refine jd_ald C hT (f := 20) rfl (by decide) rfl rfl j rfl (by show j < 200; omega) ?_
    refine jd_ast C hT (f := 10) rfl (by decide) rfl rfl (4 * i + q) nI_mul4s (by show 4 * i + q < 160; omega) ?_
    refine jd_call C hT rfl (fc_D_D_hold V (by decide)) (m_D_hold _ hT 1 0) (As := [.inl 1, .inl 0]) rfl rfl rfl (nle rfl) rfl rfl ?_
    rintro v' M' ⟨rfl, rfl⟩
    refine jd_goto C rfl ?_
    rw [hE] at E
    exact jd_vret C E rfl rfl ⟨rfl, (S.slot hi (q := q) (by omega) hm.2.2.2.1).hold, (RR.same (VV.num 0)).a, ((Fr.rf.st (f := 9) (by decide)).st (f := 10) (by decide)).hold⟩
  refine jd_icmpT C rfl (cb_geT (b := 8) (by omega) (by omega)) ?_
  have frs : ∀ kd, (kd = 0 ∨ kd = 3 ∨ kd = 7 ∨ kd = 9) → ansCell s i (nI v) (mA (sM s j)) = mkR s kd (tH (sT s i)) none → JD T G_D_ofCell X b A 253 [some (.inr (some b)), some (.inl (nI j)), some (.inl (nI i)), some (.inl (nI v)), some (.inl (tH (sT s i))), none, none] [.inl kd, .inr (some b)] M := by
    intro kd hkd hE
    rw [hE] at E
    refine jd_call C hT rfl (fc_D_D_fresh V (by decide)) (m_D_fresh _ hT (n := sN s) S.hn n40 kd (tH (sT s i)) 0) (As := [.inl kd, .inl (tH (sT s i)), .inl 0]) rfl rfl rfl (nle rfl) rfl rfl ?_
    rintro v' M' ⟨rfl, rfl⟩
    refine jd_goto C rfl ?_
    obtain ⟨q1, q2, q3⟩ := S.fresh (kd := kd) (hm := tH (sT s i)) (ow := none) (S.gd i hi).2.2 (Or.inr (Or.inr ⟨hkd, rfl⟩)) (by rintro rfl; rcases hkd with q | q | q | q <;> cases q)
    exact jd_vret C E rfl rfl ⟨rfl, q1, q2.a, q3⟩
  rcases (show v = 8 ∨ v = 9 ∨ v = 10 ∨ v = 11 ∨ v = 12 ∨ v = 13 ∨ v = 14 ∨ v = 15 by omega) with rfl | rfl | rfl | rfl | rfl | rfl | rfl | rfl
  · refine jd_icmpT C rfl (by decide) ?_
    refine jd_icmpF C rfl (by decide) ?_
    refine jd_icmpF C rfl (by decide) ?_
    exact jd_goto C rfl (frs 0 (by decide) rfl)
  · have hE : ansCell s i (nI 9) (mA (sM s j)) = gateS s i (mA (sM s j)) := rfl
    refine jd_icmpF C rfl (by decide) ?_
    refine jd_get C rfl (fg_D_D_objects V) (u := .inl (nI (sN s))) (by rw [← S.hn]; rfl) ?_
    by_cases h38 : sN s + 2 ≤ 40
    · refine jd_icmpT C rfl (fw_cb_iff.mpr (by show nI (sN s) ≤ nI 38; exact nI_le (by omega) (by omega))) ?_
      rw [hE, show gateS s i (mA (sM s j)) = ((sN s + 1 + 1, va_up (va_up (sT s) (sN s) (gT1 (tH (sT s i)) (sN s))) (sN s + 1) (gT2 (tH (sT s i)) (sN s) (mA (sM s j))), s.2.2), (2, nI (sN s))) by unfold gateS; rw [if_pos h38]] at E
      refine jd_get C rfl (fg_D_D_objects V) (u := .inl (nI (sN s))) (by rw [← S.hn]; rfl) ?_
      refine jd_call C hT rfl (fc_D_D_make V (by decide)) (m_D_make _ hT (n := sN s) S.hn (by omega) 1 (tH (sT s i)) (nI (sN s) + 1)) (As := [.inl 1, .inl (tH (sT s i)), .inl (nI (sN s) + 1)]) rfl rfl rfl (nle rfl) rfl rfl ?_
      rintro v' M' ⟨rfl, rfl⟩
      rw [nI_1]
      refine jd_call C hT rfl (fc_D_D_make V (by decide)) (m_D_make _ hT (n := sN s + 1) rfl (by omega) 2 (tH (sT s i)) (nI (sN s))) (As := [.inl 2, .inl (tH (sT s i)), .inl (nI (sN s))]) rfl rfl rfl (nle rfl) rfl rfl ?_
      rintro v' M' ⟨rfl, rfl⟩
      refine jd_get C rfl (fg_D_D_ownSort V) rfl ?_
      refine jd_get C rfl (fg_D_D_argumentSort V) rfl ?_
      refine jd_ald C hT (f := 19) rfl (by decide) rfl rfl j rfl (by show j < 200; omega) ?_
      refine jd_ast C hT (f := 7) rfl (by decide) rfl rfl (sN s + 1) rfl (by show sN s + 1 < 40; omega) ?_
      refine jd_get C rfl (fg_D_D_own V) rfl ?_
      refine jd_get C rfl (fg_D_D_argument V) rfl ?_
      refine jd_ald C hT (f := 20) rfl (by decide) rfl rfl j rfl (by show j < 200; omega) ?_
      refine jd_ast C hT (f := 8) rfl (by decide) rfl rfl (sN s + 1) rfl (by show sN s + 1 < 40; omega) ?_
      refine jd_call C hT rfl (fc_D_D_hold V (by decide)) (m_D_hold _ hT 2 (nI (sN s))) (As := [.inl 2, .inl (nI (sN s))]) rfl rfl rfl (nle rfl) rfl rfl ?_
      rintro v' M' ⟨rfl, rfl⟩
      refine jd_goto C rfl ?_
      obtain ⟨q1, q2⟩ := S.gate h38 (hm := tH (sT s i)) (S.gd i hi).2.2 hm.2.2.2.1
      exact jd_vret C E rfl rfl ⟨rfl, q1.hold, (RR.same (VV.obj (i := sN s) (by show sN s < sN s + 1 + 1; omega))).a, q2.hold⟩
    · refine jd_icmpF C rfl (Bool.eq_false_iff.mpr fun q => nI_ge (a := 38) (b := sN s) (by omega) (by omega) (fw_cb_iff.mp q)) ?_
      rw [hE, show gateS s i (mA (sM s j)) = (s, rB) by unfold gateS; rw [if_neg h38]] at E
      refine jd_call C hT rfl (fc_D_D_broken V (by decide)) (m_D_broken _ hT) (As := []) rfl rfl rfl (nle rfl) rfl rfl ?_
      rintro v M' ⟨rfl, rfl⟩
      refine jd_goto C rfl ?_
      exact jd_vret C E rfl rfl ⟨rfl, S.hold, (RR.same VV.brk).a, Fr.rf.hold⟩
  · refine jd_icmpT C rfl (by decide) ?_
    refine jd_icmpF C rfl (by decide) ?_
    refine jd_icmpT C rfl (by decide) ?_
    refine jd_icmpF C rfl (by decide) ?_
    exact jd_goto C rfl (frs 3 (by decide) rfl)
  · refine jd_icmpT C rfl (by decide) ?_
    refine jd_icmpF C rfl (by decide) ?_
    refine jd_icmpT C rfl (by decide) ?_
    refine jd_icmpT C rfl (by decide) ?_
    refine jd_icmpF C rfl (by decide) ?_
    exact jd_goto C rfl (frs 7 (by decide) rfl)
  · refine jd_icmpT C rfl (by decide) ?_
    refine jd_icmpF C rfl (by decide) ?_
    refine jd_icmpT C rfl (by decide) ?_
    refine jd_icmpT C rfl (by decide) ?_
    refine jd_icmpT C rfl (by decide) ?_
    exact jd_to C 253 rfl (frs 9 (by decide) rfl)
  · refine jd_icmpT C rfl (by decide) ?_
    refine jd_icmpT C rfl (by decide) ?_
    exact brk _ _ rfl
  · refine jd_icmpT C rfl (by decide) ?_
    refine jd_icmpT C rfl (by decide) ?_
    exact brk _ _ rfl
  · refine jd_icmpT C rfl (by decide) ?_
    refine jd_icmpT C rfl (by decide) ?_
    exact brk _ _ rfl
theorem nI_mul8 {o q : Nat} : (8 : Int32) * nI o + nI q = nI (8 * o + q) := by
  show nI 8 * nI o + nI q = _
  rw [show nI 8 * nI o = nI (8 * o) from (Int32.ofNat_mul 8 o).symm, nI_add]
/-- the message that goes on: its target, its argument, its notes -/
theorem Sm.relay (S : Sm ph s M) (hj : j < sK s) (hi : i < sN s) {o : Nat} (ho : o < sN s) (eo : tO (sT s i) = some o) (h8 : (mW (sM s j)).length < 8) {r : Rf} {x y z25 z26 z24 : Int32} (h25 : z25 = nI o) (h26 : z26 = tI (sT s i)) (h24 : z24 = nI ((mW (sM s j)).length + 1)) (hr : RR ph (sN s) (sK s) r (x, y)) : Sm ph (upM s j (mV (sM s j), tD (sT s i), r, mN (sM s j), mP (sM s j), mW (sM s j) ++ [i])) (mSt (mSt (mSt (mSt (mSt (mSt (mSt M 19 j x) 20 j y) 25 (8 * j + (mW (sM s j)).length) z25) 26 (8 * j + (mW (sM s j)).length) z26) 24 j z24) 16 j (M.2 7 i)) 17 j (M.2 8 i)) := by
  subst h25 h26 h24
  have hm := S.m hj
  have ht := S.tt hi
  generalize hL : (mW (sM s j)).length = L at *
  refine S.setM rfl rfl rfl (fun i' _ => ((((((eqT.rf.ms (f := 19) (by decide)).ms (f := 20) (by decide)).ms (f := 25) (by decide)).ms (f := 26) (by decide)).ms (f := 24) (by decide)).ms (f := 16) (by decide)).ms (f := 17) (by decide)) (fun j' _ hne => ?_) (fun j' _ => ((((((eqA.rf.st (f := 19) (by decide)).st (f := 20) (by decide)).st (f := 25) (by decide)).st (f := 26) (by decide)).st (f := 24) (by decide)).st (f := 16) (by decide)).st (f := 17) (by decide)) (fun q => rfl) ?_
  · refine (((((((eqM.rf.o (f := 19) (by decide) hne).o (f := 20) (by decide) hne).st (f := 25) (fun a b => by omega) (fun _ q hq => va_up_ne _ _ (by omega))).st (f := 26) (fun a b => by omega) (fun _ q hq => va_up_ne _ _ (by omega))).o (f := 24) (by decide) hne).o (f := 16) (by decide) hne).o (f := 17) (by decide) hne)
  · refine ⟨hm.1, hm.2.1, ?_, ?_, ?_, ?_, fun p q hpq => ?_⟩
    · show RR ph (sN s) (sK s) (tD (sT s i)) (va_up _ _ _ _, va_up _ _ _ _)
      rw [va_up_self, va_up_self]; exact ht.2.2.2.2.2.2.2.1
    · show RR ph (sN s) (sK s) r (va_up _ _ _ _, va_up _ _ _ _)
      rw [va_up_self, va_up_self]; exact hr
    · show (mW (sM s j) ++ [i]).length ≤ 8
      simp [hL]; omega
    · show va_up _ _ _ _ = nI (mW (sM s j) ++ [i]).length
      rw [va_up_self]; simp [hL]
    · have hpq : (mW (sM s j) ++ [i])[p]? = some q := hpq
      show q < sN s ∧ ∃ o, o < sN s ∧ tO (sT s q) = some o ∧ va_up (M.2 25) (8 * j + L) _ (8 * j + p) = nI o ∧ va_up (M.2 26) (8 * j + L) _ (8 * j + p) = tI (sT s q)
      by_cases hp : p < L
      · rw [List.getElem?_append_left (by omega)] at hpq
        rw [va_up_ne _ _ (by omega), va_up_ne _ _ (by omega)]
        exact hm.2.2.2.2.2.2 p q hpq
      · have hpl := (List.getElem?_eq_some_iff.mp hpq).1
        simp [hL] at hpl
        have : p = L := by omega
        subst this
        rw [List.getElem?_append_right (by omega), hL, Nat.sub_self] at hpq
        cases hpq
        rw [va_up_self, va_up_self]
        exact ⟨hi, o, ho, eo, rfl, rfl⟩
/-- the message that goes on past a facet -/
theorem Sm.relayF (S : Sm ph s M) (hj : j < sK s) (hi : i < sN s) : Sm ph (upM s j (mTg (sM s j) (tD (sT s i)))) (mSt (mSt M 16 j (M.2 7 i)) 17 j (M.2 8 i)) := by
  have hm := S.m hj
  have ht := S.tt hi
  refine S.setM rfl rfl rfl (fun i' _ => ((eqT.rf.ms (f := 16) (by decide)).ms (f := 17) (by decide))) (fun j' _ hne => (eqM.rf.o (f := 16) (by decide) hne).o (f := 17) (by decide) hne) (fun j' _ => ((eqA.rf.st (f := 16) (by decide)).st (f := 17) (by decide))) (fun q => rfl) ?_
  refine ⟨hm.1, hm.2.1, ?_, hm.2.2.2.1, hm.2.2.2.2.1, hm.2.2.2.2.2.1, hm.2.2.2.2.2.2⟩
  show RR ph (sN s) (sK s) (tD (sT s i)) (va_up _ _ _ _, va_up _ _ _ _)
  rw [va_up_self, va_up_self]; exact ht.2.2.2.2.2.2.2.1
def PRl (ph : Nat → Rf) (M : Md) (s : St) (i j : Nat) : Option fw_V → Md → Prop := fun v M' => v = some (.inl (bI (relaysS s i j))) ∧ Fr M M' ∧ (relaysS s i j = true → Sm ph (relayS s i j) M') ∧ (relaysS s i j = false → M' = mHold M 4 0)
theorem m_D_relays (l : Launch) (hT : TOK T) (S : Sm ph s M) (hi : i < sN s) (hj : j < sK s) (hk : tK (sT s i) = 2 ∨ tK (sT s i) = 10) : CtD l T y_D_relays W_D_relays rm_D_relays b A [.inr (some b), .inl (nI j), .inl (nI i)] M (PRl ph M s i j) := by
  intro w R
  refine ct_D_relays rfl (nle rfl) ?_
  intro X hl C E
  have V := hv_D_relays hT
  suffices JD T G_D_relays X b A 0 [some (.inr (some b)), some (.inl (nI j)), some (.inl (nI i)), none, none] [] M from this w R
  have n40 := S.n40
  have k200 := S.k200
  have ht := S.tt hi
  have hm := S.m hj
  obtain ⟨o, ho, eo, e3⟩ := S.wK hi (by rcases hk with q | q <;> simp [q])
  have hcut : cut s i = tV (sT s o) := by unfold cut; rw [eo]
  have brk : relaysS s i j = false → JD T G_D_relays X b A 36 [some (.inr (some b)), some (.inl (nI j)), some (.inl (nI i)), none, none] [] M := by
    intro hE
    refine jd_call C hT rfl (fc_D_D_broken V (by decide)) (m_D_broken _ hT) (As := []) rfl rfl rfl (nle rfl) rfl rfl ?_
    rintro v M' ⟨rfl, rfl⟩
    exact jd_iret C E rfl (Or.inr ⟨rfl, Or.inl rfl⟩) ⟨by rw [hE]; rfl, Fr.rf.hold, fun q => (by rw [hE] at q; cases q), fun _ => rfl⟩
  refine jd_get C rfl (fg_D_D_revoked V) rfl ?_
  refine jd_get C rfl (fg_D_D_link V) rfl ?_
  refine jd_ald C hT (f := 3) rfl (by decide) rfl rfl i rfl (by show i < 40; omega) ?_
  refine jd_zld C hT (f := 6) rfl (by decide) rfl rfl o e3 (by show o < 40; omega) ?_
  rw [(S.tt ho).2.2.2.2.2.2.1]
  refine jd_if C rfl (fun h => ?_) (fun h => ?_)
  · have h : ¬ tV (sT s o) = 0 := h
    exact brk (decide_eq_false (fun q => h (hcut ▸ q.1)))
  have h0 : tV (sT s o) = 0 := Classical.not_not.mp h
  refine jd_get C rfl (fg_D_D_kind V) rfl ?_
  refine jd_ald C hT (f := 1) rfl (by decide) rfl rfl i rfl (by show i < 40; omega) ?_
  rw [ht.2.1]
  rcases hk with h2 | h10
  · have hE : relaysS s i j = true := decide_eq_true ⟨hcut.trans h0, Or.inl h2⟩
    refine jd_icmpT C rfl (by rw [h2]; decide) ?_
    refine jd_get C rfl (fg_D_D_kind V) rfl ?_
    refine jd_ald C hT (f := 1) rfl (by decide) rfl rfl i rfl (by show i < 40; omega) ?_
    rw [ht.2.1]
    refine jd_icmpT C rfl (by rw [h2]; decide) ?_
    refine jd_get C rfl (fg_D_D_targetSort V) rfl ?_
    refine jd_get C rfl (fg_D_D_ownSort V) rfl ?_
    refine jd_ald C hT (f := 7) rfl (by decide) rfl rfl i rfl (by show i < 40; omega) ?_
    refine jd_ast C hT (f := 16) rfl (by decide) rfl rfl j rfl (by show j < 200; omega) ?_
    refine jd_get C rfl (fg_D_D_target V) rfl ?_
    refine jd_get C rfl (fg_D_D_own V) rfl ?_
    refine jd_ald C hT (f := 8) rfl (by decide) rfl rfl i rfl (by show i < 40; omega) ?_
    refine jd_ast C hT (f := 17) rfl (by decide) rfl rfl j rfl (by show j < 200; omega) ?_
    refine jd_iret C E rfl (Or.inr ⟨rfl, Or.inr rfl⟩) ⟨by rw [hE]; rfl, (Fr.rf.st (f := 16) (by decide)).st (f := 17) (by decide), fun _ => ?_, fun q => by rw [hE] at q; cases q⟩
    have hrw : relW s i j = s := by unfold relW; rw [eo]; dsimp only; rw [if_neg (by rw [h2]; decide)]
    have := S.relayF hj hi
    unfold relayS
    rw [hrw]
    exact this
  · refine jd_icmpF C rfl (by rw [h10]; decide) ?_
    refine jd_get C rfl (fg_D_D_notes V) rfl ?_
    refine jd_ald C hT (f := 24) rfl (by decide) rfl rfl j rfl (by show j < 200; omega) ?_
    rw [hm.2.2.2.2.2.1]
    by_cases h8 : (mW (sM s j)).length = 8
    · refine jd_icmpF C rfl (by rw [h8]; decide) ?_
      exact brk (decide_eq_false (fun q => by
        rcases q.2 with q | q
        · rw [h10] at q; exact absurd q (by decide)
        · omega))
    have h8' : (mW (sM s j)).length < 8 := by have := hm.2.2.2.2.1; omega
    have hE : relaysS s i j = true := decide_eq_true ⟨hcut.trans h0, Or.inr ⟨h10, h8'⟩⟩
    refine jd_icmpT C rfl (cb_neT (fun q => h8 (nI_inj (b := 8) (by omega) (by omega) q))) ?_
    refine jd_get C rfl (fg_D_D_kind V) rfl ?_
    refine jd_ald C hT (f := 1) rfl (by decide) rfl rfl i rfl (by show i < 40; omega) ?_
    rw [ht.2.1]
    refine jd_icmpF C rfl (by rw [h10]; decide) ?_
    have hA := hm.2.2.2.1
    refine jd_get C rfl (fg_D_D_argumentSort V) rfl ?_
    refine jd_ald C hT (f := 19) rfl (by decide) rfl rfl j rfl (by show j < 200; omega) ?_
    refine jd_get C rfl (fg_D_D_argument V) rfl ?_
    refine jd_ald C hT (f := 20) rfl (by decide) rfl rfl j rfl (by show j < 200; omega) ?_
    refine jd_call C hT rfl (fc_D_D_look V (by decide)) (m_D_look _ hT S.c2 k200 hA.2.1) (As := [.inl (M.2 19 j), .inl (M.2 20 j)]) rfl rfl rfl (nle rfl) rfl rfl ?_
    rintro v M' ⟨rfl, rfl⟩
    rw [← hA.2.2]
    refine jd_get C rfl (fg_D_D_argumentSort V) rfl ?_
    refine jd_ald C hT (f := 19) rfl (by decide) rfl rfl j rfl (by show j < 200; omega) ?_
    refine jd_get C rfl (fg_D_D_argument V) rfl ?_
    refine jd_ald C hT (f := 20) rfl (by decide) rfl rfl j rfl (by show j < 200; omega) ?_
    refine jd_get C rfl (fg_D_D_link V) rfl ?_
    refine jd_ald C hT (f := 3) rfl (by decide) rfl rfl i rfl (by show i < 40; omega) ?_
    refine jd_get C rfl (fg_D_D_inward V) rfl ?_
    refine jd_ald C hT (f := 5) rfl (by decide) rfl rfl i rfl (by show i < 40; omega) ?_
    rw [show (mHold M (can ph (mA (sM s j))).1 (can ph (mA (sM s j))).2).2 3 i = nI o from e3, show (mHold M (can ph (mA (sM s j))).1 (can ph (mA (sM s j))).2).2 5 i = tI (sT s i) from ht.2.2.2.2.2.1]
    refine jd_call C hT rfl (fc_D_D_wrap V (by decide)) (m_D_wrap (M := mHold M (can ph (mA (sM s j))).1 (can ph (mA (sM s j))).2) _ hT S.hold ho (inw := 1 - tI (sT s i)) (by rcases (S.gd i hi).2.1 with q | q <;> rw [q] <;> decide) hA.1 rfl rfl) (As := [.inl (nI o), .inl (1 - tI (sT s i))]) rfl rfl rfl (nle rfl) rfl rfl ?_
    rintro v M1 ⟨bb, rfl, q1, q2, q3, q4, q5⟩
    have hst := wrapS_st (s := s) (r := mA (sM s j)) (mb := o) (inw := 1 - tI (sT s i))
    have hrl : relayS s i j = upL (upM (wrapS s (mA (sM s j)) o (1 - tI (sT s i))).1 j (mV (sM s j), tD (sT s i), (wrapS s (mA (sM s j)) o (1 - tI (sT s i))).2, mN (sM s j), mP (sM s j), mW (sM s j) ++ [i])) 3 (sL s 3 ++ [j]) := by
      have hrw : relW s i j = upM (wrapS s (mA (sM s j)) o (1 - tI (sT s i))).1 j (mAr (sM s j) (wrapS s (mA (sM s j)) o (1 - tI (sT s i))).2 i) := by unfold relW; rw [eo]; dsimp only; rw [if_pos h10]
      unfold relayS
      rw [hrw]
      have e1 : sM (upM (wrapS s (mA (sM s j)) o (1 - tI (sT s i))).1 j (mAr (sM s j) (wrapS s (mA (sM s j)) o (1 - tI (sT s i))).2 i)) j = mAr (sM s j) (wrapS s (mA (sM s j)) o (1 - tI (sT s i))).2 i := va_up_self _ _ _
      have e2 : sT (upM (wrapS s (mA (sM s j)) o (1 - tI (sT s i))).1 j (mAr (sM s j) (wrapS s (mA (sM s j)) o (1 - tI (sT s i))).2 i)) i = sT s i := hst.2.1 i hi
      rw [e1, e2]
      refine Prod.ext rfl (Prod.ext rfl (Prod.ext rfl (Prod.ext (funext fun q => ?_) rfl)))
      show va_up (va_up (sM (wrapS s (mA (sM s j)) o (1 - tI (sT s i))).1) j _) j _ q = va_up (sM (wrapS s (mA (sM s j)) o (1 - tI (sT s i))).1) j _ q
      by_cases hq : q = j
      · subst hq; rw [va_up_self, va_up_self]
      · rw [va_up_ne _ _ hq, va_up_ne _ _ hq, va_up_ne _ _ hq]
    have hsK : sK (wrapS s (mA (sM s j)) o (1 - tI (sT s i))).1 = sK s := congrArg (fun z => z.1) hst.2.2
    have hsM : sM (wrapS s (mA (sM s j)) o (1 - tI (sT s i))).1 = sM s := congrArg (fun z => z.2.1) hst.2.2
    have hi1 : i < sN (wrapS s (mA (sM s j)) o (1 - tI (sT s i))).1 := by omega
    have ht1 := q1.tt hi1
    have hm1 := q1.m (j := j) (by rw [hsK]; exact hj)
    have hsT := hst.2.1 i hi
    rw [hsT] at ht1
    rw [hsM] at hm1
    have n401 := q1.n40
    have e31 : M1.2 3 i = nI o := by rw [ht1.2.2.2.1]; exact oNum_lk (by rw [h10]; decide) eo
    -- from pc 116 on
    have rest : ∀ x y, RR ph (sN (wrapS s (mA (sM s j)) o (1 - tI (sT s i))).1) (sK (wrapS s (mA (sM s j)) o (1 - tI (sT s i))).1) (wrapS s (mA (sM s j)) o (1 - tI (sT s i))).2 (x, y) → JD T G_D_relays X b A 116 [some (.inr (some b)), some (.inl (nI j)), some (.inl (nI i)), some (.inl x), some (.inl y)] [] M1 := by
      intro x y hxy
      refine jd_get C rfl (fg_D_D_argumentSort V) rfl ?_
      refine jd_ast C hT (f := 19) rfl (by decide) rfl rfl j rfl (by show j < 200; omega) ?_
      refine jd_get C rfl (fg_D_D_argument V) rfl ?_
      refine jd_ast C hT (f := 20) rfl (by decide) rfl rfl j rfl (by show j < 200; omega) ?_
      refine jd_get C rfl (fg_D_D_noted V) rfl ?_
      refine jd_get C rfl (fg_D_D_notes V) rfl ?_
      refine jd_ald C hT (f := 24) rfl (by decide) rfl rfl j rfl (by show j < 200; omega) ?_
      refine jd_get C rfl (fg_D_D_link V) rfl ?_
      refine jd_ald C hT (f := 3) rfl (by decide) rfl rfl i rfl (by show i < 40; omega) ?_
      refine jd_ast C hT (f := 25) rfl (by decide) rfl rfl (8 * j + (mW (sM s j)).length) (by rw [← nI_mul8, ← hm1.2.2.2.2.2.1]; rfl) (by show 8 * j + (mW (sM s j)).length < 1600; omega) ?_
      refine jd_get C rfl (fg_D_D_notedInward V) rfl ?_
      refine jd_get C rfl (fg_D_D_notes V) rfl ?_
      refine jd_ald C hT (f := 24) rfl (by decide) rfl rfl j rfl (by show j < 200; omega) ?_
      refine jd_get C rfl (fg_D_D_inward V) rfl ?_
      refine jd_ald C hT (f := 5) rfl (by decide) rfl rfl i rfl (by show i < 40; omega) ?_
      refine jd_ast C hT (f := 26) rfl (by decide) rfl rfl (8 * j + (mW (sM s j)).length) (by rw [← nI_mul8, ← hm1.2.2.2.2.2.1]; rfl) (by show 8 * j + (mW (sM s j)).length < 1600; omega) ?_
      refine jd_get C rfl (fg_D_D_notes V) rfl ?_
      refine jd_ald C hT (f := 24) rfl (by decide) rfl rfl j rfl (by show j < 200; omega) ?_
      refine jd_ast C hT (f := 24) rfl (by decide) rfl rfl j rfl (by show j < 200; omega) ?_
      refine jd_get C rfl (fg_D_D_targetSort V) rfl ?_
      refine jd_get C rfl (fg_D_D_ownSort V) rfl ?_
      refine jd_ald C hT (f := 7) rfl (by decide) rfl rfl i rfl (by show i < 40; omega) ?_
      refine jd_ast C hT (f := 16) rfl (by decide) rfl rfl j rfl (by show j < 200; omega) ?_
      refine jd_get C rfl (fg_D_D_target V) rfl ?_
      refine jd_get C rfl (fg_D_D_own V) rfl ?_
      refine jd_ald C hT (f := 8) rfl (by decide) rfl rfl i rfl (by show i < 40; omega) ?_
      refine jd_ast C hT (f := 17) rfl (by decide) rfl rfl j rfl (by show j < 200; omega) ?_
      refine jd_iret C E rfl (Or.inr ⟨rfl, Or.inr rfl⟩) ⟨by rw [hE]; rfl, ?_, fun _ => ?_, fun q => by rw [hE] at q; cases q⟩
      · exact q2.tr (((((((Fr.rf.st (f := 19) (by decide)).st (f := 20) (by decide)).st (f := 25) (by decide)).st (f := 26) (by decide)).st (f := 24) (by decide)).st (f := 16) (by decide)).st (f := 17) (by decide))
      · have := q1.relay (i := i) (j := j) (by rw [hsK]; exact hj) hi1 (o := o) (by omega) (by rw [hsT]; exact eo) (by rw [hsM]; exact h8') (z25 := M1.2 3 i) (z26 := M1.2 5 i) (z24 := M1.2 24 j + 1) e31 (by rw [hsT]; exact ht1.2.2.2.2.2.1) (by rw [hsM, hm1.2.2.2.2.2.1, nI_1]) hxy
        rw [hsT, hsM] at this
        rw [hrl]
        exact this
    cases bb with
    | true =>
      refine jd_ifF C rfl rfl ?_
      refine jd_get C rfl (fg_D_D_sort V) rfl ?_
      refine jd_get C rfl (fg_D_D_ref V) rfl ?_
      exact jd_to C 116 rfl (rest _ _ (q4 rfl))
    | false =>
      refine jd_ifT C rfl rfl ?_
      obtain ⟨e1, e2⟩ := q5 rfl
      refine rest _ _ ⟨q3, ?_, ?_⟩
      · rw [hsK]; exact hA.2.1
      · rw [e1]; exact hA.2.2
end DTN
