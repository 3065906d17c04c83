/-! Gates; cells, purses; answer. -/
section ANS3
variable {T : fw_T} {w : fw_W} {c : Cfg} {s : St}
set_option maxHeartbeats 2000000 in
theorem m_V_makeGate (l : Launch) (hT : TOK T) (R : Rp w c s) {i a : Nat} {r : Rf} (hi : i < sN s) (ha : IsR w a r) : Ct l T y_V_makeGate W_V_makeGate rm_V_makeGate [.inr (some (cO c)), .inr (some (cT c i)), .inr (some a)] w (PA w c s (gateS s i r)) := by
  refine ct_V_makeGate rfl (nle rfl) ?_
  intro X hl C E
  have V := hv_V_makeGate hT
  have hn := R.n40
  refine j_get C rfl (fg_V_V_thingCount V) R.o rfl ?_
  have hadd : nI (sN s) + 2 = nI (sN s + 2) := nI_add (sN s) 2
  by_cases h2 : sN s + 2 ≤ 40
  · have hE : gateS s i r = ((sN s + 1 + 1, va_up (va_up (sT s) (sN s) (1, tH (sT s i), none, fun _ => rN, rN, some (sN s + 1), 0, 0, 0)) (sN s + 1) (2, tH (sT s i), some (sN s), fun _ => rN, r, none, 0, 0, 0), s.2.2), (2, nI (sN s))) := by unfold gateS; rw [if_pos h2]
    rw [hE] at E
    refine j_icmpT C rfl (fw_cb_iff.mpr (show nI (sN s) + 2 ≤ nI 40 by rw [hadd]; exact nI_le h2 (by decide))) ?_
    obtain ⟨ek, sf, hd, f, e0, -⟩ := R.aT hi
    refine j_get C rfl (fg_V_H_home V) e0 rfl ?_
    refine j_callV C rfl (fc_V_V_make V (by decide)) (m_V_make _ hT R 1 (tH (sT s i)) none (fun x h => by cases h)) rfl rfl R.o (by rw [hT.1]; rfl) (nle rfl) (by decide) (by decide) ?_
    rintro v w1 ⟨c1, hc1, rfl, R1, hrm1⟩
    unfold make at R1 ⊢
    rw [if_pos (show sN s < 40 by omega)] at R1 ⊢
    have ho1 := cO_eq hc1
    have hti1 : cT c1 i = cT c i := (hc1.2.1 i hi).1
    obtain ⟨ek1, sf1, hd1, f1, e01, -⟩ := R1.aT (i := i) (Nat.lt_succ_of_lt hi)
    have hsi1 : sT (sN s + 1, va_up (sT s) (sN s) (newT 1 (tH (sT s i)) none), s.2.2) i = sT s i := va_up_ne _ _ (Nat.ne_of_lt hi)
    rw [hsi1, hti1] at e01
    refine j_get C rfl (fg_V_H_home V) e01 rfl ?_
    rw [ho1]
    refine j_callV C rfl (fc_V_V_make V (by decide)) (m_V_make _ hT R1 2 (tH (sT s i)) (some (sN s)) (fun x h => by cases h; exact Nat.lt_succ_self _)) rfl rfl R1.o (by rw [hT.1]; rfl) (nle rfl) (by decide) (by decide) ?_
    rintro v w2 ⟨c2, hc2, rfl, R2, hrm2⟩
    unfold make at R2 ⊢
    rw [if_pos (show sN (sN s + 1, va_up (sT s) (sN s) (newT 1 (tH (sT s i)) none), s.2.2) < 40 from (by show sN s + 1 < 40; omega))] at R2 ⊢
    have R2 : Rp w2 c2 (sN s + 1 + 1, va_up (va_up (sT s) (sN s) (newT 1 (tH (sT s i)) none)) (sN s + 1) (newT 2 (tH (sT s i)) (some (sN s))), s.2.2) := R2
    have htn : cT c2 (sN s) = cT c1 (sN s) := (hc2.2.1 (sN s) (Nat.lt_succ_self _)).1
    refine j_ifnull C rfl (fun h => by cases h) (fun _ _ => ?_)
    refine j_ifnn C rfl (fun _ _ => ?_) (fun h => by cases h)
    obtain ⟨fk, sf', hd', f', g0, g1, g2, -⟩ := R2.aT (i := sN s + 1) (Nat.lt_succ_self _)
    have hs2 : sT (sN s + 1 + 1, va_up (va_up (sT s) (sN s) (newT 1 (tH (sT s i)) none)) (sN s + 1) (newT 2 (tH (sT s i)) (some (sN s))), s.2.2) (sN s + 1) = newT 2 (tH (sT s i)) (some (sN s)) := va_up_self _ _ _
    rw [hs2] at g0 fk
    refine j_putE C rfl (fp_V_H_held V) g0 (nlt rfl) (fit_o _ _) (cellT c2 (sN s + 1) (2, tH (sT s i), some (sN s), fun _ => rN, r, none, 0, 0, 0) sf' a) rfl ?_
    have R3 := R2.setT (i := sN s + 1) (Nat.lt_succ_self _) (t := (2, tH (sT s i), some (sN s), fun _ => rN, r, none, 0, 0, 0)) (sf := sf') (hd := a) fk g1 (hrm2 a r (hrm1 a r ha)) (by rw [hs2])
    have hrm3 : RM w2 _ := RM.up (y := some (cellT c2 (sN s + 1) (2, tH (sT s i), some (sN s), fun _ => rN, r, none, 0, 0, 0) sf' a)) g0 nT_ref
    have e3 : va_up (sT (sN s + 1 + 1, va_up (va_up (sT s) (sN s) (newT 1 (tH (sT s i)) none)) (sN s + 1) (newT 2 (tH (sT s i)) (some (sN s))), s.2.2)) (sN s + 1) (2, tH (sT s i), some (sN s), fun _ => rN, r, none, 0, 0, 0) = va_up (va_up (sT s) (sN s) (newT 1 (tH (sT s i)) none)) (sN s + 1) (2, tH (sT s i), some (sN s), fun _ => rN, r, none, 0, 0, 0) := bx_uu _ _ _ _
    rw [e3] at R3
    generalize va_up w2 (cT c2 (sN s + 1)) (some (cellT c2 (sN s + 1) (2, tH (sT s i), some (sN s), fun _ => rN, r, none, 0, 0, 0) sf' a)) = w3 at R3 hrm3 ⊢
    obtain ⟨pk, sf3, hd3, f3, p0, p1, p2, -⟩ := R3.aT (i := sN s) (show sN s < sN s + 1 + 1 by omega)
    have hs3 : sT (sN s + 1 + 1, va_up (va_up (sT s) (sN s) (newT 1 (tH (sT s i)) none)) (sN s + 1) (2, tH (sT s i), some (sN s), fun _ => rN, r, none, 0, 0, 0), s.2.2) (sN s) = newT 1 (tH (sT s i)) none := by
      show va_up (va_up (sT s) (sN s) (newT 1 (tH (sT s i)) none)) (sN s + 1) _ (sN s) = _
      rw [va_up_ne _ _ (by omega), va_up_self]
    rw [hs3] at p0 p2
    have p0' := p0
    rw [htn] at p0'
    refine j_putE C rfl (fp_V_H_facet V) p0' (nlt rfl) (fit_o _ _) (cellT c2 (sN s) (1, tH (sT s i), none, fun _ => rN, rN, some (sN s + 1), 0, 0, 0) sf3 hd3) rfl ?_
    have R4 := R3.setT (i := sN s) (show sN s < sN s + 1 + 1 by omega) (t := (1, tH (sT s i), none, fun _ => rN, rN, some (sN s + 1), 0, 0, 0)) (sf := sf3) (hd := hd3) ⟨fun x h => (by cases h), fun x h => (by cases h; exact Nat.lt_succ_self _)⟩ p1 p2 (by rw [hs3])
    have hrm4 : RM w3 _ := RM.up (y := some (cellT c2 (sN s) (1, tH (sT s i), none, fun _ => rN, rN, some (sN s + 1), 0, 0, 0) sf3 hd3)) p0 nT_ref
    have q4 : va_up w3 (cT c2 (sN s)) (some (cellT c2 (sN s) (1, tH (sT s i), none, fun _ => rN, rN, some (sN s + 1), 0, 0, 0) sf3 hd3)) (cT c2 (sN s)) = some (cellT c2 (sN s) (1, tH (sT s i), none, fun _ => rN, rN, some (sN s + 1), 0, 0, 0) sf3 hd3) := va_up_self _ _ _
    have r4 : IsR (va_up w3 (cT c2 (sN s)) (some (cellT c2 (sN s) (1, tH (sT s i), none, fun _ => rN, rN, some (sN s + 1), 0, 0, 0) sf3 hd3))) sf3 (2, nI (sN s)) := hrm4 _ _ p1
    have e4 : va_up (sT (sN s + 1 + 1, va_up (va_up (sT s) (sN s) (newT 1 (tH (sT s i)) none)) (sN s + 1) (2, tH (sT s i), some (sN s), fun _ => rN, r, none, 0, 0, 0), s.2.2)) (sN s) (1, tH (sT s i), none, fun _ => rN, rN, some (sN s + 1), 0, 0, 0) = va_up (va_up (sT s) (sN s) (1, tH (sT s i), none, fun _ => rN, rN, some (sN s + 1), 0, 0, 0)) (sN s + 1) (2, tH (sT s i), some (sN s), fun _ => rN, r, none, 0, 0, 0) := by
      funext q
      show va_up (va_up (va_up (sT s) (sN s) _) (sN s + 1) _) (sN s) _ q = _
      by_cases h1 : q = sN s
      · subst h1; rw [va_up_self, va_up_ne _ _ (by omega), va_up_self]
      · rw [va_up_ne _ _ h1]
        by_cases h2 : q = sN s + 1
        · subst h2; rw [va_up_self, va_up_self]
        · rw [va_up_ne _ _ h2, va_up_ne _ _ h2, va_up_ne _ _ h1, va_up_ne _ _ h1]
    rw [e4] at R4
    rw [htn] at R4 hrm4 q4 r4
    generalize va_up w3 (cT c1 (sN s)) (some (cellT c2 (sN s) (1, tH (sT s i), none, fun _ => rN, rN, some (sN s + 1), 0, 0, 0) sf3 hd3)) = w4 at R4 hrm4 q4 r4 ⊢
    refine j_get C rfl (fg_V_H_self V) q4 rfl ?_
    exact j_aret C E rfl rfl (by decide) (by decide) ⟨c2, sf3, hc1.tr hc2 (Nat.le_succ _) (Nat.le_refl _), rfl, r4, R4, ((hrm1.tr hrm2).tr hrm3).tr hrm4⟩
  · refine j_icmp C rfl (fun h => absurd h (show ¬ nI (sN s) + 2 ≤ nI 40 by rw [hadd]; exact nI_ge (by omega) (by omega))) (fun _ => ?_)
    refine j_get C rfl (fg_V_V_broken V) R.o rfl ?_
    exact j_aret C E rfl rfl (by decide) (by decide) ⟨c, _, Cext.rf, rfl, by unfold gateS; rw [if_neg h2]; exact R.broken, by unfold gateS; rw [if_neg h2]; exact R, RM.rf⟩
def ansCell (s : St) (i : Nat) (v : Int32) (r : Rf) : St × Rf := match ixO 4 v with
  | some q => (s, bN (tS (sT s i) q))
  | none => match ixO 4 (v - 4) with
    | some q => (upT s i (tSet (sT s i) (va_up (tS (sT s i)) q r)), (1, 0))
    | none => if v = 8 then mkR s 0 (tH (sT s i)) none else if v = 9 then gateS s i r else if v = 10 then mkR s 3 (tH (sT s i)) none else if v = 11 then mkR s 7 (tH (sT s i)) none else if v = 12 then mkR s 9 (tH (sT s i)) none else (s, rB)
def ansPurse (s : St) (i : Nat) (v : Int32) (r : Rf) : St × Rf := if v = 0 then (s, (1, tB (sT s i))) else if v = 1 then mkR s 8 (tH (sT s i)) (tO (sT s i)) else if v = 2 then depositS s i r else if v = 3 then splitS s i r else (s, rB)
theorem Rp.setS (R : Rp w c s) {i : Nat} (hi : i < sN s) {f : Nat → Option Nat} (hf : w (cS c i) = some (.inl (aR, 4, .inr f))) {q r : Nat} {v : Rf} (hr : IsR w r v) : Rp (va_up w (cS c i) (some (.inl (aR, 4, .inr (va_up f q (some r)))))) c (upT s i (tSet (sT s i) (va_up (tS (sT s i)) q v))) := by
  obtain ⟨bh, lf, R, h⟩ := R
  exact ⟨bh, lf, R.setS hi hf hr, h⟩
theorem sw_out {v : Int32} {lo hi : Int} (h : ∀ k : Int32, lo ≤ k.toInt → k.toInt ≤ hi → v ≠ k) : v.toInt < lo ∨ hi < v.toInt := by
  by_cases h1 : v.toInt < lo
  · exact Or.inl h1
  · by_cases h2 : hi < v.toInt
    · exact Or.inr h2
    · exact absurd rfl (h v (by omega) (by omega))
theorem ne_int {v : Int32} {k : Int32} {z : Int} (hk : k.toInt = z) (h : v ≠ k) : v.toInt ≠ z := fun q => h (Int32.toInt_inj.mp (by rw [q, hk]))
set_option maxHeartbeats 2000000 in
theorem m_V_answerOfPurse (l : Launch) (hT : TOK T) (R : Rp w c s) {i a : Nat} {r : Rf} (hi : i < sN s) (v : Int32) (ha : IsR w a r) : Ct l T y_V_answerOfPurse W_V_answerOfPurse rm_V_answerOfPurse [.inr (some (cO c)), .inr (some (cT c i)), .inl v, .inr (some a)] w (PA w c s (ansPurse s i v r)) := by
  refine ct_V_answerOfPurse rfl (nle rfl) ?_
  intro X hl C E
  have V := hv_V_answerOfPurse hT
  obtain ⟨ek, sf, hd, f, e0, -⟩ := R.aT hi
  by_cases h0 : v = 0
  · subst h0
    refine j_tsw (tgt := 32) (o := 31) C rfl (by decide) (by decide) (by decide) (by decide) ?_
    refine j_get C rfl (fg_V_H_balance V) e0 rfl ?_
    refine j_callS C rfl (fc_V_V_numeral V (by decide)) (m_V_numeral _ hT _) rfl rfl (nle rfl) (by decide) (by decide) ?_
    rintro r w' ⟨q, hq, rfl, rfl⟩
    exact j_aret C E rfl rfl (by decide) (by decide) ⟨c, q, Cext.rf, rfl, va_up_self _ _ _, R.grow hq, RM.new hq⟩
  by_cases h1 : v = 1
  · subst h1
    refine j_tsw (tgt := 40) (o := 39) C rfl (by decide) (by decide) (by decide) (by decide) ?_
    refine j_get C rfl (fg_V_H_home V) e0 rfl ?_
    refine j_get C rfl (fg_V_H_owner V) e0 rfl ?_
    refine j_callV C rfl (fc_V_V_make V (by decide)) (m_V_make _ hT R 8 (tH (sT s i)) (tO (sT s i)) ek.1) rfl rfl R.o (by rw [hT.1]; rfl) (nle rfl) (by decide) (by decide) ?_
    rintro v w1 ⟨c', hc, rfl, R1, hrm⟩
    rw [cO_eq hc]
    refine j_callV C rfl (fc_V_V_referenceTo V (by decide)) (m_V_referenceTo _ hT R1 make_lt) rfl rfl R1.o (by rw [hT.1]; rfl) (nle rfl) (by decide) (by decide) ?_
    rintro v w' ⟨rfl, b', rfl, hb'⟩
    exact j_aret C E rfl rfl (by decide) (by decide) ⟨c', b', hc, rfl, hb', R1, hrm⟩
  by_cases h2 : v = 2
  · subst h2
    refine j_tsw (tgt := 59) (o := 58) C rfl (by decide) (by decide) (by decide) (by decide) ?_
    refine j_callV C rfl (fc_V_V_deposit V (by decide)) (m_V_deposit _ hT R hi ha) rfl rfl R.o (by rw [hT.1]; rfl) (nle rfl) (by decide) (by decide) ?_
    rintro v w1 ⟨c', b, hc, rfl, hb, R1, hrm⟩
    exact j_aret C E rfl rfl (by decide) (by decide) ⟨c', b, hc, rfl, hb, R1, hrm⟩
  by_cases h3 : v = 3
  · subst h3
    refine j_tsw (tgt := 66) (o := 65) C rfl (by decide) (by decide) (by decide) (by decide) ?_
    refine j_callV C rfl (fc_V_V_split V (by decide)) (m_V_split _ hT R hi ha) rfl rfl R.o (by rw [hT.1]; rfl) (nle rfl) (by decide) (by decide) ?_
    rintro v w1 ⟨c', b, hc, rfl, hb, R1, hrm⟩
    exact j_aret C E rfl rfl (by decide) (by decide) ⟨c', b, hc, rfl, hb, R1, hrm⟩
  · have hE : ansPurse s i v r = (s, rB) := by unfold ansPurse; rw [if_neg h0, if_neg h1, if_neg h2, if_neg h3]
    rw [hE] at E
    have n0 := ne_int (k := 0) (z := 0) (by decide) h0
    have n1 := ne_int (k := 1) (z := 1) (by decide) h1
    have n2 := ne_int (k := 2) (z := 2) (by decide) h2
    have n3 := ne_int (k := 3) (z := 3) (by decide) h3
    refine j_tsd (tgt := 73) C rfl (by omega) (by decide) ?_
    refine j_get C rfl (fg_V_V_broken V) R.o rfl ?_
    exact j_aret C E rfl rfl (by decide) (by decide) ⟨c, _, Cext.rf, rfl, R.broken, R, RM.rf⟩
set_option maxHeartbeats 4000000 in
theorem m_V_answerOfCell (l : Launch) (hT : TOK T) (R : Rp w c s) {i a : Nat} {r : Rf} (hi : i < sN s) (v : Int32) (ha : IsR w a r) : Ct l T y_V_answerOfCell W_V_answerOfCell rm_V_answerOfCell [.inr (some (cO c)), .inr (some (cT c i)), .inl v, .inr (some a)] w (PA w c s (ansCell s i v r)) := by
  refine ct_V_answerOfCell rfl (nle rfl) ?_
  intro X hl C E
  have V := hv_V_answerOfCell hT
  obtain ⟨ek, sf, hd, f, e0, e1, e2, e3, e4⟩ := R.aT hi
  refine j_callS C rfl (fc_V_V_isSlot V (by decide)) (m_V_isSlot _ hT v) rfl rfl (nle rfl) (by decide) (by decide) ?_
  rintro x w' ⟨rfl, rfl⟩
  cases hx : ixO 4 v with
  | some q =>
    obtain ⟨hq4, rfl⟩ := ixO_lt (by decide) hx
    refine j_ifF C rfl (show fw_cb _ (bI true) 0 = false by decide) ?_
    refine j_get C rfl (fg_V_H_slots V) e0 rfl ?_
    refine j_aaldI C rfl e3 hT.2.1 q rfl hq4 (by decide) ?_
    obtain ⟨b, hb1, hb2⟩ := e4 q hq4
    rw [hb1]
    refine j_callV C rfl (fc_V_V_brokenIfNothing V (by decide)) (m_V_brokenIfNothing _ hT R hb2) rfl rfl R.o (by rw [hT.1]; rfl) (nle rfl) (by decide) (by decide) ?_
    rintro x w' ⟨rfl, b', rfl, hb'⟩
    exact j_aret C E rfl rfl (by decide) (by decide) ⟨c, b', Cext.rf, rfl, by unfold ansCell; rw [hx]; exact hb', by unfold ansCell; rw [hx]; exact R, RM.rf⟩
  | none =>
    refine j_ifT C rfl (by decide) ?_
    refine j_callS C rfl (fc_V_V_isSlot V (by decide)) (m_V_isSlot _ hT (v - 4)) rfl rfl (nle rfl) (by decide) (by decide) ?_
    rintro x w' ⟨rfl, rfl⟩
    cases hy : ixO 4 (v - 4) with
    | some q =>
      obtain ⟨hq4, hq⟩ := ixO_lt (by decide) hy
      refine j_ifF C rfl (show fw_cb _ (bI true) 0 = false by decide) ?_
      refine j_get C rfl (fg_V_H_slots V) e0 rfl ?_
      refine j_aastI C rfl e3 hT.2.1 q hq hq4 (by decide) (put_ref hT ha) ?_
      have R1 := R.setS hi e3 (q := q) ha
      have hrm : RM w' _ := RM.up (y := some (.inl (aR, 4, .inr (va_up f q (some a))))) e3 (fun l h => by cases h)
      generalize va_up w' (cS c i) (some (.inl (aR, 4, .inr (va_up f q (some a))))) = w1 at R1 hrm ⊢
      refine j_callS C rfl (fc_V_V_numeral V (by decide)) (m_V_numeral _ hT 0) rfl rfl (nle rfl) (by decide) (by decide) ?_
      rintro x w' ⟨q', hq', rfl, rfl⟩
      exact j_aret C E rfl rfl (by decide) (by decide) ⟨c, q', Cext.rf, rfl, by unfold ansCell; rw [hx, hy]; exact va_up_self _ _ _, by unfold ansCell; rw [hx, hy]; exact R1.grow hq', hrm.tr (RM.new hq')⟩
    | none =>
      refine j_ifT C rfl (by decide) ?_
      have hE : ansCell s i v r = if v = 8 then mkR s 0 (tH (sT s i)) none else if v = 9 then gateS s i r else if v = 10 then mkR s 3 (tH (sT s i)) none else if v = 11 then mkR s 7 (tH (sT s i)) none else if v = 12 then mkR s 9 (tH (sT s i)) none else (s, rB) := by unfold ansCell; rw [hx, hy]
      rw [hE] at E
      by_cases h8 : v = 8
      · subst h8
        refine j_tsw (tgt := 76) (o := 34) C rfl (by decide) (by decide) (by decide) (by decide) ?_
        refine j_get C rfl (fg_V_H_home V) e0 rfl ?_
        refine j_callV C rfl (fc_V_V_make V (by decide)) (m_V_make _ hT R 0 (tH (sT s i)) none (fun x h => by cases h)) rfl rfl R.o (by rw [hT.1]; rfl) (nle rfl) (by decide) (by decide) ?_
        rintro v w1 ⟨c', hc, rfl, R1, hrm⟩
        rw [cO_eq hc]
        refine j_callV C rfl (fc_V_V_referenceTo V (by decide)) (m_V_referenceTo _ hT R1 make_lt) rfl rfl R1.o (by rw [hT.1]; rfl) (nle rfl) (by decide) (by decide) ?_
        rintro v w' ⟨rfl, b', rfl, hb'⟩
        exact j_aret C E rfl rfl (by decide) (by decide) ⟨c', b', hc, rfl, hb', R1, hrm⟩
      by_cases h9 : v = 9
      · subst h9
        refine j_tsw (tgt := 91) (o := 49) C rfl (by decide) (by decide) (by decide) (by decide) ?_
        refine j_callV C rfl (fc_V_V_makeGate V (by decide)) (m_V_makeGate _ hT R hi ha) rfl rfl R.o (by rw [hT.1]; rfl) (nle rfl) (by decide) (by decide) ?_
        rintro v w1 ⟨c', b, hc, rfl, hb, R1, hrm⟩
        exact j_aret C E rfl rfl (by decide) (by decide) ⟨c', b, hc, rfl, hb, R1, hrm⟩
      by_cases h10 : v = 10
      · subst h10
        refine j_tsw (tgt := 98) (o := 56) C rfl (by decide) (by decide) (by decide) (by decide) ?_
        refine j_get C rfl (fg_V_H_home V) e0 rfl ?_
        refine j_callV C rfl (fc_V_V_make V (by decide)) (m_V_make _ hT R 3 (tH (sT s i)) none (fun x h => by cases h)) rfl rfl R.o (by rw [hT.1]; rfl) (nle rfl) (by decide) (by decide) ?_
        rintro v w1 ⟨c', hc, rfl, R1, hrm⟩
        rw [cO_eq hc]
        refine j_callV C rfl (fc_V_V_referenceTo V (by decide)) (m_V_referenceTo _ hT R1 make_lt) rfl rfl R1.o (by rw [hT.1]; rfl) (nle rfl) (by decide) (by decide) ?_
        rintro v w' ⟨rfl, b', rfl, hb'⟩
        exact j_aret C E rfl rfl (by decide) (by decide) ⟨c', b', hc, rfl, hb', R1, hrm⟩
      by_cases h11 : v = 11
      · subst h11
        refine j_tsw (tgt := 113) (o := 71) C rfl (by decide) (by decide) (by decide) (by decide) ?_
        refine j_get C rfl (fg_V_H_home V) e0 rfl ?_
        refine j_callV C rfl (fc_V_V_make V (by decide)) (m_V_make _ hT R 7 (tH (sT s i)) none (fun x h => by cases h)) rfl rfl R.o (by rw [hT.1]; rfl) (nle rfl) (by decide) (by decide) ?_
        rintro v w1 ⟨c', hc, rfl, R1, hrm⟩
        rw [cO_eq hc]
        refine j_callV C rfl (fc_V_V_referenceTo V (by decide)) (m_V_referenceTo _ hT R1 make_lt) rfl rfl R1.o (by rw [hT.1]; rfl) (nle rfl) (by decide) (by decide) ?_
        rintro v w' ⟨rfl, b', rfl, hb'⟩
        exact j_aret C E rfl rfl (by decide) (by decide) ⟨c', b', hc, rfl, hb', R1, hrm⟩
      by_cases h12 : v = 12
      · subst h12
        refine j_tsw (tgt := 129) (o := 87) C rfl (by decide) (by decide) (by decide) (by decide) ?_
        refine j_get C rfl (fg_V_H_home V) e0 rfl ?_
        refine j_callV C rfl (fc_V_V_make V (by decide)) (m_V_make _ hT R 9 (tH (sT s i)) none (fun x h => by cases h)) rfl rfl R.o (by rw [hT.1]; rfl) (nle rfl) (by decide) (by decide) ?_
        rintro v w1 ⟨c', hc, rfl, R1, hrm⟩
        rw [cO_eq hc]
        refine j_callV C rfl (fc_V_V_referenceTo V (by decide)) (m_V_referenceTo _ hT R1 make_lt) rfl rfl R1.o (by rw [hT.1]; rfl) (nle rfl) (by decide) (by decide) ?_
        rintro v w' ⟨rfl, b', rfl, hb'⟩
        exact j_aret C E rfl rfl (by decide) (by decide) ⟨c', b', hc, rfl, hb', R1, hrm⟩
      · rw [if_neg h8, if_neg h9, if_neg h10, if_neg h11, if_neg h12] at E
        have n8 := ne_int (k := 8) (z := 8) (by decide) h8
        have n9 := ne_int (k := 9) (z := 9) (by decide) h9
        have n10 := ne_int (k := 10) (z := 10) (by decide) h10
        have n11 := ne_int (k := 11) (z := 11) (by decide) h11
        have n12 := ne_int (k := 12) (z := 12) (by decide) h12
        refine j_tsd (tgt := 145) C rfl (by omega) (by decide) ?_
        refine j_get C rfl (fg_V_V_broken V) R.o rfl ?_
        exact j_aret C E rfl rfl (by decide) (by decide) ⟨c, _, Cext.rf, rfl, R.broken, R, RM.rf⟩
end ANS3
