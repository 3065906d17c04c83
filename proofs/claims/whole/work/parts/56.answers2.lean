/-! New boxes, purses, gates. -/
def boxS (s : St) (i : Nat) (r : Rf) : St × Rf := if sN s < 40 then ((sN s + 1, va_up (sT s) (sN s) (6, tH (sT s i), tO (sT s i), fun _ => rN, r, none, 0, 0, 0), s.2.2), (2, nI (sN s))) else (s, rB)
def moneyS (s : St) (i : Nat) (r : Rf) : St × Rf := if isNumU s 1000000 r = true then (if sN s < 40 then ((sN s + 1, va_up (sT s) (sN s) (8, tH (sT s i), some i, fun _ => rN, rN, none, 0, 0, (cnt s r).2), s.2.2), (2, nI (sN s))) else (s, rB)) else (s, rB)
def splitS (s : St) (i : Nat) (r : Rf) : St × Rf := if isNumU s (tB (sT s i)) r = true then (if sN s < 40 then (upT (sN s + 1, va_up (sT s) (sN s) (8, tH (sT s i), tO (sT s i), fun _ => rN, rN, none, 0, 0, (cnt s r).2), s.2.2) i (tSetB (sT s i) (tB (sT s i) - (cnt s r).2)), (2, nI (sN s))) else (s, rB)) else (s, rB)
def gateS (s : St) (i : Nat) (r : Rf) : St × Rf := if sN s + 2 ≤ 40 then ((sN s + 1 + 1, va_up (va_up (sT s) (sN s) (1, tH (sT s i), none, fun _ => rN, rN, some (sN s + 1), 0, 0, 0)) (sN s + 1) (2, tH (sT s i), some (sN s), fun _ => rN, r, none, 0, 0, 0), s.2.2), (2, nI (sN s))) else (s, rB)
section ANS2
variable {T : fw_T} {w : fw_W} {c : Cfg} {s : St}
theorem cO_eq {s : St} {c c' : Cfg} (h : CX s c c') : cO c = cO c' := congrArg (fun z => z.1) h.1.symm
set_option maxHeartbeats 1000000 in
theorem m_V_makeBox (l : Launch) (hT : TOK T) (R : Rp w c s) {i a : Nat} {r : Rf} (hi : i < sN s) (ha : IsR w a r) : Ct l T y_V_makeBox W_V_makeBox rm_V_makeBox [.inr (some (cO c)), .inr (some (cT c i)), .inr (some a)] w (PA w c s (boxS s i r)) := by
  refine ct_V_makeBox rfl (nle rfl) ?_
  intro X hl C E
  have V := hv_V_makeBox hT
  obtain ⟨ek, sf, hd, f, e0, -⟩ := R.aT hi
  refine j_get C rfl (fg_V_H_home V) e0 rfl ?_
  refine j_get C rfl (fg_V_H_owner V) e0 rfl ?_
  refine j_callV C rfl (fc_V_V_make V (by decide)) (m_V_make _ hT R 6 (tH (sT s i)) (tO (sT s i)) ek.1) rfl rfl R.o (by rw [hT.1]; rfl) (nle rfl) (by decide) (by decide) ?_
  rintro v w1 ⟨c', hc, rfl, R1, hrm⟩
  have ho := cO_eq hc
  unfold make at R1 ⊢
  by_cases h40 : sN s < 40
  · rw [if_pos h40] at R1 ⊢
    refine j_ifnull C rfl (fun h => by cases h) (fun _ _ => ?_)
    obtain ⟨fk, sf', hd', f', g0, g1, g2, -⟩ := R1.aT (i := sN s) (Nat.lt_succ_self _)
    have hs : sT (sN s + 1, va_up (sT s) (sN s) (newT 6 (tH (sT s i)) (tO (sT s i))), s.2.2) (sN s) = newT 6 (tH (sT s i)) (tO (sT s i)) := va_up_self _ _ _
    rw [hs] at g0 fk
    refine j_putE C rfl (fp_V_H_held V) g0 (nlt rfl) (fit_o _ _) (cellT c' (sN s) (6, tH (sT s i), tO (sT s i), fun _ => rN, r, none, 0, 0, 0) sf' a) rfl ?_
    have R2 := R1.setT (i := sN s) (Nat.lt_succ_self _) (t := (6, tH (sT s i), tO (sT s i), fun _ => rN, r, none, 0, 0, 0)) (sf := sf') (hd := a) fk g1 (hrm a r ha) (by rw [hs])
    have hrm2 : RM w1 _ := RM.up (y := some (cellT c' (sN s) (6, tH (sT s i), tO (sT s i), fun _ => rN, r, none, 0, 0, 0) sf' a)) g0 nT_ref
    have e : va_up (sT (sN s + 1, va_up (sT s) (sN s) (newT 6 (tH (sT s i)) (tO (sT s i))), s.2.2)) (sN s) (6, tH (sT s i), tO (sT s i), fun _ => rN, r, none, 0, 0, 0) = va_up (sT s) (sN s) (6, tH (sT s i), tO (sT s i), fun _ => rN, r, none, 0, 0, 0) := bx_uu _ _ _ _
    rw [e] at R2
    generalize va_up w1 (cT c' (sN s)) (some (cellT c' (sN s) (6, tH (sT s i), tO (sT s i), fun _ => rN, r, none, 0, 0, 0) sf' a)) = w2 at R2 hrm2 ⊢
    rw [ho]
    refine j_callV C rfl (fc_V_V_referenceTo V (by decide)) (m_V_referenceTo _ hT R2 (o := some (sN s)) (fun x h => by cases h; exact Nat.lt_succ_self _)) rfl rfl R2.o (by rw [hT.1]; rfl) (nle rfl) (by decide) (by decide) ?_
    rintro v w' ⟨rfl, b', rfl, hb'⟩
    exact j_aret C E rfl rfl (by decide) (by decide) ⟨c', b', hc, rfl, by unfold boxS; rw [if_pos h40]; exact hb', by unfold boxS; rw [if_pos h40]; exact R2, hrm.tr hrm2⟩
  · rw [if_neg h40] at R1 ⊢
    refine j_ifnull C rfl (fun _ => ?_) (fun _ h => by cases h)
    rw [ho]
    refine j_callV C rfl (fc_V_V_referenceTo V (by decide)) (m_V_referenceTo _ hT R1 (o := none) (fun x h => by cases h)) rfl rfl R1.o (by rw [hT.1]; rfl) (nle rfl) (by decide) (by decide) ?_
    rintro v w' ⟨rfl, b', rfl, hb'⟩
    exact j_aret C E rfl rfl (by decide) (by decide) ⟨c', b', hc, rfl, by unfold boxS; rw [if_neg h40]; exact hb', by unfold boxS; rw [if_neg h40]; exact R1, hrm⟩
set_option maxHeartbeats 1000000 in
theorem m_V_makeMoney (l : Launch) (hT : TOK T) (R : Rp w c s) {i a : Nat} {r : Rf} (hi : i < sN s) (ha : IsR w a r) : Ct l T y_V_makeMoney W_V_makeMoney rm_V_makeMoney [.inr (some (cO c)), .inr (some (cT c i)), .inr (some a)] w (PA w c s (moneyS s i r)) := by
  refine ct_V_makeMoney rfl (nle rfl) ?_
  intro X hl C E
  have V := hv_V_makeMoney hT
  refine j_callV C rfl (fc_V_V_isNumberUpTo V (by decide)) (m_V_isNumberUpTo _ hT R 1000000 ha) rfl rfl R.o (by rw [hT.1]; rfl) (nle rfl) (by decide) (by decide) ?_
  rintro v w' ⟨rfl, rfl⟩
  cases hnum : isNumU s 1000000 r with
  | false =>
    refine j_ifF C rfl (by decide) ?_
    refine j_get C rfl (fg_V_V_broken V) R.o rfl ?_
    exact j_aret C E rfl rfl (by decide) (by decide) ⟨c, _, Cext.rf, rfl, by unfold moneyS; rw [hnum]; exact R.broken, by unfold moneyS; rw [hnum]; exact R, RM.rf⟩
  | true =>
    refine j_ifT C rfl (by decide) ?_
    have hE : moneyS s i r = if sN s < 40 then ((sN s + 1, va_up (sT s) (sN s) (8, tH (sT s i), some i, fun _ => rN, rN, none, 0, 0, (cnt s r).2), s.2.2), (2, nI (sN s))) else (s, rB) := by unfold moneyS; rw [hnum]; rfl
    rw [hE] at E
    obtain ⟨ek, sf, hd, f, e0, -⟩ := R.aT hi
    refine j_get C rfl (fg_V_H_home V) e0 rfl ?_
    refine j_callV C rfl (fc_V_V_make V (by decide)) (m_V_make _ hT R 8 (tH (sT s i)) (some i) (fun x h => by cases h; exact hi)) rfl rfl R.o (by rw [hT.1]; rfl) (nle rfl) (by decide) (by decide) ?_
    rintro v w1 ⟨c', hc, rfl, R1, hrm⟩
    have ho := cO_eq hc
    unfold make at R1 ⊢
    by_cases h40 : sN s < 40
    · rw [if_pos h40] at R1 E ⊢
      refine j_ifnull C rfl (fun h => by cases h) (fun _ _ => ?_)
      rw [ho]
      refine j_callV C rfl (fc_V_V_countsAs V (by decide)) (m_V_countsAs _ hT R1 (hrm a r ha)) rfl rfl R1.o (by rw [hT.1]; rfl) (nle rfl) (by decide) (by decide) ?_
      rintro v w' ⟨rfl, b, rfl, hb⟩
      refine j_get C rfl (fg_V_R_index V) hb rfl ?_
      obtain ⟨fk, sf', hd', f', g0, g1, g2, -⟩ := R1.aT (i := sN s) (Nat.lt_succ_self _)
      have hs : sT (sN s + 1, va_up (sT s) (sN s) (newT 8 (tH (sT s i)) (some i)), s.2.2) (sN s) = newT 8 (tH (sT s i)) (some i) := va_up_self _ _ _
      rw [hs] at g0 fk g2
      refine j_putE C rfl (fp_V_H_balance V) g0 (nlt rfl) (fit_i _) (cellT c' (sN s) (8, tH (sT s i), some i, fun _ => rN, rN, none, 0, 0, (cnt s r).2) sf' hd') rfl ?_
      have R2 := R1.setT (i := sN s) (Nat.lt_succ_self _) (t := (8, tH (sT s i), some i, fun _ => rN, rN, none, 0, 0, (cnt s r).2)) (sf := sf') (hd := hd') fk g1 g2 (by rw [hs])
      have hrm2 : RM w' _ := RM.up (y := some (cellT c' (sN s) (8, tH (sT s i), some i, fun _ => rN, rN, none, 0, 0, (cnt s r).2) sf' hd')) g0 nT_ref
      have e : va_up (sT (sN s + 1, va_up (sT s) (sN s) (newT 8 (tH (sT s i)) (some i)), s.2.2)) (sN s) (8, tH (sT s i), some i, fun _ => rN, rN, none, 0, 0, (cnt s r).2) = va_up (sT s) (sN s) (8, tH (sT s i), some i, fun _ => rN, rN, none, 0, 0, (cnt s r).2) := bx_uu _ _ _ _
      rw [e] at R2
      generalize va_up w' (cT c' (sN s)) (some (cellT c' (sN s) (8, tH (sT s i), some i, fun _ => rN, rN, none, 0, 0, (cnt s r).2) sf' hd')) = w2 at R2 hrm2 ⊢
      refine j_callV C rfl (fc_V_V_referenceTo V (by decide)) (m_V_referenceTo _ hT R2 (o := some (sN s)) (fun x h => by cases h; exact Nat.lt_succ_self _)) rfl rfl R2.o (by rw [hT.1]; rfl) (nle rfl) (by decide) (by decide) ?_
      rintro v w' ⟨rfl, b', rfl, hb'⟩
      exact j_aret C E rfl rfl (by decide) (by decide) ⟨c', b', hc, rfl, hb', R2, hrm.tr hrm2⟩
    · rw [if_neg h40] at R1 E ⊢
      refine j_ifnull C rfl (fun _ => ?_) (fun _ h => by cases h)
      rw [ho]
      refine j_callV C rfl (fc_V_V_referenceTo V (by decide)) (m_V_referenceTo _ hT R1 (o := none) (fun x h => by cases h)) rfl rfl R1.o (by rw [hT.1]; rfl) (nle rfl) (by decide) (by decide) ?_
      rintro v w' ⟨rfl, b', rfl, hb'⟩
      exact j_aret C E rfl rfl (by decide) (by decide) ⟨c', b', hc, rfl, hb', R1, hrm⟩
set_option maxHeartbeats 1000000 in
theorem m_V_split (l : Launch) (hT : TOK T) (R : Rp w c s) {i a : Nat} {r : Rf} (hi : i < sN s) (ha : IsR w a r) : Ct l T y_V_split W_V_split rm_V_split [.inr (some (cO c)), .inr (some (cT c i)), .inr (some a)] w (PA w c s (splitS s i r)) := by
  refine ct_V_split rfl (nle rfl) ?_
  intro X hl C E
  have V := hv_V_split hT
  obtain ⟨ek, sf, hd, f, e0, -⟩ := R.aT hi
  refine j_get C rfl (fg_V_H_balance V) e0 rfl ?_
  refine j_callV C rfl (fc_V_V_isNumberUpTo V (by decide)) (m_V_isNumberUpTo _ hT R (tB (sT s i)) ha) rfl rfl R.o (by rw [hT.1]; rfl) (nle rfl) (by decide) (by decide) ?_
  rintro v w' ⟨rfl, rfl⟩
  cases hnum : isNumU s (tB (sT s i)) r with
  | false =>
    refine j_ifF C rfl (by decide) ?_
    refine j_get C rfl (fg_V_V_broken V) R.o rfl ?_
    exact j_aret C E rfl rfl (by decide) (by decide) ⟨c, _, Cext.rf, rfl, by unfold splitS; rw [hnum]; exact R.broken, by unfold splitS; rw [hnum]; exact R, RM.rf⟩
  | true =>
    refine j_ifT C rfl (by decide) ?_
    have hE : splitS s i r = if sN s < 40 then (upT (sN s + 1, va_up (sT s) (sN s) (8, tH (sT s i), tO (sT s i), fun _ => rN, rN, none, 0, 0, (cnt s r).2), s.2.2) i (tSetB (sT s i) (tB (sT s i) - (cnt s r).2)), (2, nI (sN s))) else (s, rB) := by unfold splitS; rw [hnum]; rfl
    rw [hE] at E
    refine j_get C rfl (fg_V_H_home V) e0 rfl ?_
    refine j_get C rfl (fg_V_H_owner V) e0 rfl ?_
    refine j_callV C rfl (fc_V_V_make V (by decide)) (m_V_make _ hT R 8 (tH (sT s i)) (tO (sT s i)) ek.1) rfl rfl R.o (by rw [hT.1]; rfl) (nle rfl) (by decide) (by decide) ?_
    rintro v w1 ⟨c', hc, rfl, R1, hrm⟩
    have ho := cO_eq hc
    unfold make at R1 ⊢
    by_cases h40 : sN s < 40
    · rw [if_pos h40] at R1 E ⊢
      refine j_ifnull C rfl (fun h => by cases h) (fun _ _ => ?_)
      rw [ho]
      refine j_callV C rfl (fc_V_V_countsAs V (by decide)) (m_V_countsAs _ hT R1 (hrm a r ha)) rfl rfl R1.o (by rw [hT.1]; rfl) (nle rfl) (by decide) (by decide) ?_
      rintro v w' ⟨rfl, b, rfl, hb⟩
      refine j_get C rfl (fg_V_R_index V) hb rfl ?_
      obtain ⟨fk, sf', hd', f', g0, g1, g2, -⟩ := R1.aT (i := sN s) (Nat.lt_succ_self _)
      have hs : sT (sN s + 1, va_up (sT s) (sN s) (newT 8 (tH (sT s i)) (tO (sT s i))), s.2.2) (sN s) = newT 8 (tH (sT s i)) (tO (sT s i)) := va_up_self _ _ _
      rw [hs] at g0 fk g2
      refine j_putE C rfl (fp_V_H_balance V) g0 (nlt rfl) (fit_i _) (cellT c' (sN s) (8, tH (sT s i), tO (sT s i), fun _ => rN, rN, none, 0, 0, (cnt s r).2) sf' hd') rfl ?_
      have R2 := R1.setT (i := sN s) (Nat.lt_succ_self _) (t := (8, tH (sT s i), tO (sT s i), fun _ => rN, rN, none, 0, 0, (cnt s r).2)) (sf := sf') (hd := hd') fk g1 g2 (by rw [hs])
      have hrm2 : RM w' _ := RM.up (y := some (cellT c' (sN s) (8, tH (sT s i), tO (sT s i), fun _ => rN, rN, none, 0, 0, (cnt s r).2) sf' hd')) g0 nT_ref
      have e : va_up (sT (sN s + 1, va_up (sT s) (sN s) (newT 8 (tH (sT s i)) (tO (sT s i))), s.2.2)) (sN s) (8, tH (sT s i), tO (sT s i), fun _ => rN, rN, none, 0, 0, (cnt s r).2) = va_up (sT s) (sN s) (8, tH (sT s i), tO (sT s i), fun _ => rN, rN, none, 0, 0, (cnt s r).2) := bx_uu _ _ _ _
      rw [e] at R2
      have n2 : va_up w' (cT c' (sN s)) (some (cellT c' (sN s) (8, tH (sT s i), tO (sT s i), fun _ => rN, rN, none, 0, 0, (cnt s r).2) sf' hd')) (cT c' (sN s)) = some (cellT c' (sN s) (8, tH (sT s i), tO (sT s i), fun _ => rN, rN, none, 0, 0, (cnt s r).2) sf' hd') := va_up_self _ _ _
      generalize va_up w' (cT c' (sN s)) (some (cellT c' (sN s) (8, tH (sT s i), tO (sT s i), fun _ => rN, rN, none, 0, 0, (cnt s r).2) sf' hd')) = w2 at R2 hrm2 n2 ⊢
      obtain ⟨pk, sf3, hd3, f3, p0, p1, p2, -⟩ := R2.aT (i := i) (Nat.lt_succ_of_lt hi)
      have hsi : sT (sN s + 1, va_up (sT s) (sN s) (8, tH (sT s i), tO (sT s i), fun _ => rN, rN, none, 0, 0, (cnt s r).2), s.2.2) i = sT s i := va_up_ne _ _ (Nat.ne_of_lt hi)
      have hti : cT c' i = cT c i := (hc.2.1 i hi).1
      rw [hsi] at p0 p2 pk
      have p0' := p0
      rw [hti] at p0'
      refine j_get C rfl (fg_V_H_balance V) p0' rfl ?_
      refine j_get C rfl (fg_V_H_balance V) n2 rfl ?_
      refine j_putE C rfl (fp_V_H_balance V) p0' (nlt rfl) (fit_i _) (cellT c' i (tSetB (sT s i) (tB (sT s i) - (cnt s r).2)) sf3 hd3) rfl ?_
      have R3 := R2.setT (i := i) (Nat.lt_succ_of_lt hi) (t := tSetB (sT s i) (tB (sT s i) - (cnt s r).2)) (sf := sf3) (hd := hd3) pk p1 p2 (by rw [hsi])
      have hrm3 : RM w2 _ := RM.up (y := some (cellT c' i (tSetB (sT s i) (tB (sT s i) - (cnt s r).2)) sf3 hd3)) p0 nT_ref
      rw [hti] at R3 hrm3
      generalize va_up w2 (cT c i) (some (cellT c' i (tSetB (sT s i) (tB (sT s i) - (cnt s r).2)) sf3 hd3)) = w3 at R3 hrm3 ⊢
      refine j_callV C rfl (fc_V_V_referenceTo V (by decide)) (m_V_referenceTo _ hT R3 (o := some (sN s)) (fun x h => by cases h; exact Nat.lt_succ_self _)) rfl rfl R3.o (by rw [hT.1]; rfl) (nle rfl) (by decide) (by decide) ?_
      rintro v w' ⟨rfl, b', rfl, hb'⟩
      exact j_aret C E rfl rfl (by decide) (by decide) ⟨c', b', hc, rfl, hb', R3, (hrm.tr hrm2).tr hrm3⟩
    · rw [if_neg h40] at R1 E ⊢
      refine j_ifnull C rfl (fun _ => ?_) (fun _ h => by cases h)
      rw [ho]
      refine j_callV C rfl (fc_V_V_referenceTo V (by decide)) (m_V_referenceTo _ hT R1 (o := none) (fun x h => by cases h)) rfl rfl R1.o (by rw [hT.1]; rfl) (nle rfl) (by decide) (by decide) ?_
      rintro v w' ⟨rfl, b', rfl, hb'⟩
      exact j_aret C E rfl rfl (by decide) (by decide) ⟨c', b', hc, rfl, hb', R1, hrm⟩
end ANS2
