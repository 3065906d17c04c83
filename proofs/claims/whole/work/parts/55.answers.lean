/-! What objects answer, by kind: the small ones. -/
abbrev upT (s : St) (i : Nat) (t : Th) : St := (sN s, va_up (sT s) i t, s.2.2)
abbrev tSetB (t : Th) (b : Int32) : Th := (tK t, tH t, tO t, tS t, tD t, tF t, tV t, tI t, b)
abbrev tSetV (t : Th) (v : Int32) : Th := (tK t, tH t, tO t, tS t, tD t, tF t, v, tI t, tB t)
def PA (w : fw_W) (c : Cfg) (s : St) (f : St × Rf) : Option fw_V → fw_W → Prop := fun v w' => ∃ c' b, CX s c c' ∧ v = some (.inr (some b)) ∧ IsR w' b f.2 ∧ Rp w' c' f.1 ∧ RM w w'
def isNumU (s : St) (most : Int32) (r : Rf) : Bool := decide ((cnt s r).1 = 1 ∧ ¬ (cnt s r).2 < 0 ∧ ¬ most < (cnt s r).2)
def mkR (s : St) (kd hm : Int32) (ow : Option Nat) : St × Rf := ((make s kd hm ow).1, rTo (make s kd hm ow).2)
def ansRev (s : St) (i : Nat) (v : Int32) : St × Rf := if v = 1 then (upT s i (tSetV (sT s i) 1), (1, 0)) else if v = 2 then (s, (1, tV (sT s i))) else (s, rB)
def ansBrand (s : St) (i : Nat) (v : Int32) : St × Rf := if v = 0 then mkR s 4 (tH (sT s i)) (some i) else if v = 1 then mkR s 5 (tH (sT s i)) (some i) else (s, rB)
def depositS (s : St) (i : Nat) (r : Rf) : St × Rf := match kOf s 8 r with
  | none => (s, rB)
  | some o => if o ≠ i ∧ tO (sT s o) = tO (sT s i) then (upT (upT s o (tSetB (sT s o) 0)) i (tSetB (sT s i) (tB (sT s i) + tB (sT s o))), (1, tB (sT s o))) else (s, rB)
def unsealS (s : St) (i : Nat) (r : Rf) : St × Rf := match kOf s 6 r with
  | none => (s, rB)
  | some o => if tO (sT s o) = tO (sT s i) then (s, bN (tD (sT s o))) else (s, rB)
theorem make_lt {s : St} {kd hm : Int32} {ow : Option Nat} : ∀ x, (make s kd hm ow).2 = some x → x < sN (make s kd hm ow).1 := by
  intro x hx
  unfold make at hx ⊢
  by_cases h40 : sN s < 40
  · rw [if_pos h40] at hx ⊢; cases hx; exact Nat.lt_succ_self _
  · rw [if_neg h40] at hx; cases hx
def rvOK (s : St) : Prop := ∀ i, i < sN s → (tV (sT s i) = 0 ∨ tV (sT s i) = 1) ∧ (tI (sT s i) = 0 ∨ tI (sT s i) = 1)
section ANS
variable {T : fw_T} {w : fw_W} {c : Cfg} {s : St}
theorem m_V_isNumberUpTo (l : Launch) (hT : TOK T) (R : Rp w c s) {a : Nat} {r : Rf} (most : Int32) (ha : IsR w a r) : Ct l T y_V_isNumberUpTo W_V_isNumberUpTo rm_V_isNumberUpTo [.inr (some (cO c)), .inl most, .inr (some a)] w (fun v w' => w' = w ∧ v = some (.inl (bI (isNumU s most r)))) := by
  refine ct_V_isNumberUpTo rfl (nle rfl) ?_
  intro X hl C E
  have V := hv_V_isNumberUpTo hT
  refine j_callV C rfl (fc_V_V_countsAs V (by decide)) (m_V_countsAs _ hT R ha) rfl rfl R.o (by rw [hT.1]; rfl) (nle rfl) (by decide) (by decide) ?_
  rintro v w' ⟨rfl, b, rfl, hb⟩
  refine j_get C rfl (fg_V_R_sort V) hb rfl ?_
  refine j_icmp C rfl (fun h => ?_) (fun h1 => ?_)
  · exact j_iret C E rfl (Or.inr ⟨rfl, Or.inl rfl⟩) (by decide) (by decide) ⟨rfl, by rw [show isNumU s most r = false from decide_eq_false (fun q => h q.1)]; rfl⟩
  refine j_get C rfl (fg_V_R_index V) hb rfl ?_
  refine j_if C rfl (fun h => ?_) (fun h2 => ?_)
  · exact j_iret C E rfl (Or.inr ⟨rfl, Or.inl rfl⟩) (by decide) (by decide) ⟨rfl, by rw [show isNumU s most r = false from decide_eq_false (fun q => q.2.1 h)]; rfl⟩
  refine j_get C rfl (fg_V_R_index V) hb rfl ?_
  refine j_icmp C rfl (fun h => ?_) (fun h3 => ?_)
  · exact j_iret C E rfl (Or.inr ⟨rfl, Or.inl rfl⟩) (by decide) (by decide) ⟨rfl, by rw [show isNumU s most r = false from decide_eq_false (fun q => q.2.2 h)]; rfl⟩
  refine j_goto C rfl ?_
  exact j_iret C E rfl (Or.inr ⟨rfl, Or.inr rfl⟩) (by decide) (by decide) ⟨rfl, by rw [show isNumU s most r = true from decide_eq_true ⟨Classical.not_not.mp h1, h2, h3⟩]; rfl⟩
theorem m_V_truth (l : Launch) (hT : TOK T) {x : Int32} (hx : x = 0 ∨ x = 1) : Ct l T y_V_truth W_V_truth rm_V_truth [.inl x] w (fun r w' => ∃ q, w q = none ∧ w' = va_up w q (some (.inr (kR, [.inl 1, .inl x]))) ∧ r = some (.inr (some q))) := by
  refine ct_V_truth rfl (nle rfl) ?_
  intro X hl C E
  have V := hv_V_truth hT
  rcases hx with rfl | rfl
  · refine j_ifT C rfl (by decide) ?_
    refine j_callS C rfl (fc_V_V_numeral V (by decide)) (m_V_numeral _ hT 0) rfl rfl (nle rfl) (by decide) (by decide) ?_
    rintro r w' ⟨q, hq, rfl, rfl⟩
    exact j_aret C E rfl rfl (by decide) (by decide) ⟨q, hq, rfl, rfl⟩
  · refine j_ifF C rfl (by decide) ?_
    refine j_goto C rfl ?_
    refine j_callS C rfl (fc_V_V_numeral V (by decide)) (m_V_numeral _ hT 1) rfl rfl (nle rfl) (by decide) (by decide) ?_
    rintro r w' ⟨q, hq, rfl, rfl⟩
    exact j_aret C E rfl rfl (by decide) (by decide) ⟨q, hq, rfl, rfl⟩
set_option maxHeartbeats 1000000 in
theorem m_V_answerOfRevocable (l : Launch) (hT : TOK T) (R : Rp w c s) (hV : rvOK s) {i : Nat} (hi : i < sN s) (v : Int32) : Ct l T y_V_answerOfRevocable W_V_answerOfRevocable rm_V_answerOfRevocable [.inr (some (cO c)), .inr (some (cT c i)), .inl v] w (PA w c s (ansRev s i v)) := by
  refine ct_V_answerOfRevocable rfl (nle rfl) ?_
  intro X hl C E
  have V := hv_V_answerOfRevocable hT
  obtain ⟨ek, sf, hd, f, e0, e1, e2, e3, e4⟩ := R.aT hi
  by_cases h1 : v = 1
  · subst h1
    refine j_lsw (tgt := 28) C rfl (by decide) (o := 27) (by decide) (by decide) ?_
    refine j_putE C rfl (fp_V_H_revoked V) e0 (nlt rfl) fit_z1 (cellT c i (tSetV (sT s i) 1) sf hd) rfl ?_
    have R1 := R.setT hi (t := tSetV (sT s i) 1) ek e1 e2 rfl
    have hrm : RM w _ := RM.up (y := some (cellT c i (tSetV (sT s i) 1) sf hd)) e0 nT_ref
    generalize va_up w (cT c i) (some (cellT c i (tSetV (sT s i) 1) sf hd)) = w1 at R1 hrm ⊢
    refine j_callS C rfl (fc_V_V_numeral V (by decide)) (m_V_numeral _ hT 0) rfl rfl (nle rfl) (by decide) (by decide) ?_
    rintro r w' ⟨q, hq, rfl, rfl⟩
    exact j_aret C E rfl rfl (by decide) (by decide) ⟨c, q, Cext.rf, rfl, va_up_self _ _ _, R1.grow hq, hrm.tr (RM.new hq)⟩
  by_cases h2 : v = 2
  · subst h2
    refine j_lsw (tgt := 38) C rfl (by decide) (o := 37) (by decide) (by decide) ?_
    refine j_get C rfl (fg_V_H_revoked V) e0 rfl ?_
    refine j_callS C rfl (fc_V_V_truth V (by decide)) (m_V_truth _ hT (hV i hi).1) rfl rfl (nle rfl) (by decide) (by decide) ?_
    rintro r w' ⟨q, hq, rfl, rfl⟩
    exact j_aret C E rfl rfl (by decide) (by decide) ⟨c, q, Cext.rf, rfl, va_up_self _ _ _, R.grow hq, RM.new hq⟩
  · refine j_lsw (tgt := 46) C rfl (by decide) (o := 45) (by show Op.lookupswitch.offset [(1, 27), (2, 37)] 45 v.toInt = 45; rw [lv_osw h1 (by decide), lv_osw h2 (by decide)]; rfl) (by decide) ?_
    refine j_get C rfl (fg_V_V_broken V) R.o rfl ?_
    exact j_aret C E rfl rfl (by decide) (by decide) ⟨c, _, Cext.rf, rfl, by unfold ansRev; rw [if_neg h1, if_neg h2]; exact R.broken, by unfold ansRev; rw [if_neg h1, if_neg h2]; exact R, RM.rf⟩
set_option maxHeartbeats 1000000 in
theorem m_V_answerOfBrand (l : Launch) (hT : TOK T) (R : Rp w c s) {i : Nat} (hi : i < sN s) (v : Int32) : Ct l T y_V_answerOfBrand W_V_answerOfBrand rm_V_answerOfBrand [.inr (some (cO c)), .inr (some (cT c i)), .inl v] w (PA w c s (ansBrand s i v)) := by
  refine ct_V_answerOfBrand rfl (nle rfl) ?_
  intro X hl C E
  have V := hv_V_answerOfBrand hT
  obtain ⟨ek, sf, hd, f, e0, -⟩ := R.aT hi
  have how : ∀ x, (some i : Option Nat) = some x → x < sN s := fun x h => by cases h; exact hi
  by_cases h1 : v = 0
  · subst h1
    refine j_lsw (tgt := 28) C rfl (by decide) (o := 27) (by decide) (by decide) ?_
    refine j_get C rfl (fg_V_H_home V) e0 rfl ?_
    refine j_callV C rfl (fc_V_V_make V (by decide)) (m_V_make _ hT R 4 (tH (sT s i)) (some i) how) rfl rfl R.o (by rw [hT.1]; rfl) (nle rfl) (by decide) (by decide) ?_
    rintro v w1 ⟨c', hc, rfl, R1, hrm⟩
    have ho : cO c = cO c' := congrArg (fun z => z.1) hc.1.symm
    rw [ho]
    refine j_callV C rfl (fc_V_V_referenceTo V (by decide)) (m_V_referenceTo _ hT R1 make_lt) rfl rfl R1.o (by rw [hT.1]; rfl) (nle rfl) (by decide) (by decide) ?_
    rintro v w' ⟨rfl, b', rfl, hb'⟩
    exact j_aret C E rfl rfl (by decide) (by decide) ⟨c', b', hc, rfl, hb', R1, hrm⟩
  by_cases h2 : v = 1
  · subst h2
    refine j_lsw (tgt := 43) C rfl (by decide) (o := 42) (by decide) (by decide) ?_
    refine j_get C rfl (fg_V_H_home V) e0 rfl ?_
    refine j_callV C rfl (fc_V_V_make V (by decide)) (m_V_make _ hT R 5 (tH (sT s i)) (some i) how) rfl rfl R.o (by rw [hT.1]; rfl) (nle rfl) (by decide) (by decide) ?_
    rintro v w1 ⟨c', hc, rfl, R1, hrm⟩
    have ho : cO c = cO c' := congrArg (fun z => z.1) hc.1.symm
    rw [ho]
    refine j_callV C rfl (fc_V_V_referenceTo V (by decide)) (m_V_referenceTo _ hT R1 make_lt) rfl rfl R1.o (by rw [hT.1]; rfl) (nle rfl) (by decide) (by decide) ?_
    rintro v w' ⟨rfl, b', rfl, hb'⟩
    exact j_aret C E rfl rfl (by decide) (by decide) ⟨c', b', hc, rfl, hb', R1, hrm⟩
  · refine j_lsw (tgt := 58) C rfl (by decide) (o := 57) (by show Op.lookupswitch.offset [(0, 27), (1, 42)] 57 v.toInt = 57; rw [lv_osw h1 (by decide), lv_osw h2 (by decide)]; rfl) (by decide) ?_
    refine j_get C rfl (fg_V_V_broken V) R.o rfl ?_
    exact j_aret C E rfl rfl (by decide) (by decide) ⟨c, _, Cext.rf, rfl, by unfold ansBrand; rw [if_neg h1, if_neg h2]; exact R.broken, by unfold ansBrand; rw [if_neg h1, if_neg h2]; exact R, RM.rf⟩
theorem own_iff (R : Rp w c s) {i o : Nat} (hi : i < sN s) (ho : o < sN s) : (tO (sT s o)).map (cT c) = (tO (sT s i)).map (cT c) ↔ tO (sT s o) = tO (sT s i) := by
  obtain ⟨ei, -⟩ := R.aT hi
  obtain ⟨eo, -⟩ := R.aT ho
  constructor
  · intro h
    cases h1 : tO (sT s o) with
    | none => cases h2 : tO (sT s i) with
      | none => rfl
      | some y => rw [h1, h2] at h; cases h
    | some x => cases h2 : tO (sT s i) with
      | none => rw [h1, h2] at h; cases h
      | some y =>
        rw [h1, h2] at h
        have h3 : cT c x = cT c y := Option.some.inj h
        obtain ⟨bh, lf, R, -⟩ := R
        rw [R.tinj (eo.1 x h1) (ei.1 y h2) h3]
  · intro h; rw [h]
theorem m_V_unseal (l : Launch) (hT : TOK T) (R : Rp w c s) {i a : Nat} {r : Rf} (hi : i < sN s) (ha : IsR w a r) : Ct l T y_V_unseal W_V_unseal rm_V_unseal [.inr (some (cO c)), .inr (some (cT c i)), .inr (some a)] w (PA w c s (unsealS s i r)) := by
  refine ct_V_unseal rfl (nle rfl) ?_
  intro X hl C E
  have V := hv_V_unseal hT
  obtain ⟨ek, sf, hd, f, e0, -⟩ := R.aT hi
  refine j_callV C rfl (fc_V_V_thingOfKind V (by decide)) (m_V_thingOfKind _ hT R 6 ha) rfl rfl R.o (by rw [hT.1]; rfl) (nle rfl) (by decide) (by decide) ?_
  rintro v w' ⟨rfl, rfl⟩
  cases hk : kOf s 6 r with
  | none =>
    refine j_ifnull C rfl (fun _ => ?_) (fun _ h => by cases h)
    refine j_get C rfl (fg_V_V_broken V) R.o rfl ?_
    exact j_aret C E rfl rfl (by decide) (by decide) ⟨c, _, Cext.rf, rfl, by unfold unsealS; rw [hk]; exact R.broken, by unfold unsealS; rw [hk]; exact R, RM.rf⟩
  | some o =>
    have ho : o < sN s := (kOf_lt R.n40 hk).1
    obtain ⟨ek', sf', hd', f', g0, g1, g2, -⟩ := R.aT ho
    refine j_ifnull C rfl (fun h => by cases h) (fun _ _ => ?_)
    refine j_get C rfl (fg_V_H_owner V) g0 rfl ?_
    refine j_get C rfl (fg_V_H_owner V) e0 rfl ?_
    refine j_acmp C rfl (fun h => ?_) (fun h => ?_)
    · have hq := (own_iff R hi ho).mp h
      refine j_get C rfl (fg_V_H_held V) g0 rfl ?_
      refine j_callV C rfl (fc_V_V_brokenIfNothing V (by decide)) (m_V_brokenIfNothing _ hT R g2) rfl rfl R.o (by rw [hT.1]; rfl) (nle rfl) (by decide) (by decide) ?_
      rintro v w' ⟨rfl, b, rfl, hb⟩
      exact j_aret C E rfl rfl (by decide) (by decide) ⟨c, b, Cext.rf, rfl, by unfold unsealS; rw [hk]; dsimp only; rw [if_pos hq]; exact hb, by unfold unsealS; rw [hk]; dsimp only; rw [if_pos hq]; exact R, RM.rf⟩
    · have hq : ¬ tO (sT s o) = tO (sT s i) := fun q => h ((own_iff R hi ho).mpr q)
      refine j_get C rfl (fg_V_V_broken V) R.o rfl ?_
      exact j_aret C E rfl rfl (by decide) (by decide) ⟨c, _, Cext.rf, rfl, by unfold unsealS; rw [hk]; dsimp only; rw [if_neg hq]; exact R.broken, by unfold unsealS; rw [hk]; dsimp only; rw [if_neg hq]; exact R, RM.rf⟩
set_option maxHeartbeats 1000000 in
theorem m_V_deposit (l : Launch) (hT : TOK T) (R : Rp w c s) {i a : Nat} {r : Rf} (hi : i < sN s) (ha : IsR w a r) : Ct l T y_V_deposit W_V_deposit rm_V_deposit [.inr (some (cO c)), .inr (some (cT c i)), .inr (some a)] w (PA w c s (depositS s i r)) := by
  refine ct_V_deposit rfl (nle rfl) ?_
  intro X hl C E
  have V := hv_V_deposit hT
  obtain ⟨ek, sf, hd, f, e0, e1, e2, -⟩ := R.aT hi
  refine j_callV C rfl (fc_V_V_thingOfKind V (by decide)) (m_V_thingOfKind _ hT R 8 ha) rfl rfl R.o (by rw [hT.1]; rfl) (nle rfl) (by decide) (by decide) ?_
  rintro v w' ⟨rfl, rfl⟩
  have bad : depositS s i r = (s, rB) → ∀ z, J T G_V_deposit X 28 [some (.inr (some (cO c))), some (.inr (some (cT c i))), some (.inr (some a)), some (.inr z), none] [] w' 0 0 := fun hb z => by
    refine j_get C rfl (fg_V_V_broken V) R.o rfl ?_
    rw [hb] at E
    exact j_aret C E rfl rfl (by decide) (by decide) ⟨c, _, Cext.rf, rfl, R.broken, R, RM.rf⟩
  cases hk : kOf s 8 r with
  | none =>
    refine j_ifnull C rfl (fun _ => ?_) (fun _ h => by cases h)
    exact bad (by unfold depositS; rw [hk]) _
  | some o =>
    have ho : o < sN s := (kOf_lt R.n40 hk).1
    obtain ⟨ek', sf', hd', f', g0, g1, g2, -⟩ := R.aT ho
    refine j_ifnull C rfl (fun h => by cases h) (fun _ _ => ?_)
    refine j_acmp C rfl (fun h => ?_) (fun h => ?_)
    · have hoi : o = i := by
        have h1 : cT c o = cT c i := Option.some.inj h
        obtain ⟨bh, lf, R, -⟩ := R
        exact R.tinj ho hi h1
      exact bad (by unfold depositS; rw [hk]; exact if_neg (fun q => q.1 hoi)) _
    have hoi : o ≠ i := fun q => h (by rw [q]; rfl)
    refine j_get C rfl (fg_V_H_owner V) g0 rfl ?_
    refine j_get C rfl (fg_V_H_owner V) e0 rfl ?_
    refine j_acmp C rfl (fun h => ?_) (fun h => ?_)
    · have hq := (own_iff R hi ho).mp h
      have hd : depositS s i r = (upT (upT s o (tSetB (sT s o) 0)) i (tSetB (sT s i) (tB (sT s i) + tB (sT s o))), (1, tB (sT s o))) := by unfold depositS; rw [hk]; exact if_pos ⟨hoi, hq⟩
      rw [hd] at E
      refine j_get C rfl (fg_V_H_balance V) g0 rfl ?_
      refine j_putE C rfl (fp_V_H_balance V) g0 (nlt rfl) (fit_i _) (cellT c o (tSetB (sT s o) 0) sf' hd') rfl ?_
      have R1 := R.setT ho (t := tSetB (sT s o) 0) ek' g1 g2 rfl
      have hrm : RM w' _ := RM.up (y := some (cellT c o (tSetB (sT s o) 0) sf' hd')) g0 nT_ref
      generalize va_up w' (cT c o) (some (cellT c o (tSetB (sT s o) 0) sf' hd')) = w1 at R1 hrm ⊢
      obtain ⟨ek2, sf2, hd2, f2, k0, k1, k2, -⟩ := R1.aT (i := i) hi
      have hsi : sT (sN s, va_up (sT s) o (tSetB (sT s o) 0), s.2.2) i = sT s i := va_up_ne _ _ hoi.symm
      rw [hsi] at k0 k2 ek2
      refine j_get C rfl (fg_V_H_balance V) k0 rfl ?_
      refine j_putE C rfl (fp_V_H_balance V) k0 (nlt rfl) (fit_i _) (cellT c i (tSetB (sT s i) (tB (sT s i) + tB (sT s o))) sf2 hd2) rfl ?_
      have R2 := R1.setT (i := i) hi (t := tSetB (sT s i) (tB (sT s i) + tB (sT s o))) ek2 k1 k2 (by rw [hsi])
      have hrm2 : RM w1 _ := RM.up (y := some (cellT c i (tSetB (sT s i) (tB (sT s i) + tB (sT s o))) sf2 hd2)) k0 nT_ref
      generalize va_up w1 (cT c i) (some (cellT c i (tSetB (sT s i) (tB (sT s i) + tB (sT s o))) sf2 hd2)) = w2 at R2 hrm2 ⊢
      refine j_callS C rfl (fc_V_V_numeral V (by decide)) (m_V_numeral _ hT _) rfl rfl (nle rfl) (by decide) (by decide) ?_
      rintro r w' ⟨q, hq, rfl, rfl⟩
      exact j_aret C E rfl rfl (by decide) (by decide) ⟨c, q, Cext.rf, rfl, va_up_self _ _ _, R2.grow hq, (hrm.tr hrm2).tr (RM.new hq)⟩
    · exact bad (by unfold depositS; rw [hk]; exact if_neg (fun q => h ((own_iff R hi ho).mpr q.2))) _
end ANS
