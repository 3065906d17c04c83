/-! answer, wrapAsNoted, relays, relay. -/
def answerS (s : St) (i : Nat) (v : Int32) (r : Rf) : St × Rf :=
  if tK (sT s i) = 0 then ansCell s i v r else
  if tK (sT s i) = 1 then (if v = 0 then (s, rTo (tF (sT s i))) else ansRev s i v) else
  if tK (sT s i) = 3 then ansBrand s i v else
  if tK (sT s i) = 4 then (if v = 0 then boxS s i r else (s, rB)) else
  if tK (sT s i) = 5 then (if v = 0 then unsealS s i r else (s, rB)) else
  if tK (sT s i) = 7 then (if v = 0 then moneyS s i r else (s, rB)) else
  if tK (sT s i) = 8 then ansPurse s i v r else
  if tK (sT s i) = 9 then (if v = 0 then wrapS s r i 0 else ansRev s i v) else (s, rB)
def ansO (s : St) (o : Option Nat) (v : Int32) (r : Rf) : St × Rf := match o with
  | none => (s, rB)
  | some i => answerS s i v r
section ANSW
variable {T : fw_T} {w : fw_W} {c : Cfg} {s : St}
set_option maxHeartbeats 4000000 in
theorem m_V_answer (l : Launch) (hT : TOK T) (R : Rp w c s) (hV : rvOK s) {o : Option Nat} {j : Nat} (ho : ∀ i, o = some i → i < sN s) (hj : j < sK s) : Ct l T y_V_answer W_V_answer rm_V_answer [.inr (some (cO c)), .inr (o.map (cT c)), .inr (some (cM c j))] w (PA w c s (ansO s o (mV (sM s j)) (mA (sM s j)))) := by
  refine ct_V_answer rfl (nle rfl) ?_
  intro X hl C E
  have V := hv_V_answer hT
  cases o with
  | none =>
    refine j_ifnn C rfl (fun _ h => by cases h) (fun _ => ?_)
    refine j_get C rfl (fg_V_V_broken V) R.o rfl ?_
    exact j_aret C E rfl rfl (by decide) (by decide) ⟨c, _, Cext.rf, rfl, R.broken, R, RM.rf⟩
  | some i =>
    have hi := ho i rfl
    obtain ⟨bb, ekm, pr, tg, ar, an, m0, m1, m2, m3, -⟩ := R.aM hj
    obtain ⟨ek, sf, hd, f, e0, -⟩ := R.aT hi
    have E : fw_ends T G_V_answer X (PA w c s (answerS s i (mV (sM s j)) (mA (sM s j)))) := E
    generalize hv : mV (sM s j) = v at E
    generalize hr : mA (sM s j) = r at E m3
    have br : answerS s i v r = (s, rB) → ∀ pc, (fw_go (fw_from (gT G_V_answer) pc) [some (.inr (some (cO c))), some (.inr (some (cT c i))), some (.inr (some (cM c j))), some (.inl v), some (.inr (some ar))] [] = some ((pc + 1, .getfield 18, 3, pc + 4, 0, 0), [some (.inr (some (cO c))), some (.inr (some (cT c i))), some (.inr (some (cM c j))), some (.inl v), some (.inr (some ar))], [.inr (some (cO c))])) → (fw_go (fw_from (gT G_V_answer) (pc + 4)) [some (.inr (some (cO c))), some (.inr (some (cT c i))), some (.inr (some (cM c j))), some (.inl v), some (.inr (some ar))] [.inr (some (cB c))] = some ((pc + 4, .areturn, 1, pc + 5, 0, 0), [some (.inr (some (cO c))), some (.inr (some (cT c i))), some (.inr (some (cM c j))), some (.inl v), some (.inr (some ar))], [.inr (some (cB c))])) → J T G_V_answer X pc [some (.inr (some (cO c))), some (.inr (some (cT c i))), some (.inr (some (cM c j))), some (.inl v), some (.inr (some ar))] [] w 0 0 := fun hb pc h1 h2 => by
      refine j_get C h1 (fg_V_V_broken V) R.o rfl ?_
      rw [hb] at E
      exact j_aret C E h2 rfl (by decide) (by decide) ⟨c, _, Cext.rf, rfl, R.broken, R, RM.rf⟩
    refine j_ifnn C rfl (fun _ _ => ?_) (fun h => by cases h)
    refine j_get C rfl (fg_V_M_verb V) m0 rfl ?_
    refine j_get C rfl (fg_V_M_argument V) m0 rfl ?_
    refine j_get C rfl (fg_V_H_kind V) e0 rfl ?_
    rw [hv]
    generalize hk : tK (sT s i) = κ
    by_cases k0 : κ = 0
    · subst k0
      have hA : answerS s i v r = ansCell s i v r := by unfold answerS; rw [if_pos hk]
      rw [hA] at E
      refine j_tsw (tgt := 80) (o := 56) C rfl (by decide) (by decide) (by decide) (by decide) ?_
      refine j_callV C rfl (fc_V_V_answerOfCell V (by decide)) (m_V_answerOfCell _ hT R hi v m3) rfl rfl R.o (by rw [hT.1]; rfl) (nle rfl) (by decide) (by decide) ?_
      rintro x w1 ⟨c', b, hc, rfl, hb, R1, hrm⟩
      exact j_aret C E rfl rfl (by decide) (by decide) ⟨c', b, hc, rfl, hb, R1, hrm⟩
    by_cases k1 : κ = 1
    · subst k1
      have hA : answerS s i v r = if v = 0 then (s, rTo (tF (sT s i))) else ansRev s i v := by unfold answerS; rw [hk]; rfl
      rw [hA] at E
      refine j_tsw (tgt := 89) (o := 65) C rfl (by decide) (by decide) (by decide) (by decide) ?_
      by_cases h0 : v = 0
      · rw [if_pos h0] at E
        refine j_ifF C rfl (by rw [h0]; decide) ?_
        refine j_get C rfl (fg_V_H_facet V) e0 rfl ?_
        refine j_callV C rfl (fc_V_V_referenceTo V (by decide)) (m_V_referenceTo _ hT R ek.2) rfl rfl R.o (by rw [hT.1]; rfl) (nle rfl) (by decide) (by decide) ?_
        rintro x w' ⟨rfl, b', rfl, hb'⟩
        refine j_goto C rfl ?_
        exact j_aret C E rfl rfl (by decide) (by decide) ⟨c, b', Cext.rf, rfl, hb', R, RM.rf⟩
      · rw [if_neg h0] at E
        refine j_if C rfl (fun _ => ?_) (fun q => absurd h0 q)
        refine j_callV C rfl (fc_V_V_answerOfRevocable V (by decide)) (m_V_answerOfRevocable _ hT R hV hi v) rfl rfl R.o (by rw [hT.1]; rfl) (nle rfl) (by decide) (by decide) ?_
        rintro x w1 ⟨c', b, hc, rfl, hb, R1, hrm⟩
        exact j_aret C E rfl rfl (by decide) (by decide) ⟨c', b, hc, rfl, hb, R1, hrm⟩
    by_cases k3 : κ = 3
    · subst k3
      have hA : answerS s i v r = ansBrand s i v := by unfold answerS; rw [hk]; rfl
      rw [hA] at E
      refine j_tsw (tgt := 111) (o := 87) C rfl (by decide) (by decide) (by decide) (by decide) ?_
      refine j_callV C rfl (fc_V_V_answerOfBrand V (by decide)) (m_V_answerOfBrand _ hT R hi v) rfl rfl R.o (by rw [hT.1]; rfl) (nle rfl) (by decide) (by decide) ?_
      rintro x w1 ⟨c', b, hc, rfl, hb, R1, hrm⟩
      exact j_aret C E rfl rfl (by decide) (by decide) ⟨c', b, hc, rfl, hb, R1, hrm⟩
    by_cases k4 : κ = 4
    · subst k4
      have hA : answerS s i v r = if v = 0 then boxS s i r else (s, rB) := by unfold answerS; rw [hk]; rfl
      refine j_tsw (tgt := 118) (o := 94) C rfl (by decide) (by decide) (by decide) (by decide) ?_
      by_cases h0 : v = 0
      · rw [hA, if_pos h0] at E
        refine j_ifF C rfl (by rw [h0]; decide) ?_
        refine j_callV C rfl (fc_V_V_makeBox V (by decide)) (m_V_makeBox _ hT R hi m3) rfl rfl R.o (by rw [hT.1]; rfl) (nle rfl) (by decide) (by decide) ?_
        rintro x w1 ⟨c', b, hc, rfl, hb, R1, hrm⟩
        refine j_goto C rfl ?_
        exact j_aret C E rfl rfl (by decide) (by decide) ⟨c', b, hc, rfl, hb, R1, hrm⟩
      · refine j_if C rfl (fun _ => ?_) (fun q => absurd h0 q)
        exact br (by rw [hA, if_neg h0]) _ rfl rfl
    by_cases k5 : κ = 5
    · subst k5
      have hA : answerS s i v r = if v = 0 then unsealS s i r else (s, rB) := by unfold answerS; rw [hk]; rfl
      refine j_tsw (tgt := 137) (o := 113) C rfl (by decide) (by decide) (by decide) (by decide) ?_
      by_cases h0 : v = 0
      · rw [hA, if_pos h0] at E
        refine j_ifF C rfl (by rw [h0]; decide) ?_
        refine j_callV C rfl (fc_V_V_unseal V (by decide)) (m_V_unseal _ hT R hi m3) rfl rfl R.o (by rw [hT.1]; rfl) (nle rfl) (by decide) (by decide) ?_
        rintro x w1 ⟨c', b, hc, rfl, hb, R1, hrm⟩
        refine j_goto C rfl ?_
        exact j_aret C E rfl rfl (by decide) (by decide) ⟨c', b, hc, rfl, hb, R1, hrm⟩
      · refine j_if C rfl (fun _ => ?_) (fun q => absurd h0 q)
        exact br (by rw [hA, if_neg h0]) _ rfl rfl
    by_cases k7 : κ = 7
    · subst k7
      have hA : answerS s i v r = if v = 0 then moneyS s i r else (s, rB) := by unfold answerS; rw [hk]; rfl
      refine j_tsw (tgt := 156) (o := 132) C rfl (by decide) (by decide) (by decide) (by decide) ?_
      by_cases h0 : v = 0
      · rw [hA, if_pos h0] at E
        refine j_ifF C rfl (by rw [h0]; decide) ?_
        refine j_callV C rfl (fc_V_V_makeMoney V (by decide)) (m_V_makeMoney _ hT R hi m3) rfl rfl R.o (by rw [hT.1]; rfl) (nle rfl) (by decide) (by decide) ?_
        rintro x w1 ⟨c', b, hc, rfl, hb, R1, hrm⟩
        refine j_goto C rfl ?_
        exact j_aret C E rfl rfl (by decide) (by decide) ⟨c', b, hc, rfl, hb, R1, hrm⟩
      · refine j_if C rfl (fun _ => ?_) (fun q => absurd h0 q)
        exact br (by rw [hA, if_neg h0]) _ rfl rfl
    by_cases k8 : κ = 8
    · subst k8
      have hA : answerS s i v r = ansPurse s i v r := by unfold answerS; rw [hk]; rfl
      rw [hA] at E
      refine j_tsw (tgt := 175) (o := 151) C rfl (by decide) (by decide) (by decide) (by decide) ?_
      refine j_callV C rfl (fc_V_V_answerOfPurse V (by decide)) (m_V_answerOfPurse _ hT R hi v m3) rfl rfl R.o (by rw [hT.1]; rfl) (nle rfl) (by decide) (by decide) ?_
      rintro x w1 ⟨c', b, hc, rfl, hb, R1, hrm⟩
      exact j_aret C E rfl rfl (by decide) (by decide) ⟨c', b, hc, rfl, hb, R1, hrm⟩
    by_cases k9 : κ = 9
    · subst k9
      have hA : answerS s i v r = if v = 0 then wrapS s r i 0 else ansRev s i v := by unfold answerS; rw [hk]; rfl
      refine j_tsw (tgt := 184) (o := 160) C rfl (by decide) (by decide) (by decide) (by decide) ?_
      by_cases h0 : v = 0
      · rw [hA, if_pos h0] at E
        refine j_ifF C rfl (by rw [h0]; decide) ?_
        refine j_callV C rfl (fc_V_V_wrap V (by decide)) (m_V_wrap _ hT R m3 hi (Or.inl rfl)) rfl rfl R.o (by rw [hT.1]; rfl) (nle rfl) (by decide) (by decide) ?_
        rintro x w1 ⟨c', b, hc, rfl, hb, R1, hrm⟩
        refine j_goto C rfl ?_
        exact j_aret C E rfl rfl (by decide) (by decide) ⟨c', b, hc, rfl, hb, R1, hrm⟩
      · rw [hA, if_neg h0] at E
        refine j_if C rfl (fun _ => ?_) (fun q => absurd h0 q)
        refine j_callV C rfl (fc_V_V_answerOfRevocable V (by decide)) (m_V_answerOfRevocable _ hT R hV hi v) rfl rfl R.o (by rw [hT.1]; rfl) (nle rfl) (by decide) (by decide) ?_
        rintro x w1 ⟨c', b, hc, rfl, hb, R1, hrm⟩
        exact j_aret C E rfl rfl (by decide) (by decide) ⟨c', b, hc, rfl, hb, R1, hrm⟩
    · have hA : answerS s i v r = (s, rB) := by unfold answerS; rw [hk, if_neg k0, if_neg k1, if_neg k3, if_neg k4, if_neg k5, if_neg k7, if_neg k8, if_neg k9]
      by_cases k2 : κ = 2
      · subst k2
        refine j_tsw (tgt := 206) (o := 182) C rfl (by decide) (by decide) (by decide) (by decide) ?_
        exact br hA _ rfl rfl
      by_cases k6 : κ = 6
      · subst k6
        refine j_tsw (tgt := 206) (o := 182) C rfl (by decide) (by decide) (by decide) (by decide) ?_
        exact br hA _ rfl rfl
      have n0 := ne_int (k := 0) (z := 0) (by decide) k0
      have n1 := ne_int (k := 1) (z := 1) (by decide) k1
      have n2 := ne_int (k := 2) (z := 2) (by decide) k2
      have n3 := ne_int (k := 3) (z := 3) (by decide) k3
      have n4 := ne_int (k := 4) (z := 4) (by decide) k4
      have n5 := ne_int (k := 5) (z := 5) (by decide) k5
      have n6 := ne_int (k := 6) (z := 6) (by decide) k6
      have n7 := ne_int (k := 7) (z := 7) (by decide) k7
      have n8 := ne_int (k := 8) (z := 8) (by decide) k8
      have n9 := ne_int (k := 9) (z := 9) (by decide) k9
      refine j_tsd (tgt := 206) C rfl (by omega) (by decide) ?_
      exact br hA _ rfl rfl
end ANSW
