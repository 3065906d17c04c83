/-! cell, number, introduce; what answers keep. -/
def PI (c : Cfg) (s : St) (f : St × Int32) : Option fw_V → fw_W → Prop := fun v w' => ∃ c', CX s c c' ∧ v = some (.inl f.2) ∧ Rp w' c' f.1
def cellS (s : St) (x : Int32) : St × Int32 := match ixO 3 x with
  | none => (s, -1)
  | some _ => match (make s 0 x none).2 with
    | none => (s, -2)
    | some i => ((make s 0 x none).1, nI i)
def cIx (s : St) (x : Int32) : Option Nat := match ixO (sN s) x with | some i => if tK (sT s i) = 0 then some i else none | none => none
abbrev slotS (s : St) (i q : Nat) (r : Rf) : St := upT s i (tSet (sT s i) (va_up (tS (sT s i)) q r))
def numberS (s : St) (a b x : Int32) : St × Int32 := match cIx s a with
  | none => (s, 0)
  | some i => match ixO 4 b with
    | none => (s, 0)
    | some q => (slotS s i q (1, x), 1)
def introduceS (s : St) (a b x : Int32) : St × Int32 := match cIx s a with
  | none => (s, 0)
  | some i => match ixO (sN s) x with
    | none => (s, 0)
    | some o => match ixO 4 b with
      | none => (s, 0)
      | some q => (slotS s i q (2, nI o), 1)
theorem cIx_lt {s : St} (hn : sN s ≤ 40) {x : Int32} {i : Nat} (h : cIx s x = some i) : i < sN s := by
  unfold cIx at h
  cases hx : ixO (sN s) x with
  | none => rw [hx] at h; cases h
  | some j =>
    rw [hx] at h
    dsimp only at h
    by_cases hk : tK (sT s j) = 0
    · rw [if_pos hk] at h; cases h; exact (ixO_lt (by omega) hx).1
    · rw [if_neg hk] at h; cases h
section HOST2
variable {T : fw_T} {w : fw_W} {c : Cfg} {s : St}
theorem m_V_cellIx (l : Launch) (hT : TOK T) (R : Rp w c s) (x : Int32) : Ct l T y_V_cellAt W_V_cellAt rm_V_cellAt [.inr (some (cO c)), .inl x] w (fun r w' => w' = w ∧ r = some (.inr ((cIx s x).map (cT c)))) := m_V_cellAt l hT R x
set_option maxHeartbeats 1000000 in
theorem m_V_cell (l : Launch) (hT : TOK T) (R : Rp w c s) (x : Int32) : Ct l T y_V_cell W_V_cell rm_V_cell [.inr (some (cO c)), .inl x] w (PI c s (cellS s x)) := by
  refine ct_V_cell rfl (nle rfl) ?_
  intro X hl C E
  have V := hv_V_cell hT
  unfold cellS at E
  refine j_callS C rfl (fc_V_V_isVat V (by decide)) (m_V_isVat _ hT x) rfl rfl (nle rfl) (by decide) (by decide) ?_
  rintro v w' ⟨rfl, rfl⟩
  cases hx : ixO 3 x with
  | none =>
    rw [hx] at E
    refine j_ifF C rfl (by decide) ?_
    exact j_iret C E rfl (Or.inl rfl) (by decide) (by decide) ⟨c, Cext.rf, rfl, R⟩
  | some q =>
    rw [hx] at E
    dsimp only at E
    refine j_ifT C rfl (show fw_cb _ (bI true) 0 = true by decide) ?_
    refine j_callV C rfl (fc_V_V_make V (by decide)) (m_V_make _ hT R 0 x none (fun i h => by cases h)) rfl rfl R.o (by rw [hT.1]; rfl) (nle rfl) (by decide) (by decide) ?_
    rintro v w1 ⟨c', hc, rfl, R1, hrm⟩
    cases hm : (make s 0 x none).2 with
    | none =>
      rw [hm] at E
      have hs : (make s 0 x none).1 = s := by
        unfold make at hm ⊢
        by_cases h : sN s < 40
        · rw [if_pos h] at hm; cases hm
        · rw [if_neg h]
      rw [hs] at R1
      refine j_ifnn C rfl (fun _ h => by cases h) (fun _ => ?_)
      refine j_goto C rfl ?_
      exact j_iret C E rfl (Or.inl rfl) (by decide) (by decide) ⟨c', hc, rfl, R1⟩
    | some i =>
      rw [hm] at E
      refine j_ifnn C rfl (fun _ _ => ?_) (fun h => by cases h)
      obtain ⟨ek, sf, hd, f, e0, -⟩ := R1.aT (make_lt i hm)
      refine j_get C rfl (fg_V_H_number V) e0 rfl ?_
      exact j_iret C E rfl (Or.inl rfl) (by decide) (by decide) ⟨c', hc, rfl, R1⟩
set_option maxHeartbeats 1000000 in
theorem m_V_number (l : Launch) (hT : TOK T) (R : Rp w c s) (a b x : Int32) : Ct l T y_V_number W_V_number rm_V_number [.inr (some (cO c)), .inl a, .inl b, .inl x] w (PI c s (numberS s a b x)) := by
  refine ct_V_number rfl (nle rfl) ?_
  intro X hl C E
  have V := hv_V_number hT
  unfold numberS at E
  refine j_callV C rfl (fc_V_V_cellAt V (by decide)) (m_V_cellIx _ hT R a) rfl rfl R.o (by rw [hT.1]; rfl) (nle rfl) (by decide) (by decide) ?_
  rintro v w' ⟨rfl, rfl⟩
  cases hx : cIx s a with
  | none =>
    rw [hx] at E
    refine j_ifnull C rfl (fun _ => ?_) (fun _ h => by cases h)
    exact j_iret C E rfl (Or.inr ⟨rfl, Or.inl rfl⟩) (by decide) (by decide) ⟨c, Cext.rf, rfl, R⟩
  | some i =>
    rw [hx] at E
    dsimp only at E
    have hi := cIx_lt R.n40 hx
    obtain ⟨ek, sf, hd, f, e0, e1, e2, e3, e4⟩ := R.aT hi
    refine j_ifnull C rfl (fun h => by cases h) (fun _ _ => ?_)
    refine j_callS C rfl (fc_V_V_isSlot V (by decide)) (m_V_isSlot _ hT b) rfl rfl (nle rfl) (by decide) (by decide) ?_
    rintro v w' ⟨rfl, rfl⟩
    cases hy : ixO 4 b with
    | none =>
      rw [hy] at E
      refine j_ifF C rfl (by decide) ?_
      exact j_iret C E rfl (Or.inr ⟨rfl, Or.inl rfl⟩) (by decide) (by decide) ⟨c, Cext.rf, rfl, R⟩
    | some q =>
      rw [hy] at E
      obtain ⟨hq, rfl⟩ := ixO_lt (by decide) hy
      refine j_ifT C rfl (show fw_cb _ (bI true) 0 = true by decide) ?_
      refine j_get C rfl (fg_V_H_slots V) e0 rfl ?_
      refine j_callS C rfl (fc_V_V_numeral V (by decide)) (m_V_numeral _ hT x) rfl rfl (nle rfl) (by decide) (by decide) ?_
      rintro v w1 ⟨p, hp, rfl, rfl⟩
      have R1 := R.grow (e := .inr (kR, [.inl 1, .inl x])) hp
      have hr : IsR (va_up w' p (some (.inr (kR, [.inl 1, .inl x])))) p (1, x) := va_up_self _ _ _
      refine j_aastI C rfl (up_new e3 hp) hT.2.1 q rfl hq (by decide) (put_ref hT hr) ?_
      exact j_iret C E rfl (Or.inr ⟨rfl, Or.inr rfl⟩) (by decide) (by decide) ⟨c, Cext.rf, rfl, R1.setS hi (up_new e3 hp) hr⟩
set_option maxHeartbeats 1000000 in
theorem m_V_introduce (l : Launch) (hT : TOK T) (R : Rp w c s) (a b x : Int32) : Ct l T y_V_introduce W_V_introduce rm_V_introduce [.inr (some (cO c)), .inl a, .inl b, .inl x] w (PI c s (introduceS s a b x)) := by
  refine ct_V_introduce rfl (nle rfl) ?_
  intro X hl C E
  have V := hv_V_introduce hT
  have hn := R.n40
  unfold introduceS at E
  refine j_callV C rfl (fc_V_V_cellAt V (by decide)) (m_V_cellIx _ hT R a) rfl rfl R.o (by rw [hT.1]; rfl) (nle rfl) (by decide) (by decide) ?_
  rintro v w' ⟨rfl, rfl⟩
  refine j_callV C rfl (fc_V_V_thingAt V (by decide)) (m_V_thingAt _ hT R x) rfl rfl R.o (by rw [hT.1]; rfl) (nle rfl) (by decide) (by decide) ?_
  rintro v w' ⟨rfl, rfl⟩
  cases hx : cIx s a with
  | none =>
    rw [hx] at E
    refine j_ifnull C rfl (fun _ => ?_) (fun _ h => by cases h)
    exact j_iret C E rfl (Or.inr ⟨rfl, Or.inl rfl⟩) (by decide) (by decide) ⟨c, Cext.rf, rfl, R⟩
  | some i =>
    rw [hx] at E
    dsimp only at E
    have hi := cIx_lt R.n40 hx
    obtain ⟨ek, sf, hd, f, e0, e1, e2, e3, e4⟩ := R.aT hi
    refine j_ifnull C rfl (fun h => by cases h) (fun _ _ => ?_)
    cases hz : ixO (sN s) x with
    | none =>
      rw [hz] at E
      refine j_ifnull C rfl (fun _ => ?_) (fun _ h => by cases h)
      exact j_iret C E rfl (Or.inr ⟨rfl, Or.inl rfl⟩) (by decide) (by decide) ⟨c, Cext.rf, rfl, R⟩
    | some o =>
      rw [hz] at E
      dsimp only at E
      have ho := (ixO_lt (by omega) hz).1
      obtain ⟨ek', sf', hd', f', g0, g1, -⟩ := R.aT ho
      refine j_ifnull C rfl (fun h => by cases h) (fun _ _ => ?_)
      refine j_callS C rfl (fc_V_V_isSlot V (by decide)) (m_V_isSlot _ hT b) rfl rfl (nle rfl) (by decide) (by decide) ?_
      rintro v w' ⟨rfl, rfl⟩
      cases hy : ixO 4 b with
      | none =>
        rw [hy] at E
        refine j_ifF C rfl (by decide) ?_
        exact j_iret C E rfl (Or.inr ⟨rfl, Or.inl rfl⟩) (by decide) (by decide) ⟨c, Cext.rf, rfl, R⟩
      | some q =>
        rw [hy] at E
        obtain ⟨hq, rfl⟩ := ixO_lt (by decide) hy
        refine j_ifT C rfl (show fw_cb _ (bI true) 0 = true by decide) ?_
        refine j_get C rfl (fg_V_H_slots V) e0 rfl ?_
        refine j_get C rfl (fg_V_H_self V) g0 rfl ?_
        refine j_aastI C rfl e3 hT.2.1 q rfl hq (by decide) (put_ref hT g1) ?_
        exact j_iret C E rfl (Or.inr ⟨rfl, Or.inr rfl⟩) (by decide) (by decide) ⟨c, Cext.rf, rfl, R.setS hi e3 g1⟩
end HOST2
/-- things as they should be: their home a vat, their truth values 0 or 1 -/
def goodT (t : Th) : Prop := (tV t = 0 ∨ tV t = 1) ∧ (tI t = 0 ∨ tI t = 1) ∧ ∃ h, h < 3 ∧ tH t = nI h
def good (s : St) : Prop := ∀ i, i < sN s → goodT (sT s i)
theorem good.rv {s : St} (h : good s) : rvOK s := fun i hi => ⟨(h i hi).1, (h i hi).2.1⟩
theorem good.hm {s : St} (h : good s) : hmOK s := fun i hi => (h i hi).2.2
/-- what an answer keeps -/
def keeps (s : St) (s' : St) : Prop := s'.2.2 = s.2.2 ∧ sN s ≤ sN s' ∧ (good s → good s')
theorem keeps.rf {s : St} : keeps s s := ⟨rfl, Nat.le_refl _, id⟩
theorem keeps.tr {s s' s'' : St} (h : keeps s s') (h' : keeps s' s'') : keeps s s'' := ⟨h'.1.trans h.1, Nat.le_trans h.2.1 h'.2.1, fun g => h'.2.2 (h.2.2 g)⟩
theorem keeps.up {s : St} {i : Nat} {t : Th} (h : good s → goodT t) : keeps s (upT s i t) := ⟨rfl, Nat.le_refl _, fun g j hj => by
  show goodT (va_up (sT s) i t j)
  by_cases hji : j = i
  · rw [hji, va_up_self]; exact h g
  · rw [va_up_ne _ _ hji]; exact g j hj⟩
theorem keeps.add {s : St} {t : Th} (h : good s → goodT t) : keeps s (sN s + 1, va_up (sT s) (sN s) t, s.2.2) := ⟨rfl, Nat.le_succ _, fun g j hj => by
  show goodT (va_up (sT s) (sN s) t j)
  by_cases hji : j = sN s
  · rw [hji, va_up_self]; exact h g
  · rw [va_up_ne _ _ hji]; exact g j (by have : j < sN s + 1 := hj; omega)⟩
theorem keeps_make {s : St} {kd hm : Int32} {ow : Option Nat} (h : good s → ∃ v, v < 3 ∧ hm = nI v) : keeps s (make s kd hm ow).1 := by
  unfold make
  by_cases h4 : sN s < 40
  · rw [if_pos h4]; exact keeps.add (fun g => ⟨Or.inl rfl, Or.inl rfl, h g⟩)
  · rw [if_neg h4]; exact keeps.rf
theorem keeps.wrap {s : St} {r : Rf} {mb : Nat} {inw : Int32} (hmb : mb < sN s) (hz : good s → inw = 0 ∨ inw = 1) : keeps s (wrapS s r mb inw).1 := ⟨wrapS_st.2.2, wrapS_st.1, fun g => wrapS_new (P := goodT) g (fun m => ⟨Or.inl rfl, hz g, (g mb hmb).2.2⟩)⟩
theorem keeps.answer {s : St} {i : Nat} (hn : sN s ≤ 40) (hi : i < sN s) {v : Int32} {r : Rf} : keeps s (answerS s i v r).1 := by
  have hh : good s → ∃ v, v < 3 ∧ tH (sT s i) = nI v := fun g => (g i hi).2.2
  have hrev : keeps s (ansRev s i v).1 := by
    unfold ansRev
    split
    · exact keeps.up (fun g => ⟨Or.inr rfl, (g i hi).2.1, (g i hi).2.2⟩)
    · split <;> exact keeps.rf
  unfold answerS
  split
  · unfold ansCell
    split
    · exact keeps.rf
    · split
      · exact keeps.up (fun g => g i hi)
      · split
        · exact keeps_make hh
        · split
          · unfold gateS
            split
            · refine ⟨rfl, by show sN s ≤ sN s + 1 + 1; omega, fun g j hj => ?_⟩
              show goodT (va_up (va_up (sT s) (sN s) _) (sN s + 1) _ j)
              by_cases h1 : j = sN s + 1
              · rw [h1, va_up_self]; exact ⟨Or.inl rfl, Or.inl rfl, hh g⟩
              · rw [va_up_ne _ _ h1]
                by_cases h2 : j = sN s
                · rw [h2, va_up_self]; exact ⟨Or.inl rfl, Or.inl rfl, hh g⟩
                · rw [va_up_ne _ _ h2]; exact g j (by have : j < sN s + 1 + 1 := hj; omega)
            · exact keeps.rf
          · split
            · exact keeps_make hh
            · split
              · exact keeps_make hh
              · split
                · exact keeps_make hh
                · exact keeps.rf
  · split
    · split
      · exact keeps.rf
      · exact hrev
    · split
      · unfold ansBrand
        split
        · exact keeps_make hh
        · split
          · exact keeps_make hh
          · exact keeps.rf
      · split
        · split
          · unfold boxS
            split
            · exact keeps.add (fun g => ⟨Or.inl rfl, Or.inl rfl, hh g⟩)
            · exact keeps.rf
          · exact keeps.rf
        · split
          · split
            · unfold unsealS
              split
              · exact keeps.rf
              · split <;> exact keeps.rf
            · exact keeps.rf
          · split
            · split
              · unfold moneyS
                split
                · split
                  · exact keeps.add (fun g => ⟨Or.inl rfl, Or.inl rfl, hh g⟩)
                  · exact keeps.rf
                · exact keeps.rf
              · exact keeps.rf
            · split
              · unfold ansPurse
                split
                · exact keeps.rf
                · split
                  · exact keeps_make hh
                  · split
                    · unfold depositS
                      split
                      · exact keeps.rf
                      · split
                        · rename_i o hk _
                          have ho : o < sN s := (kOf_lt hn hk).1
                          refine ⟨rfl, Nat.le_refl _, fun g j hj => ?_⟩
                          show goodT (va_up (va_up (sT s) o _) i _ j)
                          by_cases h1 : j = i
                          · rw [h1, va_up_self]; exact g i hi
                          · rw [va_up_ne _ _ h1]
                            by_cases h2 : j = o
                            · rw [h2, va_up_self]; exact g o ho
                            · rw [va_up_ne _ _ h2]; exact g j hj
                        · exact keeps.rf
                    · split
                      · unfold splitS
                        split
                        · split
                          · exact (keeps.add (t := (8, tH (sT s i), tO (sT s i), fun _ => rN, rN, none, 0, 0, (cnt s r).2)) (fun g => ⟨Or.inl rfl, Or.inl rfl, hh g⟩)).tr ⟨rfl, Nat.le_refl _, fun g j hj => by
                              show goodT (va_up _ i _ j)
                              by_cases hji : j = i
                              · subst hji
                                rw [va_up_self]
                                have := g j hj
                                have e : sT (sN s + 1, va_up (sT s) (sN s) (8, tH (sT s j), tO (sT s j), fun _ => rN, rN, none, 0, 0, (cnt s r).2), s.2.2) j = sT s j := va_up_ne _ _ (Nat.ne_of_lt hi)
                                rw [e] at this
                                exact this
                              · rw [va_up_ne _ _ hji]; exact g j hj⟩
                          · exact keeps.rf
                        · exact keeps.rf
                      · exact keeps.rf
              · split
                · split
                  · exact keeps.wrap hi (fun _ => Or.inl rfl)
                  · exact hrev
                · exact keeps.rf
