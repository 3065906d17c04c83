/-! wrapAsNoted, noteDown, relays, relay. -/
def cut (s : St) (i : Nat) : Int32 := match tO (sT s i) with
  | none => 1
  | some o => tV (sT s o)
/-- one note: broken where the membrane is revoked, else wrapped -/
def noteS (s : St) (p : Nat) (r : Rf) : St × Rf := match tO (sT s p) with
  | none => (s, rB)
  | some o => if tV (sT s o) = 0 then wrapS s r o (tI (sT s p)) else (s, rB)
def wanS : List Nat → St → Rf → St × Rf
  | [], s, r => (s, r)
  | p :: ps, s, r => wanS ps (noteS s p r).1 (noteS s p r).2
theorem mkW_st {s : St} {m : Rf} {mb : Nat} {inw : Int32} : sN s ≤ sN (mkW s m mb inw).1 ∧ (∀ i, i < sN s → sT (mkW s m mb inw).1 i = sT s i) ∧ (mkW s m mb inw).1.2.2 = s.2.2 := by
  unfold mkW
  by_cases h : sN s < 40
  · rw [if_pos h]; exact ⟨Nat.le_succ _, fun i hi => va_up_ne _ _ (Nat.ne_of_lt hi), rfl⟩
  · rw [if_neg h]; exact ⟨Nat.le_refl _, fun i hi => rfl, rfl⟩
theorem wrapS_st {s : St} {r : Rf} {mb : Nat} {inw : Int32} : sN s ≤ sN (wrapS s r mb inw).1 ∧ (∀ i, i < sN s → sT (wrapS s r mb inw).1 i = sT s i) ∧ (wrapS s r mb inw).1.2.2 = s.2.2 := by
  unfold wrapS
  split
  · split
    · exact ⟨Nat.le_refl _, fun i hi => rfl, rfl⟩
    · split
      · exact ⟨Nat.le_refl _, fun i hi => rfl, rfl⟩
      · exact mkW_st
  · exact ⟨Nat.le_refl _, fun i hi => rfl, rfl⟩
theorem noteS_st {s : St} {p : Nat} {r : Rf} : sN s ≤ sN (noteS s p r).1 ∧ (∀ i, i < sN s → sT (noteS s p r).1 i = sT s i) ∧ (noteS s p r).1.2.2 = s.2.2 := by
  unfold noteS
  split
  · exact ⟨Nat.le_refl _, fun i hi => rfl, rfl⟩
  · split
    · exact wrapS_st
    · exact ⟨Nat.le_refl _, fun i hi => rfl, rfl⟩
/-- the new things of a wrapping are as things should be -/
theorem mkW_new {P : Th → Prop} {s : St} {m : Rf} {mb : Nat} {inw : Int32} (h : ∀ i, i < sN s → P (sT s i)) (hn : P (wrT (tH (sT s mb)) mb m inw)) : ∀ i, i < sN (mkW s m mb inw).1 → P (sT (mkW s m mb inw).1 i) := by
  unfold mkW
  by_cases h4 : sN s < 40
  · rw [if_pos h4]
    intro i hi
    by_cases hin : i = sN s
    · subst hin
      show P (va_up (sT s) (sN s) _ (sN s))
      rw [va_up_self]; exact hn
    · show P (va_up (sT s) (sN s) _ i)
      rw [va_up_ne _ _ hin]; exact h i (by have : i < sN s + 1 := hi; omega)
  · rw [if_neg h4]; exact h
theorem wrapS_new {P : Th → Prop} {s : St} {r : Rf} {mb : Nat} {inw : Int32} (h : ∀ i, i < sN s → P (sT s i)) (hn : ∀ m, P (wrT (tH (sT s mb)) mb m inw)) : ∀ i, i < sN (wrapS s r mb inw).1 → P (sT (wrapS s r mb inw).1 i) := by
  unfold wrapS
  split
  · split
    · exact h
    · split
      · exact h
      · exact mkW_new h (hn _)
  · exact h
theorem rvOK.wrap {s : St} (hV : rvOK s) {r : Rf} {mb : Nat} {inw : Int32} (hz : inw = 0 ∨ inw = 1) : rvOK (wrapS s r mb inw).1 := wrapS_new (P := fun t => (tV t = 0 ∨ tV t = 1) ∧ (tI t = 0 ∨ tI t = 1)) hV (fun m => ⟨Or.inl rfl, hz⟩)
theorem hmOK.wrap {s : St} (hV : hmOK s) {r : Rf} {mb : Nat} (hmb : mb < sN s) {inw : Int32} : hmOK (wrapS s r mb inw).1 := wrapS_new (P := fun t => ∃ h, h < 3 ∧ tH t = nI h) hV (fun m => hV mb hmb)
theorem rvOK.note {s : St} (hV : rvOK s) {p : Nat} (hp : p < sN s) {r : Rf} : rvOK (noteS s p r).1 := by
  unfold noteS
  split
  · exact hV
  · split
    · exact hV.wrap (hV p hp).2
    · exact hV
section RLY
variable {T : fw_T} {w : fw_W} {c : Cfg} {s : St}
theorem i_m1 (x : Int32) : x + -1 = x - 1 := (Int32.sub_eq_add_neg x 1).symm
set_option maxHeartbeats 4000000 in
theorem m_V_wrapAsNoted (l : Launch) (hT : TOK T) (R : Rp w c s) (hV : rvOK s) {a j : Nat} {r : Rf} (ha : IsR w a r) (hj : j < sK s) : Ct l T y_V_wrapAsNoted W_V_wrapAsNoted rm_V_wrapAsNoted [.inr (some (cO c)), .inr (some a), .inr (some (cM c j))] w (PA w c s (wanS (mW (sM s j)).reverse s r)) := by
  refine ct_V_wrapAsNoted rfl (nle rfl) ?_
  intro X hl C E
  have V := hv_V_wrapAsNoted hT
  obtain ⟨bb0, ⟨ekn, -, ek8⟩, -⟩ := R.aM hj
  have loop : ∀ (ps : List Nat) (w1 : fw_W) (c1 : Cfg) (s1 : St) (b : Nat) (r1 : Rf) (z5 z6 : Option fw_V), (mW (sM s j)).take ps.length = ps.reverse → ps.length ≤ (mW (sM s j)).length → Rp w1 c1 s1 → CX s c c1 → sN s ≤ sN s1 → s1.2.2 = s.2.2 → rvOK s1 → RM w w1 → IsR w1 b r1 → wanS ps s1 r1 = wanS (mW (sM s j)).reverse s r → J T G_V_wrapAsNoted X 10 [some (.inr (some (cO c))), some (.inr (some a)), some (.inr (some (cM c j))), some (.inr (some b)), some (.inl (nI ps.length - 1)), z5, z6] [] w1 ((8 - ps.length) * 3) ((8 - ps.length) * 17) := by
    intro ps
    induction ps with
    | nil =>
      intro w1 c1 s1 b r1 z5 z6 _ _ R1 hc _ _ _ hrm hb he
      refine j_ifT C rfl (by decide) ?_
      rw [← he] at E
      exact j_aret C E rfl rfl (by decide) (by decide) ⟨c1, b, hc, rfl, hb, R1, hrm⟩
    | cons p ps ih =>
      intro w1 c1 s1 b r1 z5 z6 htk hlen R1 hc hle h22 hV1 hrm hb he
      have hl8 : ps.length + 1 ≤ 8 := by rw [List.length_cons] at hlen; omega
      have hnum : nI (p :: ps).length - 1 = nI ps.length := nI_pred _
      rw [hnum]
      refine j_if C rfl (fun h => absurd h (nI_pos (by omega))) (fun _ => ?_)
      have hjk : j < sK s1 := by show j < s1.2.2.1; rw [h22]; exact hj
      have hmj : sM s1 j = sM s j := by show s1.2.2.2.1 j = _; rw [h22]
      obtain ⟨bb, ekm, pr, tg, ar, an, m0, m1, m2, m3, m4, m5⟩ := R1.aM hjk
      rw [hmj, (hc.2.2.1 j hj).1] at m0
      rw [hmj] at m5 ekm
      refine j_get C rfl (fg_V_M_passed V) m0 rfl ?_
      have hget : (mW (sM s j))[ps.length]? = some p := by
        have h1 : ((mW (sM s j)).take (ps.length + 1))[ps.length]? = some p := by
          rw [show ps.length + 1 = (p :: ps).length from rfl, htk, List.reverse_cons, List.getElem?_append_right (by rw [List.length_reverse]; exact Nat.le_refl _), List.length_reverse, Nat.sub_self]
          rfl
        rw [List.getElem?_take_of_lt (Nat.lt_succ_self _)] at h1
        exact h1
      have hpn0 : p < sN s := ekn p (List.mem_of_getElem? hget)
      have hpn : p < sN s1 := by omega
      refine j_aaldI C rfl m5 hT.2.2.1 ps.length rfl (by omega) (by decide) ?_
      rw [hget]
      refine j_ifnull C rfl (fun h => by cases h) (fun _ _ => ?_)
      obtain ⟨ek, sf, hd, f, e0, -⟩ := R1.aT hpn
      have hlc : (p :: ps).length = ps.length + 1 := rfl
      have next : ∀ (w2 : fw_W) (c2 : Cfg) (s2 : St) (b2 : Nat) (r2 : Rf) (z6 : Option fw_V) (kk nn : Nat), noteS s1 p r1 = (s2, r2) → Rp w2 c2 s2 → CX s c c2 → RM w w2 → IsR w2 b2 r2 → kk ≤ (8 - ps.length) * 3 → nn ≤ (8 - ps.length) * 17 → J T G_V_wrapAsNoted X 71 [some (.inr (some (cO c))), some (.inr (some a)), some (.inr (some (cM c j))), some (.inr (some b)), some (.inl (nI ps.length)), some (.inr (some (cT c1 p))), z6] [.inr (some b2)] w2 kk nn := by
        intro w2 c2 s2 b2 r2 z6 kk nn hq R2 hc2 hrm2 hb2 hk hn
        refine j_goto C rfl (j_wide hk hn ?_)
        have h1 : sN s1 ≤ sN s2 := by have := (noteS_st (s := s1) (p := p) (r := r1)).1; rw [hq] at this; exact this
        have h2 : s2.2.2 = s1.2.2 := by have := (noteS_st (s := s1) (p := p) (r := r1)).2.2; rw [hq] at this; exact this
        have h3 : rvOK s2 := by have := hV1.note (p := p) hpn (r := r1); rw [hq] at this; exact this
        have := ih w2 c2 s2 b2 r2 (some (.inr (some (cT c1 p)))) z6 (by
          have h4 : (mW (sM s j)).take ps.length = ((mW (sM s j)).take (p :: ps).length).take ps.length := by rw [List.take_take, hlc, Nat.min_eq_left (Nat.le_succ _)]
          rw [h4, htk, List.reverse_cons, List.take_append_of_le_length (by rw [List.length_reverse]; exact Nat.le_refl _), List.take_of_length_le (by rw [List.length_reverse]; exact Nat.le_refl _)]) (by omega) R2 hc2 (by omega) (h2.trans h22) h3 hrm2 hb2 (by rw [← he]; show _ = wanS ps (noteS s1 p r1).1 (noteS s1 p r1).2; rw [hq])
        rw [← i_m1] at this
        exact this
      refine j_callV C rfl (fc_V_H_isCutOff V (by decide)) (m_H_isCutOff _ hT R1 hpn (fun q hq => (hV1 q hq).1)) rfl rfl e0 (by rw [hT.1]; rfl) (nle rfl) (by show (8 - (p :: ps).length) * 3 + 0 ≤ 24; omega) (by show (8 - (p :: ps).length) * 17 + 0 ≤ 136; omega) ?_
      rintro v w' ⟨rfl, rfl⟩
      have brk : noteS s1 p r1 = (s1, rB) → ∀ z6 kk nn, kk ≤ (8 - ps.length) * 3 → nn ≤ (8 - ps.length) * 17 → J T G_V_wrapAsNoted X 37 [some (.inr (some (cO c))), some (.inr (some a)), some (.inr (some (cM c j))), some (.inr (some b)), some (.inl (nI ps.length)), some (.inr (some (cT c1 p))), z6] [] w' kk nn := by
        intro hq z6 kk nn hk hn
        refine j_goto C rfl ?_
        refine j_ifF C rfl (by decide) ?_
        have ho := R1.o
        rw [← cO_eq hc] at ho
        refine j_get C rfl (fg_V_V_broken V) ho rfl ?_
        refine j_goto C rfl ?_
        exact next w' c1 s1 _ rB _ kk nn hq R1 hc hrm R1.broken hk hn
      cases hto : tO (sT s1 p) with
      | none =>
        refine j_ifF C rfl (show fw_cb _ (1 : Int32) 0 = false by decide) ?_
        exact brk (by unfold noteS; rw [hto]) _ _ _ (by rw [hlc]; show (8 - (ps.length + 1)) * 3 + 0 ≤ _; omega) (by rw [hlc]; show (8 - (ps.length + 1)) * 17 + 0 ≤ _; omega)
      | some o =>
        have hon : o < sN s1 := ek.1 o hto
        rcases (hV1 o hon).1 with h0 | h1
        · refine j_ifT C rfl (by show fw_cb _ (tV (sT s1 o)) 0 = true; rw [h0]; decide) ?_
          refine j_ifT C rfl (by decide) ?_
          unfold cellT at e0
          rw [hto] at e0
          refine j_get C rfl (fg_V_H_owner V) e0 rfl ?_
          refine j_get C rfl (fg_V_H_inward V) e0 rfl ?_
          have ho := cO_eq hc
          rw [ho]
          refine j_callV C rfl (fc_V_V_wrap V (by decide)) (m_V_wrap _ hT R1 hb hon (hV1 p hpn).2) rfl rfl R1.o (by rw [hT.1]; rfl) (nle rfl) (by show (8 - (p :: ps).length) * 3 + 0 + 3 ≤ 24; rw [hlc]; omega) (by show (8 - (p :: ps).length) * 17 + 0 + 17 ≤ 136; rw [hlc]; omega) ?_
          rintro v w2 ⟨c2, b2, hc2, rfl, hb2, R2, hrm2⟩
          have hq : noteS s1 p r1 = ((wrapS s1 r1 o (tI (sT s1 p))).1, (wrapS s1 r1 o (tI (sT s1 p))).2) := by unfold noteS; rw [hto]; dsimp only; rw [if_pos h0]
          have hk3 : sK s1 = sK s := by show s1.2.2.1 = s.2.2.1; rw [h22]
          rw [← ho]
          exact next w2 c2 _ b2 _ _ _ _ hq R2 (hc.tr hc2 hle (by omega)) (hrm.tr hrm2) hb2 (by rw [hlc]; show (8 - (ps.length + 1)) * 3 + 0 + 3 ≤ _; omega) (by rw [hlc]; show (8 - (ps.length + 1)) * 17 + 0 + 17 ≤ _; omega)
        · refine j_ifF C rfl (by show fw_cb _ (tV (sT s1 o)) 0 = false; rw [h1]; decide) ?_
          exact brk (by unfold noteS; rw [hto]; dsimp only; rw [if_neg (by rw [h1]; decide)]) _ _ _ (by rw [hlc]; show (8 - (ps.length + 1)) * 3 + 0 ≤ _; omega) (by rw [hlc]; show (8 - (ps.length + 1)) * 17 + 0 ≤ _; omega)
  obtain ⟨bb, ekm, pr, tg, ar, an, m0, -⟩ := R.aM hj
  refine j_get C rfl (fg_V_M_noteCount V) m0 rfl ?_
  refine j_to C 10 rfl ?_
  have := loop (mW (sM s j)).reverse w c s a r none none (by rw [List.length_reverse, List.reverse_reverse, List.take_length]) (by rw [List.length_reverse]; exact Nat.le_refl _) R Cext.rf (Nat.le_refl _) rfl hV RM.rf ha rfl
  rw [List.length_reverse] at this
  exact j_wide (Nat.zero_le _) (Nat.zero_le _) this
end RLY
