/-! noteDown, relays, relay. -/
def relaysS (s : St) (i j : Nat) : Bool := decide (cut s i = 0 ∧ (tK (sT s i) = 2 ∨ (tK (sT s i) = 10 ∧ (mW (sM s j)).length < 8)))
abbrev upM (s : St) (j : Nat) (m : Ms) : St := (sN s, sT s, sK s, va_up (sM s) j m, sL s)
abbrev upL (s : St) (i : Nat) (l : List Nat) : St := (sN s, sT s, sK s, sM s, va_up (sL s) i l)
abbrev mTg (m : Ms) (r : Rf) : Ms := (mV m, r, mA m, mN m, mP m, mW m)
abbrev mAr (m : Ms) (r : Rf) (i : Nat) : Ms := (mV m, mT m, r, mN m, mP m, mW m ++ [i])
/-- a wrapper's part of relaying: the argument wrapped the other way, the note -/
def relW (s : St) (i j : Nat) : St := match tO (sT s i) with
  | none => s
  | some o => if tK (sT s i) = 10 then upM (wrapS s (mA (sM s j)) o (1 - tI (sT s i))).1 j (mAr (sM s j) (wrapS s (mA (sM s j)) o (1 - tI (sT s i))).2 i) else s
def relayS (s : St) (i j : Nat) : St := upL (upM (relW s i j) j (mTg (sM (relW s i j) j) (tD (sT (relW s i j) i)))) 3 (sL s 3 ++ [j])
section RLY2
variable {T : fw_T} {w : fw_W} {c : Cfg} {s : St}
theorem Rp.msg (R : Rp w c s) {j : Nat} (hj : j < sK s) : ∃ (b : Option Nat) (pr tg ar : Nat) (an : Option Nat), w (cM c j) = some (cellM c j (sM s j) b pr tg ar an) ∧ IsR w tg (mT (sM s j)) ∧ IsR w ar (mA (sM s j)) ∧ isA w an (mN (sM s j)) ∧ w (cP c j) = some (cellP c (sM s j)) ∧ (∀ x, x ∈ mW (sM s j) → x < sN s) ∧ (mW (sM s j)).length ≤ 8 ∧
    (∀ (m : Ms) (tg' ar' : Nat) (an' : Option Nat), IsR w tg' (mT m) → IsR w ar' (mA m) → isA w an' (mN m) → mW m = mW (sM s j) → Rp (va_up w (cM c j) (some (cellM c j m b pr tg' ar' an'))) c (upM s j m)) ∧
    (∀ (m : Ms) (tg' ar' : Nat) (an' : Option Nat), IsR w tg' (mT m) → IsR w ar' (mA m) → isA w an' (mN m) → (∀ x, x ∈ mW m → x < sN s) → (mW m).length ≤ 8 → Rp (va_up (va_up w (cP c j) (some (cellP c m))) (cM c j) (some (cellM c j m b pr tg' ar' an'))) c (upM s j m)) := by
  obtain ⟨bh, lf, RK, hL, hW⟩ := R
  obtain ⟨ek, pr, tg, ar, an, e0, e1, e2, e3, e4, e5⟩ := RK.aM hj
  refine ⟨bh j, pr, tg, ar, an, e0, e2, e3, e4, e5, ek.1, ek.2.2, fun m tg' ar' an' h1 h2 h3 h4 => ?_, fun m tg' ar' an' h1 h2 h3 h4 h5 => ?_⟩
  · have R1 := RK.setM hj (m := m) (b := bh j) ⟨by rw [h4]; exact ek.1, ek.2.1, by rw [h4]; exact ek.2.2⟩ e1 h1 h2 h3 h4
    rw [va_up_same bh] at R1
    exact ⟨bh, lf, R1, hL, hW⟩
  · have R1 := RK.setMP hj (m := m) (b := bh j) ⟨h4, ek.2.1, h5⟩ e1 h1 h2 h3
    rw [va_up_same bh] at R1
    exact ⟨bh, lf, R1, hL, hW⟩
theorem nP_ref {c : Cfg} {m : Ms} : ∀ l, cellP c m ≠ .inr (kR, l) := fun l h => by simp [cellP] at h
set_option maxHeartbeats 1000000 in
theorem m_M_noteDown (l : Launch) (hT : TOK T) (R : Rp w c s) {i j : Nat} (hi : i < sN s) (hj : j < sK s) (h8 : (mW (sM s j)).length < 8) : Ct l T y_M_noteDown W_M_noteDown rm_M_noteDown [.inr (some (cM c j)), .inr (some (cT c i))] w (fun v w' => v = none ∧ Rp w' c (upM s j (mAr (sM s j) (mA (sM s j)) i)) ∧ RM w w') := by
  refine ct_M_noteDown rfl (nle rfl) ?_
  intro X hl C E
  have V := hv_M_noteDown hT
  obtain ⟨b, pr, tg, ar, an, m0, m2, m3, m4, m5, mk, ml, mS, mP⟩ := R.msg hj
  obtain ⟨ek, sf, hd, f, e0, -⟩ := R.aT hi
  refine j_get C rfl (fg_M_M_noteCount V) m0 rfl ?_
  refine j_icmp C rfl (fun h => absurd h (nI_ge h8 (by decide))) (fun _ => ?_)
  refine j_get C rfl (fg_M_M_passed V) m0 rfl ?_
  refine j_get C rfl (fg_M_M_noteCount V) m0 rfl ?_
  refine j_aastI C rfl m5 hT.2.2.1 (mW (sM s j)).length rfl h8 (by decide) (put_obj hT e0 rfl) ?_
  have hP : (Sum.inl (aT, 8, Sum.inr (va_up (fun q => ((mW (sM s j))[q]?).map (cT c)) (mW (sM s j)).length (some (cT c i)))) : fw_E) = cellP c (mAr (sM s j) (mA (sM s j)) i) := by
    unfold cellP
    congr 4
    funext q
    show va_up _ _ _ q = ((mW (sM s j) ++ [i])[q]?).map (cT c)
    by_cases hq : q = (mW (sM s j)).length
    · subst hq
      rw [va_up_self, List.getElem?_append_right (Nat.le_refl _), Nat.sub_self]
      rfl
    · rw [va_up_ne _ _ hq]
      by_cases hq2 : q < (mW (sM s j)).length
      · rw [List.getElem?_append_left hq2]
      · rw [List.getElem?_append_right (by omega), List.getElem?_eq_none (by omega), List.getElem?_eq_none (by simp; omega)]
  rw [hP]
  have m0' : va_up w (cP c j) (some (cellP c (mAr (sM s j) (mA (sM s j)) i))) (cM c j) = some (cellM c j (sM s j) b pr tg ar an) := up_ne m5 m0 (by simp [cellM, cellP])
  refine j_get C rfl (fg_M_M_noteCount V) m0' rfl ?_
  refine j_putE C rfl (fp_M_M_noteCount V) m0' (nlt rfl) (fit_i _) (cellM c j (mAr (sM s j) (mA (sM s j)) i) b pr tg ar an) (by
    have hlen : nI (mW (mAr (sM s j) (mA (sM s j)) i)).length = nI (mW (sM s j)).length + 1 := by
      show nI (mW (sM s j) ++ [i]).length = _
      rw [List.length_append]; exact (nI_1 _).symm
    unfold cellM
    rw [hlen]
    rfl) ?_
  refine j_vret C E rfl rfl (by decide) (by decide) ⟨rfl, mP _ tg ar an m2 m3 m4 (fun x hx => ?_) ?_, fun a r h => (h.up m5 nP_ref).up m0' nM_ref⟩
  · rcases List.mem_append.mp hx with q | q
    · exact mk x q
    · have : x = i := by simpa using q
      omega
  · show (mW (sM s j) ++ [i]).length ≤ 8
    rw [List.length_append]
    exact h8
theorem m_V_relays (l : Launch) (hT : TOK T) (R : Rp w c s) (hV : rvOK s) {i j : Nat} (hi : i < sN s) (hj : j < sK s) : Ct l T y_V_relays W_V_relays rm_V_relays [.inr (some (cT c i)), .inr (some (cM c j))] w (fun v w' => w' = w ∧ v = some (.inl (bI (relaysS s i j)))) := by
  refine ct_V_relays rfl (nle rfl) ?_
  intro X hl C E
  have V := hv_V_relays hT
  obtain ⟨ek, sf, hd, f, e0, -⟩ := R.aT hi
  obtain ⟨b, pr, tg, ar, an, m0, -, -, -, -, -, ml, -⟩ := R.msg hj
  refine j_callV C rfl (fc_V_H_isCutOff V (by decide)) (m_H_isCutOff _ hT R hi (fun q hq => (hV q hq).1)) rfl rfl e0 (by rw [hT.1]; rfl) (nle rfl) (by decide) (by decide) ?_
  rintro v w' ⟨rfl, rfl⟩
  refine j_if (x := cut s i) C rfl (fun hc => ?_) (fun hc => ?_)
  · have hc : cut s i = 0 := hc
    refine j_get C rfl (fg_V_H_kind V) e0 rfl ?_
    refine j_icmp C rfl (fun h2 => ?_) (fun h2 => ?_)
    · refine j_goto C rfl ?_
      exact j_iret C E rfl (Or.inr ⟨rfl, Or.inr rfl⟩) (by decide) (by decide) ⟨rfl, by rw [show relaysS s i j = true from decide_eq_true ⟨hc, Or.inl h2⟩]; rfl⟩
    refine j_get C rfl (fg_V_H_kind V) e0 rfl ?_
    refine j_icmp C rfl (fun h10 => ?_) (fun h10 => ?_)
    · exact j_iret C E rfl (Or.inr ⟨rfl, Or.inl rfl⟩) (by decide) (by decide) ⟨rfl, by rw [show relaysS s i j = false from decide_eq_false (fun q => q.2.elim h2 (fun z => h10 z.1))]; rfl⟩
    refine j_get C rfl (fg_V_M_noteCount V) m0 rfl ?_
    by_cases h8 : (mW (sM s j)).length < 8
    · refine j_icmp C rfl (fun h => absurd h (nI_ge h8 (by decide))) (fun _ => ?_)
      refine j_goto C rfl ?_
      exact j_iret C E rfl (Or.inr ⟨rfl, Or.inr rfl⟩) (by decide) (by decide) ⟨rfl, by rw [show relaysS s i j = true from decide_eq_true ⟨hc, Or.inr ⟨Classical.not_not.mp h10, h8⟩⟩]; rfl⟩
    · refine j_icmpT C rfl (fw_cb_iff.mpr (show nI 8 ≤ nI (mW (sM s j)).length from nI_le (by omega) (by omega))) ?_
      exact j_iret C E rfl (Or.inr ⟨rfl, Or.inl rfl⟩) (by decide) (by decide) ⟨rfl, by rw [show relaysS s i j = false from decide_eq_false (fun q => q.2.elim h2 (fun z => h8 z.2))]; rfl⟩
  · exact j_iret C E rfl (Or.inr ⟨rfl, Or.inl rfl⟩) (by decide) (by decide) ⟨rfl, by rw [show relaysS s i j = false from decide_eq_false (fun q => hc q.1)]; rfl⟩
set_option maxHeartbeats 4000000 in
theorem m_V_relay (l : Launch) (hT : TOK T) (R : Rp w c s) (hV : rvOK s) {i j o : Nat} (hi : i < sN s) (hj : j < sK s) (hto : tO (sT s i) = some o) (h8 : tK (sT s i) = 10 → (mW (sM s j)).length < 8) (hnl : ∀ q, j ∉ sL s q) : Ct l T y_V_relay W_V_relay rm_V_relay [.inr (some (cO c)), .inr (some (cT c i)), .inr (some (cM c j))] w (fun v w' => v = none ∧ ∃ c', CX s c c' ∧ Rp w' c' (relayS s i j)) := by
  refine ct_V_relay rfl (nle rfl) ?_
  intro X hl C E
  have V := hv_V_relay hT
  obtain ⟨ek, sf, hd, f, e0, -⟩ := R.aT hi
  have hon : o < sN s := ek.1 o hto
  have fin : ∀ (w1 : fw_W) (c1 : Cfg) (s1 : St) (kk nn : Nat), Rp w1 c1 s1 → CX s c c1 → sN s ≤ sN s1 → sK s1 = sK s → sL s1 = sL s → relW s i j = s1 → kk ≤ 3 → nn ≤ 17 → J T G_V_relay X 42 [some (.inr (some (cO c))), some (.inr (some (cT c i))), some (.inr (some (cM c j)))] [] w1 kk nn := by
    intro w1 c1 s1 kk nn R1 hc hle hk1 hL1 hs1 hkk hnn
    obtain ⟨ek1, sf1, hd1, f1, g0, g1, g2, -⟩ := R1.aT (i := i) (by omega)
    rw [(hc.2.1 i hi).1] at g0
    refine j_get C rfl (fg_V_H_held V) g0 rfl ?_
    obtain ⟨b, pr, tg, ar, an, m0, m2, m3, m4, m5, mk, ml, mS, -⟩ := R1.msg (j := j) (by omega)
    have m0' := m0
    rw [(hc.2.2.1 j hj).1] at m0'
    refine j_putE C rfl (fp_V_M_target V) m0' (nlt rfl) (fit_o _ _) (cellM c1 j (mTg (sM s1 j) (tD (sT s1 i))) b pr hd1 ar an) rfl ?_
    have R2 := mS (mTg (sM s1 j) (tD (sT s1 i))) hd1 ar an g2 m3 m4 rfl
    rw [(hc.2.2.1 j hj).1] at R2
    generalize va_up w1 (cM c j) (some (cellM c1 j (mTg (sM s1 j) (tD (sT s1 i))) b pr hd1 ar an)) = w2 at R2 ⊢
    have ho := R2.o
    rw [← cO_eq hc] at ho
    refine j_get C rfl (fg_V_V_unrouted V) ho rfl ?_
    have g : ∃ lf0 : Lf, w2 (cL c1 3) = some (cellL c1 lf0) := by obtain ⟨_, lf, R, _⟩ := R2; exact ⟨_, (R.aL (i := 3) (by omega)).1⟩
    obtain ⟨lf0, g⟩ := g
    rw [← (hc.2.2.1 j hj).1]
    refine j_callV C rfl (fc_V_L_join V (by decide)) (m_L_join _ hT R2 (i := 3) (m := j) (by omega) (by show j < sK s1; omega) (by show ∀ q, j ∉ sL s1 q; rw [hL1]; exact hnl)) rfl rfl g (by rw [hT.1]; rfl) (nle rfl) (by show kk + 0 ≤ 3; omega) (by show nn + 0 ≤ 17; omega) ?_
    rintro v w3 ⟨rfl, R3⟩
    refine j_vret C E rfl rfl (by show kk + 0 ≤ 3; omega) (by show nn + 0 ≤ 17; omega) ⟨rfl, c1, hc, ?_⟩
    unfold relayS
    rw [hs1, ← hL1]
    exact R3
  refine j_get C rfl (fg_V_H_kind V) e0 rfl ?_
  refine j_icmp C rfl (fun hk => ?_) (fun hk => ?_)
  · exact fin w c s 0 0 R Cext.rf (Nat.le_refl _) rfl rfl (by unfold relW; rw [hto]; dsimp only; rw [if_neg hk]) (by omega) (by omega)
  have hk : tK (sT s i) = 10 := Classical.not_not.mp hk
  obtain ⟨b, pr, tg, ar, an, m0, m2, m3, m4, m5, mk, ml, mS, -⟩ := R.msg hj
  refine j_get C rfl (fg_V_M_argument V) m0 rfl ?_
  unfold cellT at e0
  rw [hto] at e0
  refine j_get C rfl (fg_V_H_owner V) e0 rfl ?_
  refine j_get C rfl (fg_V_H_inward V) e0 rfl ?_
  have hz := (hV i hi).2
  have go : ∀ z : Int32, z = 1 - tI (sT s i) → J T G_V_relay X 31 [some (.inr (some (cO c))), some (.inr (some (cT c i))), some (.inr (some (cM c j)))] [.inl z, .inr (some (cT c o)), .inr (some ar), .inr (some (cO c)), .inr (some (cM c j))] w 0 0 := by
    intro z hzz
    refine j_callV C rfl (fc_V_V_wrap V (by decide)) (m_V_wrap _ hT R m3 hon (inw := z) (by rw [hzz]; rcases hz with h | h <;> rw [h] <;> decide)) rfl rfl R.o (by rw [hT.1]; rfl) (nle rfl) (by decide) (by decide) ?_
    rintro v w1 ⟨c1, b1, hc1, rfl, hb1, R1, hrm⟩
    subst hzz
    generalize hwx : wrapS s (mA (sM s j)) o (1 - tI (sT s i)) = x at hb1 R1
    have hst := wrapS_st (s := s) (r := mA (sM s j)) (mb := o) (inw := 1 - tI (sT s i))
    rw [hwx] at hst
    have hk1 : sK x.1 = sK s := by show x.1.2.2.1 = s.2.2.1; rw [hst.2.2]
    have hL1 : sL x.1 = sL s := by show x.1.2.2.2.2 = s.2.2.2.2; rw [hst.2.2]
    have hM1 : sM x.1 = sM s := by show x.1.2.2.2.1 = s.2.2.2.1; rw [hst.2.2]
    obtain ⟨b', pr', tg', ar', an', p0, p2, p3, p4, p5, pk, pl, pS, -⟩ := R1.msg (j := j) (by omega)
    have p0' := p0
    rw [(hc1.2.2.1 j hj).1] at p0'
    refine j_putE C rfl (fp_V_M_argument V) p0' (nlt rfl) (fit_o _ _) (cellM c1 j (mV (sM x.1 j), mT (sM x.1 j), x.2, mN (sM x.1 j), mP (sM x.1 j), mW (sM x.1 j)) b' pr' tg' b1 an') rfl ?_
    have R2 := pS (mV (sM x.1 j), mT (sM x.1 j), x.2, mN (sM x.1 j), mP (sM x.1 j), mW (sM x.1 j)) tg' b1 an' p2 hb1 p4 rfl
    rw [(hc1.2.2.1 j hj).1] at R2
    have q0 : va_up w1 (cM c j) (some (cellM c1 j (mV (sM x.1 j), mT (sM x.1 j), x.2, mN (sM x.1 j), mP (sM x.1 j), mW (sM x.1 j)) b' pr' tg' b1 an')) (cM c j) = some (cellM c1 j (mV (sM x.1 j), mT (sM x.1 j), x.2, mN (sM x.1 j), mP (sM x.1 j), mW (sM x.1 j)) b' pr' tg' b1 an') := va_up_self _ _ _
    generalize va_up w1 (cM c j) (some (cellM c1 j (mV (sM x.1 j), mT (sM x.1 j), x.2, mN (sM x.1 j), mP (sM x.1 j), mW (sM x.1 j)) b' pr' tg' b1 an')) = w2 at R2 q0 ⊢
    rw [← (hc1.2.1 i hi).1, ← (hc1.2.2.1 j hj).1] at *
    have hmj : sM (upM x.1 j (mV (sM x.1 j), mT (sM x.1 j), x.2, mN (sM x.1 j), mP (sM x.1 j), mW (sM x.1 j))) j = (mV (sM x.1 j), mT (sM x.1 j), x.2, mN (sM x.1 j), mP (sM x.1 j), mW (sM x.1 j)) := va_up_self _ _ _
    refine j_callV C rfl (fc_V_M_noteDown V (by decide)) (m_M_noteDown _ hT R2 (i := i) (j := j) (by show i < sN x.1; omega) (by show j < sK x.1; omega) (by rw [hmj]; show (mW (sM x.1 j)).length < 8; rw [hM1]; exact h8 hk)) rfl rfl q0 (by rw [hT.1]; rfl) (nle rfl) (by decide) (by decide) ?_
    rintro v w3 ⟨rfl, R3, -⟩
    rw [hmj] at R3
    have hB : upM (upM x.1 j (mV (sM x.1 j), mT (sM x.1 j), x.2, mN (sM x.1 j), mP (sM x.1 j), mW (sM x.1 j))) j (mAr (mV (sM x.1 j), mT (sM x.1 j), x.2, mN (sM x.1 j), mP (sM x.1 j), mW (sM x.1 j)) (mA (mV (sM x.1 j), mT (sM x.1 j), x.2, mN (sM x.1 j), mP (sM x.1 j), mW (sM x.1 j))) i) = upM x.1 j (mAr (sM s j) x.2 i) := by
      show (sN x.1, sT x.1, sK x.1, va_up (va_up (sM x.1) j _) j _, sL x.1) = (sN x.1, sT x.1, sK x.1, va_up (sM x.1) j _, sL x.1)
      rw [bx_uu, hM1]
    rw [hB] at R3
    exact fin w3 c1 _ _ _ R3 hc1 hst.1 hk1 hL1 (by unfold relW; rw [hto]; dsimp only; rw [if_pos hk, hwx]) (by decide) (by decide)
  refine j_if C rfl (fun h => ?_) (fun h => ?_)
  · refine j_to C 31 rfl ?_
    refine go 0 ?_
    rcases hz with q | q
    · exact absurd q h
    · rw [q]; decide
  · refine j_goto C rfl ?_
    refine go 1 ?_
    have q : tI (sT s i) = 0 := Classical.not_not.mp h
    rw [q]; decide
end RLY2
