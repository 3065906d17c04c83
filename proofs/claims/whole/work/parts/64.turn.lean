/-! turn. -/
theorem keeps_note {s : St} {p : Nat} {r : Rf} (hp : p < sN s) (ho : ∀ o, tO (sT s p) = some o → o < sN s) : keeps s (noteS s p r).1 := by
  unfold noteS
  split
  · exact keeps.rf
  · rename_i o h
    split
    · exact keeps.wrap (ho o h) (fun g => (g p hp).2.1)
    · exact keeps.rf
theorem keeps_wan : ∀ (ps : List Nat) {s : St} {r : Rf}, (∀ p, p ∈ ps → p < sN s ∧ ∀ o, tO (sT s p) = some o → o < sN s) → keeps s (wanS ps s r).1
  | [], s, r, _ => keeps.rf
  | p :: ps, s, r, h => by
    have h1 := h p List.mem_cons_self
    refine (keeps_note (r := r) h1.1 h1.2).tr (keeps_wan ps (fun q hq => ?_))
    obtain ⟨a, b⟩ := h q (List.mem_cons_of_mem _ hq)
    obtain ⟨c1, c2, -⟩ := noteS_st (s := s) (p := p) (r := r)
    exact ⟨by omega, fun o ho => by rw [c2 q a] at ho; have := b o ho; omega⟩
theorem settleS_st (s : St) (j : Nat) (r : Rf) : sN (settleS s j r) = sN s ∧ sT (settleS s j r) = sT s ∧ sK (settleS s j r) = sK s := ⟨rfl, rfl, rfl⟩
theorem rAll_st : ∀ (f : Nat) (s : St), sN (rAll f s) = sN s ∧ sT (rAll f s) = sT s ∧ sK (rAll f s) = sK s
  | 0, s => ⟨rfl, rfl, rfl⟩
  | f + 1, s => by
    rw [show rAll (f + 1) s = (match sL s 3 with | [] => s | j :: r => rAll f (routeS (sN s, sT s, sK s, sM s, va_up (sL s) 3 r) j)) from rfl]
    cases sL s 3 with
    | nil => exact ⟨rfl, rfl, rfl⟩
    | cons j r =>
      obtain ⟨a1, a2, a3⟩ := rAll_st f (routeS (sN s, sT s, sK s, sM s, va_up (sL s) 3 r) j)
      obtain ⟨b1, b2, b3⟩ := routeS_st (sN s, sT s, sK s, sM s, va_up (sL s) 3 r) j
      exact ⟨a1.trans b1, a2.trans b2, a3.trans b3⟩
theorem relW_st {s : St} {i j : Nat} (hi : i < sN s) (ho : ∀ o, tO (sT s i) = some o → o < sN s) : sN s ≤ sN (relW s i j) ∧ sK (relW s i j) = sK s ∧ (good s → good (relW s i j)) := by
  unfold relW
  split
  · exact ⟨Nat.le_refl _, rfl, id⟩
  · rename_i o h
    split
    · have k := keeps.wrap (s := s) (r := mA (sM s j)) (mb := o) (inw := 1 - tI (sT s i)) (ho o h) (fun g => by
        rcases (g i hi).2.1 with q | q <;> rw [q] <;> decide)
      refine ⟨k.2.1, ?_, fun g => k.2.2 g⟩
      show (wrapS s (mA (sM s j)) o (1 - tI (sT s i))).1.2.2.1 = s.2.2.1
      rw [k.1]
    · exact ⟨Nat.le_refl _, rfl, id⟩
def turn2 (s : St) (o : Option Nat) (j : Nat) : St := settleS (wanS (mW (sM s j)).reverse (ansO s o (mV (sM s j)) (mA (sM s j))).1 (ansO s o (mV (sM s j)) (mA (sM s j))).2).1 j (wanS (mW (sM s j)).reverse (ansO s o (mV (sM s j)) (mA (sM s j))).1 (ansO s o (mV (sM s j)) (mA (sM s j))).2).2
def turn1 (s : St) (j : Nat) : St := match tOf s (mT (sM s j)) with
  | some i => if relaysS s i j = true then relayS s i j else turn2 s (some i) j
  | none => turn2 s none j
def turnS (s : St) (x : Int32) : St × Int32 := match ixO 3 x with
  | none => (s, -1)
  | some v => match sL s v with
    | [] => (s, -3)
    | j :: r => (rAll 200 (turn1 (upL s v r) j), nI j)
section TURN
variable {T : fw_T} {w : fw_W} {c : Cfg} {s : St}
theorem keeps_ansO {s : St} {o : Option Nat} {v : Int32} {r : Rf} (hn : sN s ≤ 40) (ho : ∀ i, o = some i → i < sN s) : keeps s (ansO s o v r).1 := by
  cases o with
  | none => exact keeps.rf
  | some i => exact keeps.answer hn (ho i rfl)
theorem Rp.notes (R : Rp w c s) {j : Nat} (hj : j < sK s) : ∀ p, p ∈ mW (sM s j) → p < sN s ∧ ∀ o, tO (sT s p) = some o → o < sN s := by
  intro p hp
  obtain ⟨b, pr, tg, ar, an, m0, -, -, -, -, mk, -⟩ := R.msg hj
  have h1 := mk p hp
  obtain ⟨ek, -⟩ := R.aT h1
  exact ⟨h1, ek.1⟩
set_option maxHeartbeats 4000000 in
theorem m_V_turn (l : Launch) (hT : TOK T) (R : Rp w c s) (g : good s) (x : Int32) : Ct l T y_V_turn W_V_turn rm_V_turn [.inr (some (cO c)), .inl x] w (PI c s (turnS s x)) := by
  refine ct_V_turn rfl (nle rfl) ?_
  intro X hl C E
  have V := hv_V_turn hT
  unfold turnS at E
  refine j_callS C rfl (fc_V_V_isVat V (by decide)) (m_V_isVat _ hT x) rfl rfl (nle rfl) (by decide) (by decide) ?_
  rintro v w' ⟨rfl, rfl⟩
  cases hx : ixO 3 x with
  | none =>
    rw [hx] at E
    refine j_ifF C rfl (by decide) ?_
    exact j_iret C E rfl (Or.inl rfl) (by decide) (by decide) ⟨c, Cext.rf, rfl, R⟩
  | some v =>
    rw [hx] at E
    dsimp only at E
    obtain ⟨hv, rfl⟩ := ixO_lt (by decide) hx
    refine j_ifT C rfl (show fw_cb _ (bI true) 0 = true by decide) ?_
    refine j_get C rfl (fg_V_V_queues V) R.o rfl ?_
    obtain ⟨f, q1, q2⟩ := R.q
    refine j_aaldI C rfl q1 hT.2.2.2.2.1 v rfl hv (by decide) ?_
    rw [q2 v hv]
    cases hl : sL s v with
    | nil =>
      rw [hl] at E
      refine j_callV C rfl (fc_V_L_take V (by decide)) (m_L_take0 _ hT R (i := v) (by omega) hl) rfl rfl (R.line (i := v) (by omega)) (by rw [hT.1]; rfl) (nle rfl) (by decide) (by decide) ?_
      rintro y w' ⟨rfl, rfl⟩
      refine j_ifnn C rfl (fun _ h => by cases h) (fun _ => ?_)
      exact j_iret C E rfl (Or.inl rfl) (by decide) (by decide) ⟨c, Cext.rf, rfl, R⟩
    | cons j r =>
      rw [hl] at E
      dsimp only at E
      have hj : j < sK s := R.LW.2.1 v j (by rw [hl]; exact List.mem_cons_self)
      have hnl := (R.LW.take hl).2
      refine j_callV C rfl (fc_V_L_take V (by decide)) (m_L_take _ hT R (i := v) (by omega) hl) rfl rfl (R.line (i := v) (by omega)) (by rw [hT.1]; rfl) (nle rfl) (by decide) (by decide) ?_
      rintro y w1 ⟨rfl, R1⟩
      have R1 : Rp w1 c (upL s v r) := R1
      have g1 : good (upL s v r) := g
      generalize hs1 : upL s v r = s1 at R1 E g1
      have hj1 : j < sK s1 := by rw [← hs1]; exact hj
      have hnl1 : ∀ q, j ∉ sL s1 q := by rw [← hs1]; exact hnl
      have hc1 : ∀ c', CX s1 c c' → CX s c c' := by rw [← hs1]; exact fun _ h => h
      refine j_ifnn C rfl (fun _ _ => ?_) (fun h => by cases h)
      obtain ⟨b, pr, tg, ar, an, m0, m2, m3, m4, m5, mk, ml, mS, -⟩ := R1.msg hj1
      refine j_get C rfl (fg_V_M_target V) m0 rfl ?_
      refine j_callV C rfl (fc_V_V_thingOf V (by decide)) (m_V_thingOf _ hT R1 m2) rfl rfl R1.o (by rw [hT.1]; rfl) (nle rfl) (by decide) (by decide) ?_
      rintro y w' ⟨rfl, rfl⟩
      have fin : ∀ (w2 : fw_W) (c2 : Cfg) (s2 : St) (z : Option fw_V) (kk nn : Nat), Rp w2 c2 s2 → CX s1 c c2 → hmOK s2 → sK s2 = sK s1 → turn1 s1 j = s2 → kk ≤ 30 → nn ≤ 170 → J T G_V_turn X 72 [some (.inr (some (cO c))), some (.inl (nI v)), some (.inr (some (cM c j))), z] [] w2 kk nn := by
        intro w2 c2 s2 z kk nn R2 hc hH hk ht hkk hnn
        rw [ht] at E
        rw [cO_eq hc, ← (hc.2.2.1 j hj1).1]
        refine j_callV C rfl (fc_V_V_routeAll V (by decide)) (m_V_routeAll _ hT R2 hH) rfl rfl R2.o (by rw [hT.1]; rfl) (nle rfl) (by show kk + 0 ≤ 30; omega) (by show nn + 0 ≤ 170; omega) ?_
        rintro y w3 ⟨rfl, R3⟩
        obtain ⟨b', pr', tg', ar', an', p0, -⟩ := R3.msg (j := j) (by rw [(rAll_st 200 s2).2.2, hk]; exact hj1)
        refine j_get C rfl (fg_V_M_number V) p0 rfl ?_
        exact j_iret C E rfl (Or.inl rfl) (by show kk + 0 ≤ 30; omega) (by show nn + 0 ≤ 170; omega) ⟨c2, hc1 c2 hc, rfl, R3⟩
      have ans : ∀ (o : Option Nat), (∀ i, o = some i → i < sN s1) → turn1 s1 j = turn2 s1 o j → J T G_V_turn X 56 [some (.inr (some (cO c))), some (.inl (nI v)), some (.inr (some (cM c j))), some (.inr (o.map (cT c)))] [] w' 0 0 := by
        intro o ho ht
        refine j_callV C rfl (fc_V_V_answer V (by decide)) (m_V_answer _ hT R1 g1.rv ho hj1) rfl rfl R1.o (by rw [hT.1]; rfl) (nle rfl) (by decide) (by decide) ?_
        rintro y w2 ⟨c2, b2, hc2, rfl, hb2, R2, -⟩
        have k2 := keeps_ansO (s := s1) (o := o) (v := mV (sM s1 j)) (r := mA (sM s1 j)) R1.n40 ho
        generalize ha : ansO s1 o (mV (sM s1 j)) (mA (sM s1 j)) = a at hb2 R2 k2
        have hj2 : j < sK a.1 := by show j < a.1.2.2.1; rw [k2.1]; exact hj1
        have hM2 : sM a.1 = sM s1 := by show a.1.2.2.2.1 = _; rw [k2.1]
        rw [cO_eq hc2, ← (hc2.2.2.1 j hj1).1]
        refine j_callV C rfl (fc_V_V_wrapAsNoted V (by decide)) (m_V_wrapAsNoted _ hT R2 (k2.2.2 g1).rv hb2 hj2) rfl rfl R2.o (by rw [hT.1]; rfl) (nle rfl) (by decide) (by decide) ?_
        rintro y w3 ⟨c3, b3, hc3, rfl, hb3, R3, -⟩
        have k3 := keeps_wan (mW (sM a.1 j)).reverse (s := a.1) (r := a.2) (fun p hp => R2.notes hj2 p (List.mem_reverse.mp hp))
        have k23 := k2.tr k3
        rw [cO_eq hc3, ← (hc3.2.2.1 j hj2).1]
        have hj3 : j < sK (wanS (mW (sM a.1 j)).reverse a.1 a.2).1 := by show j < (wanS (mW (sM a.1 j)).reverse a.1 a.2).1.2.2.1; rw [k23.1]; exact hj1
        refine j_callV C rfl (fc_V_V_settle V (by decide)) (m_V_settle _ hT R3 hj3 hb3) rfl rfl R3.o (by rw [hT.1]; rfl) (nle rfl) (by decide) (by decide) ?_
        rintro y w4 ⟨rfl, R4⟩
        have hk2 : sK a.1 = sK s1 := by
          show a.1.2.2.1 = _
          rw [k2.1]
        have hc13 : CX s1 c c3 := hc2.tr hc3 k2.2.1 (by omega)
        rw [(hc3.2.2.1 j hj2).1, (hc2.2.2.1 j hj1).1, ← cO_eq hc3, ← cO_eq hc2]
        refine fin w4 c3 _ _ _ _ R4 hc13 ((k23.2.2 g1).hm.of rfl rfl) ?_ ?_ (by decide) (by decide)
        · show sK (wanS (mW (sM a.1 j)).reverse a.1 a.2).1 = sK s1
          show (wanS (mW (sM a.1 j)).reverse a.1 a.2).1.2.2.1 = _
          rw [k23.1]
        · rw [ht]
          unfold turn2
          rw [ha, hM2]
      cases ht : tOf s1 (mT (sM s1 j)) with
      | none =>
        refine j_ifnull C rfl (fun _ => ?_) (fun _ h => by cases h)
        exact ans none (fun i h => by cases h) (by unfold turn1; rw [ht])
      | some i =>
        have hi : i < sN s1 := tOf_lt R1.n40 ht
        refine j_ifnull C rfl (fun h => by cases h) (fun _ _ => ?_)
        refine j_callS C rfl (fc_V_V_relays V (by decide)) (m_V_relays _ hT R1 g1.rv hi hj1) rfl rfl (nle rfl) (by decide) (by decide) ?_
        rintro y w' ⟨rfl, rfl⟩
        cases hr : relaysS s1 i j with
        | false =>
          refine j_ifT C rfl (by decide) ?_
          exact ans (some i) (fun i' h => by cases h; exact hi) (by unfold turn1; rw [ht]; dsimp only; rw [if_neg (by rw [hr]; decide)])
        | true =>
          refine j_ifF C rfl (by decide) ?_
          obtain ⟨hcut, hkk⟩ := of_decide_eq_true hr
          obtain ⟨ek, -⟩ := R1.aT hi
          cases hto : tO (sT s1 i) with
          | none =>
            exfalso
            unfold cut at hcut
            rw [hto] at hcut
            exact absurd (show (1 : Int32) = 0 from hcut) (by decide)
          | some o =>
            refine j_callV C rfl (fc_V_V_relay V (by decide)) (m_V_relay _ hT R1 g1.rv hi hj1 hto (fun h10 => hkk.elim (fun h2 => by rw [h10] at h2; exact absurd h2 (by decide)) (fun z => z.2)) hnl1) rfl rfl R1.o (by rw [hT.1]; rfl) (nle rfl) (by decide) (by decide) ?_
            rintro y w2 ⟨rfl, c2, hc2, R2⟩
            refine j_goto C rfl ?_
            obtain ⟨r1, r2, r3⟩ := relW_st (s := s1) (i := i) (j := j) hi ek.1
            exact fin w2 c2 _ _ _ _ R2 hc2 ((r3 g1).hm.of rfl rfl) r2 (by unfold turn1; rw [ht]; dsimp only; rw [if_pos hr]) (by decide) (by decide)
end TURN
