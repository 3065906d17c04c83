/-! takeOver, settle, route, routeAll. -/
section TKO
variable {T : fw_T} {c : Cfg} {n k : Nat} {th : Nat → Th} {ms : Nat → Ms}
set_option maxHeartbeats 1000000 in
theorem m_L_takeOver (l : Launch) (hT : TOK T) {w : fw_W} {ln : Nat → List Nat} (R : RepL w c n th k ms ln) {i j : Nat} (hi : i < 4 + k) (hj : j < 4 + k) (hij : i ≠ j) : Ct l T y_L_takeOver W_L_takeOver rm_L_takeOver [.inr (some (cL c i)), .inr (some (cL c j))] w (fun r w' => r = none ∧ RepL w' c n th k ms (va_up (va_up ln i (ln i ++ ln j)) j [])) := by
  refine ct_L_takeOver rfl (nle rfl) ?_
  intro X hl C E
  have V := hv_L_takeOver hT
  have loop : ∀ (rest : List Nat) (w : fw_W) (lm : Nat → List Nat) (z : Option fw_V), RepL w c n th k ms lm → lm j = rest → va_up (va_up lm i (lm i ++ rest)) j [] = va_up (va_up ln i (ln i ++ ln j)) j [] → J T G_L_takeOver X 5 [some (.inr (some (cL c i))), some (.inr (some (cL c j))), some (.inl (nI rest.length)), z] [] w 0 0 := by
    intro rest
    induction rest with
    | nil =>
      intro w lm z R hr he
      refine j_ifT C rfl (by decide) ?_
      have e2 : va_up (va_up lm i (lm i ++ [])) j [] = lm := by
        rw [List.append_nil, va_up_same]
        exact va_up_eq hr
      rw [e2] at he
      exact j_vret C E rfl rfl (by decide) (by decide) ⟨rfl, by rw [← he]; exact R⟩
    | cons m rest ih =>
      intro w lm z R hr he
      have hLW : LnW k lm := by obtain ⟨_, _, _, _, hW⟩ := R; exact hW
      have hlen : (m :: rest).length < 2 ^ 31 := by
        have := ln_len (hLW.1 j) (fun x hx => hLW.2.1 j x hx)
        rw [hr] at this
        have hk : k ≤ 200 := by obtain ⟨_, _, R, _⟩ := R; exact R.k200
        omega
      have hmk : m < k := hLW.2.1 j m (by rw [hr]; exact List.mem_cons_self)
      have g : ∃ lf0 : Lf, w (cL c j) = some (cellL c lf0) := by obtain ⟨_, lf, R, _⟩ := R; exact ⟨_, (R.aL hj).1⟩
      obtain ⟨lf0, g⟩ := g
      refine j_if C rfl (fun h => absurd h (nI_nle (Nat.succ_pos _) hlen)) (fun _ => ?_)
      refine j_callV C rfl (fc_L_L_take V (by decide)) (m_L_take _ hT R hj hr) rfl rfl g (by rw [hT.1]; rfl) (nle rfl) (by decide) (by decide) ?_
      rintro v w1 ⟨rfl, R1⟩
      refine j_ifnull C rfl (fun h => by cases h) (fun _ _ => ?_)
      have g1 : ∃ lf0 : Lf, w1 (cL c i) = some (cellL c lf0) := by obtain ⟨_, lf, R, _⟩ := R1; exact ⟨_, (R.aL hi).1⟩
      obtain ⟨lf1, g1⟩ := g1
      refine j_callV C rfl (fc_L_L_join V (by decide)) (m_L_join _ hT R1 hi hmk (hLW.take hr).2) rfl rfl g1 (by rw [hT.1]; rfl) (nle rfl) (by decide) (by decide) ?_
      rintro v w2 ⟨rfl, R2⟩
      refine j_goto C rfl ?_
      have hli : va_up lm j rest i = lm i := va_up_ne _ _ hij
      rw [hli] at R2
      have := ih w2 _ (some (.inr (some (cM c m)))) R2 (by rw [va_up_ne _ _ hij.symm, va_up_self]) (by
        rw [← he]
        funext q
        by_cases h1 : q = j
        · subst h1; rw [va_up_self, va_up_self]
        · rw [va_up_ne _ _ h1, va_up_ne _ _ h1]
          by_cases h2 : q = i
          · subst h2; rw [va_up_self, va_up_self, va_up_self, List.append_assoc]; rfl
          · rw [va_up_ne _ _ h2, va_up_ne _ _ h2, va_up_ne _ _ h2, va_up_ne _ _ h1])
      have e : nI (m :: rest).length + -1 = nI rest.length := pk_m1 _
      rw [← e] at this
      exact this
  have g : ∃ lf : Nat → Lf, w (cL c j) = some (cellL c (lf j)) ∧ (lf j).2.2 = nI (ln j).length := by
    obtain ⟨_, lf, R, hL, _⟩ := R
    exact ⟨lf, (R.aL hj).1, by rw [(hL j hj).1]⟩
  obtain ⟨lf, g, g2⟩ := g
  refine j_get C rfl (fg_L_L_length V) g rfl ?_
  refine j_to C 5 rfl ?_
  rw [g2]
  exact loop (ln j) w ln none R rfl rfl
end TKO
/-- the message's answer and place -/
abbrev mAns (m : Ms) (a : Rf) : Ms := (mV m, mT m, mA m, some a, 0, mW m)
abbrev mPl (m : Ms) (p : Int32) : Ms := (mV m, mT m, mA m, mN m, p, mW m)
def ansS (s : St) (j : Nat) (r : Rf) : Rf := if aOf s r = some j then rB else bN r
def settleS (s : St) (j : Nat) (r : Rf) : St := (sN s, sT s, sK s, va_up (sM s) j (mAns (sM s j) (ansS s j r)), va_up (va_up (sL s) 3 (sL s 3 ++ sL s (4 + j))) (4 + j) [])
def routeS (s : St) (j : Nat) : St := match tOf s (mT (sM s j)) with
  | some i => (sN s, sT s, sK s, va_up (sM s) j (mPl (sM s j) 1), va_up (sL s) (tH (sT s i)).toNatClampNeg (sL s (tH (sT s i)).toNatClampNeg ++ [j]))
  | none => match aOf s (mT (sM s j)) with
    | some x => (sN s, sT s, sK s, va_up (sM s) j (mPl (sM s j) 2), va_up (sL s) (4 + x) (sL s (4 + x) ++ [j]))
    | none => settleS s j rB
def rAll : Nat → St → St
  | 0, s => s
  | f + 1, s => match sL s 3 with
    | [] => s
    | j :: r => rAll f (routeS (sN s, sT s, sK s, sM s, va_up (sL s) 3 r) j)
def hmOK (s : St) : Prop := ∀ i, i < sN s → ∃ h, h < 3 ∧ tH (sT s i) = nI h
section RTE
variable {T : fw_T} {w : fw_W} {c : Cfg} {s : St}
theorem aw_iff (R : Rp w c s) {j : Nat} (hj : j < sK s) {o : Option Nat} (ho : ∀ x, o = some x → x < sK s) : o.map (cM c) = some (cM c j) ↔ o = some j := by
  constructor
  · intro h
    cases o with
    | none => cases h
    | some x =>
      have h1 : cM c x = cM c j := Option.some.inj h
      obtain ⟨bh, lf, R, -⟩ := R
      rw [R.minj (ho x rfl) hj h1]
  · intro h; rw [h]; rfl
set_option maxHeartbeats 2000000 in
theorem m_V_settle (l : Launch) (hT : TOK T) (R : Rp w c s) {j a : Nat} {r : Rf} (hj : j < sK s) (ha : IsR w a r) : Ct l T y_V_settle W_V_settle rm_V_settle [.inr (some (cO c)), .inr (some (cM c j)), .inr (some a)] w (fun v w' => v = none ∧ Rp w' c (settleS s j r)) := by
  refine ct_V_settle rfl (nle rfl) ?_
  intro X hl C E
  have V := hv_V_settle hT
  have fin : ∀ b, IsR w b (ansS s j r) → J T G_V_settle X 22 [some (.inr (some (cO c))), some (.inr (some (cM c j))), some (.inr (some a))] [.inr (some b), .inr (some (cM c j))] w 0 0 := by
    intro b hb
    obtain ⟨bh, lf, RK, hL, hW⟩ := R
    obtain ⟨ek, pr, tg, ar, an, e0, e1, e2, e3, e4, e5⟩ := RK.aM hj
    refine j_putE C rfl (fp_V_M_answer V) e0 (nlt rfl) (fit_o _ _) (cellM c j (mV (sM s j), mT (sM s j), mA (sM s j), some (ansS s j r), mP (sM s j), mW (sM s j)) (bh j) pr tg ar (some b)) rfl ?_
    refine j_putE C rfl (fp_V_M_place V) (va_up_self _ _ _) (nlt rfl) (fit_i _) (cellM c j (mAns (sM s j) (ansS s j r)) (bh j) pr tg ar (some b)) rfl ?_
    rw [bx_uu]
    have R1 := RK.setM hj (m := mAns (sM s j) (ansS s j r)) (b := bh j) (an := some b) ek e1 e2 e3 (Or.inr ⟨b, _, rfl, rfl, hb⟩) rfl
    rw [va_up_same bh] at R1
    have R2 : RepL _ c (sN s) (sT s) (sK s) (va_up (sM s) j (mAns (sM s j) (ansS s j r))) (sL s) := ⟨bh, lf, R1, hL, hW⟩
    refine j_get C rfl (fg_V_V_unrouted V) R1.1 rfl ?_
    refine j_get C rfl (fg_V_M_waiters V) (va_up_self _ _ _) rfl ?_
    refine j_callV C rfl (fc_V_L_takeOver V (by decide)) (m_L_takeOver _ hT R2 (i := 3) (j := 4 + j) (by omega) (by omega) (by omega)) rfl rfl (R1.aL (i := 3) (by omega)).1 (by rw [hT.1]; rfl) (nle rfl) (by decide) (by decide) ?_
    rintro v w' ⟨rfl, R3⟩
    exact j_vret C E rfl rfl (by decide) (by decide) ⟨rfl, R3⟩
  refine j_callV C rfl (fc_V_V_awaitedBy V (by decide)) (m_V_awaitedBy _ hT R ha) rfl rfl R.o (by rw [hT.1]; rfl) (nle rfl) (by decide) (by decide) ?_
  rintro v w' ⟨rfl, rfl⟩
  refine j_acmp C rfl (fun h => ?_) (fun h => ?_)
  · have hne : ¬ aOf s r = some j := fun q => h ((aw_iff R hj (fun x hx => aOf_lt R.k200 hx)).mpr q)
    refine j_callV C rfl (fc_V_V_brokenIfNothing V (by decide)) (m_V_brokenIfNothing _ hT R ha) rfl rfl R.o (by rw [hT.1]; rfl) (nle rfl) (by decide) (by decide) ?_
    rintro v w' ⟨rfl, b, rfl, hb⟩
    exact fin b (by unfold ansS; rw [if_neg hne]; exact hb)
  · have heq : aOf s r = some j := (aw_iff R hj (fun x hx => aOf_lt R.k200 hx)).mp (Classical.not_not.mp h)
    refine j_get C rfl (fg_V_V_broken V) R.o rfl ?_
    refine j_goto C rfl ?_
    exact fin _ (by unfold ansS; rw [if_pos heq]; exact R.broken)
set_option maxHeartbeats 2000000 in
theorem m_V_route (l : Launch) (hT : TOK T) (R : Rp w c s) (hH : hmOK s) {j : Nat} (hj : j < sK s) (hn : ∀ q, j ∉ sL s q) : Ct l T y_V_route W_V_route rm_V_route [.inr (some (cO c)), .inr (some (cM c j))] w (fun v w' => v = none ∧ Rp w' c (routeS s j)) := by
  refine ct_V_route rfl (nle rfl) ?_
  intro X hl C E
  have V := hv_V_route hT
  obtain ⟨bh, lf, RK, hL, hW⟩ := id R
  obtain ⟨ek, pr, tg, ar, an, e0, e1, e2, e3, e4, e5⟩ := RK.aM hj
  refine j_get C rfl (fg_V_M_target V) e0 rfl ?_
  refine j_callV C rfl (fc_V_V_thingOf V (by decide)) (m_V_thingOf _ hT R e2) rfl rfl R.o (by rw [hT.1]; rfl) (nle rfl) (by decide) (by decide) ?_
  rintro v w' ⟨rfl, rfl⟩
  refine j_get C rfl (fg_V_M_target V) e0 rfl ?_
  refine j_callV C rfl (fc_V_V_awaitedBy V (by decide)) (m_V_awaitedBy _ hT R e2) rfl rfl R.o (by rw [hT.1]; rfl) (nle rfl) (by decide) (by decide) ?_
  rintro v w' ⟨rfl, rfl⟩
  cases ht : tOf s (mT (sM s j)) with
  | some i =>
    have hi : i < sN s := tOf_lt R.n40 ht
    obtain ⟨h, h3, hh⟩ := hH i hi
    refine j_ifnull C rfl (fun h => by cases h) (fun _ _ => ?_)
    refine j_putE C rfl (fp_V_M_place V) e0 (nlt rfl) (fit_i _) (cellM c j (mPl (sM s j) 1) (bh j) pr tg ar an) rfl ?_
    have R1 := RK.setM hj (m := mPl (sM s j) 1) (b := bh j) (an := an) ek e1 e2 e3 e4 rfl
    rw [va_up_same bh] at R1
    have R2 : RepL _ c (sN s) (sT s) (sK s) (va_up (sM s) j (mPl (sM s j) 1)) (sL s) := ⟨bh, lf, R1, hL, hW⟩
    refine j_get C rfl (fg_V_V_queues V) R1.1 rfl ?_
    obtain ⟨gk, sf, hd, f, g0, -⟩ := R1.aT hi
    refine j_get C rfl (fg_V_H_home V) g0 rfl ?_
    obtain ⟨f', q1, q2⟩ := R1.2.2.2.2.2.1
    refine j_aaldI C rfl q1 hT.2.2.2.2.1 h hh h3 (by decide) ?_
    rw [q2 h h3]
    refine j_callV C rfl (fc_V_L_join V (by decide)) (m_L_join _ hT R2 (i := h) (m := j) (by omega) hj hn) rfl rfl (R1.aL (i := h) (by omega)).1 (by rw [hT.1]; rfl) (nle rfl) (by decide) (by decide) ?_
    rintro v w' ⟨rfl, R3⟩
    refine j_goto C rfl ?_
    have hcl : (tH (sT s i)).toNatClampNeg = h := by rw [hh]; exact nI_clamp (by omega)
    exact j_vret C E rfl rfl (by decide) (by decide) ⟨rfl, by unfold routeS; rw [ht]; dsimp only; rw [hcl]; exact R3⟩
  | none =>
    refine j_ifnull C rfl (fun _ => ?_) (fun _ h => by cases h)
    cases hx : aOf s (mT (sM s j)) with
    | some x =>
      have hxk : x < sK s := aOf_lt R.k200 hx
      refine j_ifnull C rfl (fun h => by cases h) (fun _ _ => ?_)
      refine j_putE C rfl (fp_V_M_place V) e0 (nlt rfl) (fit_i _) (cellM c j (mPl (sM s j) 2) (bh j) pr tg ar an) rfl ?_
      have R1 := RK.setM hj (m := mPl (sM s j) 2) (b := bh j) (an := an) ek e1 e2 e3 e4 rfl
      rw [va_up_same bh] at R1
      have R2 : RepL _ c (sN s) (sT s) (sK s) (va_up (sM s) j (mPl (sM s j) 2)) (sL s) := ⟨bh, lf, R1, hL, hW⟩
      obtain ⟨gk, pr', tg', ar', an', g0, -⟩ := R1.aM hxk
      refine j_get C rfl (fg_V_M_waiters V) g0 rfl ?_
      refine j_callV C rfl (fc_V_L_join V (by decide)) (m_L_join _ hT R2 (i := 4 + x) (m := j) (by omega) hj hn) rfl rfl (R1.aL (i := 4 + x) (by omega)).1 (by rw [hT.1]; rfl) (nle rfl) (by decide) (by decide) ?_
      rintro v w' ⟨rfl, R3⟩
      refine j_goto C rfl ?_
      exact j_vret C E rfl rfl (by decide) (by decide) ⟨rfl, by unfold routeS; rw [ht, hx]; exact R3⟩
    | none =>
      refine j_ifnull C rfl (fun _ => ?_) (fun _ h => by cases h)
      refine j_get C rfl (fg_V_V_broken V) R.o rfl ?_
      refine j_callV C rfl (fc_V_V_settle V (by decide)) (m_V_settle _ hT R hj R.broken) rfl rfl R.o (by rw [hT.1]; rfl) (nle rfl) (by decide) (by decide) ?_
      rintro v w' ⟨rfl, R3⟩
      exact j_vret C E rfl rfl (by decide) (by decide) ⟨rfl, by unfold routeS; rw [ht, hx]; exact R3⟩
theorem routeS_st (s : St) (j : Nat) : sN (routeS s j) = sN s ∧ sT (routeS s j) = sT s ∧ sK (routeS s j) = sK s := by
  unfold routeS
  split
  · exact ⟨rfl, rfl, rfl⟩
  · split
    · exact ⟨rfl, rfl, rfl⟩
    · exact ⟨rfl, rfl, rfl⟩
theorem hmOK.of {s s' : St} (h : hmOK s) (h1 : sN s' = sN s) (h2 : sT s' = sT s) : hmOK s' := fun i hi => by rw [h2]; exact h i (by omega)
set_option maxHeartbeats 2000000 in
theorem m_V_routeAll (l : Launch) (hT : TOK T) (R : Rp w c s) (hH : hmOK s) : Ct l T y_V_routeAll W_V_routeAll rm_V_routeAll [.inr (some (cO c))] w (fun v w' => v = none ∧ Rp w' c (rAll 200 s)) := by
  refine ct_V_routeAll rfl (nle rfl) ?_
  intro X hl C E
  have V := hv_V_routeAll hT
  have loop : ∀ (d p : Nat) (w : fw_W) (s' : St) (z : Option fw_V), p + d = 200 → Rp w c s' → hmOK s' → rAll d s' = rAll 200 s → J T G_V_routeAll X 2 [some (.inr (some (cO c))), some (.inl (nI p)), z] [] w 0 0 := by
    intro d
    induction d with
    | zero =>
      intro p w s' z hp R hH hq
      have hp : p = 200 := by omega
      subst hp
      refine j_icmpT C rfl (by decide) ?_
      exact j_vret C E rfl rfl (by decide) (by decide) ⟨rfl, by rw [← hq]; exact R⟩
    | succ d ih =>
      intro p w s' z hp R hH hq
      refine j_icmp C rfl (fun h => absurd h (nI_ge (show p < 200 by omega) (by decide))) (fun _ => ?_)
      refine j_get C rfl (fg_V_V_unrouted V) R.o rfl ?_
      have g : ∃ lf0 : Lf, w (cL c 3) = some (cellL c lf0) := by obtain ⟨_, lf, R, _⟩ := R; exact ⟨_, (R.aL (i := 3) (by omega)).1⟩
      obtain ⟨lf0, g⟩ := g
      rw [show rAll (d + 1) s' = (match sL s' 3 with | [] => s' | j :: r => rAll d (routeS (sN s', sT s', sK s', sM s', va_up (sL s') 3 r) j)) from rfl] at hq
      cases hl3 : sL s' 3 with
      | nil =>
        rw [hl3] at hq
        refine j_callV C rfl (fc_V_L_take V (by decide)) (m_L_take0 _ hT R (i := 3) (by omega) hl3) rfl rfl g (by rw [hT.1]; rfl) (nle rfl) (by decide) (by decide) ?_
        rintro v w' ⟨rfl, rfl⟩
        refine j_ifnn C rfl (fun _ h => by cases h) (fun _ => ?_)
        exact j_vret C E rfl rfl (by decide) (by decide) ⟨rfl, by rw [← hq]; exact R⟩
      | cons j r =>
        rw [hl3] at hq
        have hLW : LnW (sK s') (sL s') := by obtain ⟨_, _, _, _, hW⟩ := R; exact hW
        have hjk : j < sK s' := hLW.2.1 3 j (by rw [hl3]; exact List.mem_cons_self)
        refine j_callV C rfl (fc_V_L_take V (by decide)) (m_L_take _ hT R (i := 3) (by omega) hl3) rfl rfl g (by rw [hT.1]; rfl) (nle rfl) (by decide) (by decide) ?_
        rintro v w1 ⟨rfl, R1⟩
        have R1 : Rp w1 c (sN s', sT s', sK s', sM s', va_up (sL s') 3 r) := R1
        refine j_ifnn C rfl (fun _ _ => ?_) (fun h => by cases h)
        refine j_callV C rfl (fc_V_V_route V (by decide)) (m_V_route _ hT R1 (hH.of rfl rfl) (j := j) hjk (hLW.take hl3).2) rfl rfl R1.o (by rw [hT.1]; rfl) (nle rfl) (by decide) (by decide) ?_
        rintro v w2 ⟨rfl, R2⟩
        refine j_goto C rfl ?_
        obtain ⟨h1, h2, h3⟩ := routeS_st (sN s', sT s', sK s', sM s', va_up (sL s') 3 r) j
        have := ih (p + 1) w2 _ (some (.inr (some (cM c j)))) (by omega) R2 (hH.of h1 h2) hq
        rw [nI_succ] at this
        exact this
  refine j_to C 2 rfl ?_
  exact loop 200 0 w s none rfl R hH rfl
end RTE
