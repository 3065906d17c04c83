/-! send. -/
def argS (s : St) (i : Nat) (ar : Int32) : Rf := match ixO 4 ar with
  | some p => tS (sT s i) p
  | none => rN
abbrev newM (v : Int32) (t a : Rf) : Ms := (v, t, a, none, 0, [])
def send0 (s : St) (i q : Nat) (v ar : Int32) : St := (sN s, sT s, sK s + 1, va_up (sM s) (sK s) (newM v (tS (sT s i) q) (argS s i ar)), sL s)
def send1 (s : St) (i q : Nat) (v ar rs : Int32) : St := match ixO 4 rs with
  | some p => slotS (send0 s i q v ar) i p (3, nI (sK s))
  | none => send0 s i q v ar
def sOK (x : Int32) : Bool := decide (x = -1) || (ixO 4 x).isSome
def sendS (s : St) (a tg v ar rs : Int32) : St × Int32 := match cIx s a with
  | none => (s, -1)
  | some i => match ixO 4 tg with
    | none => (s, -1)
    | some q => match ixO 16 v with
      | none => (s, -1)
      | some _ => if sOK ar = true then (if sOK rs = true then (if sK s < 200 then (rAll 200 (upL (send1 s i q v ar rs) 3 (sL s 3 ++ [sK s])), nI (sK s)) else (s, -2)) else (s, -1)) else (s, -1)
section SEND
variable {T : fw_T} {w : fw_W} {c : Cfg} {s : St}
theorem send1_st {s : St} {i q : Nat} {v ar rs : Int32} : sN (send1 s i q v ar rs) = sN s ∧ sK (send1 s i q v ar rs) = sK s + 1 ∧ sL (send1 s i q v ar rs) = sL s := by
  unfold send1
  split <;> exact ⟨rfl, rfl, rfl⟩
theorem send1_good {s : St} {i q : Nat} {v ar rs : Int32} (hi : i < sN s) (g : good s) : good (send1 s i q v ar rs) := by
  unfold send1
  split
  · intro j hj
    show goodT (va_up (sT s) i _ j)
    by_cases h : j = i
    · rw [h, va_up_self]; exact g i hi
    · rw [va_up_ne _ _ h]; exact g j hj
  · exact g
set_option maxHeartbeats 4000000 in
theorem m_V_send (l : Launch) (hT : TOK T) (R : Rp w c s) (g : good s) (a tg v ar rs : Int32) : Ct l T y_V_send W_V_send rm_V_send [.inr (some (cO c)), .inl a, .inl tg, .inl v, .inl ar, .inl rs] w (PI c s (sendS s a tg v ar rs)) := by
  refine ct_V_send rfl (nle rfl) ?_
  intro X hl C E
  have V := hv_V_send hT
  have hk := R.k200
  unfold sendS at E
  refine j_callV C rfl (fc_V_V_cellAt V (by decide)) (m_V_cellIx _ hT R a) rfl rfl R.o (by rw [hT.1]; rfl) (nle rfl) (by decide) (by decide) ?_
  rintro y w' ⟨rfl, rfl⟩
  cases hx : cIx s a with
  | none =>
    rw [hx] at E
    refine j_ifnull C rfl (fun _ => ?_) (fun _ h => by cases h)
    exact j_iret C E rfl (Or.inl rfl) (by decide) (by decide) ⟨c, Cext.rf, rfl, R⟩
  | some i =>
    rw [hx] at E
    dsimp only at E
    have hi := cIx_lt R.n40 hx
    obtain ⟨ek, sf, hd, f, e0, e1, e2, e3, e4⟩ := R.aT hi
    refine j_ifnull C rfl (fun h => by cases h) (fun _ _ => ?_)
    refine j_callS C rfl (fc_V_V_isSlot V (by decide)) (m_V_isSlot _ hT tg) rfl rfl (nle rfl) (by decide) (by decide) ?_
    rintro y w' ⟨rfl, rfl⟩
    cases hq0 : ixO 4 tg with
    | none =>
      rw [hq0] at E
      refine j_ifT C rfl (by decide) ?_
      exact j_iret C E rfl (Or.inl rfl) (by decide) (by decide) ⟨c, Cext.rf, rfl, R⟩
    | some q =>
      rw [hq0] at E
      dsimp only at E
      obtain ⟨hq, rfl⟩ := ixO_lt (by decide) hq0
      refine j_ifF C rfl (show fw_cb _ (bI true) 0 = false by decide) ?_
      rcases ixO_cases 16 (by decide) v with ⟨h, e⟩ | ⟨h0, h, e⟩ | ⟨vn, hvn, rfl, h0, h, e⟩ <;> rw [e] at E
      · refine j_ifT C rfl (fw_cb_iff.mpr h) ?_
        exact j_iret C E rfl (Or.inl rfl) (by decide) (by decide) ⟨c, Cext.rf, rfl, R⟩
      · refine j_if C rfl (fun z => absurd z h0) (fun _ => ?_)
        refine j_icmp C rfl (fun z => ?_) (fun _ => ?_)
        · exfalso
          have z : v < nI 16 := z
          rw [Int32.lt_iff_toInt_lt] at z
          rw [Int32.le_iff_toInt_le] at h
          omega
        · exact j_iret C E rfl (Or.inl rfl) (by decide) (by decide) ⟨c, Cext.rf, rfl, R⟩
      refine j_if C rfl (fun z => absurd z h0) (fun _ => ?_)
      refine j_icmpT C rfl (fw_cb_iff.mpr (nI_lt hvn (by decide))) ?_
      dsimp only at E
      generalize hvv : nI vn = v at E
      refine j_callS C rfl (fc_V_V_isSlotOrNone V (by decide)) (m_V_isSlotOrNone _ hT ar) rfl rfl (nle rfl) (by decide) (by decide) ?_
      rintro y w' ⟨rfl, rfl⟩
      rw [show (decide (ar = -1) || (ixO 4 ar).isSome) = sOK ar from rfl]
      cases har : sOK ar with
      | false =>
        rw [har] at E
        refine j_ifT C rfl (by decide) ?_
        exact j_iret C E rfl (Or.inl rfl) (by decide) (by decide) ⟨c, Cext.rf, rfl, R⟩
      | true =>
      rw [har, if_pos rfl] at E
      refine j_ifF C rfl (by decide) ?_
      refine j_callS C rfl (fc_V_V_isSlotOrNone V (by decide)) (m_V_isSlotOrNone _ hT rs) rfl rfl (nle rfl) (by decide) (by decide) ?_
      rintro y w' ⟨rfl, rfl⟩
      rw [show (decide (rs = -1) || (ixO 4 rs).isSome) = sOK rs from rfl]
      cases hrs : sOK rs with
      | false =>
        rw [hrs] at E
        refine j_ifF C rfl (by decide) ?_
        exact j_iret C E rfl (Or.inl rfl) (by decide) (by decide) ⟨c, Cext.rf, rfl, R⟩
      | true =>
      rw [hrs, if_pos rfl] at E
      refine j_ifT C rfl (by decide) ?_
      refine j_get C rfl (fg_V_V_sentCount V) R.o rfl ?_
      by_cases h200 : sK s < 200
      · rw [if_pos h200] at E
        refine j_icmpT C rfl (fw_cb_iff.mpr (show nI (sK s) < nI 200 from nI_lt h200 (by decide))) ?_
        obtain ⟨tga, ht1, ht2⟩ := e4 q hq
        have after : ∀ at', IsR w' at' (argS s i ar) → J T G_V_send X 83 [some (.inr (some (cO c))), some (.inl a), some (.inl (nI q)), some (.inl v), some (.inl ar), some (.inl rs), some (.inr (some (cT c i))), none, none] [.inr (some at')] w' 0 0 := by
          intro at' hat
          refine j_new C rfl (fn_V_M V) (by decide) (by decide) (fun p hp => ?_)
          refine j_get C rfl (fg_V_V_sentCount V) (up_new R.o hp) rfl ?_
          refine j_get C rfl (fg_V_H_slots V) (up_new e0 hp) rfl ?_
          refine j_aaldI C rfl (up_new e3 hp) hT.2.1 q rfl hq (by decide) ?_
          rw [ht1]
          refine j_callI C rfl (fc_V_M_init V (by decide)) (m_M_init _ hT (b := p) (tg := tga) (ar := at') (x := nI (sK s)) (v := v) (va_up_self _ _ _)) rfl rfl (nle rfl) (by decide) (by decide) ?_
          rintro y w1 ⟨rfl, ql, qp, pr, hql, hqp, hm1, hb, hL1, hP1, hpr⟩
          have hmono : ∀ a e, w' a = some e → w1 a = some e := fun a e h => hm1 a e (ne_new h hp) (up_new h hp)
          have hql0 : w' ql = none := by
            cases h : w' ql with
            | none => rfl
            | some e => rw [up_new h hp] at hql; cases hql
          have hqp0 : w' qp = none := by
            cases h : w' qp with
            | none => rfl
            | some e => rw [up_new h hp] at hqp; cases hqp
          obtain ⟨bh, lf, R0, hL, hW⟩ := id R
          have RK := R0.mono hmono
          refine j_get C rfl (fg_V_V_sent V) RK.1 rfl ?_
          refine j_get C rfl (fg_V_V_sentCount V) RK.1 rfl ?_
          refine j_aastI C rfl RK.2.2.2.2.1 hT.2.2.2.1 (sK s) rfl h200 (by decide) (put_obj hT hb rfl) ?_
          have hcMA : (Sum.inl (aM, 200, Sum.inr (va_up (fun j => if j < sK s then some (cM c j) else none) (sK s) (some p))) : fw_E) = cellMA (cAddM c (sK s) p qp ql) (sK s + 1) := by
            unfold cellMA
            congr 4
            funext j
            by_cases h1 : j = sK s
            · subst h1
              rw [va_up_self, if_pos (by omega)]
              exact congrArg some (va_up_self _ _ _).symm
            · rw [va_up_ne _ _ h1]
              by_cases h2 : j < sK s
              · rw [if_pos h2, if_pos (by omega)]
                exact congrArg some (va_up_ne _ _ h1).symm
              · rw [if_neg h2, if_neg (by omega)]
          rw [hcMA]
          have o2 : va_up w1 (cMA c) (some (cellMA (cAddM c (sK s) p qp ql) (sK s + 1))) (cO c) = some (cellO c (sN s) (sK s)) := up_ne RK.2.2.2.2.1 RK.1 (by simp [cellMA, cellO])
          refine j_get C rfl (fg_V_V_sentCount V) o2 rfl ?_
          refine j_putE C rfl (fp_V_V_sentCount V) o2 (nlt rfl) (fit_i _) (cellO (cAddM c (sK s) p qp ql) (sN s) (sK s + 1)) (by
            unfold cellO
            rw [← nI_1, show cL (cAddM c (sK s) p qp ql) 3 = cL c 3 from va_up_ne _ _ (by omega)]
            rfl) ?_
          have hcm : cellM (cAddM c (sK s) p qp ql) (sK s) (newM v (tS (sT s i) q) (argS s i ar)) none pr tga at' none = .inr (kM, [.inl (nI (sK s)), .inl v, .inr (some pr), .inr (some ql), .inr (some tga), .inr (some at'), .inr none, .inl 0, .inr none, .inr (some qp), .inl 0]) := by
            have e1 : cL (cAddM c (sK s) p qp ql) (4 + sK s) = ql := va_up_self _ _ _
            have e2 : cP (cAddM c (sK s) p qp ql) (sK s) = qp := va_up_self _ _ _
            unfold cellM
            rw [e1, e2]
            rfl
          have RP := RK.pushM h200 (q := p) (qp := qp) (ql := ql) (pr := pr) (tg := tga) (ar := at') (an := none) (m := newM v (tS (sT s i) q) (argS s i ar)) (b := none) (l := (none, none, 0)) (by rw [hcm]; exact hb) ⟨fun x h => (by cases h), fun x h => (by cases h), Nat.zero_le _⟩ hpr (hmono _ _ ht2) (hmono _ _ hat) (Or.inl ⟨rfl, rfl⟩) (by rw [hP1]; rfl) hL1 ⟨fun x h => (by cases h), fun x h => (by cases h)⟩ (fun j hj e => by
            obtain ⟨_, _, _, _, _, _, _, _, _, _, g5⟩ := R0.aM hj
            rw [e, hqp0] at g5
            cases g5) (fun j hj e => by
            have g5 := (R0.aL hj).1
            rw [e, hql0] at g5
            cases g5)
          have hLn : ∀ j, j < 4 + (sK s + 1) → lnOK (va_up bh (sK s) none) (sL s j) (va_up lf (4 + sK s) (none, none, 0) j) := by
            intro j hj
            by_cases h1 : j = 4 + sK s
            · subst h1
              rw [va_up_self, hW.2.2.2 _ (Nat.le_refl _)]
              exact ln_nil _
            · rw [va_up_ne _ _ h1]
              refine ln_other (hL j (by omega)) (fun x hx => va_up_ne _ _ ?_)
              have := hW.2.1 j x hx
              omega
          have hWn : LnW (sK s + 1) (sL s) := ⟨hW.1, fun j x hx => Nat.lt_succ_of_lt (hW.2.1 j x hx), hW.2.2.1, fun j hj => hW.2.2.2 j (by omega)⟩
          have R1 : Rp _ (cAddM c (sK s) p qp ql) (send0 s i q v ar) := ⟨_, _, RP, hLn, hWn⟩
          have hcx : CX s c (cAddM c (sK s) p qp ql) := cAddM_ext p qp ql
          have hcp : cM (cAddM c (sK s) p qp ql) (sK s) = p := va_up_self _ _ _
          generalize hC' : cAddM c (sK s) p qp ql = c' at R1 hcx hcp ⊢
          generalize va_up (va_up w1 (cMA c) (some (cellMA c' (sK s + 1)))) (cO c) (some (cellO c' (sN s) (sK s + 1))) = w2 at R1 ⊢
          have fin : ∀ (w3 : fw_W), Rp w3 c' (send1 s i q v ar rs) → J T G_V_send X 148 [some (.inr (some (cO c))), some (.inl a), some (.inl (nI q)), some (.inl v), some (.inl ar), some (.inl rs), some (.inr (some (cT c i))), some (.inr (some at')), some (.inr (some p))] [] w3 4 24 := by
            intro w3 R3
            obtain ⟨t1, t2, t3⟩ := send1_st (s := s) (i := i) (q := q) (v := v) (ar := ar) (rs := rs)
            have ho := R3.o
            rw [← cO_eq hcx] at ho
            refine j_get C rfl (fg_V_V_unrouted V) ho rfl ?_
            rw [← hcp]
            refine j_callV C rfl (fc_V_L_join V (by decide)) (m_L_join _ hT R3 (i := 3) (m := sK s) (by omega) (by rw [t2]; omega) (by rw [t3]; exact fun z hz => absurd (hW.2.1 z _ hz) (Nat.lt_irrefl _))) rfl rfl (R3.line (i := 3) (by omega)) (by rw [hT.1]; rfl) (nle rfl) (by decide) (by decide) ?_
            rintro y w4 ⟨rfl, R4⟩
            have R4 : Rp w4 c' (upL (send1 s i q v ar rs) 3 (sL (send1 s i q v ar rs) 3 ++ [sK s])) := R4
            rw [show sL (send1 s i q v ar rs) 3 = sL s 3 from congrFun t3 3] at R4
            rw [cO_eq hcx]
            refine j_callV C rfl (fc_V_V_routeAll V (by decide)) (m_V_routeAll _ hT R4 ((send1_good hi g).hm.of rfl rfl)) rfl rfl R4.o (by rw [hT.1]; rfl) (nle rfl) (by decide) (by decide) ?_
            rintro y w5 ⟨rfl, R5⟩
            obtain ⟨b', pr', tg', ar', an', p0, -⟩ := R5.msg (j := sK s) (by rw [(rAll_st 200 _).2.2]; show sK s < sK (send1 s i q v ar rs); rw [t2]; omega)
            refine j_get C rfl (fg_V_M_number V) p0 rfl ?_
            exact j_iret C E rfl (Or.inl rfl) (by decide) (by decide) ⟨c', hcx, rfl, R5⟩
          by_cases hrm : rs = -1
          · refine j_icmp C rfl (fun _ => ?_) (fun z => absurd hrm z)
            refine fin w2 ?_
            unfold send1
            rw [hrm, show ixO 4 (-1) = none by decide]
            exact R1
          · refine j_icmp C rfl (fun z => absurd z hrm) (fun _ => ?_)
            have hsome : (ixO 4 rs).isSome = true := by
              unfold sOK at hrs
              rw [decide_eq_false hrm, Bool.false_or] at hrs
              exact hrs
            obtain ⟨pp, hpp⟩ := Option.isSome_iff_exists.mp hsome
            obtain ⟨hp4, rfl⟩ := ixO_lt (by decide) hpp
            obtain ⟨ek1, sf1, hd1, f1, g0, g1, g2, g3, g4⟩ := R1.aT (i := i) hi
            rw [(hcx.2.1 i hi).1] at g0
            refine j_get C rfl (fg_V_H_slots V) g0 rfl ?_
            obtain ⟨bb, ekm, pr1, tg1, ar1, an1, n0, n1, -⟩ := R1.aM (j := sK s) (Nat.lt_succ_self _)
            rw [hcp] at n0
            refine j_get C rfl (fg_V_M_promise V) n0 rfl ?_
            refine j_aastI C rfl g3 hT.2.1 pp rfl hp4 (by decide) (put_ref hT n1) ?_
            refine fin _ ?_
            unfold send1
            rw [hpp]
            exact R1.setS hi g3 n1
        by_cases ham : ar = -1
        · refine j_icmp C rfl (fun z => absurd ham z) (fun _ => ?_)
          refine j_get C rfl (fg_V_V_nothing V) R.o rfl ?_
          refine j_goto C rfl ?_
          refine after _ ?_
          unfold argS
          rw [ham, show ixO 4 (-1) = none by decide]
          exact R.nothing
        · refine j_icmp C rfl (fun _ => ?_) (fun z => absurd (Classical.not_not.mp z) ham)
          have hsome : (ixO 4 ar).isSome = true := by
            unfold sOK at har
            rw [decide_eq_false ham, Bool.false_or] at har
            exact har
          obtain ⟨pp, hpp⟩ := Option.isSome_iff_exists.mp hsome
          obtain ⟨hp4, rfl⟩ := ixO_lt (by decide) hpp
          refine j_get C rfl (fg_V_H_slots V) e0 rfl ?_
          refine j_aaldI C rfl e3 hT.2.1 pp rfl hp4 (by decide) ?_
          obtain ⟨b', hb1, hb2⟩ := e4 pp hp4
          rw [hb1]
          refine after b' ?_
          unfold argS
          rw [hpp]
          exact hb2
      · rw [if_neg h200] at E
        refine j_icmp C rfl (fun z => absurd z (nI_nlt (show 200 ≤ sK s by omega) (by omega))) (fun _ => ?_)
        exact j_iret C E rfl (Or.inl rfl) (by decide) (by decide) ⟨c, Cext.rf, rfl, R⟩
end SEND
