/-! The reference's turn, beside the other side's. -/
section DTU
variable {T : fw_T} {b : Nat} {A : Nat → Nat} {M : Md} {ph : Nat → Rf} {s : St} {B : Nat}
/-- a vat's queue is the line of those with place 1 and that vat -/
theorem LI.q (S : Sm ph s M) (L : LI ph s M B) {v : Nat} (hv : v < 3) : (∀ j, j ∈ sL s v ↔ j < sK s ∧ M.2 12 j = 1 ∧ M.2 13 j = nI v) ∧ (sL s v).Pairwise (fun a b => M.2 14 a < M.2 14 b) ∧ ∀ j, j ∈ sL s v → -1 < M.2 14 j := by
  obtain ⟨-, h1, h2, h3, S0, h4, h5, h6⟩ := L
  have k200 := S.k200
  have key : ∀ j, j ∈ sL s v ↔ j < sK s ∧ M.2 12 j = 1 ∧ M.2 13 j = nI v := fun j => by
    rw [h1.1 v j]
    constructor
    · rintro ⟨a, c, d⟩
      unfold locM at d
      rcases h3 j a not_noX with q | ⟨q, -, -, u, hu, e⟩ | ⟨q, -, x, hx, e, -⟩
      · rw [q] at d; cases d
      · rw [q, e, if_pos rfl, nI_clamp (by omega)] at d
        cases d
        exact ⟨a, q, e⟩
      · rw [q, e, nI_clamp (by omega)] at d
        simp at d; omega
    · rintro ⟨a, c, d⟩
      exact ⟨a, not_noX, by unfold locM; rw [c, d, if_pos rfl, nI_clamp (by omega)]⟩
  refine ⟨key, h1.2 v, fun j hj => ?_⟩
  obtain ⟨a, c, d⟩ := (key j).mp hj
  have := (h6 j a not_noX (by rw [c]; decide)).1
  rw [Int32.lt_iff_toInt_lt, show (-1 : Int32).toInt = -1 by decide]
  omega
theorem LI.w (S : Sm ph s M) (L : LI ph s M B) {x : Nat} (hx : x < sK s) : (∀ j, j ∈ sL s (4 + x) ↔ j < sK s ∧ M.2 12 j = 2 ∧ M.2 13 j = nI x) ∧ (sL s (4 + x)).Nodup := by
  obtain ⟨-, h1, h2, h3, S0, h4, h5, h6⟩ := L
  have k200 := S.k200
  refine ⟨fun j => ?_, (h1.2 (4 + x)).imp (fun {a b} q e => by subst e; exact Int32.lt_irrefl q)⟩
  rw [h1.1 (4 + x) j]
  constructor
  · rintro ⟨a, c, d⟩
    unfold locM at d
    rcases h3 j a not_noX with q | ⟨q, -, -, u, hu, e⟩ | ⟨q, -, y, hy, e, -⟩
    · rw [q] at d; cases d
    · rw [q, e, if_pos rfl, nI_clamp (by omega)] at d
      have := Option.some.inj d
      omega
    · rw [q, e, nI_clamp (by omega)] at d
      have : y = x := by simp at d; exact d
      subst this
      exact ⟨a, q, e⟩
  · rintro ⟨a, c, d⟩
    exact ⟨a, not_noX, by unfold locM; rw [c, d, nI_clamp (by omega)]; rfl⟩
theorem relW_st2 {s : St} {i j : Nat} : sK (relW s i j) = sK s ∧ sL (relW s i j) = sL s ∧ ∀ j', j' ≠ j → sM (relW s i j) j' = sM s j' := by
  unfold relW
  cases tO (sT s i) with
  | none => exact ⟨rfl, rfl, fun _ _ => rfl⟩
  | some o =>
    dsimp only
    split
    · have h := (wrapS_st (s := s) (r := mA (sM s j)) (mb := o) (inw := 1 - tI (sT s i))).2.2
      have e2 : sM (wrapS s (mA (sM s j)) o (1 - tI (sT s i))).1 = sM s := congrArg (fun z => z.2.1) h
      exact ⟨congrArg (fun z => z.1) h, congrArg (fun z => z.2.2) h, fun j' hj' => by
        show va_up (sM (wrapS s (mA (sM s j)) o (1 - tI (sT s i))).1) j _ j' = _
        rw [va_up_ne _ _ hj', e2]⟩
    · exact ⟨rfl, rfl, fun _ _ => rfl⟩
theorem relayS_mN {s : St} {i j : Nat} : mN (sM (relayS s i j) j) = mN (sM s j) := by
  unfold relayS
  show mN (va_up (sM (relW s i j)) j _ j) = _
  rw [va_up_self]
  show mN (sM (relW s i j) j) = _
  unfold relW
  cases tO (sT s i) with
  | none => rfl
  | some o =>
    dsimp only
    split
    · show mN (va_up (sM (wrapS s (mA (sM s j)) o (1 - tI (sT s i))).1) j _ j) = _
      rw [va_up_self]
    · rfl
set_option maxHeartbeats 1000000 in
theorem m_D_turn (l : Launch) (hT : TOK T) (I : Iv s M B) (hB : B + 200 < 2 ^ 31) (x : Int32) : CtD l T y_D_turn W_D_turn rm_D_turn b A [.inr (some b), .inl x] M (PH1 (turnS s x) (B + 200)) := by
  obtain ⟨ph, S, L⟩ := I
  intro w R
  refine ct_D_turn rfl (nle rfl) ?_
  intro X hl C E
  have V := hv_D_turn hT
  suffices JD T G_D_turn X b A 0 [some (.inr (some b)), some (.inl x), none, none] [] M from this w R
  have n40 := S.n40
  have k200 := S.k200
  unfold turnS at E
  refine jd_callS C rfl (fc_D_D_out V (by decide)) (m_D_outN _ hT x (n := 3) (by decide)) (As := [.inl x, .inl (nI 3)]) rfl rfl (nle rfl) rfl rfl ?_
  cases hx : ixO 3 x with
  | none =>
    rw [hx] at E
    refine jd_ifF C rfl rfl ?_
    exact jd_iret C E rfl (Or.inl rfl) ⟨rfl, ph, S, L.mono (by omega)⟩
  | some v =>
  obtain ⟨hv, rfl⟩ := ixO_lt (by decide) hx
  rw [hx] at E
  dsimp only at E
  refine jd_ifT C rfl rfl ?_
  obtain ⟨lq1, lq2, lq3⟩ := L.q S hv
  refine jd_call C hT rfl (fc_D_D_nth V (by decide)) (m_D_nth _ hT S.hk k200 lq1 lq2 lq3 (B := 0) (by decide)) (As := [.inl 1, .inl (nI v), .inl (nI 0)]) rfl rfl rfl (nle rfl) rfl rfl ?_
  rintro r M ⟨rfl, rfl⟩
  cases hq : sL s v with
  | nil =>
    rw [hq] at E
    refine jd_ifF C rfl rfl ?_
    exact jd_iret C E rfl (Or.inl rfl) ⟨rfl, ph, S, L.mono (by omega)⟩
  | cons j t =>
  rw [hq] at E
  dsimp only at E
  obtain ⟨hj, hp1, hp2⟩ := (lq1 j).mp (by rw [hq]; exact List.mem_cons_self)
  obtain ⟨hjN, hj2⟩ : mN (sM s j) = none ∧ (can ph (mT (sM s j))).1 = 2 := by
    rcases L.2.2.2.1 j hj not_noX with q | ⟨q, a, c, -⟩ | ⟨q, -⟩
    · rw [q] at hp1; cases hp1
    · exact ⟨a, c⟩
    · rw [q] at hp1; cases hp1
  have hmj := S.m hj
  obtain ⟨i, hi, ei⟩ := (hmj.2.2.1.1.can S.hp k200).2.1 hj2
  refine jd_ifT C rfl (fw_cb_iff.mpr (by show (0 : Int32) ≤ nI j; exact nI_pos' (by omega))) ?_
  refine jd_get C rfl (fg_D_D_targetSort V) rfl ?_
  refine jd_ald C hT (f := 16) rfl (by decide) rfl rfl j rfl (by show j < 200; omega) ?_
  refine jd_get C rfl (fg_D_D_target V) rfl ?_
  refine jd_ald C hT (f := 17) rfl (by decide) rfl rfl j rfl (by show j < 200; omega) ?_
  refine jd_call C hT rfl (fc_D_D_look V (by decide)) (m_D_look _ hT S.c2 k200 hmj.2.2.1.2.1) (As := [.inl (M.2 16 j), .inl (M.2 17 j)]) rfl rfl rfl (nle rfl) rfl rfl ?_
  rintro r M' ⟨rfl, rfl⟩
  rw [← hmj.2.2.1.2.2]
  refine jd_get C rfl (fg_D_D_ref V) (u := .inl (nI i)) (by rw [← ei]; rfl) ?_
  -- the message is out of its queue
  have Sp : Sm ph (upL s v t) (mHold M (can ph (mT (sM s j))).1 (can ph (mT (sM s j))).2) := S.hold
  have Lp : LX ph (upL s v t) (mHold M (can ph (mT (sM s j))).1 (can ph (mT (sM s j))).2) (fun i => i = j) (sL (upL s v t)) w0 B := (L.2.pop (i := v) hq).fr rfl (fun _ _ _ => rfl) Fr.rf.hold
  have h3p : sL (upL s v t) 3 = [] := by show va_up (sL s) v t 3 = []; rw [va_up_ne _ _ (by omega)]; exact L.1
  have htp : tOf (upL s v t) (mT (sM (upL s v t) j)) = some i := by
    rw [Sp.tOfE hmj.2.2.1.1, if_pos hj2, ei, nI_clamp (by omega)]
  have hsK : sK (upL s v t) = sK s := rfl
  have hNp : mN (sM (upL s v t) j) = none := hjN
  have hjp : j < sK (upL s v t) := hj
  have hip : i < sN (upL s v t) := hi
  generalize upL s v t = sp at *
  generalize mHold M (can ph (mT (sM s j))).1 (can ph (mT (sM s j))).2 = Mp at *
  refine jd_call C hT rfl (fc_D_D_answers V (by decide)) (m_D_answers _ hT Sp hip hjp) (As := [.inl (nI j), .inl (nI i)]) rfl rfl rfl (nle rfl) rfl rfl ?_
  rintro r M2 ⟨rfl, fr2, q1, q2⟩
  unfold turn1 at E
  rw [htp] at E
  dsimp only at E
  cases hrel : relaysS sp i j with
  | true =>
    rw [if_pos hrel] at E
    refine jd_ifT C rfl rfl ?_
    have S2 := q1 hrel
    obtain ⟨r1, r2, r3⟩ := relW_st2 (s := sp) (i := i) (j := j)
    -- without the line of the unrouted
    obtain ⟨s1, es1⟩ : ∃ s1 : St, s1 = (sN (relayS sp i j), sT (relayS sp i j), sK (relayS sp i j), sM (relayS sp i j), sL sp) := ⟨_, rfl⟩
    have S1 : Sm ph s1 M2 := by rw [es1]; exact S2
    have hK1 : sK s1 = sK sp := by rw [es1]; exact r1
    have hM1 : ∀ j', j' ≠ j → sM s1 j' = sM sp j' := fun j' h => by
      rw [es1]
      show va_up (sM (relW sp i j)) j _ j' = _
      rw [va_up_ne _ _ h]; exact r3 j' h
    have L1 : LX ph s1 M2 (fun i => i = j) (sL s1) w0 B := by
      have : sL s1 = sL sp := by rw [es1]
      rw [this]
      exact Lp.fr hK1 (fun j' _ h => hM1 j' h) fr2
    have h31 : sL s1 3 = [] := by rw [es1]; exact h3p
    have hN1 : mN (sM s1 j) = none := by rw [es1]; exact relayS_mN.trans hNp
    have hj1 : j < sK s1 := by rw [hK1]; exact hjp
    have hC := routeOk S1 hj1 L1 h31 hN1 hB
    have hm1 := S1.m hj1
    have n401 := S1.n40
    rw [hm1.2.2.1.2.2] at hC
    refine jd_call C hT rfl (fc_D_D_route V (by decide)) (m_D_route _ hT S1.c2 S1.k200 hj1 hm1.2.2.1.2.1 (fun z => ?_) hC) (As := [.inl (nI j)]) rfl rfl rfl (nle rfl) rfl rfl ?_
    · rw [← hm1.2.2.1.2.2] at z ⊢
      obtain ⟨o, ho, eo⟩ := (hm1.2.2.1.1.can S1.hp S1.k200).2.1 z
      exact ⟨o, by omega, eo⟩
    · rintro r M5 ⟨rfl, ph', S5, L5⟩
      refine jd_iret C E rfl (Or.inl rfl) ⟨rfl, ph', ?_⟩
      rw [rAll_one (s1 := s1) (j := j) h31 (by
        rw [es1]
        refine Prod.ext rfl (Prod.ext rfl (Prod.ext rfl (Prod.ext rfl ?_)))
        show va_up (sL (relW sp i j)) 3 (sL sp 3 ++ [j]) = va_up (sL sp) 3 [j]
        rw [r2, h3p]; rfl) 199]
      exact ⟨S5, L5⟩
  | false =>
    rw [if_neg (by rw [hrel]; decide)] at E
    refine jd_ifF C rfl rfl ?_
    obtain ⟨S2, hRA2⟩ := q2 hrel
    have kp : (answerS sp i (mV (sM sp j)) (mA (sM sp j))).1.2.2 = sp.2.2 := (keeps.answer Sp.n40 hip).1
    unfold turn2 at E
    have eM : sM (answerS sp i (mV (sM sp j)) (mA (sM sp j))).1 = sM sp := congrArg (fun z => z.2.1) kp
    have eK : sK (answerS sp i (mV (sM sp j)) (mA (sM sp j))).1 = sK sp := congrArg (fun z => z.1) kp
    have hN3 := m_D_asNoted (b := b) (A := A) (xL X) hT S2 (j := j) (by rw [eK]; exact hjp) hRA2
    rw [eM] at hN3
    refine jd_call C hT rfl (fc_D_D_asNoted V (by decide)) hN3 (As := [.inl (nI j)]) rfl rfl rfl (nle rfl) rfl rfl ?_
    rintro r M3 ⟨rfl, S3, hRA3, fr3⟩
    have kw := (wan_st (mW (sM sp j)).reverse (s := (answerS sp i (mV (sM sp j)) (mA (sM sp j))).1) (r := (answerS sp i (mV (sM sp j)) (mA (sM sp j))).2)).trans kp
    rw [show ansO sp (some i) (mV (sM sp j)) (mA (sM sp j)) = answerS sp i (mV (sM sp j)) (mA (sM sp j)) from rfl] at E
    generalize hs3 : wanS (mW (sM sp j)).reverse (answerS sp i (mV (sM sp j)) (mA (sM sp j))).1 (answerS sp i (mV (sM sp j)) (mA (sM sp j))).2 = f3 at *
    have eM3 : sM f3.1 = sM sp := congrArg (fun z => z.2.1) kw
    have eK3 : sK f3.1 = sK sp := congrArg (fun z => z.1) kw
    have eL3 : sL f3.1 = sL sp := congrArg (fun z => z.2.2) kw
    have hj3 : j < sK f3.1 := by rw [eK3]; exact hjp
    have L3 : LX ph f3.1 M3 (fun i => i = j) (sL f3.1) w0 B := by
      rw [eL3]
      exact Lp.fr eK3 (fun j' _ _ => by rw [eM3]) (fr2.tr fr3)
    have hN3' : mN (sM f3.1 j) = none := by rw [eM3]; exact hNp
    have h33 : sL f3.1 3 = [] := by rw [eL3]; exact h3p
    have hC := settleAll S3 hj3 L3 h33 hN3' hRA3 hB (f := 200) (by decide)
    have k2003 := S3.k200
    refine jd_call C hT rfl (fc_D_D_settle V (by decide)) (m_D_settle _ hT (a := (M3.1 27, M3.1 28)) S3.c2 k2003 (m := j) (by omega) rfl rfl hRA3.2.1) (As := [.inl (nI j)]) rfl rfl rfl (nle rfl) rfl rfl ?_
    rintro r M4 ⟨rfl, rfl⟩
    generalize mSettle M3 j (M3.1 27, M3.1 28) (can ph (M3.1 27, M3.1 28)) = M4 at *
    have fin : ∀ M5 z, (∃ ph', Sm ph' (rAll 200 (settleS f3.1 j f3.2)) M5 ∧ LI ph' (rAll 200 (settleS f3.1 j f3.2)) M5 (B + 200)) → JD T G_D_turn X b A 85 [some (.inr (some b)), some (.inl (nI v)), some (.inl (nI j)), z] [] M5 := by
      intro M5 z hI
      refine jd_goto C rfl ?_
      exact jd_iret C E rfl (Or.inl rfl) ⟨rfl, hI⟩
    have loop : ∀ n M', Cas (sK f3.1) (fun M' => ∃ ph', Sm ph' (rAll 200 (settleS f3.1 j f3.2)) M' ∧ LI ph' (rAll 200 (settleS f3.1 j f3.2)) M' (B + 200)) n M' → JD T G_D_turn X b A 68 [some (.inr (some b)), some (.inl (nI v)), some (.inl (nI j)), some (.inl (iO (relN (sK f3.1) M')))] [] M' := by
      intro n
      induction n with
      | zero =>
        rintro M' ⟨-, h2, h3⟩
        rw [h2]
        refine jd_ifT C rfl rfl ?_
        exact fin _ _ h3
      | succ n ih =>
        rintro M' ⟨h1, h⟩
        rcases h with ⟨h2, h3⟩ | ⟨y, ph', h2, c1, c2, c3, c4⟩
        · rw [h2]
          refine jd_ifT C rfl rfl ?_
          exact fin _ _ h3
        · rw [h2]
          have hy := (mnF_some h2).1
          refine jd_ifF C rfl (Bool.eq_false_iff.mpr fun q => nI_pos (n := y) (by omega) (fw_cb_iff.mp q)) ?_
          refine jd_call C hT rfl (fc_D_D_direct V (by decide)) (m_D_direct _ hT c1 k2003 (m := y) (by omega) c2 c3) (As := [.inl (nI y)]) rfl rfl rfl (nle rfl) rfl rfl ?_
          rintro r M2 ⟨rfl, rfl⟩
          have hp : LoopPre (sK f3.1) (mDir M' y (can ph' (M'.2 16 y, M'.2 17 y))) := by cases n <;> exact c4.1
          refine jd_call C hT rfl (fc_D_D_released V (by decide)) (m_D_released _ hT hp.1 k2003 hp.2) (As := []) rfl rfl rfl (nle rfl) rfl rfl ?_
          rintro r M2 ⟨rfl, rfl⟩
          refine jd_goto C rfl ?_
          exact ih _ c4
    have hp : LoopPre (sK f3.1) M4 := hC.1
    refine jd_call C hT rfl (fc_D_D_released V (by decide)) (m_D_released _ hT hp.1 k2003 hp.2) (As := []) rfl rfl rfl (nle rfl) rfl rfl ?_
    rintro r M4 ⟨rfl, rfl⟩
    exact jd_to C 68 rfl (loop 200 _ hC)
end DTU
