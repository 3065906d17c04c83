/-! The reference's answers as a whole, and its notes. -/
section DA2
variable {T : fw_T} {b : Nat} {A : Nat → Nat} {M : Md} {ph : Nat → Rf} {s : St} {i j : Nat}
def PAn (ph : Nat → Rf) (M : Md) (s : St) (i j : Nat) : Option fw_V → Md → Prop := fun v M' => v = some (.inl (bI (!relaysS s i j))) ∧ Fr M M' ∧ (relaysS s i j = true → Sm ph (relayS s i j) M') ∧ (relaysS s i j = false → Sm ph (answerS s i (mV (sM s j)) (mA (sM s j))).1 M' ∧ RA ph (sN (answerS s i (mV (sM s j)) (mA (sM s j))).1) (sK (answerS s i (mV (sM s j)) (mA (sM s j))).1) (answerS s i (mV (sM s j)) (mA (sM s j))).2 (M'.1 27, M'.1 28))
theorem wf_kinds {n : Nat} {t : Th} (h : wfT n t) : tK t = 0 ∨ tK t = 1 ∨ tK t = 2 ∨ tK t = 3 ∨ tK t = 4 ∨ tK t = 5 ∨ tK t = 6 ∨ tK t = 7 ∨ tK t = 8 ∨ tK t = 9 ∨ tK t = 10 := by
  rcases h with ⟨a, -⟩ | ⟨a, -⟩ | ⟨a, -⟩
  · exact Or.inr (Or.inl a)
  · rcases a with a | a | a | a | a | a <;> simp [a]
  · rcases a with a | a | a | a <;> simp [a]
theorem m_D_answers (l : Launch) (hT : TOK T) (S : Sm ph s M) (hi : i < sN s) (hj : j < sK s) : CtD l T y_D_answers W_D_answers rm_D_answers b A [.inr (some b), .inl (nI j), .inl (nI i)] M (PAn ph M s i j) := by
  intro w R
  refine ct_D_answers rfl (nle rfl) ?_
  intro X hl C E
  have V := hv_D_answers hT
  suffices JD T G_D_answers X b A 0 [some (.inr (some b)), some (.inl (nI j)), some (.inl (nI i)), none, none] [] M from this w R
  have n40 := S.n40
  have k200 := S.k200
  have ht := S.tt hi
  have hm := S.m hj
  obtain ⟨v, hv, ev⟩ := hm.1
  refine jd_get C rfl (fg_D_D_verb V) rfl ?_
  refine jd_ald C hT (f := 18) rfl (by decide) rfl rfl j rfl (by show j < 200; omega) ?_
  refine jd_get C rfl (fg_D_D_kind V) rfl ?_
  refine jd_ald C hT (f := 1) rfl (by decide) rfl rfl i rfl (by show i < 40; omega) ?_
  rw [hm.2.1, ht.2.1, ev]
  by_cases hk : tK (sT s i) = 2 ∨ tK (sT s i) = 10
  · have at28 : JD T G_D_answers X b A 28 [some (.inr (some b)), some (.inl (nI j)), some (.inl (nI i)), some (.inl (nI v)), some (.inl (tK (sT s i)))] [] M := by
      refine jd_call C hT rfl (fc_D_D_relays V (by decide)) (m_D_relays _ hT S hi hj hk) (As := [.inl (nI j), .inl (nI i)]) rfl rfl rfl (nle rfl) rfl rfl ?_
      rintro v' M' ⟨rfl, q1, q2, q3⟩
      cases hE : relaysS s i j with
      | true =>
        refine jd_ifT C rfl rfl ?_
        refine jd_iret C E rfl (Or.inr ⟨rfl, Or.inl rfl⟩) ⟨by rw [hE]; rfl, q1, q2, fun q => (by rw [hE] at q; cases q)⟩
      | false =>
        refine jd_ifF C rfl rfl ?_
        refine jd_goto C rfl ?_
        refine jd_iret C E rfl (Or.inr ⟨rfl, Or.inr rfl⟩) ⟨by rw [hE]; rfl, q1, fun q => (by rw [hE] at q; cases q), fun _ => ?_⟩
        rw [q3 hE, show answerS s i (mV (sM s j)) (mA (sM s j)) = (s, rB) by unfold answerS; rcases hk with q | q <;> (rw [q]; rfl)]
        exact ⟨S.hold, (RR.same VV.brk).a⟩
    rcases hk with hk | hk
    · refine jd_icmpT C rfl (by rw [hk]; decide) ?_
      exact at28
    · refine jd_icmpF C rfl (by rw [hk]; decide) ?_
      refine jd_icmpF C rfl (by rw [hk]; decide) ?_
      exact at28
  · have hE : relaysS s i j = false := decide_eq_false (fun q => by
      rcases q.2 with q | q
      · exact hk (Or.inl q)
      · exact hk (Or.inr q.1))
    have fin : ∀ f M' z1 z2, answerS s i (mV (sM s j)) (mA (sM s j)) = f → PS ph M f none M' → JD T G_D_answers X b A 206 [some (.inr (some b)), some (.inl (nI j)), some (.inl (nI i)), z1, z2] [] M' := by
      rintro f M' z1 z2 rfl ⟨-, q1, q2, q3⟩
      exact jd_iret C E rfl (Or.inr ⟨rfl, Or.inr rfl⟩) ⟨by rw [hE]; rfl, q3, fun q => (by rw [hE] at q; cases q), fun _ => ⟨q1, q2⟩⟩
    have hA := hm.2.2.2.1
    refine jd_icmpF C rfl (cb_eqF (fun q => hk (Or.inl q))) ?_
    refine jd_icmpT C rfl (cb_neT (fun q => hk (Or.inr q))) ?_
    refine jd_get C rfl (fg_D_D_argumentSort V) rfl ?_
    refine jd_ald C hT (f := 19) rfl (by decide) rfl rfl j rfl (by show j < 200; omega) ?_
    refine jd_get C rfl (fg_D_D_argument V) rfl ?_
    refine jd_ald C hT (f := 20) rfl (by decide) rfl rfl j rfl (by show j < 200; omega) ?_
    refine jd_call C hT rfl (fc_D_D_look V (by decide)) (m_D_look _ hT S.c2 k200 hA.2.1) (As := [.inl (M.2 19 j), .inl (M.2 20 j)]) rfl rfl rfl (nle rfl) rfl rfl ?_
    rintro v' M' ⟨rfl, rfl⟩
    rw [← hA.2.2]
    have S1 : Sm ph s (mHold M (can ph (mA (sM s j))).1 (can ph (mA (sM s j))).2) := S.hold
    generalize hM1 : mHold M (can ph (mA (sM s j))).1 (can ph (mA (sM s j))).2 = M1 at S1
    have h27 : M1.1 27 = (can ph (mA (sM s j))).1 := by rw [← hM1]; rfl
    have h28 : M1.1 28 = (can ph (mA (sM s j))).2 := by rw [← hM1]; rfl
    have hfr : Fr M M1 := by rw [← hM1]; exact Fr.rf.hold
    have pf : ∀ f M', PS ph M1 f none M' → PS ph M f none M' := fun f M' q => ⟨q.1, q.2.1, q.2.2.1, hfr.tr q.2.2.2⟩
    have brk : ∀ z1 z2, answerS s i (mV (sM s j)) (mA (sM s j)) = (s, rB) → JD T G_D_answers X b A 202 [some (.inr (some b)), some (.inl (nI j)), some (.inl (nI i)), z1, z2] [] M1 := by
      intro z1 z2 q
      refine jd_call C hT rfl (fc_D_D_broken V (by decide)) (m_D_broken _ hT) (As := []) rfl rfl rfl (nle rfl) rfl rfl ?_
      rintro v M' ⟨rfl, rfl⟩
      exact fin _ _ _ _ q (pf _ _ ⟨rfl, S1.hold, (RR.same VV.brk).a, Fr.rf.hold⟩)
    rcases wf_kinds ht.1 with k | k | k | k | k | k | k | k | k | k | k
    · refine jd_ifF C rfl (by rw [k]; decide) ?_
      refine jd_call C hT rfl (fc_D_D_ofCell V (by decide)) (m_D_ofCell _ hT S1 hi hj hv) (As := [.inl (nI j), .inl (nI i), .inl (nI v)]) rfl rfl rfl (nle rfl) rfl rfl ?_
      rintro v' M' hP
      obtain rfl := hP.1
      refine jd_goto C rfl ?_
      exact fin _ _ _ _ (by unfold answerS; rw [k, ev]; rfl) (pf _ _ hP)
    · refine jd_ifT C rfl (by rw [k]; decide) ?_
      refine jd_icmpT C rfl (by rw [k]; decide) ?_
      refine jd_call C hT rfl (fc_D_D_ofGuard V (by decide)) (m_D_ofGuard _ hT S1 hi (Or.inl k) hv hA.1 h27 h28) (As := [.inl (nI i), .inl (nI v)]) rfl rfl rfl (nle rfl) rfl rfl ?_
      rintro v' M' hP
      obtain rfl := hP.1
      refine jd_goto C rfl ?_
      exact fin _ _ _ _ (by unfold answerS; rw [k, ev]; rfl) (pf _ _ hP)
    · exact absurd (Or.inl k) hk
    · refine jd_ifT C rfl (by rw [k]; decide) ?_
      refine jd_icmpF C rfl (by rw [k]; decide) ?_
      refine jd_icmpT C rfl (by rw [k]; decide) ?_
      refine jd_icmpF C rfl (by rw [k]; decide) ?_
      by_cases h2 : v < 2
      · refine jd_icmpF C rfl (cb_geF (b := 2) h2 (by omega)) ?_
        have frs : ∀ kd, (kd = 4 ∨ kd = 5) → answerS s i (mV (sM s j)) (mA (sM s j)) = mkR s kd (tH (sT s i)) (some i) → JD T G_D_answers X b A 117 [some (.inr (some b)), some (.inl (nI j)), some (.inl (nI i)), some (.inl (nI v)), some (.inl (tK (sT s i)))] [.inl kd, .inr (some b)] M1 := by
          intro kd hkd hq
          refine jd_get C rfl (fg_D_D_home V) rfl ?_
          refine jd_ald C hT (f := 2) rfl (by decide) rfl rfl i rfl (by show i < 40; omega) ?_
          rw [(S1.tt hi).2.2.1]
          refine jd_call C hT rfl (fc_D_D_fresh V (by decide)) (m_D_fresh _ hT (n := sN s) S1.hn n40 kd (tH (sT s i)) (nI i)) (As := [.inl kd, .inl (tH (sT s i)), .inl (nI i)]) rfl rfl rfl (nle rfl) rfl rfl ?_
          rintro v' M' ⟨rfl, rfl⟩
          refine jd_goto C rfl ?_
          obtain ⟨q1, q2, q3⟩ := S1.fresh (kd := kd) (hm := tH (sT s i)) (ow := some i) (S.gd i hi).2.2 (Or.inr (Or.inl ⟨by rcases hkd with rfl | rfl; exact Or.inr (Or.inl rfl); exact Or.inr (Or.inr (Or.inl rfl)), i, by omega, rfl⟩)) (by rintro rfl; rcases hkd with q | q <;> cases q)
          exact fin _ _ _ _ hq (pf _ _ ⟨rfl, q1, q2.a, q3⟩)
        rcases (show v = 0 ∨ v = 1 by omega) with rfl | rfl
        · refine jd_ifF C rfl (by decide) ?_
          exact jd_goto C rfl (frs 4 (Or.inl rfl) (by unfold answerS; rw [k, ev]; rfl))
        · refine jd_ifT C rfl (by decide) ?_
          exact jd_to C 117 rfl (frs 5 (Or.inr rfl) (by unfold answerS; rw [k, ev]; rfl))
      · refine jd_icmpT C rfl (cb_geT (b := 2) (by omega) (by omega)) ?_
        refine jd_icmpT C rfl (by rw [k]; decide) ?_
        refine jd_icmpT C rfl (by rw [k]; decide) ?_
        refine jd_icmpT C rfl (by rw [k]; decide) ?_
        refine jd_icmpT C rfl (by rw [k]; decide) ?_
        refine brk _ _ ?_
        unfold answerS
        rw [k, ev]
        show ansBrand s i (nI v) = _
        unfold ansBrand
        rw [if_neg (nI_ne0 (by omega) (by omega)), if_neg (show ¬ nI v = 1 from fun q => h2 (by have := nI_inj (b := 1) (by omega) (by omega) q; omega))]
    · refine jd_ifT C rfl (by rw [k]; decide) ?_
      refine jd_icmpF C rfl (by rw [k]; decide) ?_
      refine jd_icmpT C rfl (by rw [k]; decide) ?_
      refine jd_icmpT C rfl (by rw [k]; decide) ?_
      refine jd_icmpF C rfl (by rw [k]; decide) ?_
      by_cases h0 : v = 0
      · subst h0
        refine jd_ifF C rfl (by decide) ?_
        refine jd_call C hT rfl (fc_D_D_ofSealer V (by decide)) (m_D_ofSealer _ hT S1 hi k hj) (As := [.inl (nI j), .inl (nI i)]) rfl rfl rfl (nle rfl) rfl rfl ?_
        rintro v' M' hP
        obtain rfl := hP.1
        refine jd_goto C rfl ?_
        exact fin _ _ _ _ (by unfold answerS; rw [k, ev]; rfl) (pf _ _ hP)
      · have hv0 : ¬ nI v = 0 := nI_ne0 (by omega) (by omega)
        refine jd_ifT C rfl (cb_neT hv0) ?_
        refine jd_icmpT C rfl (by rw [k]; decide) ?_
        refine jd_icmpT C rfl (by rw [k]; decide) ?_
        refine jd_icmpT C rfl (by rw [k]; decide) ?_
        refine brk _ _ ?_
        unfold answerS
        rw [k, ev]
        show (if nI v = 0 then _ else _) = _
        rw [if_neg hv0]
    · refine jd_ifT C rfl (by rw [k]; decide) ?_
      refine jd_icmpF C rfl (by rw [k]; decide) ?_
      refine jd_icmpT C rfl (by rw [k]; decide) ?_
      refine jd_icmpT C rfl (by rw [k]; decide) ?_
      refine jd_icmpT C rfl (by rw [k]; decide) ?_
      refine jd_icmpF C rfl (by rw [k]; decide) ?_
      by_cases h0 : v = 0
      · subst h0
        refine jd_ifF C rfl (by decide) ?_
        refine jd_call C hT rfl (fc_D_D_ofUnsealer V (by decide)) (m_D_ofUnsealer _ hT S1 hi k hA.1 h27 h28) (As := [.inl (nI i)]) rfl rfl rfl (nle rfl) rfl rfl ?_
        rintro v' M' hP
        obtain rfl := hP.1
        refine jd_goto C rfl ?_
        exact fin _ _ _ _ (by unfold answerS; rw [k, ev]; rfl) (pf _ _ hP)
      · have hv0 : ¬ nI v = 0 := nI_ne0 (by omega) (by omega)
        refine jd_ifT C rfl (cb_neT hv0) ?_
        refine jd_icmpT C rfl (by rw [k]; decide) ?_
        refine jd_icmpT C rfl (by rw [k]; decide) ?_
        refine brk _ _ ?_
        unfold answerS
        rw [k, ev]
        show (if nI v = 0 then _ else _) = _
        rw [if_neg hv0]
    · refine jd_ifT C rfl (by rw [k]; decide) ?_
      refine jd_icmpF C rfl (by rw [k]; decide) ?_
      refine jd_icmpT C rfl (by rw [k]; decide) ?_
      refine jd_icmpT C rfl (by rw [k]; decide) ?_
      refine jd_icmpT C rfl (by rw [k]; decide) ?_
      refine jd_icmpT C rfl (by rw [k]; decide) ?_
      refine jd_icmpT C rfl (by rw [k]; decide) ?_
      refine jd_icmpT C rfl (by rw [k]; decide) ?_
      refine brk _ _ ?_
      unfold answerS
      rw [k, ev]; rfl
    · refine jd_ifT C rfl (by rw [k]; decide) ?_
      refine jd_icmpF C rfl (by rw [k]; decide) ?_
      refine jd_icmpT C rfl (by rw [k]; decide) ?_
      refine jd_icmpT C rfl (by rw [k]; decide) ?_
      refine jd_icmpT C rfl (by rw [k]; decide) ?_
      refine jd_icmpT C rfl (by rw [k]; decide) ?_
      refine jd_icmpF C rfl (by rw [k]; decide) ?_
      by_cases h0 : v = 0
      · subst h0
        refine jd_ifF C rfl (by decide) ?_
        refine jd_call C hT rfl (fc_D_D_ofMint V (by decide)) (m_D_ofMint _ hT S1 hi hA.1 h27 h28) (As := [.inl (nI i)]) rfl rfl rfl (nle rfl) rfl rfl ?_
        rintro v' M' hP
        obtain rfl := hP.1
        refine jd_goto C rfl ?_
        exact fin _ _ _ _ (by unfold answerS; rw [k, ev]; rfl) (pf _ _ hP)
      · have hv0 : ¬ nI v = 0 := nI_ne0 (by omega) (by omega)
        refine jd_ifT C rfl (cb_neT hv0) ?_
        refine jd_icmpT C rfl (by rw [k]; decide) ?_
        refine brk _ _ ?_
        unfold answerS
        rw [k, ev]
        show (if nI v = 0 then _ else _) = _
        rw [if_neg hv0]
    · refine jd_ifT C rfl (by rw [k]; decide) ?_
      refine jd_icmpF C rfl (by rw [k]; decide) ?_
      refine jd_icmpT C rfl (by rw [k]; decide) ?_
      refine jd_icmpT C rfl (by rw [k]; decide) ?_
      refine jd_icmpT C rfl (by rw [k]; decide) ?_
      refine jd_icmpT C rfl (by rw [k]; decide) ?_
      refine jd_icmpT C rfl (by rw [k]; decide) ?_
      refine jd_icmpF C rfl (by rw [k]; decide) ?_
      refine jd_call C hT rfl (fc_D_D_ofPurse V (by decide)) (m_D_ofPurse _ hT S1 hi k hv hA.1 h27 h28) (As := [.inl (nI i), .inl (nI v)]) rfl rfl rfl (nle rfl) rfl rfl ?_
      rintro v' M' hP
      obtain rfl := hP.1
      refine jd_goto C rfl ?_
      exact fin _ _ _ _ (by unfold answerS; rw [k, ev]; rfl) (pf _ _ hP)
    · refine jd_ifT C rfl (by rw [k]; decide) ?_
      refine jd_icmpF C rfl (by rw [k]; decide) ?_
      refine jd_icmpF C rfl (by rw [k]; decide) ?_
      refine jd_call C hT rfl (fc_D_D_ofGuard V (by decide)) (m_D_ofGuard _ hT S1 hi (Or.inr k) hv hA.1 h27 h28) (As := [.inl (nI i), .inl (nI v)]) rfl rfl rfl (nle rfl) rfl rfl ?_
      rintro v' M' hP
      obtain rfl := hP.1
      refine jd_goto C rfl ?_
      exact fin _ _ _ _ (by unfold answerS; rw [k, ev]; rfl) (pf _ _ hP)
    · exact absurd (Or.inr k) hk
theorem wan_st : ∀ (ps : List Nat) {s : St} {r : Rf}, (wanS ps s r).1.2.2 = s.2.2
  | [], s, r => rfl
  | p :: ps, s, r => (wan_st ps).trans noteS_st.2.2
theorem m_D_asNoted (l : Launch) (hT : TOK T) (S : Sm ph s M) (hj : j < sK s) {r : Rf} (hr : RA ph (sN s) (sK s) r (M.1 27, M.1 28)) : CtD l T y_D_asNoted W_D_asNoted rm_D_asNoted b A [.inr (some b), .inl (nI j)] M (PS ph M (wanS (mW (sM s j)).reverse s r)) := by
  intro w R
  refine ct_D_asNoted rfl (nle rfl) ?_
  intro X hl C E
  have V := hv_D_asNoted hT
  suffices JD T G_D_asNoted X b A 0 [some (.inr (some b)), some (.inl (nI j)), none, none, none, none] [] M from this w R
  have k200 := S.k200
  have hm := S.m hj
  generalize hW : mW (sM s j) = W at *
  have loop : ∀ c s1 r1 M1 z1 z2 z3, c ≤ W.length → s1.2.2 = s.2.2 → Sm ph s1 M1 → RA ph (sN s1) (sK s1) r1 (M1.1 27, M1.1 28) → Fr M M1 → wanS (W.take c).reverse s1 r1 = wanS W.reverse s r → JD T G_D_asNoted X b A 9 [some (.inr (some b)), some (.inl (nI j)), some (.inl (nI c - 1)), z1, z2, z3] [] M1 := by
    intro c
    induction c with
    | zero =>
      intro s1 r1 M1 z1 z2 z3 hc hst S1 hr1 hfr hw
      refine jd_ifT C rfl (by decide) ?_
      rw [← hw] at E
      exact jd_vret C E rfl rfl ⟨rfl, S1, hr1, hfr⟩
    | succ c ih =>
      intro s1 r1 M1 z1 z2 z3 hc hst S1 hr1 hfr hw
      rw [nI_pred]
      have hL8 : W.length ≤ 8 := by rw [← hW]; exact hm.2.2.2.2.1
      have hsK : sK s1 = sK s := congrArg (fun z => z.1) hst
      have hsM : sM s1 = sM s := congrArg (fun z => z.2.1) hst
      have hj1 : j < sK s1 := by rw [hsK]; exact hj
      have hm1 := S1.m hj1
      rw [hsM] at hm1
      have n40 := S1.n40
      obtain ⟨p, hp⟩ : ∃ p, W[c]? = some p := ⟨W[c], List.getElem?_eq_getElem (by omega)⟩
      obtain ⟨hpn, o, ho, eo, e25, e26⟩ := hm1.2.2.2.2.2.2 c p (by rw [hW]; exact hp)
      have htake : (W.take (c + 1)).reverse = p :: (W.take c).reverse := by
        rw [List.take_add_one, hp]
        simp
      rw [htake] at hw
      have hw : wanS (W.take c).reverse (noteS s1 p r1).1 (noteS s1 p r1).2 = wanS W.reverse s r := hw
      -- the rest, once a note is done
      have nxt : ∀ M2 z1 z2 z3, Sm ph (noteS s1 p r1).1 M2 → RA ph (sN (noteS s1 p r1).1) (sK (noteS s1 p r1).1) (noteS s1 p r1).2 (M2.1 27, M2.1 28) → Fr M M2 → JD T G_D_asNoted X b A 88 [some (.inr (some b)), some (.inl (nI j)), some (.inl (nI c)), z1, z2, z3] [] M2 := by
        intro M2 z1 z2 z3 a1 a2 a3
        refine jd_goto C rfl ?_
        have := ih _ _ M2 z1 z2 z3 (by omega) (noteS_st.2.2.trans hst) a1 a2 a3 hw
        rw [← i_m1] at this
        exact this
      refine jd_ifF C rfl (Bool.eq_false_iff.mpr fun q => nI_pos (n := c) (by omega) (fw_cb_iff.mp q)) ?_
      refine jd_get C rfl (fg_D_D_noted V) rfl ?_
      refine jd_ald C hT (f := 25) rfl (by decide) rfl rfl (8 * j + c) nI_mul8 (by show 8 * j + c < 1600; omega) ?_
      rw [e25]
      refine jd_get C rfl (fg_D_D_sort V) rfl ?_
      refine jd_get C rfl (fg_D_D_ref V) rfl ?_
      refine jd_call C hT rfl (fc_D_D_look V (by decide)) (m_D_look _ hT S1.c2 S1.k200 hr1.2.1) (As := [.inl (M1.1 27), .inl (M1.1 28)]) rfl rfl rfl (nle rfl) rfl rfl ?_
      rintro v' M' ⟨rfl, rfl⟩
      obtain ⟨cc, hcc⟩ : ∃ cc, cc = can ph (M1.1 27, M1.1 28) := ⟨_, rfl⟩
      have hr2 := hr1.2.2
      rw [← hcc] at hr2 ⊢
      refine jd_get C rfl (fg_D_D_revoked V) rfl ?_
      refine jd_zld C hT (f := 6) rfl (by decide) rfl rfl o rfl (by show o < 40; omega) ?_
      rw [show (mHold M1 cc.1 cc.2).2 6 o = tV (sT s1 o) from (S1.tt ho).2.2.2.2.2.2.1]
      refine jd_if C rfl (fun h => ?_) (fun h => ?_)
      · have h : tV (sT s1 o) = 0 := h
        have hn : noteS s1 p r1 = wrapS s1 r1 o (tI (sT s1 p)) := by unfold noteS; rw [eo]; dsimp only; rw [if_pos h]
        refine jd_get C rfl (fg_D_D_notedInward V) rfl ?_
        refine jd_ald C hT (f := 26) rfl (by decide) rfl rfl (8 * j + c) nI_mul8 (by show 8 * j + c < 1600; omega) ?_
        rw [show (mHold M1 cc.1 cc.2).2 26 (8 * j + c) = tI (sT s1 p) from e26]
        rcases hr2 with he | ⟨he, he'⟩
        · refine jd_call C hT rfl (fc_D_D_wrap V (by decide)) (m_D_wrap (M := mHold M1 cc.1 cc.2) _ hT S1.hold ho (S1.gd p hpn).2.1 hr1.1 (by rw [he]; rfl) (by rw [he]; rfl)) (As := [.inl (nI o), .inl (tI (sT s1 p))]) rfl rfl rfl (nle rfl) rfl rfl ?_
          rintro v' M2 ⟨bb, rfl, q1, q2, q3, q4, q5⟩
          rw [← hn] at q1 q3 q4 q5
          cases bb with
          | true =>
            refine jd_ifT C rfl rfl ?_
            exact nxt M2 _ _ _ q1 (q4 rfl).a (hfr.tr q2)
          | false =>
            obtain ⟨e1, rfl⟩ := q5 rfl
            refine jd_ifF C rfl rfl ?_
            refine jd_call C hT rfl (fc_D_D_hold V (by decide)) (m_D_hold _ hT (M1.1 27) (M1.1 28)) (As := [.inl (M1.1 27), .inl (M1.1 28)]) rfl rfl rfl (nle rfl) rfl rfl ?_
            rintro v' M' ⟨rfl, rfl⟩
            rw [mHold2]
            refine nxt _ _ _ _ q1 ⟨q3, ?_, Or.inl ?_⟩ hfr
            · rw [show sK (noteS s1 p r1).1 = sK s1 from congrArg (fun z => z.1) noteS_st.2.2]; exact hr1.2.1
            · exact e1.trans (he.trans hcc)
        · have hws : wrapS s1 r1 o (tI (sT s1 p)) = (s1, cnt s1 r1) := by
            unfold wrapS
            rw [if_neg]
            rw [S1.cntE hr1.1]
            intro q
            unfold bN at he
            by_cases h0 : (can ph r1).1 = 0
            · rw [h0] at q; rcases q with q | q <;> cases q
            · rw [if_neg h0] at he; rw [he] at q; rcases q with q | q <;> cases q
          have hVc : VV (sN s1) (sK s1) cc := by
            rcases he' with q | q
            · rw [q]; exact VV.not
            · rw [q]; exact VV.brk
          have hci : can ph cc = cc := by
            rcases he' with q | q
            · rw [q]; exact can_n (by decide)
            · rw [q]; exact can_n (by decide)
          have hws2 : wrapS s1 cc o (tI (sT s1 p)) = (s1, cc) := by
            unfold wrapS
            rw [S1.cntE hVc, hci, if_neg]
            rcases he' with q | q <;> rw [q] <;> decide
          rw [hn, hws] at nxt
          have hVr := hr1.1.can S1.hp S1.k200
          have hcn := S1.cntE hr1.1
          have hid := S1.c1.idem S1.k200 hr1.1.1
          refine jd_call C hT rfl (fc_D_D_wrap V (by decide)) (m_D_wrap (M := mHold M1 cc.1 cc.2) _ hT S1.hold ho (S1.gd p hpn).2.1 hVc (by rw [hci]; rfl) (by rw [hci]; rfl)) (As := [.inl (nI o), .inl (tI (sT s1 p))]) rfl rfl rfl (nle rfl) rfl rfl ?_
          rintro v' M2 ⟨bb, rfl, q1, q2, q3, q4, q5⟩
          rw [hws2] at q1 q3 q4 q5
          cases bb with
          | true =>
            refine jd_ifT C rfl rfl ?_
            refine nxt M2 _ _ _ q1 ⟨?_, (q4 rfl).2.1, Or.inr ⟨?_, ?_⟩⟩ (hfr.tr q2)
            · rw [hcn]; exact hVr
            · rw [hcn, hid]; exact he
            · have := (q4 rfl).2.2
              rw [← this]
              show can ph cc = _ ∨ can ph cc = _
              rw [hci]; exact he'
          | false =>
            obtain ⟨e1, rfl⟩ := q5 rfl
            refine jd_ifF C rfl rfl ?_
            refine jd_call C hT rfl (fc_D_D_hold V (by decide)) (m_D_hold _ hT (M1.1 27) (M1.1 28)) (As := [.inl (M1.1 27), .inl (M1.1 28)]) rfl rfl rfl (nle rfl) rfl rfl ?_
            rintro v' M' ⟨rfl, rfl⟩
            rw [mHold2]
            refine nxt _ _ _ _ q1 ⟨?_, hr1.2.1, Or.inr ⟨?_, ?_⟩⟩ hfr
            · rw [hcn]; exact hVr
            · rw [hcn, hid]; exact he
            · show can ph (M1.1 27, M1.1 28) = _ ∨ can ph (M1.1 27, M1.1 28) = _
              rw [← hcc]; exact he'
      · have h : ¬ tV (sT s1 o) = 0 := h
        have hn : noteS s1 p r1 = (s1, rB) := by unfold noteS; rw [eo]; dsimp only; rw [if_neg h]
        rw [hn] at nxt
        refine jd_call C hT rfl (fc_D_D_broken V (by decide)) (m_D_broken _ hT) (As := []) rfl rfl rfl (nle rfl) rfl rfl ?_
        rintro v' M' ⟨rfl, rfl⟩
        rw [mHold2]
        refine jd_goto C rfl ?_
        exact nxt _ _ _ _ S1.hold (RR.same VV.brk).a hfr.hold
  refine jd_get C rfl (fg_D_D_notes V) rfl ?_
  refine jd_ald C hT (f := 24) rfl (by decide) rfl rfl j rfl (by show j < 200; omega) ?_
  rw [hm.2.2.2.2.2.1, hW]
  refine jd_to C 9 rfl ?_
  exact loop W.length s r M _ _ _ (Nat.le_refl _) rfl S hr Fr.rf (by rw [List.take_length])
end DA2
