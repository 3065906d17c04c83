/-! The reference's answers, beside the other side's. -/
section DAN
variable {T : fw_T} {b : Nat} {A : Nat → Nat} {M : Md} {ph : Nat → Rf} {s : St} {i j : Nat}
theorem Sm.same {M' : Md} (S : Sm ph s M) (h0 : M'.1 0 = M.1 0) (h11 : M'.1 11 = M.1 11) (eT : ∀ i, i < sN s → eqT M M' i) (eM : ∀ j, j < sK s → eqM M M' j) (eA : ∀ j, j < sK s → eqA M M' j) (ez : ∀ q, M'.2 10 q = M.2 10 q) : Sm ph s M' :=
  ⟨⟨S.n40, S.k200⟩, S.gd, S.c1, S.c2.eq (fun j hj => dAns_eq (eA j hj)), S.hp, ⟨h0.trans S.hn, h11.trans S.hk⟩, fun i hi => (S.tt hi).eq (eT i hi), fun j hj => (S.m hj).eq (eM j hj), fun q hq hq' => (ez q).trans (S.z hq hq')⟩
abbrev mSt (M : Md) (f i : Nat) (x : Int32) : Md := (M.1, va_up M.2 f (va_up (M.2 f) i x))
theorem Sm.bal (S : Sm ph s M) (hi : i < sN s) (x : Int32) : Sm ph (upT s i (tSetB (sT s i) x)) (mSt M 4 i x) := by
  have ht := S.tt hi
  refine S.setT hi (S.gd i hi) rfl rfl rfl rfl (fun i' hi' hne => eqT.rf.o (by decide) hne) (fun j _ => eqM.rf.ts (by decide)) (fun j _ => eqA.rf.st (by decide)) (fun q _ => rfl) ?_
  exact ⟨ht.1, ht.2.1, ht.2.2.1, ht.2.2.2.1, va_up_self _ _ _, ht.2.2.2.2.2.1, ht.2.2.2.2.2.2.1, ht.2.2.2.2.2.2.2.1, ht.2.2.2.2.2.2.2.2⟩
theorem Sm.rev (S : Sm ph s M) (hi : i < sN s) : Sm ph (upT s i (tSetV (sT s i) 1)) (mSt M 6 i 1) := by
  have ht := S.tt hi
  refine S.setT hi ⟨Or.inr rfl, (S.gd i hi).2⟩ rfl rfl rfl rfl (fun i' hi' hne => eqT.rf.o (by decide) hne) (fun j _ => eqM.rf.ts (by decide)) (fun j _ => eqA.rf.st (by decide)) (fun q _ => rfl) ?_
  exact ⟨ht.1, ht.2.1, ht.2.2.1, ht.2.2.2.1, ht.2.2.2.2.1, ht.2.2.2.2.2.1, va_up_self _ _ _, ht.2.2.2.2.2.2.2.1, ht.2.2.2.2.2.2.2.2⟩
theorem Sm.slot (S : Sm ph s M) (hi : i < sN s) {q : Nat} (hq : q < 4) {r : Rf} {x y : Int32} (hr : RR ph (sN s) (sK s) r (x, y)) : Sm ph (slotS s i q r) (mSt (mSt M 9 (4 * i + q) x) 10 (4 * i + q) y) := by
  have ht := S.tt hi
  refine S.setT hi (S.gd i hi) rfl rfl rfl rfl (fun i' hi' hne => (eqT.rf.sl (f := 9) (Or.inl rfl) (by omega)).sl (f := 10) (Or.inr rfl) (by omega)) (fun j _ => (eqM.rf.ts (f := 9) (by decide)).ts (f := 10) (by decide)) (fun j _ => (eqA.rf.st (f := 9) (by decide)).st (f := 10) (by decide)) (fun q' hq' => va_up_ne _ _ (by omega)) ?_
  refine ⟨ht.1, ht.2.1, ht.2.2.1, ht.2.2.2.1, ht.2.2.2.2.1, ht.2.2.2.2.2.1, ht.2.2.2.2.2.2.1, ht.2.2.2.2.2.2.2.1, fun q' hq' => ?_⟩
  show RR ph (sN s) (sK s) (va_up (tS (sT s i)) q r q') (va_up (M.2 9) (4 * i + q) x (4 * i + q'), va_up (M.2 10) (4 * i + q) y (4 * i + q'))
  by_cases h : q' = q
  · subst h; rw [va_up_self, va_up_self, va_up_self]; exact hr
  · rw [va_up_ne _ _ h, va_up_ne _ _ (by omega), va_up_ne _ _ (by omega)]; exact ht.2.2.2.2.2.2.2.2 q' hq'
abbrev mFM (M : Md) (n : Nat) (kd hm to : Int32) : Md := mHold (mMake M n kd hm to) 2 (nI n)
theorem Sm.own (S : Sm ph s M) (h : sN s < 40) {kd hm to x y : Int32} {ow : Option Nat} {r : Rf} (hh : ∃ v, v < 3 ∧ hm = nI v) (hw : wfT (sN s + 1) (kd, hm, ow, fun _ => rN, r, none, 0, 0, 0)) (hk1 : kd ≠ 1) (hto : to = oNum ow) (hr : RR ph (sN s) (sK s) r (x, y)) : Sm ph (sN s + 1, va_up (sT s) (sN s) (kd, hm, ow, fun _ => rN, r, none, 0, 0, 0), s.2.2) (mSt (mSt (mFM M (sN s) kd hm to) 7 (sN s) x) 8 (sN s) y) ∧ Fr M (mSt (mSt (mFM M (sN s) kd hm to) 7 (sN s) x) 8 (sN s) y) := by
  obtain ⟨⟨r1, r2, r3, r4, r5, r6, r7, r8⟩, r9, r10, rA⟩ := mk_row M (sN s) kd hm to
  refine ⟨?_, ((Fr.rf (M := M)).make (n := sN s) (a := kd) (b := hm) (c := to)).hold (a := 2) (b := nI (sN s)) |>.st (f := 7) (by decide) |>.st (f := 8) (by decide)⟩
  refine S.add' (t := (kd, hm, ow, fun _ => rN, r, none, 0, 0, 0)) (M' := mSt (mSt (mFM M (sN s) kd hm to) 7 (sN s) x) 8 (sN s) y) h ⟨Or.inl rfl, Or.inl rfl, hh⟩ hw rfl rfl rfl (fun i hi => ?_) (fun j _ => ?_) (fun j _ => ?_) (x1 := kd) (x2 := hm) (x3 := to) (fun _ => rfl) r10 ⟨r1, r2, ?_, r4, r5, r6⟩ ?_
  · exact ((eqT.rf.make hi).o (f := 7) (by decide) (by omega)).o (f := 8) (by decide) (by omega)
  · exact (eqM.rf.make.ts (f := 7) (by decide)).ts (f := 8) (by decide)
  · exact ((rA j).st (f := 7) (by decide)).st (f := 8) (by decide)
  · refine r3.trans ?_
    unfold lk; rw [if_neg hk1]; exact hto
  · show RR ph (sN s + 1) (sK s) r (va_up _ _ _ _, va_up _ _ _ _)
    rw [va_up_self, va_up_self]; exact hr.up1
theorem Sm.pur (S : Sm ph s M) (h : sN s < 40) {hm to x : Int32} {o : Nat} (ho : o < sN s + 1) (hh : ∃ v, v < 3 ∧ hm = nI v) (hto : to = nI o) : Sm ph (sN s + 1, va_up (sT s) (sN s) (8, hm, some o, fun _ => rN, rN, none, 0, 0, x), s.2.2) (mSt (mFM M (sN s) 8 hm to) 4 (sN s) x) ∧ Fr M (mSt (mFM M (sN s) 8 hm to) 4 (sN s) x) := by
  obtain ⟨⟨r1, r2, r3, r4, r5, r6, r7, r8⟩, r9, r10, rA⟩ := mk_row M (sN s) 8 hm to
  refine ⟨?_, ((Fr.rf (M := M)).make (n := sN s) (a := 8) (b := hm) (c := to)).hold (a := 2) (b := nI (sN s)) |>.st (f := 4) (by decide)⟩
  refine S.add' (t := (8, hm, some o, fun _ => rN, rN, none, 0, 0, x)) (M' := mSt (mFM M (sN s) 8 hm to) 4 (sN s) x) h ⟨Or.inl rfl, Or.inl rfl, hh⟩ (Or.inr (Or.inl ⟨Or.inr (Or.inr (Or.inr (Or.inr (Or.inl rfl)))), o, ho, rfl⟩)) rfl rfl rfl (fun i hi => ?_) (fun j _ => ?_) (fun j _ => ?_) (x1 := 8) (x2 := hm) (x3 := to) (fun _ => rfl) r10 ⟨r1, r2, r3.trans hto, va_up_self _ _ _, r5, r6⟩ ?_
  · exact (eqT.rf.make hi).o (f := 4) (by decide) (by omega)
  · exact eqM.rf.make.ts (f := 4) (by decide)
  · exact (rA j).st (f := 4) (by decide)
  · show RR ph (sN s + 1) (sK s) rN ((mMake M (sN s) 8 hm to).2 7 (sN s), (mMake M (sN s) 8 hm to).2 8 (sN s))
    rw [r7, r8]; exact RR.same VV.not
theorem RA.bn (hp : PH ph (sN s) (sK s)) (hk : sK s ≤ 200) {r r' : Rf} (h : RR ph (sN s) (sK s) r r') : RA ph (sN s) (sK s) (bN r) r' := by
  by_cases h0 : r.1 = 0
  · rw [show bN r = rB by unfold bN; rw [if_pos h0]]
    refine ⟨VV.brk, h.2.1, Or.inr ⟨?_, Or.inl ?_⟩⟩
    · rw [can_n (r := rB) (by decide)]; rfl
    · rw [← h.2.2, can_n (r := r) (by rw [h0]; decide)]
      exact Prod.ext h0 (h.1.2.2 (Or.inl h0))
  · rw [show bN r = r by unfold bN; rw [if_neg h0]]
    exact h.a
theorem can0 (hp : PH ph (sN s) (sK s)) (hk : sK s ≤ 200) {r : Rf} (hr : VV (sN s) (sK s) r) : (can ph r).1 = 0 ↔ r.1 = 0 := by
  by_cases h3 : r.1 = 3
  · obtain ⟨j, hj, rfl⟩ := vR_eq hr.1 h3
    rw [can_p (by omega)]
    exact ⟨fun q => absurd q (hp j hj).2, fun q => by cases q⟩
  · rw [can_n h3]
theorem m_D_ofSealer (l : Launch) (hT : TOK T) (S : Sm ph s M) (hi : i < sN s) (h4 : tK (sT s i) = 4) (hj : j < sK s) : CtD l T y_D_ofSealer W_D_ofSealer rm_D_ofSealer b A [.inr (some b), .inl (nI j), .inl (nI i)] M (PS ph M (boxS s i (mA (sM s j)))) := by
  intro w R
  refine ct_D_ofSealer rfl (nle rfl) ?_
  intro X hl C E
  have V := hv_D_ofSealer hT
  suffices JD T G_D_ofSealer X b A 0 [some (.inr (some b)), some (.inl (nI j)), some (.inl (nI i))] [] M from this w R
  have n40 := S.n40
  have k200 := S.k200
  obtain ⟨o, ho, eo, e3⟩ := S.wK hi (by simp [h4])
  have ht := S.tt hi
  refine jd_get C rfl (fg_D_D_home V) rfl ?_
  refine jd_ald C hT (f := 2) rfl (by decide) rfl rfl i rfl (by show i < 40; omega) ?_
  refine jd_get C rfl (fg_D_D_link V) rfl ?_
  refine jd_ald C hT (f := 3) rfl (by decide) rfl rfl i rfl (by show i < 40; omega) ?_
  rw [ht.2.2.1, e3]
  refine jd_call C hT rfl (fc_D_D_fresh V (by decide)) (m_D_fresh _ hT (n := sN s) S.hn n40 6 (tH (sT s i)) (nI o)) (As := [.inl 6, .inl (tH (sT s i)), .inl (nI o)]) rfl rfl rfl (nle rfl) rfl rfl ?_
  rintro v M' ⟨rfl, rfl⟩
  unfold boxS at E
  by_cases h40 : sN s < 40
  · rw [if_pos h40] at E ⊢
    refine jd_get C rfl (fg_D_D_sort V) (u := .inl 2) rfl ?_
    refine jd_icmpF C rfl cb_neF ?_
    refine jd_get C rfl (fg_D_D_ownSort V) rfl ?_
    refine jd_get C rfl (fg_D_D_ref V) (u := .inl (nI (sN s))) rfl ?_
    refine jd_get C rfl (fg_D_D_argumentSort V) rfl ?_
    refine jd_ald C hT (f := 19) rfl (by decide) rfl rfl j rfl (by show j < 200; omega) ?_
    refine jd_ast C hT (f := 7) rfl (by decide) rfl rfl (sN s) rfl h40 ?_
    refine jd_get C rfl (fg_D_D_own V) rfl ?_
    refine jd_get C rfl (fg_D_D_ref V) (u := .inl (nI (sN s))) rfl ?_
    refine jd_get C rfl (fg_D_D_argument V) rfl ?_
    refine jd_ald C hT (f := 20) rfl (by decide) rfl rfl j rfl (by show j < 200; omega) ?_
    refine jd_ast C hT (f := 8) rfl (by decide) rfl rfl (sN s) rfl h40 ?_
    rw [eo] at E
    obtain ⟨q1, q2⟩ := S.own h40 (kd := 6) (hm := tH (sT s i)) (to := nI o) (ow := some o) (S.gd i hi).2.2 (Or.inr (Or.inl ⟨Or.inr (Or.inr (Or.inr (Or.inl rfl))), o, by omega, rfl⟩)) (by decide) rfl (S.m hj).2.2.2.1
    exact jd_vret C E rfl rfl ⟨rfl, q1, (RR.same (VV.obj (i := sN s) (Nat.lt_succ_self _))).a, q2⟩
  · rw [if_neg h40] at E ⊢
    refine jd_get C rfl (fg_D_D_sort V) (u := .inl 4) rfl ?_
    refine jd_icmpT C rfl (by decide) ?_
    exact jd_vret C E rfl rfl ⟨rfl, S.hold, (RR.same VV.brk).a, Fr.rf.hold⟩
theorem Sm.kOfE (S : Sm ph s M) {r : Rf} (hr : VV (sN s) (sK s) r) (kd : Int32) : (kOf s kd r = none ∧ ¬ ((can ph r).1 = 2 ∧ M.2 1 (can ph r).2.toNatClampNeg = kd)) ∨ ∃ o, o < sN s ∧ (can ph r).1 = 2 ∧ (can ph r).2 = nI o ∧ tK (sT s o) = kd ∧ M.2 1 o = kd ∧ kOf s kd r = some o := by
  have n40 := S.n40
  unfold kOf
  rw [S.tOfE hr]
  by_cases h2 : (can ph r).1 = 2
  · obtain ⟨o, ho, e⟩ := (hr.can S.hp S.k200).2.1 h2
    rw [if_pos h2, e, nI_clamp (by omega)]
    dsimp only
    rw [(S.tt ho).2.1]
    by_cases hk : tK (sT s o) = kd
    · exact Or.inr ⟨o, ho, h2, rfl, hk, (S.tt ho).2.1.trans hk, if_pos hk⟩
    · exact Or.inl ⟨if_neg hk, fun q => hk q.2⟩
  · rw [if_neg h2]
    exact Or.inl ⟨rfl, fun q => h2 q.1⟩
theorem Sm.iO (S : Sm ph s M) {r : Rf} (hr : VV (sN s) (sK s) r) (h27 : M.1 27 = (can ph r).1) (h28 : M.1 28 = (can ph r).2) : M.1 27 = 2 → ∃ i, i < 40 ∧ M.1 28 = nI i := by
  intro h
  obtain ⟨i, hi, e⟩ := (hr.can S.hp S.k200).2.1 (h27 ▸ h)
  have := S.n40
  exact ⟨i, by omega, h28.trans e⟩
theorem m_D_ofUnsealer (l : Launch) (hT : TOK T) (S : Sm ph s M) (hi : i < sN s) (h5 : tK (sT s i) = 5) {r : Rf} (hr : VV (sN s) (sK s) r) (h27 : M.1 27 = (can ph r).1) (h28 : M.1 28 = (can ph r).2) : CtD l T y_D_ofUnsealer W_D_ofUnsealer rm_D_ofUnsealer b A [.inr (some b), .inl (nI i)] M (PS ph M (unsealS s i r)) := by
  intro w R
  refine ct_D_ofUnsealer rfl (nle rfl) ?_
  intro X hl C E
  have V := hv_D_ofUnsealer hT
  suffices JD T G_D_ofUnsealer X b A 0 [some (.inr (some b)), some (.inl (nI i)), none] [] M from this w R
  have n40 := S.n40
  have k200 := S.k200
  obtain ⟨o, ho, eo, e3⟩ := S.wK hi (by simp [h5])
  have no : unsealS s i r = (s, rB) → JD T G_D_ofUnsealer X b A 31 [some (.inr (some b)), some (.inl (nI i)), none] [] M := by
    intro hE
    rw [hE] at E
    refine jd_ifT C rfl rfl ?_
    refine jd_call C hT rfl (fc_D_D_broken V (by decide)) (m_D_broken _ hT) (As := []) rfl rfl rfl (nle rfl) rfl rfl ?_
    rintro v M' ⟨rfl, rfl⟩
    exact jd_vret C E rfl rfl ⟨rfl, S.hold, (RR.same VV.brk).a, Fr.rf.hold⟩
  refine jd_call C hT rfl (fc_D_D_isObject V (by decide)) (m_D_isObject _ hT 6 (S.iO hr h27 h28)) (As := [.inl 6]) rfl rfl rfl (nle rfl) rfl rfl ?_
  rintro v M ⟨rfl, rfl⟩
  rw [h27, h28]
  rcases S.kOfE hr 6 with ⟨hk, hn⟩ | ⟨p, hp, c1, c2, hk6, hM6, hk⟩
  · rw [decide_eq_false hn]
    refine jd_ifT C rfl rfl ?_
    exact no (by unfold unsealS; rw [hk])
  · rw [decide_eq_true ⟨c1, by rw [c2, nI_clamp (by omega)]; exact hM6⟩]
    obtain ⟨o', ho', eo', e3'⟩ := S.wK hp (by simp [hk6])
    refine jd_ifF C rfl rfl ?_
    refine jd_get C rfl (fg_D_D_link V) rfl ?_
    refine jd_get C rfl (fg_D_D_ref V) rfl ?_
    refine jd_ald C hT (f := 3) rfl (by decide) rfl rfl p (h28.trans c2) (by show p < 40; omega) ?_
    refine jd_get C rfl (fg_D_D_link V) rfl ?_
    refine jd_ald C hT (f := 3) rfl (by decide) rfl rfl i rfl (by show i < 40; omega) ?_
    rw [e3, e3']
    refine jd_icmp C rfl (fun h => ?_) (fun h => ?_)
    · exact no (by
        unfold unsealS; rw [hk]; dsimp only
        rw [if_neg (by rw [eo, eo']; intro q; cases q; exact h rfl)])
    · have hoo : o' = o := nI_inj (by omega) (by omega) (Classical.not_not.mp h)
      subst hoo
      refine jd_goto C rfl ?_
      refine jd_ifF C rfl rfl ?_
      refine jd_get C rfl (fg_D_D_ownSort V) rfl ?_
      refine jd_get C rfl (fg_D_D_ref V) rfl ?_
      refine jd_ald C hT (f := 7) rfl (by decide) rfl rfl p (h28.trans c2) (by show p < 40; omega) ?_
      refine jd_get C rfl (fg_D_D_own V) rfl ?_
      refine jd_get C rfl (fg_D_D_ref V) rfl ?_
      refine jd_ald C hT (f := 8) rfl (by decide) rfl rfl p (h28.trans c2) (by show p < 40; omega) ?_
      refine jd_call C hT rfl (fc_D_D_hold V (by decide)) (m_D_hold _ hT (M.2 7 p) (M.2 8 p)) (As := [.inl (M.2 7 p), .inl (M.2 8 p)]) rfl rfl rfl (nle rfl) rfl rfl ?_
      rintro v M' ⟨rfl, rfl⟩
      refine jd_goto C rfl ?_
      refine jd_vret C E rfl rfl ?_
      rw [show unsealS s i r = (s, bN (tD (sT s p))) by unfold unsealS; rw [hk]; dsimp only; rw [if_pos (by rw [eo, eo'])]]
      exact ⟨rfl, S.hold, RA.bn S.hp k200 (S.tt hp).2.2.2.2.2.2.2.1, Fr.rf.hold⟩
theorem m_D_ofMint (l : Launch) (hT : TOK T) (S : Sm ph s M) (hi : i < sN s) {r : Rf} (hr : VV (sN s) (sK s) r) (h27 : M.1 27 = (can ph r).1) (h28 : M.1 28 = (can ph r).2) : CtD l T y_D_ofMint W_D_ofMint rm_D_ofMint b A [.inr (some b), .inl (nI i)] M (PS ph M (moneyS s i r)) := by
  intro w R
  refine ct_D_ofMint rfl (nle rfl) ?_
  intro X hl C E
  have V := hv_D_ofMint hT
  suffices JD T G_D_ofMint X b A 0 [some (.inr (some b)), some (.inl (nI i)), none] [] M from this w R
  have n40 := S.n40
  have k200 := S.k200
  have hcn := S.cntE hr
  unfold moneyS isNumU at E
  rw [hcn] at E
  generalize can ph r = c at E h27 h28
  have no : ¬ (c.1 = 1 ∧ ¬ c.2 < 0 ∧ ¬ (1000000 : Int32) < c.2) → JD T G_D_ofMint X b A 22 [some (.inr (some b)), some (.inl (nI i)), some (.inl c.2)] [] M := by
    intro hE
    rw [decide_eq_false hE] at E
    refine jd_call C hT rfl (fc_D_D_broken V (by decide)) (m_D_broken _ hT) (As := []) rfl rfl rfl (nle rfl) rfl rfl ?_
    rintro v M' ⟨rfl, rfl⟩
    exact jd_vret C E rfl rfl ⟨rfl, S.hold, (RR.same VV.brk).a, Fr.rf.hold⟩
  refine jd_get C rfl (fg_D_D_ref V) (u := .inl c.2) (by rw [← h28]; rfl) ?_
  refine jd_get C rfl (fg_D_D_sort V) (u := .inl c.1) (by rw [← h27]; rfl) ?_
  refine jd_icmp C rfl (fun h => no (fun q => h q.1)) (fun h => ?_)
  have h1 : c.1 = 1 := Classical.not_not.mp h
  refine jd_callS C rfl (fc_D_D_out V (by decide)) (m_D_out _ hT c.2 1000001 (by decide)) (As := [.inl c.2, .inl (nI 1000001)]) rfl rfl (nle rfl) rfl rfl ?_
  have hlim : (nI 1000001 ≤ c.2 ↔ (1000000 : Int32) < c.2) := by
    rw [Int32.le_iff_toInt_le, Int32.lt_iff_toInt_lt, show (nI 1000001).toInt = 1000001 from by decide, show (1000000 : Int32).toInt = 1000000 from by decide]
    omega
  rcases ixO_cases 1000001 (by decide) c.2 with ⟨h, e⟩ | ⟨h0, h, e⟩ | ⟨x, hx, ex, h0, h, e⟩ <;> rw [e]
  · refine jd_ifF C rfl rfl ?_
    exact no (fun q => q.2.1 h)
  · refine jd_ifF C rfl rfl ?_
    exact no (fun q => q.2.2 (hlim.mp h))
  · refine jd_ifT C rfl rfl ?_
    rw [decide_eq_true ⟨h1, h0, fun q => h (hlim.mpr q)⟩, if_pos rfl] at E
    refine jd_get C rfl (fg_D_D_home V) rfl ?_
    refine jd_ald C hT (f := 2) rfl (by decide) rfl rfl i rfl (by show i < 40; omega) ?_
    rw [(S.tt hi).2.2.1]
    refine jd_call C hT rfl (fc_D_D_fresh V (by decide)) (m_D_fresh _ hT (n := sN s) S.hn n40 8 (tH (sT s i)) (nI i)) (As := [.inl 8, .inl (tH (sT s i)), .inl (nI i)]) rfl rfl rfl (nle rfl) rfl rfl ?_
    rintro v M' ⟨rfl, rfl⟩
    by_cases h40 : sN s < 40
    · rw [if_pos h40] at E ⊢
      refine jd_get C rfl (fg_D_D_sort V) (u := .inl 2) rfl ?_
      refine jd_icmpF C rfl cb_neF ?_
      refine jd_get C rfl (fg_D_D_balance V) rfl ?_
      refine jd_get C rfl (fg_D_D_ref V) (u := .inl (nI (sN s))) rfl ?_
      refine jd_ast C hT (f := 4) rfl (by decide) rfl rfl (sN s) rfl h40 ?_
      obtain ⟨q1, q2⟩ := S.pur h40 (hm := tH (sT s i)) (to := nI i) (x := c.2) (o := i) (by omega) (S.gd i hi).2.2 rfl
      exact jd_vret C E rfl rfl ⟨rfl, q1, (RR.same (VV.obj (i := sN s) (Nat.lt_succ_self _))).a, q2⟩
    · rw [if_neg h40] at E ⊢
      refine jd_get C rfl (fg_D_D_sort V) (u := .inl 4) rfl ?_
      refine jd_icmpT C rfl (by decide) ?_
      exact jd_vret C E rfl rfl ⟨rfl, S.hold, (RR.same VV.brk).a, Fr.rf.hold⟩
theorem nI_mul4s {o q : Nat} : (4 : Int32) * nI o + nI (4 + q) - 4 = nI (4 * o + q) := by
  rw [nI_mul4, ← Nat.add_assoc, Nat.add_right_comm]
  show nI (4 * o + q + 4) - nI 4 = _
  rw [← nI_add]
  exact Int32.add_sub_cancel _ _
theorem nI_s4 {q : Nat} : nI (4 + q) - 4 = nI q := by
  rw [Nat.add_comm]
  show nI (q + 4) - nI 4 = _
  rw [← nI_add]
  exact Int32.add_sub_cancel _ _
theorem m_D_ofGuard (l : Launch) (hT : TOK T) (S : Sm ph s M) (hi : i < sN s) (hk : tK (sT s i) = 1 ∨ tK (sT s i) = 9) {v : Nat} (hv : v < 16) {r : Rf} (hr : VV (sN s) (sK s) r) (h27 : M.1 27 = (can ph r).1) (h28 : M.1 28 = (can ph r).2) : CtD l T y_D_ofGuard W_D_ofGuard rm_D_ofGuard b A [.inr (some b), .inl (nI i), .inl (nI v)] M (PS ph M (if nI v = 0 then (if tK (sT s i) = 1 then (s, rTo (tF (sT s i))) else wrapS s r i 0) else ansRev s i (nI v))) := by
  intro w R
  refine ct_D_ofGuard rfl (nle rfl) ?_
  intro X hl C E
  have V := hv_D_ofGuard hT
  suffices JD T G_D_ofGuard X b A 0 [some (.inr (some b)), some (.inl (nI i)), some (.inl (nI v))] [] M from this w R
  have n40 := S.n40
  have k200 := S.k200
  have ht := S.tt hi
  have tail0 : ∀ M', PS ph M (if nI v = 0 then (if tK (sT s i) = 1 then (s, rTo (tF (sT s i))) else wrapS s r i 0) else ansRev s i (nI v)) none M' → v = 0 → JD T G_D_ofGuard X b A 54 [some (.inr (some b)), some (.inl (nI i)), some (.inl (nI v))] [] M' := by
    rintro M' hP rfl
    refine jd_icmpT C rfl (by decide) ?_
    refine jd_icmpT C rfl (by decide) ?_
    refine jd_icmpT C rfl (by decide) ?_
    exact jd_vret C E rfl rfl hP
  by_cases h0 : v = 0
  · subst h0
    refine jd_ifF C rfl (by decide) ?_
    refine jd_get C rfl (fg_D_D_kind V) rfl ?_
    refine jd_ald C hT (f := 1) rfl (by decide) rfl rfl i rfl (by show i < 40; omega) ?_
    rw [ht.2.1]
    refine jd_icmp C rfl (fun h => ?_) (fun h => ?_)
    · have h : ¬ tK (sT s i) = 1 := h
      refine jd_ifF C rfl (by decide) ?_
      refine jd_call C hT rfl (fc_D_D_wrap V (by decide)) (m_D_wrap _ hT S hi (Or.inl rfl) hr h27 h28) (As := [.inl (nI i), .inl 0]) rfl rfl rfl (nle rfl) rfl rfl ?_
      rintro v M' ⟨bb, rfl, q1, q2, q3, q4, q5⟩
      refine jd_goto C rfl ?_
      refine tail0 M' ?_ rfl
      rw [if_pos (by decide), if_neg h]
      refine ⟨rfl, q1, ?_, q2⟩
      cases bb with
      | true => exact (q4 rfl).a
      | false =>
        obtain ⟨e1, rfl⟩ := q5 rfl
        refine ⟨q3, ?_, ?_⟩
        · rw [h27, h28, show sK (wrapS s r i 0).1 = sK s from congrArg (fun z => z.1) wrapS_st.2.2]
          exact (hr.can S.hp k200).1
        · rw [h27, h28, e1]
          show can ph r = can ph (can ph r) ∨ _
          rw [S.c1.idem k200 hr.1]
          exact Or.inl rfl
    · have h : tK (sT s i) = 1 := Classical.not_not.mp h
      refine jd_get C rfl (fg_D_D_link V) rfl ?_
      refine jd_ald C hT (f := 3) rfl (by decide) rfl rfl i rfl (by show i < 40; omega) ?_
      refine jd_call C hT rfl (fc_D_D_hold V (by decide)) (m_D_hold _ hT 2 (M.2 3 i)) (As := [.inl 2, .inl (M.2 3 i)]) rfl rfl rfl (nle rfl) rfl rfl ?_
      rintro v M' ⟨rfl, rfl⟩
      refine jd_goto C rfl ?_
      refine tail0 _ ?_ rfl
      rw [if_pos (by decide), if_pos h]
      obtain ⟨o, ho, e⟩ : ∃ o, o < sN s ∧ tF (sT s i) = some o := by
        rcases ht.1 with ⟨-, -, q⟩ | ⟨q, -⟩ | ⟨q, -⟩
        · exact q
        · rw [h] at q; rcases q with q | q | q | q | q | q <;> exact absurd q (by decide)
        · rw [h] at q; rcases q with q | q | q | q <;> exact absurd q (by decide)
      rw [ht.2.2.2.1, e]
      unfold lk
      rw [if_pos h, e]
      exact ⟨rfl, S.hold, (RR.same (VV.obj ho)).a, Fr.rf.hold⟩
  · have hv0 : ¬ nI v = 0 := nI_ne0 (by omega) (by omega)
    rw [if_neg hv0] at E
    clear tail0
    refine jd_ifT C rfl (cb_neT hv0) ?_
    refine jd_ifT C rfl (cb_neT hv0) ?_
    unfold ansRev at E
    by_cases h1 : v = 1
    · subst h1
      refine jd_icmpF C rfl cb_neF ?_
      refine jd_get C rfl (fg_D_D_revoked V) rfl ?_
      refine jd_zst C hT (f := 6) rfl (by decide) rfl rfl i rfl (by show i < 40; omega) (Or.inr rfl) ?_
      refine jd_icmpF C rfl cb_neF ?_
      refine jd_call C hT rfl (fc_D_D_hold V (by decide)) (m_D_hold _ hT 1 0) (As := [.inl 1, .inl 0]) rfl rfl rfl (nle rfl) rfl rfl ?_
      rintro v M' ⟨rfl, rfl⟩
      refine jd_icmpT C rfl (by decide) ?_
      refine jd_icmpT C rfl (by decide) ?_
      exact jd_vret C E rfl rfl ⟨rfl, (S.rev hi).hold, (RR.same (VV.num 0)).a, (Fr.rf.st (f := 6) (by decide)).hold⟩
    · have hv1 : ¬ nI v = 1 := fun q => h1 (nI_inj (b := 1) (by omega) (by omega) q)
      rw [if_neg hv1] at E
      refine jd_icmpT C rfl (cb_neT hv1) ?_
      refine jd_icmpT C rfl (cb_neT hv1) ?_
      by_cases h2 : v = 2
      · subst h2
        rw [if_pos (by decide)] at E
        refine jd_icmpF C rfl cb_neF ?_
        refine jd_get C rfl (fg_D_D_revoked V) rfl ?_
        refine jd_zld C hT (f := 6) rfl (by decide) rfl rfl i rfl (by show i < 40; omega) ?_
        rw [ht.2.2.2.2.2.2.1]
        have fin : JD T G_D_ofGuard X b A 86 [some (.inr (some b)), some (.inl (nI i)), some (.inl (nI 2))] [.inl (tV (sT s i)), .inl 1, .inr (some b)] M := by
          refine jd_call C hT rfl (fc_D_D_hold V (by decide)) (m_D_hold _ hT 1 (tV (sT s i))) (As := [.inl 1, .inl (tV (sT s i))]) rfl rfl rfl (nle rfl) rfl rfl ?_
          rintro v M' ⟨rfl, rfl⟩
          refine jd_icmpT C rfl (by decide) ?_
          exact jd_vret C E rfl rfl ⟨rfl, S.hold, (RR.same (VV.num _)).a, Fr.rf.hold⟩
        rcases (S.gd i hi).1 with e | e <;> rw [e] at fin ⊢
        · refine jd_ifT C rfl rfl ?_
          exact jd_to C 86 rfl fin
        · refine jd_ifF C rfl rfl ?_
          exact jd_goto C rfl fin
      · have hv2 : ¬ nI v = 2 := fun q => h2 (nI_inj (b := 2) (by omega) (by omega) q)
        rw [if_neg hv2] at E
        refine jd_icmpT C rfl (cb_neT hv2) ?_
        refine jd_icmpF C rfl (Bool.eq_false_iff.mpr fun q => nI_ge (a := 2) (b := v) (by omega) (by omega) (fw_cb_iff.mp q)) ?_
        refine jd_call C hT rfl (fc_D_D_broken V (by decide)) (m_D_broken _ hT) (As := []) rfl rfl rfl (nle rfl) rfl rfl ?_
        rintro v M' ⟨rfl, rfl⟩
        exact jd_vret C E rfl rfl ⟨rfl, S.hold, (RR.same VV.brk).a, Fr.rf.hold⟩
theorem m_D_ofPurse (l : Launch) (hT : TOK T) (S : Sm ph s M) (hi : i < sN s) (hk : tK (sT s i) = 8) {v : Nat} (hv : v < 16) {r : Rf} (hr : VV (sN s) (sK s) r) (h27 : M.1 27 = (can ph r).1) (h28 : M.1 28 = (can ph r).2) : CtD l T y_D_ofPurse W_D_ofPurse rm_D_ofPurse b A [.inr (some b), .inl (nI i), .inl (nI v)] M (PS ph M (ansPurse s i (nI v) r)) := by
  intro w R
  refine ct_D_ofPurse rfl (nle rfl) ?_
  intro X hl C E
  have V := hv_D_ofPurse hT
  suffices JD T G_D_ofPurse X b A 0 [some (.inr (some b)), some (.inl (nI i)), some (.inl (nI v)), none, none, none] [] M from this w R
  have n40 := S.n40
  have k200 := S.k200
  have ht := S.tt hi
  obtain ⟨o, ho, eo, e3⟩ := S.wK hi (by simp [hk])
  have brk : ∀ z, ansPurse s i (nI v) r = (s, rB) → JD T G_D_ofPurse X b A 205 [some (.inr (some b)), some (.inl (nI i)), some (.inl (nI v)), z, none, none] [] M := by
    intro z hE
    rw [hE] at E
    refine jd_call C hT rfl (fc_D_D_broken V (by decide)) (m_D_broken _ hT) (As := []) rfl rfl rfl (nle rfl) rfl rfl ?_
    rintro v M' ⟨rfl, rfl⟩
    exact jd_vret C E rfl rfl ⟨rfl, S.hold, (RR.same VV.brk).a, Fr.rf.hold⟩
  -- a purse with x in it, taken from this one
  have spl : ∀ x, ansPurse s i (nI v) r = (if sN s < 40 then (upT (sN s + 1, va_up (sT s) (sN s) (8, tH (sT s i), tO (sT s i), fun _ => rN, rN, none, 0, 0, x), s.2.2) i (tSetB (sT s i) (tB (sT s i) - x)), (2, nI (sN s))) else (s, rB)) → JD T G_D_ofPurse X b A 152 [some (.inr (some b)), some (.inl (nI i)), some (.inl (nI v)), some (.inl x), none, none] [] M := by
    intro x hE
    rw [hE] at E
    refine jd_get C rfl (fg_D_D_home V) rfl ?_
    refine jd_ald C hT (f := 2) rfl (by decide) rfl rfl i rfl (by show i < 40; omega) ?_
    refine jd_get C rfl (fg_D_D_link V) rfl ?_
    refine jd_ald C hT (f := 3) rfl (by decide) rfl rfl i rfl (by show i < 40; omega) ?_
    rw [ht.2.2.1, e3]
    refine jd_call C hT rfl (fc_D_D_fresh V (by decide)) (m_D_fresh _ hT (n := sN s) S.hn n40 8 (tH (sT s i)) (nI o)) (As := [.inl 8, .inl (tH (sT s i)), .inl (nI o)]) rfl rfl rfl (nle rfl) rfl rfl ?_
    rintro v M' ⟨rfl, rfl⟩
    by_cases h40 : sN s < 40
    · rw [if_pos h40] at E ⊢
      refine jd_get C rfl (fg_D_D_sort V) (u := .inl 2) rfl ?_
      refine jd_icmpF C rfl cb_neF ?_
      refine jd_get C rfl (fg_D_D_balance V) rfl ?_
      refine jd_get C rfl (fg_D_D_ref V) (u := .inl (nI (sN s))) rfl ?_
      refine jd_ast C hT (f := 4) rfl (by decide) rfl rfl (sN s) rfl h40 ?_
      refine jd_get C rfl (fg_D_D_balance V) rfl ?_
      refine jd_get C rfl (fg_D_D_balance V) rfl ?_
      refine jd_ald C hT (f := 4) rfl (by decide) rfl rfl i rfl (by show i < 40; omega) ?_
      refine jd_ast C hT (f := 4) rfl (by decide) rfl rfl i rfl (by show i < 40; omega) ?_
      refine jd_goto C rfl ?_
      obtain ⟨q1, q2⟩ := S.pur h40 (hm := tH (sT s i)) (to := nI o) (x := x) (o := o) (by omega) (S.gd i hi).2.2 rfl
      rw [← eo] at q1
      have q3 := q1.bal (i := i) (by show i < sN s + 1; omega) (tB (sT s i) - x)
      have hsT : sT (sN s + 1, va_up (sT s) (sN s) ((8, tH (sT s i), tO (sT s i), fun _ => rN, rN, none, 0, 0, x) : Th), s.2.2) i = sT s i := va_up_ne _ _ (by omega)
      rw [hsT] at q3
      refine jd_vret C E rfl rfl ?_
      have hld : (mSt (mFM M (sN s) 8 (tH (sT s i)) (nI o)) 4 (sN s) x).2 4 i = tB (sT s i) := by
        have := (q1.tt (i := i) (by show i < sN s + 1; omega)).2.2.2.2.1
        rw [hsT] at this
        exact this
      have hfr := q2.st (f := 4) (g := va_up ((mSt (mFM M (sN s) 8 (tH (sT s i)) (nI o)) 4 (sN s) x).2 4) i (tB (sT s i) - x)) (by decide)
      rw [← hld] at q3 hfr
      rw [← hld]
      exact ⟨rfl, q3, (RR.same (VV.obj (i := sN s) (Nat.lt_succ_self _))).a, hfr⟩
    · rw [if_neg h40] at E ⊢
      refine jd_get C rfl (fg_D_D_sort V) (u := .inl 4) rfl ?_
      refine jd_icmpT C rfl (by decide) ?_
      exact jd_vret C E rfl rfl ⟨rfl, S.hold, (RR.same VV.brk).a, Fr.rf.hold⟩
  by_cases h3 : v = 3
  · subst h3
    have hE : ansPurse s i (nI 3) r = splitS s i r := rfl
    refine jd_icmpF C rfl cb_neF ?_
    refine jd_get C rfl (fg_D_D_ref V) (u := .inl (can ph r).2) (by rw [← h28]; rfl) ?_
    refine jd_goto C rfl ?_
    refine jd_ifT C rfl (by decide) ?_
    refine jd_icmpT C rfl (by decide) ?_
    refine jd_icmpF C rfl (by decide) ?_
    refine jd_icmpF C rfl cb_neF ?_
    have hcn := S.cntE hr
    have nob : ¬ ((can ph r).1 = 1 ∧ ¬ (can ph r).2 < 0 ∧ ¬ tB (sT s i) < (can ph r).2) → ansPurse s i (nI 3) r = (s, rB) := fun q => by
      rw [hE]; unfold splitS isNumU; rw [hcn, decide_eq_false q]; rfl
    refine jd_get C rfl (fg_D_D_sort V) (u := .inl (can ph r).1) (by rw [← h27]; rfl) ?_
    refine jd_icmp C rfl (fun h => brk _ (nob (fun q => h q.1))) (fun h => ?_)
    have c1 : (can ph r).1 = 1 := Classical.not_not.mp h
    refine jd_if C rfl (fun h => brk _ (nob (fun q => q.2.1 h))) (fun c2 => ?_)
    refine jd_get C rfl (fg_D_D_balance V) rfl ?_
    refine jd_ald C hT (f := 4) rfl (by decide) rfl rfl i rfl (by show i < 40; omega) ?_
    rw [ht.2.2.2.2.1]
    refine jd_icmp C rfl (fun h => brk _ (nob (fun q => q.2.2 h))) (fun c3 => ?_)
    refine spl (can ph r).2 ?_
    rw [hE]; unfold splitS isNumU; rw [hcn, decide_eq_true ⟨c1, c2, c3⟩, if_pos rfl]
  · refine jd_icmpT C rfl (cb_neT (fun q => h3 (nI_inj (b := 3) (by omega) (by omega) q))) ?_
    by_cases h0 : v = 0
    · subst h0
      refine jd_ifF C rfl (by decide) ?_
      refine jd_get C rfl (fg_D_D_balance V) rfl ?_
      refine jd_ald C hT (f := 4) rfl (by decide) rfl rfl i rfl (by show i < 40; omega) ?_
      rw [ht.2.2.2.2.1]
      refine jd_call C hT rfl (fc_D_D_hold V (by decide)) (m_D_hold _ hT 1 (tB (sT s i))) (As := [.inl 1, .inl (tB (sT s i))]) rfl rfl rfl (nle rfl) rfl rfl ?_
      rintro v M' ⟨rfl, rfl⟩
      refine jd_goto C rfl ?_
      exact jd_vret C E rfl rfl ⟨rfl, S.hold, (RR.same (VV.num _)).a, Fr.rf.hold⟩
    refine jd_ifT C rfl (cb_neT (nI_ne0 (by omega) (by omega))) ?_
    by_cases h2 : v = 2
    · subst h2
      have hE : ansPurse s i (nI 2) r = depositS s i r := rfl
      have no : ansPurse s i (nI 2) r = (s, rB) → JD T G_D_ofPurse X b A 120 [some (.inr (some b)), some (.inl (nI i)), some (.inl (nI 2)), some (.inl 0), none, none] [] M := by
        intro q
        refine jd_icmpF C rfl (by decide) ?_
        refine jd_icmpT C rfl (by decide) ?_
        exact brk _ q
      refine jd_icmpF C rfl cb_neF ?_
      refine jd_call C hT rfl (fc_D_D_isObject V (by decide)) (m_D_isObject _ hT 8 (S.iO hr h27 h28)) (As := [.inl 8]) rfl rfl rfl (nle rfl) rfl rfl ?_
      rintro v M ⟨rfl, rfl⟩
      rw [h27, h28]
      rcases S.kOfE hr 8 with ⟨hkk, hn⟩ | ⟨p, hp, c1, c2, hk8, hM8, hkk⟩
      · rw [decide_eq_false hn]
        refine jd_ifT C rfl rfl ?_
        exact no (by rw [hE]; unfold depositS; rw [hkk])
      rw [decide_eq_true ⟨c1, by rw [c2, nI_clamp (by omega)]; exact hM8⟩]
      obtain ⟨o', ho', eo', e3'⟩ := S.wK hp (by simp [hk8])
      refine jd_ifF C rfl rfl ?_
      refine jd_get C rfl (fg_D_D_ref V) (u := .inl (nI p)) (by rw [← c2, ← h28]; rfl) ?_
      by_cases hpi : p = i
      · refine jd_icmpT C rfl (by rw [hpi]; exact cb_eqT) ?_
        exact no (by rw [hE]; unfold depositS; rw [hkk]; dsimp only; rw [if_neg (fun q => q.1 hpi)])
      refine jd_icmpF C rfl (cb_eqF (fun q => hpi (nI_inj (by omega) (by omega) q))) ?_
      refine jd_get C rfl (fg_D_D_link V) rfl ?_
      refine jd_get C rfl (fg_D_D_ref V) (u := .inl (nI p)) (by rw [← c2, ← h28]; rfl) ?_
      refine jd_ald C hT (f := 3) rfl (by decide) rfl rfl p rfl (by show p < 40; omega) ?_
      refine jd_get C rfl (fg_D_D_link V) rfl ?_
      refine jd_ald C hT (f := 3) rfl (by decide) rfl rfl i rfl (by show i < 40; omega) ?_
      rw [e3, e3']
      refine jd_icmp C rfl (fun h => ?_) (fun h => ?_)
      · exact no (by
          rw [hE]; unfold depositS; rw [hkk]; dsimp only
          rw [if_neg (by rw [eo, eo']; intro q; have := q.2; cases this; exact h rfl)])
      have hoo : o' = o := nI_inj (by omega) (by omega) (Classical.not_not.mp h)
      subst hoo
      refine jd_get C rfl (fg_D_D_ref V) (u := .inl (nI p)) (by rw [← c2, ← h28]; rfl) ?_
      refine jd_get C rfl (fg_D_D_balance V) rfl ?_
      refine jd_ald C hT (f := 4) rfl (by decide) rfl rfl p rfl (by show p < 40; omega) ?_
      rw [(S.tt hp).2.2.2.2.1]
      refine jd_get C rfl (fg_D_D_balance V) rfl ?_
      refine jd_ast C hT (f := 4) rfl (by decide) rfl rfl p rfl (by show p < 40; omega) ?_
      refine jd_get C rfl (fg_D_D_balance V) rfl ?_
      refine jd_get C rfl (fg_D_D_balance V) rfl ?_
      refine jd_ald C hT (f := 4) rfl (by decide) rfl rfl i rfl (by show i < 40; omega) ?_
      refine jd_ast C hT (f := 4) rfl (by decide) rfl rfl i rfl (by show i < 40; omega) ?_
      refine jd_call C hT rfl (fc_D_D_hold V (by decide)) (m_D_hold _ hT 1 (tB (sT s p))) (As := [.inl 1, .inl (tB (sT s p))]) rfl rfl rfl (nle rfl) rfl rfl ?_
      rintro v M' ⟨rfl, rfl⟩
      refine jd_goto C rfl ?_
      refine jd_vret C E rfl rfl ?_
      rw [hE, show depositS s i r = (upT (upT s p (tSetB (sT s p) 0)) i (tSetB (sT s i) (tB (sT s i) + tB (sT s p))), (1, tB (sT s p))) by unfold depositS; rw [hkk]; dsimp only; rw [if_pos ⟨hpi, by rw [eo, eo']⟩]]
      have q1 := S.bal hp 0
      have hsT : sT (upT s p (tSetB (sT s p) 0)) i = sT s i := va_up_ne _ _ (fun q => hpi q.symm)
      have q2 := q1.bal (i := i) hi (tB (sT s i) + tB (sT s p))
      rw [hsT] at q2
      have hld : (mSt M 4 p 0).2 4 i = tB (sT s i) := by
        have := (q1.tt (i := i) hi).2.2.2.2.1
        rw [hsT] at this
        exact this
      have hfr := ((Fr.rf (M := M)).st (f := 4) (g := va_up (M.2 4) p 0) (by decide)).st (f := 4) (g := va_up ((mSt M 4 p 0).2 4) i (tB (sT s i) + tB (sT s p))) (by decide)
      rw [← hld] at q2 hfr
      rw [← hld]
      exact ⟨rfl, q2.hold, (RR.same (VV.num _)).a, hfr.hold⟩
    refine jd_icmpT C rfl (cb_neT (fun q => h2 (nI_inj (b := 2) (by omega) (by omega) q))) ?_
    by_cases h1 : v = 1
    · subst h1
      have hE : ansPurse s i (nI 1) r = mkR s 8 (tH (sT s i)) (tO (sT s i)) := rfl
      refine jd_icmpT C rfl cb_eqT ?_
      refine spl 0 ?_
      rw [hE]
      unfold mkR make
      by_cases h40 : sN s < 40
      · rw [if_pos h40, if_pos h40]
        refine Prod.ext (Prod.ext rfl (Prod.ext ?_ rfl)) rfl
        show va_up (sT s) (sN s) _ = va_up (va_up (sT s) (sN s) _) i (tSetB (sT s i) (tB (sT s i) - 0))
        rw [va_up_eq (f := va_up (sT s) (sN s) _) (i := i)]
        rw [va_up_ne _ _ (by omega), Int32.sub_zero]
      · rw [if_neg h40, if_neg h40]
        rfl
    · refine jd_icmpF C rfl (cb_eqF (fun q => h1 (nI_inj (b := 1) (by omega) (by omega) q))) ?_
      refine jd_icmpT C rfl (cb_neT (fun q => h3 (nI_inj (b := 3) (by omega) (by omega) q))) ?_
      refine brk _ ?_
      unfold ansPurse
      rw [if_neg (nI_ne0 (by omega) (by omega)), if_neg (show ¬ nI v = 1 from fun q => h1 (nI_inj (b := 1) (by omega) (by omega) q)), if_neg (show ¬ nI v = 2 from fun q => h2 (nI_inj (b := 2) (by omega) (by omega) q)), if_neg (show ¬ nI v = 3 from fun q => h3 (nI_inj (b := 3) (by omega) (by omega) q))]
end DAN
