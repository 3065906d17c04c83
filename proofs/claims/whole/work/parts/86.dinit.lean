/-! The reference's constructor. -/
theorem j_newz {T : fw_T} {G : fw_G} {X : fw_X} {w : fw_W} {k n : Nat} (C : fw_ok T G X) {pc pc' len nx tg t N : Nat} {v x : Int32} {L L' : List (Option fw_V)} {S S' : List fw_V} (h : fw_go (fw_from (gT G) pc) L S = some ((pc', .newarray .boolean, len, nx, tg, v), L', .inl x :: S')) (ht : fw_ar T t .boolean) (hw1 : Jvm.Cond.arrayClass .boolean ∈ gW G) (hx0 : ¬ x < 0) (hxN : x.toNatClampNeg = N) (hby : N * 1 ≤ 536870912) (hcl : k + 1 ≤ (gR G).cells) (hsl : n + N ≤ (gR G).slots)
    (kk : ∀ q : Nat, w q = none → J T G X nx L' (.inr (some q) :: S') (va_up w q (some (.inl (t, N, .inl (fun _ => 0))))) (k + 1) (n + N)) : J T G X pc L S w k n := by
  obtain ⟨⟨hd, hn, hlen, -⟩, hrun⟩ := fw_run (w := w) (k := k) (n := n) C h
  refine hrun ?_
  obtain ⟨⟨hx, hb, hml, ho, hts⟩, ⟨hK, -⟩, -⟩ := C
  simp only [fw_len] at hlen; subst hlen; subst hn; subst hxN
  intro H locs ls hl hP hD hS
  refine va_newaK hx hb (atype := .boolean) (hts _ hw1) rfl hd rfl hx0 rfl hby hcl hsl rfl fun H1 cA e1 z1 o1 hAr hNm => ?_
  have hcA : cA = fw_c T t := by
    have k4 := (hK.2 t _ (fw_ar_at ht)).2
    exact Option.some.inj (hNm.symm.trans k4)
  refine kk H.size (fw_none hP) H1 locs ls hl (hP.up ?_ (fun q _ hq => o1 q hq)) (hD.up (xF_new hS)) ⟨Nat.le_trans hS.1 (by omega), fun q h1 h2 => (o1 q (Nat.lt_of_lt_of_le h1 hS.1)).trans (hS.2.1 q h1 h2), hS.2.2⟩
  show H1[H.size]? = some (vp_cell _ _)
  rw [e1, hcA]
  rfl
def dFsO (A : Nat → Option Nat) : List fw_V := [.inl 0, .inr (A 1), .inr (A 2), .inr (A 3), .inr (A 4), .inr (A 5), .inr (A 6), .inr (A 7), .inr (A 8), .inr (A 9), .inr (A 10), .inl 0, .inr (A 12), .inr (A 13), .inr (A 14), .inl 0, .inr (A 16), .inr (A 17), .inr (A 18), .inr (A 19), .inr (A 20), .inr (A 21), .inr (A 22), .inr (A 23), .inr (A 24), .inr (A 25), .inr (A 26), .inl 0, .inl 0]
def ID (w : fw_W) (b : Nat) (A : Nat → Option Nat) : Prop := w b = some (.inr (kD, dFsO A)) ∧ (∀ f a, A f = some a → w a = some (.inl (dTy f, dLen f, .inl (fun _ => 0)))) ∧ ∀ f f' a, A f = some a → A f' = some a → f = f'
theorem ID.step {w : fw_W} {b q f : Nat} {A : Nat → Option Nat} (h : ID w b A) (hq : w q = none) : ID (va_up (va_up w q (some (.inl (dTy f, dLen f, .inl (fun _ => 0))))) b (some (.inr (kD, dFsO (va_up A f (some q)))))) b (va_up A f (some q)) := by
  have hbq : b ≠ q := ne_new h.1 hq
  refine ⟨va_up_self _ _ _, fun g a hg => ?_, fun g g' a hg hg' => ?_⟩
  · by_cases hgf : g = f
    · subst hgf
      rw [va_up_self] at hg
      cases hg
      rw [va_up_ne _ _ hbq.symm, va_up_self]
    · rw [va_up_ne _ _ hgf] at hg
      have ha := h.2.1 g a hg
      have hab : a ≠ b := fun e => by subst e; rw [h.1] at ha; cases ha
      rw [va_up_ne _ _ hab, va_up_ne _ _ (ne_new ha hq)]
      exact ha
  · by_cases hgf : g = f
    · subst hgf
      rw [va_up_self] at hg
      cases hg
      by_cases hgf' : g' = g
      · exact hgf'.symm
      · rw [va_up_ne _ _ hgf'] at hg'
        have := h.2.1 g' q hg'
        rw [hq] at this; cases this
    · rw [va_up_ne _ _ hgf] at hg
      by_cases hgf' : g' = f
      · subst hgf'
        rw [va_up_self] at hg'
        cases hg'
        have := h.2.1 g q hg
        rw [hq] at this; cases this
      · rw [va_up_ne _ _ hgf'] at hg'
        exact h.2.2 g g' a hg hg'
def M0 : Md := (fun _ => 0, fun _ _ => 0)
theorem ID.fin {w : fw_W} {b : Nat} {A : Nat → Option Nat} (h : ID w b A) (hA : ∀ f, f < 29 → dInt f = false → ∃ a, A f = some a) : ∃ A', RepD w b A' M0 := by
  refine ⟨fun f => (A f).getD 0, ?_, fun f hf hi => ?_, fun f f' hf hf' hi hi' e => ?_⟩
  · rw [h.1]
    have e : ∀ f, f < 29 → dInt f = false → A f = some ((A f).getD 0) := fun f hf hi => by
      obtain ⟨a, ha⟩ := hA f hf hi
      rw [ha]; rfl
    unfold dFsO dFs
    rw [show (Sum.inr (A 1) : fw_V) = .inr (some ((A 1).getD 0)) from congrArg Sum.inr (e 1 (by decide) rfl), show (Sum.inr (A 2) : fw_V) = .inr (some ((A 2).getD 0)) from congrArg Sum.inr (e 2 (by decide) rfl), show (Sum.inr (A 3) : fw_V) = .inr (some ((A 3).getD 0)) from congrArg Sum.inr (e 3 (by decide) rfl), show (Sum.inr (A 4) : fw_V) = .inr (some ((A 4).getD 0)) from congrArg Sum.inr (e 4 (by decide) rfl), show (Sum.inr (A 5) : fw_V) = .inr (some ((A 5).getD 0)) from congrArg Sum.inr (e 5 (by decide) rfl), show (Sum.inr (A 6) : fw_V) = .inr (some ((A 6).getD 0)) from congrArg Sum.inr (e 6 (by decide) rfl), show (Sum.inr (A 7) : fw_V) = .inr (some ((A 7).getD 0)) from congrArg Sum.inr (e 7 (by decide) rfl), show (Sum.inr (A 8) : fw_V) = .inr (some ((A 8).getD 0)) from congrArg Sum.inr (e 8 (by decide) rfl), show (Sum.inr (A 9) : fw_V) = .inr (some ((A 9).getD 0)) from congrArg Sum.inr (e 9 (by decide) rfl), show (Sum.inr (A 10) : fw_V) = .inr (some ((A 10).getD 0)) from congrArg Sum.inr (e 10 (by decide) rfl), show (Sum.inr (A 12) : fw_V) = .inr (some ((A 12).getD 0)) from congrArg Sum.inr (e 12 (by decide) rfl), show (Sum.inr (A 13) : fw_V) = .inr (some ((A 13).getD 0)) from congrArg Sum.inr (e 13 (by decide) rfl), show (Sum.inr (A 14) : fw_V) = .inr (some ((A 14).getD 0)) from congrArg Sum.inr (e 14 (by decide) rfl), show (Sum.inr (A 16) : fw_V) = .inr (some ((A 16).getD 0)) from congrArg Sum.inr (e 16 (by decide) rfl), show (Sum.inr (A 17) : fw_V) = .inr (some ((A 17).getD 0)) from congrArg Sum.inr (e 17 (by decide) rfl), show (Sum.inr (A 18) : fw_V) = .inr (some ((A 18).getD 0)) from congrArg Sum.inr (e 18 (by decide) rfl), show (Sum.inr (A 19) : fw_V) = .inr (some ((A 19).getD 0)) from congrArg Sum.inr (e 19 (by decide) rfl), show (Sum.inr (A 20) : fw_V) = .inr (some ((A 20).getD 0)) from congrArg Sum.inr (e 20 (by decide) rfl), show (Sum.inr (A 21) : fw_V) = .inr (some ((A 21).getD 0)) from congrArg Sum.inr (e 21 (by decide) rfl), show (Sum.inr (A 22) : fw_V) = .inr (some ((A 22).getD 0)) from congrArg Sum.inr (e 22 (by decide) rfl), show (Sum.inr (A 23) : fw_V) = .inr (some ((A 23).getD 0)) from congrArg Sum.inr (e 23 (by decide) rfl), show (Sum.inr (A 24) : fw_V) = .inr (some ((A 24).getD 0)) from congrArg Sum.inr (e 24 (by decide) rfl), show (Sum.inr (A 25) : fw_V) = .inr (some ((A 25).getD 0)) from congrArg Sum.inr (e 25 (by decide) rfl), show (Sum.inr (A 26) : fw_V) = .inr (some ((A 26).getD 0)) from congrArg Sum.inr (e 26 (by decide) rfl)]
    rfl
  · obtain ⟨a, ha⟩ := hA f hf hi
    show w ((A f).getD 0) = _
    rw [ha]
    exact h.2.1 f a ha
  · obtain ⟨a, ha⟩ := hA f hf hi
    obtain ⟨a', ha'⟩ := hA f' hf' hi'
    have e : (A f).getD 0 = (A f').getD 0 := e
    rw [ha, ha'] at e
    have e : a = a' := e
    subst e
    exact h.2.2 f f' a ha ha'
set_option maxHeartbeats 4000000 in
theorem m_D_init (l : Launch) {T : fw_T} (hT : TOK T) {w : fw_W} {b : Nat} (hw : w b = some (.inr (kD, nw_D))) : Ct l T y_D_init W_D_init rm_D_init [.inr (some b)] w (fun v w' => v = none ∧ ∃ A, RepD w' b A M0) := by
  refine ct_D_init rfl (nle rfl) ?_
  intro X hl C E
  have V := hv_D_init hT
  refine j_objV C V wm_D_O_init rfl (by decide) (by decide) ?_
  have I : ID w b (fun _ => none) := ⟨hw, fun f a q => by cases q, fun f f' a q => by cases q⟩
  refine j_newi (N := 40) C rfl hT.2.2.2.2.2.1 (V.2.2 _ wa_int) (by decide) (by decide) (by decide) (nle rfl) (nle rfl) (fun q1 hq1 => ?_)
  have hb := up_new (e := .inl (aI, 40, .inl (fun _ => 0))) I.1 hq1
  refine j_putE C rfl (fp_D_D_kind V rfl) hb (nlt rfl) (fit_a _ _) (.inr (kD, dFsO (va_up (fun _ => none) 1 (some q1)))) rfl ?_
  have I := I.step (f := 1) hq1
  clear hb
  generalize va_up (va_up _ q1 _) b _ = w1 at I ⊢
  refine j_newi (N := 40) C rfl hT.2.2.2.2.2.1 (V.2.2 _ wa_int) (by decide) (by decide) (by decide) (nle rfl) (nle rfl) (fun q2 hq2 => ?_)
  have hb := up_new (e := .inl (aI, 40, .inl (fun _ => 0))) I.1 hq2
  refine j_putE C rfl (fp_D_D_home V rfl) hb (nlt rfl) (fit_a _ _) (.inr (kD, dFsO (va_up (va_up (fun _ => none) 1 (some q1)) 2 (some q2)))) rfl ?_
  have I := I.step (f := 2) hq2
  clear hb
  generalize va_up (va_up _ q2 _) b _ = w2 at I ⊢
  refine j_newi (N := 40) C rfl hT.2.2.2.2.2.1 (V.2.2 _ wa_int) (by decide) (by decide) (by decide) (nle rfl) (nle rfl) (fun q3 hq3 => ?_)
  have hb := up_new (e := .inl (aI, 40, .inl (fun _ => 0))) I.1 hq3
  refine j_putE C rfl (fp_D_D_link V rfl) hb (nlt rfl) (fit_a _ _) (.inr (kD, dFsO (va_up (va_up (va_up (fun _ => none) 1 (some q1)) 2 (some q2)) 3 (some q3)))) rfl ?_
  have I := I.step (f := 3) hq3
  clear hb
  generalize va_up (va_up _ q3 _) b _ = w3 at I ⊢
  refine j_newi (N := 40) C rfl hT.2.2.2.2.2.1 (V.2.2 _ wa_int) (by decide) (by decide) (by decide) (nle rfl) (nle rfl) (fun q4 hq4 => ?_)
  have hb := up_new (e := .inl (aI, 40, .inl (fun _ => 0))) I.1 hq4
  refine j_putE C rfl (fp_D_D_balance V rfl) hb (nlt rfl) (fit_a _ _) (.inr (kD, dFsO (va_up (va_up (va_up (va_up (fun _ => none) 1 (some q1)) 2 (some q2)) 3 (some q3)) 4 (some q4)))) rfl ?_
  have I := I.step (f := 4) hq4
  clear hb
  generalize va_up (va_up _ q4 _) b _ = w4 at I ⊢
  refine j_newi (N := 40) C rfl hT.2.2.2.2.2.1 (V.2.2 _ wa_int) (by decide) (by decide) (by decide) (nle rfl) (nle rfl) (fun q5 hq5 => ?_)
  have hb := up_new (e := .inl (aI, 40, .inl (fun _ => 0))) I.1 hq5
  refine j_putE C rfl (fp_D_D_inward V rfl) hb (nlt rfl) (fit_a _ _) (.inr (kD, dFsO (va_up (va_up (va_up (va_up (va_up (fun _ => none) 1 (some q1)) 2 (some q2)) 3 (some q3)) 4 (some q4)) 5 (some q5)))) rfl ?_
  have I := I.step (f := 5) hq5
  clear hb
  generalize va_up (va_up _ q5 _) b _ = w5 at I ⊢
  refine j_newz (N := 40) C rfl hT.2.2.2.2.2.2 (V.2.2 _ wa_bool) (by decide) (by decide) (by decide) (nle rfl) (nle rfl) (fun q6 hq6 => ?_)
  have hb := up_new (e := .inl (aZ, 40, .inl (fun _ => 0))) I.1 hq6
  refine j_putE C rfl (fp_D_D_revoked V rfl) hb (nlt rfl) (fit_a _ _) (.inr (kD, dFsO (va_up (va_up (va_up (va_up (va_up (va_up (fun _ => none) 1 (some q1)) 2 (some q2)) 3 (some q3)) 4 (some q4)) 5 (some q5)) 6 (some q6)))) rfl ?_
  have I := I.step (f := 6) hq6
  clear hb
  generalize va_up (va_up _ q6 _) b _ = w6 at I ⊢
  refine j_newi (N := 40) C rfl hT.2.2.2.2.2.1 (V.2.2 _ wa_int) (by decide) (by decide) (by decide) (nle rfl) (nle rfl) (fun q7 hq7 => ?_)
  have hb := up_new (e := .inl (aI, 40, .inl (fun _ => 0))) I.1 hq7
  refine j_putE C rfl (fp_D_D_ownSort V rfl) hb (nlt rfl) (fit_a _ _) (.inr (kD, dFsO (va_up (va_up (va_up (va_up (va_up (va_up (va_up (fun _ => none) 1 (some q1)) 2 (some q2)) 3 (some q3)) 4 (some q4)) 5 (some q5)) 6 (some q6)) 7 (some q7)))) rfl ?_
  have I := I.step (f := 7) hq7
  clear hb
  generalize va_up (va_up _ q7 _) b _ = w7 at I ⊢
  refine j_newi (N := 40) C rfl hT.2.2.2.2.2.1 (V.2.2 _ wa_int) (by decide) (by decide) (by decide) (nle rfl) (nle rfl) (fun q8 hq8 => ?_)
  have hb := up_new (e := .inl (aI, 40, .inl (fun _ => 0))) I.1 hq8
  refine j_putE C rfl (fp_D_D_own V rfl) hb (nlt rfl) (fit_a _ _) (.inr (kD, dFsO (va_up (va_up (va_up (va_up (va_up (va_up (va_up (va_up (fun _ => none) 1 (some q1)) 2 (some q2)) 3 (some q3)) 4 (some q4)) 5 (some q5)) 6 (some q6)) 7 (some q7)) 8 (some q8)))) rfl ?_
  have I := I.step (f := 8) hq8
  clear hb
  generalize va_up (va_up _ q8 _) b _ = w8 at I ⊢
  refine j_newi (N := 160) C rfl hT.2.2.2.2.2.1 (V.2.2 _ wa_int) (by decide) (by decide) (by decide) (nle rfl) (nle rfl) (fun q9 hq9 => ?_)
  have hb := up_new (e := .inl (aI, 160, .inl (fun _ => 0))) I.1 hq9
  refine j_putE C rfl (fp_D_D_slotSort V rfl) hb (nlt rfl) (fit_a _ _) (.inr (kD, dFsO (va_up (va_up (va_up (va_up (va_up (va_up (va_up (va_up (va_up (fun _ => none) 1 (some q1)) 2 (some q2)) 3 (some q3)) 4 (some q4)) 5 (some q5)) 6 (some q6)) 7 (some q7)) 8 (some q8)) 9 (some q9)))) rfl ?_
  have I := I.step (f := 9) hq9
  clear hb
  generalize va_up (va_up _ q9 _) b _ = w9 at I ⊢
  refine j_newi (N := 160) C rfl hT.2.2.2.2.2.1 (V.2.2 _ wa_int) (by decide) (by decide) (by decide) (nle rfl) (nle rfl) (fun q10 hq10 => ?_)
  have hb := up_new (e := .inl (aI, 160, .inl (fun _ => 0))) I.1 hq10
  refine j_putE C rfl (fp_D_D_slot V rfl) hb (nlt rfl) (fit_a _ _) (.inr (kD, dFsO (va_up (va_up (va_up (va_up (va_up (va_up (va_up (va_up (va_up (va_up (fun _ => none) 1 (some q1)) 2 (some q2)) 3 (some q3)) 4 (some q4)) 5 (some q5)) 6 (some q6)) 7 (some q7)) 8 (some q8)) 9 (some q9)) 10 (some q10)))) rfl ?_
  have I := I.step (f := 10) hq10
  clear hb
  generalize va_up (va_up _ q10 _) b _ = w10 at I ⊢
  refine j_newi (N := 200) C rfl hT.2.2.2.2.2.1 (V.2.2 _ wa_int) (by decide) (by decide) (by decide) (nle rfl) (nle rfl) (fun q12 hq12 => ?_)
  have hb := up_new (e := .inl (aI, 200, .inl (fun _ => 0))) I.1 hq12
  refine j_putE C rfl (fp_D_D_place V rfl) hb (nlt rfl) (fit_a _ _) (.inr (kD, dFsO (va_up (va_up (va_up (va_up (va_up (va_up (va_up (va_up (va_up (va_up (va_up (fun _ => none) 1 (some q1)) 2 (some q2)) 3 (some q3)) 4 (some q4)) 5 (some q5)) 6 (some q6)) 7 (some q7)) 8 (some q8)) 9 (some q9)) 10 (some q10)) 12 (some q12)))) rfl ?_
  have I := I.step (f := 12) hq12
  clear hb
  generalize va_up (va_up _ q12 _) b _ = w12 at I ⊢
  refine j_newi (N := 200) C rfl hT.2.2.2.2.2.1 (V.2.2 _ wa_int) (by decide) (by decide) (by decide) (nle rfl) (nle rfl) (fun q13 hq13 => ?_)
  have hb := up_new (e := .inl (aI, 200, .inl (fun _ => 0))) I.1 hq13
  refine j_putE C rfl (fp_D_D_where V rfl) hb (nlt rfl) (fit_a _ _) (.inr (kD, dFsO (va_up (va_up (va_up (va_up (va_up (va_up (va_up (va_up (va_up (va_up (va_up (va_up (fun _ => none) 1 (some q1)) 2 (some q2)) 3 (some q3)) 4 (some q4)) 5 (some q5)) 6 (some q6)) 7 (some q7)) 8 (some q8)) 9 (some q9)) 10 (some q10)) 12 (some q12)) 13 (some q13)))) rfl ?_
  have I := I.step (f := 13) hq13
  clear hb
  generalize va_up (va_up _ q13 _) b _ = w13 at I ⊢
  refine j_newi (N := 200) C rfl hT.2.2.2.2.2.1 (V.2.2 _ wa_int) (by decide) (by decide) (by decide) (nle rfl) (nle rfl) (fun q14 hq14 => ?_)
  have hb := up_new (e := .inl (aI, 200, .inl (fun _ => 0))) I.1 hq14
  refine j_putE C rfl (fp_D_D_stamp V rfl) hb (nlt rfl) (fit_a _ _) (.inr (kD, dFsO (va_up (va_up (va_up (va_up (va_up (va_up (va_up (va_up (va_up (va_up (va_up (va_up (va_up (fun _ => none) 1 (some q1)) 2 (some q2)) 3 (some q3)) 4 (some q4)) 5 (some q5)) 6 (some q6)) 7 (some q7)) 8 (some q8)) 9 (some q9)) 10 (some q10)) 12 (some q12)) 13 (some q13)) 14 (some q14)))) rfl ?_
  have I := I.step (f := 14) hq14
  clear hb
  generalize va_up (va_up _ q14 _) b _ = w14 at I ⊢
  refine j_newi (N := 200) C rfl hT.2.2.2.2.2.1 (V.2.2 _ wa_int) (by decide) (by decide) (by decide) (nle rfl) (nle rfl) (fun q16 hq16 => ?_)
  have hb := up_new (e := .inl (aI, 200, .inl (fun _ => 0))) I.1 hq16
  refine j_putE C rfl (fp_D_D_targetSort V rfl) hb (nlt rfl) (fit_a _ _) (.inr (kD, dFsO (va_up (va_up (va_up (va_up (va_up (va_up (va_up (va_up (va_up (va_up (va_up (va_up (va_up (va_up (fun _ => none) 1 (some q1)) 2 (some q2)) 3 (some q3)) 4 (some q4)) 5 (some q5)) 6 (some q6)) 7 (some q7)) 8 (some q8)) 9 (some q9)) 10 (some q10)) 12 (some q12)) 13 (some q13)) 14 (some q14)) 16 (some q16)))) rfl ?_
  have I := I.step (f := 16) hq16
  clear hb
  generalize va_up (va_up _ q16 _) b _ = w16 at I ⊢
  refine j_newi (N := 200) C rfl hT.2.2.2.2.2.1 (V.2.2 _ wa_int) (by decide) (by decide) (by decide) (nle rfl) (nle rfl) (fun q17 hq17 => ?_)
  have hb := up_new (e := .inl (aI, 200, .inl (fun _ => 0))) I.1 hq17
  refine j_putE C rfl (fp_D_D_target V rfl) hb (nlt rfl) (fit_a _ _) (.inr (kD, dFsO (va_up (va_up (va_up (va_up (va_up (va_up (va_up (va_up (va_up (va_up (va_up (va_up (va_up (va_up (va_up (fun _ => none) 1 (some q1)) 2 (some q2)) 3 (some q3)) 4 (some q4)) 5 (some q5)) 6 (some q6)) 7 (some q7)) 8 (some q8)) 9 (some q9)) 10 (some q10)) 12 (some q12)) 13 (some q13)) 14 (some q14)) 16 (some q16)) 17 (some q17)))) rfl ?_
  have I := I.step (f := 17) hq17
  clear hb
  generalize va_up (va_up _ q17 _) b _ = w17 at I ⊢
  refine j_newi (N := 200) C rfl hT.2.2.2.2.2.1 (V.2.2 _ wa_int) (by decide) (by decide) (by decide) (nle rfl) (nle rfl) (fun q18 hq18 => ?_)
  have hb := up_new (e := .inl (aI, 200, .inl (fun _ => 0))) I.1 hq18
  refine j_putE C rfl (fp_D_D_verb V rfl) hb (nlt rfl) (fit_a _ _) (.inr (kD, dFsO (va_up (va_up (va_up (va_up (va_up (va_up (va_up (va_up (va_up (va_up (va_up (va_up (va_up (va_up (va_up (va_up (fun _ => none) 1 (some q1)) 2 (some q2)) 3 (some q3)) 4 (some q4)) 5 (some q5)) 6 (some q6)) 7 (some q7)) 8 (some q8)) 9 (some q9)) 10 (some q10)) 12 (some q12)) 13 (some q13)) 14 (some q14)) 16 (some q16)) 17 (some q17)) 18 (some q18)))) rfl ?_
  have I := I.step (f := 18) hq18
  clear hb
  generalize va_up (va_up _ q18 _) b _ = w18 at I ⊢
  refine j_newi (N := 200) C rfl hT.2.2.2.2.2.1 (V.2.2 _ wa_int) (by decide) (by decide) (by decide) (nle rfl) (nle rfl) (fun q19 hq19 => ?_)
  have hb := up_new (e := .inl (aI, 200, .inl (fun _ => 0))) I.1 hq19
  refine j_putE C rfl (fp_D_D_argumentSort V rfl) hb (nlt rfl) (fit_a _ _) (.inr (kD, dFsO (va_up (va_up (va_up (va_up (va_up (va_up (va_up (va_up (va_up (va_up (va_up (va_up (va_up (va_up (va_up (va_up (va_up (fun _ => none) 1 (some q1)) 2 (some q2)) 3 (some q3)) 4 (some q4)) 5 (some q5)) 6 (some q6)) 7 (some q7)) 8 (some q8)) 9 (some q9)) 10 (some q10)) 12 (some q12)) 13 (some q13)) 14 (some q14)) 16 (some q16)) 17 (some q17)) 18 (some q18)) 19 (some q19)))) rfl ?_
  have I := I.step (f := 19) hq19
  clear hb
  generalize va_up (va_up _ q19 _) b _ = w19 at I ⊢
  refine j_newi (N := 200) C rfl hT.2.2.2.2.2.1 (V.2.2 _ wa_int) (by decide) (by decide) (by decide) (nle rfl) (nle rfl) (fun q20 hq20 => ?_)
  have hb := up_new (e := .inl (aI, 200, .inl (fun _ => 0))) I.1 hq20
  refine j_putE C rfl (fp_D_D_argument V rfl) hb (nlt rfl) (fit_a _ _) (.inr (kD, dFsO (va_up (va_up (va_up (va_up (va_up (va_up (va_up (va_up (va_up (va_up (va_up (va_up (va_up (va_up (va_up (va_up (va_up (va_up (fun _ => none) 1 (some q1)) 2 (some q2)) 3 (some q3)) 4 (some q4)) 5 (some q5)) 6 (some q6)) 7 (some q7)) 8 (some q8)) 9 (some q9)) 10 (some q10)) 12 (some q12)) 13 (some q13)) 14 (some q14)) 16 (some q16)) 17 (some q17)) 18 (some q18)) 19 (some q19)) 20 (some q20)))) rfl ?_
  have I := I.step (f := 20) hq20
  clear hb
  generalize va_up (va_up _ q20 _) b _ = w20 at I ⊢
  refine j_newz (N := 200) C rfl hT.2.2.2.2.2.2 (V.2.2 _ wa_bool) (by decide) (by decide) (by decide) (nle rfl) (nle rfl) (fun q21 hq21 => ?_)
  have hb := up_new (e := .inl (aZ, 200, .inl (fun _ => 0))) I.1 hq21
  refine j_putE C rfl (fp_D_D_resolved V rfl) hb (nlt rfl) (fit_a _ _) (.inr (kD, dFsO (va_up (va_up (va_up (va_up (va_up (va_up (va_up (va_up (va_up (va_up (va_up (va_up (va_up (va_up (va_up (va_up (va_up (va_up (va_up (fun _ => none) 1 (some q1)) 2 (some q2)) 3 (some q3)) 4 (some q4)) 5 (some q5)) 6 (some q6)) 7 (some q7)) 8 (some q8)) 9 (some q9)) 10 (some q10)) 12 (some q12)) 13 (some q13)) 14 (some q14)) 16 (some q16)) 17 (some q17)) 18 (some q18)) 19 (some q19)) 20 (some q20)) 21 (some q21)))) rfl ?_
  have I := I.step (f := 21) hq21
  clear hb
  generalize va_up (va_up _ q21 _) b _ = w21 at I ⊢
  refine j_newi (N := 200) C rfl hT.2.2.2.2.2.1 (V.2.2 _ wa_int) (by decide) (by decide) (by decide) (nle rfl) (nle rfl) (fun q22 hq22 => ?_)
  have hb := up_new (e := .inl (aI, 200, .inl (fun _ => 0))) I.1 hq22
  refine j_putE C rfl (fp_D_D_endSort V rfl) hb (nlt rfl) (fit_a _ _) (.inr (kD, dFsO (va_up (va_up (va_up (va_up (va_up (va_up (va_up (va_up (va_up (va_up (va_up (va_up (va_up (va_up (va_up (va_up (va_up (va_up (va_up (va_up (fun _ => none) 1 (some q1)) 2 (some q2)) 3 (some q3)) 4 (some q4)) 5 (some q5)) 6 (some q6)) 7 (some q7)) 8 (some q8)) 9 (some q9)) 10 (some q10)) 12 (some q12)) 13 (some q13)) 14 (some q14)) 16 (some q16)) 17 (some q17)) 18 (some q18)) 19 (some q19)) 20 (some q20)) 21 (some q21)) 22 (some q22)))) rfl ?_
  have I := I.step (f := 22) hq22
  clear hb
  generalize va_up (va_up _ q22 _) b _ = w22 at I ⊢
  refine j_newi (N := 200) C rfl hT.2.2.2.2.2.1 (V.2.2 _ wa_int) (by decide) (by decide) (by decide) (nle rfl) (nle rfl) (fun q23 hq23 => ?_)
  have hb := up_new (e := .inl (aI, 200, .inl (fun _ => 0))) I.1 hq23
  refine j_putE C rfl (fp_D_D_end V rfl) hb (nlt rfl) (fit_a _ _) (.inr (kD, dFsO (va_up (va_up (va_up (va_up (va_up (va_up (va_up (va_up (va_up (va_up (va_up (va_up (va_up (va_up (va_up (va_up (va_up (va_up (va_up (va_up (va_up (fun _ => none) 1 (some q1)) 2 (some q2)) 3 (some q3)) 4 (some q4)) 5 (some q5)) 6 (some q6)) 7 (some q7)) 8 (some q8)) 9 (some q9)) 10 (some q10)) 12 (some q12)) 13 (some q13)) 14 (some q14)) 16 (some q16)) 17 (some q17)) 18 (some q18)) 19 (some q19)) 20 (some q20)) 21 (some q21)) 22 (some q22)) 23 (some q23)))) rfl ?_
  have I := I.step (f := 23) hq23
  clear hb
  generalize va_up (va_up _ q23 _) b _ = w23 at I ⊢
  refine j_newi (N := 200) C rfl hT.2.2.2.2.2.1 (V.2.2 _ wa_int) (by decide) (by decide) (by decide) (nle rfl) (nle rfl) (fun q24 hq24 => ?_)
  have hb := up_new (e := .inl (aI, 200, .inl (fun _ => 0))) I.1 hq24
  refine j_putE C rfl (fp_D_D_notes V rfl) hb (nlt rfl) (fit_a _ _) (.inr (kD, dFsO (va_up (va_up (va_up (va_up (va_up (va_up (va_up (va_up (va_up (va_up (va_up (va_up (va_up (va_up (va_up (va_up (va_up (va_up (va_up (va_up (va_up (va_up (fun _ => none) 1 (some q1)) 2 (some q2)) 3 (some q3)) 4 (some q4)) 5 (some q5)) 6 (some q6)) 7 (some q7)) 8 (some q8)) 9 (some q9)) 10 (some q10)) 12 (some q12)) 13 (some q13)) 14 (some q14)) 16 (some q16)) 17 (some q17)) 18 (some q18)) 19 (some q19)) 20 (some q20)) 21 (some q21)) 22 (some q22)) 23 (some q23)) 24 (some q24)))) rfl ?_
  have I := I.step (f := 24) hq24
  clear hb
  generalize va_up (va_up _ q24 _) b _ = w24 at I ⊢
  refine j_newi (N := 1600) C rfl hT.2.2.2.2.2.1 (V.2.2 _ wa_int) (by decide) (by decide) (by decide) (nle rfl) (nle rfl) (fun q25 hq25 => ?_)
  have hb := up_new (e := .inl (aI, 1600, .inl (fun _ => 0))) I.1 hq25
  refine j_putE C rfl (fp_D_D_noted V rfl) hb (nlt rfl) (fit_a _ _) (.inr (kD, dFsO (va_up (va_up (va_up (va_up (va_up (va_up (va_up (va_up (va_up (va_up (va_up (va_up (va_up (va_up (va_up (va_up (va_up (va_up (va_up (va_up (va_up (va_up (va_up (fun _ => none) 1 (some q1)) 2 (some q2)) 3 (some q3)) 4 (some q4)) 5 (some q5)) 6 (some q6)) 7 (some q7)) 8 (some q8)) 9 (some q9)) 10 (some q10)) 12 (some q12)) 13 (some q13)) 14 (some q14)) 16 (some q16)) 17 (some q17)) 18 (some q18)) 19 (some q19)) 20 (some q20)) 21 (some q21)) 22 (some q22)) 23 (some q23)) 24 (some q24)) 25 (some q25)))) rfl ?_
  have I := I.step (f := 25) hq25
  clear hb
  generalize va_up (va_up _ q25 _) b _ = w25 at I ⊢
  refine j_newi (N := 1600) C rfl hT.2.2.2.2.2.1 (V.2.2 _ wa_int) (by decide) (by decide) (by decide) (nle rfl) (nle rfl) (fun q26 hq26 => ?_)
  have hb := up_new (e := .inl (aI, 1600, .inl (fun _ => 0))) I.1 hq26
  refine j_putE C rfl (fp_D_D_notedInward V rfl) hb (nlt rfl) (fit_a _ _) (.inr (kD, dFsO (va_up (va_up (va_up (va_up (va_up (va_up (va_up (va_up (va_up (va_up (va_up (va_up (va_up (va_up (va_up (va_up (va_up (va_up (va_up (va_up (va_up (va_up (va_up (va_up (fun _ => none) 1 (some q1)) 2 (some q2)) 3 (some q3)) 4 (some q4)) 5 (some q5)) 6 (some q6)) 7 (some q7)) 8 (some q8)) 9 (some q9)) 10 (some q10)) 12 (some q12)) 13 (some q13)) 14 (some q14)) 16 (some q16)) 17 (some q17)) 18 (some q18)) 19 (some q19)) 20 (some q20)) 21 (some q21)) 22 (some q22)) 23 (some q23)) 24 (some q24)) 25 (some q25)) 26 (some q26)))) rfl ?_
  have I := I.step (f := 26) hq26
  clear hb
  generalize va_up (va_up _ q26 _) b _ = w26 at I ⊢
  refine j_vret C E rfl rfl (nle rfl) (nle rfl) ⟨rfl, I.fin (fun f hf hi => ?_)⟩
  rcases (show f = 0 ∨ f = 1 ∨ f = 2 ∨ f = 3 ∨ f = 4 ∨ f = 5 ∨ f = 6 ∨ f = 7 ∨ f = 8 ∨ f = 9 ∨ f = 10 ∨ f = 11 ∨ f = 12 ∨ f = 13 ∨ f = 14 ∨ f = 15 ∨ f = 16 ∨ f = 17 ∨ f = 18 ∨ f = 19 ∨ f = 20 ∨ f = 21 ∨ f = 22 ∨ f = 23 ∨ f = 24 ∨ f = 25 ∨ f = 26 ∨ f = 27 ∨ f = 28 by omega) with rfl | rfl | rfl | rfl | rfl | rfl | rfl | rfl | rfl | rfl | rfl | rfl | rfl | rfl | rfl | rfl | rfl | rfl | rfl | rfl | rfl | rfl | rfl | rfl | rfl | rfl | rfl | rfl | rfl
  all_goals first
    | exact ⟨_, rfl⟩
    | cases hi
