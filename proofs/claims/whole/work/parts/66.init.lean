/-! The constructor of the class. -/
def th0 : Nat → Th := fun _ => newT 0 0 none
def ms0 : Nat → Ms := fun _ => newM 0 rN rN
def st0 : St := (0, th0, 0, ms0, fun _ => [])
def cfg0 (b q1 q2 q3 q4 q5 : Nat) (ln : Nat → Nat) : Cfg := ((b, q1, q2, q3, q4, q5), fun _ => 0, fun _ => 0, fun _ => 0, fun _ => 0, ln)
section INIT
variable {T : fw_T} {w : fw_W}
set_option maxHeartbeats 4000000 in
theorem m_V_init (l : Launch) (hT : TOK T) {b : Nat} (hw : w b = some (.inr (kV, nw_V))) : Ct l T y_V_init W_V_init rm_V_init [.inr (some b)] w (fun v w' => v = none ∧ ∃ c, cO c = b ∧ Rp w' c st0) := by
  refine ct_V_init rfl (nle rfl) ?_
  intro X hl C E
  have V := hv_V_init hT
  refine j_objV C V wm_V_O_init rfl (by decide) (by decide) ?_
  have hb := hw
  refine j_new C rfl (fn_V_R V) (by decide) (by decide) (fun q1 hq1 => ?_)
  refine j_callI C rfl (fc_V_R_init V (by decide)) (m_R_init _ hT (s := 0) (x := 0) (va_up_self _ _ _)) rfl rfl (nle rfl) (by decide) (by decide) ?_
  rintro r w' ⟨rfl, rfl⟩
  rw [bx_uu]
  have ne_q1 : b ≠ q1 := ne_new hb hq1
  have hb := up_new (e := .inr (kR, [.inl 0, .inl 0])) hb hq1
  have h_q1 : va_up w q1 (some (.inr (kR, [.inl 0, .inl 0]))) q1 = some (.inr (kR, [.inl 0, .inl 0])) := va_up_self _ _ _
  generalize va_up w q1 (some (.inr (kR, [.inl 0, .inl 0]))) = w1 at hb h_q1 ⊢
  refine j_putE C rfl (fp_V_V_nothing V rfl) hb (nlt rfl) (fit_o _ _) (.inr (kV, [.inr (some q1), .inr none, .inr none, .inl 0, .inr none, .inl 0, .inr none, .inr none])) rfl ?_
  have h_q1 : va_up w1 b (some (.inr (kV, [.inr (some q1), .inr none, .inr none, .inl 0, .inr none, .inl 0, .inr none, .inr none]))) q1 = _ := (va_up_ne _ _ ne_q1.symm).trans h_q1
  have hb : va_up w1 b (some (.inr (kV, [.inr (some q1), .inr none, .inr none, .inl 0, .inr none, .inl 0, .inr none, .inr none]))) b = some (.inr (kV, [.inr (some q1), .inr none, .inr none, .inl 0, .inr none, .inl 0, .inr none, .inr none])) := va_up_self _ _ _
  generalize va_up w1 b (some (.inr (kV, [.inr (some q1), .inr none, .inr none, .inl 0, .inr none, .inl 0, .inr none, .inr none]))) = w2 at hb h_q1 ⊢
  refine j_new C rfl (fn_V_R V) (by decide) (by decide) (fun q2 hq2 => ?_)
  refine j_callI C rfl (fc_V_R_init V (by decide)) (m_R_init _ hT (s := 4) (x := 0) (va_up_self _ _ _)) rfl rfl (nle rfl) (by decide) (by decide) ?_
  rintro r w' ⟨rfl, rfl⟩
  rw [bx_uu]
  have ne_q2 : b ≠ q2 := ne_new hb hq2
  have ne_q1_q2 : q1 ≠ q2 := ne_new h_q1 hq2
  have hb := up_new (e := .inr (kR, [.inl 4, .inl 0])) hb hq2
  have h_q1 := up_new (e := .inr (kR, [.inl 4, .inl 0])) h_q1 hq2
  have h_q2 : va_up w2 q2 (some (.inr (kR, [.inl 4, .inl 0]))) q2 = some (.inr (kR, [.inl 4, .inl 0])) := va_up_self _ _ _
  generalize va_up w2 q2 (some (.inr (kR, [.inl 4, .inl 0]))) = w3 at hb h_q1 h_q2 ⊢
  refine j_putE C rfl (fp_V_V_broken V rfl) hb (nlt rfl) (fit_o _ _) (.inr (kV, [.inr (some q1), .inr (some q2), .inr none, .inl 0, .inr none, .inl 0, .inr none, .inr none])) rfl ?_
  have h_q1 : va_up w3 b (some (.inr (kV, [.inr (some q1), .inr (some q2), .inr none, .inl 0, .inr none, .inl 0, .inr none, .inr none]))) q1 = _ := (va_up_ne _ _ ne_q1.symm).trans h_q1
  have h_q2 : va_up w3 b (some (.inr (kV, [.inr (some q1), .inr (some q2), .inr none, .inl 0, .inr none, .inl 0, .inr none, .inr none]))) q2 = _ := (va_up_ne _ _ ne_q2.symm).trans h_q2
  have hb : va_up w3 b (some (.inr (kV, [.inr (some q1), .inr (some q2), .inr none, .inl 0, .inr none, .inl 0, .inr none, .inr none]))) b = some (.inr (kV, [.inr (some q1), .inr (some q2), .inr none, .inl 0, .inr none, .inl 0, .inr none, .inr none])) := va_up_self _ _ _
  generalize va_up w3 b (some (.inr (kV, [.inr (some q1), .inr (some q2), .inr none, .inl 0, .inr none, .inl 0, .inr none, .inr none]))) = w4 at hb h_q1 h_q2 ⊢
  refine j_newq (N := 40) C rfl hT.2.2.1 (by rw [V.1]; exact V.2.2 _ wk_V_H) (by decide) (by decide) (by decide) (by decide) (by decide) (by decide) (fun q3 hq3 => ?_)
  have ne_q3 : b ≠ q3 := ne_new hb hq3
  have ne_q1_q3 : q1 ≠ q3 := ne_new h_q1 hq3
  have ne_q2_q3 : q2 ≠ q3 := ne_new h_q2 hq3
  have hb := up_new (e := .inl (aT, 40, .inr (fun _ => none))) hb hq3
  have h_q1 := up_new (e := .inl (aT, 40, .inr (fun _ => none))) h_q1 hq3
  have h_q2 := up_new (e := .inl (aT, 40, .inr (fun _ => none))) h_q2 hq3
  have h_q3 : va_up w4 q3 (some (.inl (aT, 40, .inr (fun _ => none)))) q3 = some (.inl (aT, 40, .inr (fun _ => none))) := va_up_self _ _ _
  generalize va_up w4 q3 (some (.inl (aT, 40, .inr (fun _ => none)))) = w5 at hb h_q1 h_q2 h_q3 ⊢
  refine j_putE C rfl (fp_V_V_things V rfl) hb (nlt rfl) (fit_a _ _) (.inr (kV, [.inr (some q1), .inr (some q2), .inr (some q3), .inl 0, .inr none, .inl 0, .inr none, .inr none])) rfl ?_
  have h_q1 : va_up w5 b (some (.inr (kV, [.inr (some q1), .inr (some q2), .inr (some q3), .inl 0, .inr none, .inl 0, .inr none, .inr none]))) q1 = _ := (va_up_ne _ _ ne_q1.symm).trans h_q1
  have h_q2 : va_up w5 b (some (.inr (kV, [.inr (some q1), .inr (some q2), .inr (some q3), .inl 0, .inr none, .inl 0, .inr none, .inr none]))) q2 = _ := (va_up_ne _ _ ne_q2.symm).trans h_q2
  have h_q3 : va_up w5 b (some (.inr (kV, [.inr (some q1), .inr (some q2), .inr (some q3), .inl 0, .inr none, .inl 0, .inr none, .inr none]))) q3 = _ := (va_up_ne _ _ ne_q3.symm).trans h_q3
  have hb : va_up w5 b (some (.inr (kV, [.inr (some q1), .inr (some q2), .inr (some q3), .inl 0, .inr none, .inl 0, .inr none, .inr none]))) b = some (.inr (kV, [.inr (some q1), .inr (some q2), .inr (some q3), .inl 0, .inr none, .inl 0, .inr none, .inr none])) := va_up_self _ _ _
  generalize va_up w5 b (some (.inr (kV, [.inr (some q1), .inr (some q2), .inr (some q3), .inl 0, .inr none, .inl 0, .inr none, .inr none]))) = w6 at hb h_q1 h_q2 h_q3 ⊢
  refine j_putE C rfl (fp_V_V_thingCount V) hb (nlt rfl) (fit_i _) (.inr (kV, [.inr (some q1), .inr (some q2), .inr (some q3), .inl 0, .inr none, .inl 0, .inr none, .inr none])) rfl ?_
  have h_q1 : va_up w6 b (some (.inr (kV, [.inr (some q1), .inr (some q2), .inr (some q3), .inl 0, .inr none, .inl 0, .inr none, .inr none]))) q1 = _ := (va_up_ne _ _ ne_q1.symm).trans h_q1
  have h_q2 : va_up w6 b (some (.inr (kV, [.inr (some q1), .inr (some q2), .inr (some q3), .inl 0, .inr none, .inl 0, .inr none, .inr none]))) q2 = _ := (va_up_ne _ _ ne_q2.symm).trans h_q2
  have h_q3 : va_up w6 b (some (.inr (kV, [.inr (some q1), .inr (some q2), .inr (some q3), .inl 0, .inr none, .inl 0, .inr none, .inr none]))) q3 = _ := (va_up_ne _ _ ne_q3.symm).trans h_q3
  have hb : va_up w6 b (some (.inr (kV, [.inr (some q1), .inr (some q2), .inr (some q3), .inl 0, .inr none, .inl 0, .inr none, .inr none]))) b = some (.inr (kV, [.inr (some q1), .inr (some q2), .inr (some q3), .inl 0, .inr none, .inl 0, .inr none, .inr none])) := va_up_self _ _ _
  generalize va_up w6 b (some (.inr (kV, [.inr (some q1), .inr (some q2), .inr (some q3), .inl 0, .inr none, .inl 0, .inr none, .inr none]))) = w7 at hb h_q1 h_q2 h_q3 ⊢
  refine j_newq (N := 200) C rfl hT.2.2.2.1 (by rw [V.1]; exact V.2.2 _ wk_V_M) (by decide) (by decide) (by decide) (by decide) (by decide) (by decide) (fun q4 hq4 => ?_)
  have ne_q4 : b ≠ q4 := ne_new hb hq4
  have ne_q1_q4 : q1 ≠ q4 := ne_new h_q1 hq4
  have ne_q2_q4 : q2 ≠ q4 := ne_new h_q2 hq4
  have ne_q3_q4 : q3 ≠ q4 := ne_new h_q3 hq4
  have hb := up_new (e := .inl (aM, 200, .inr (fun _ => none))) hb hq4
  have h_q1 := up_new (e := .inl (aM, 200, .inr (fun _ => none))) h_q1 hq4
  have h_q2 := up_new (e := .inl (aM, 200, .inr (fun _ => none))) h_q2 hq4
  have h_q3 := up_new (e := .inl (aM, 200, .inr (fun _ => none))) h_q3 hq4
  have h_q4 : va_up w7 q4 (some (.inl (aM, 200, .inr (fun _ => none)))) q4 = some (.inl (aM, 200, .inr (fun _ => none))) := va_up_self _ _ _
  generalize va_up w7 q4 (some (.inl (aM, 200, .inr (fun _ => none)))) = w8 at hb h_q1 h_q2 h_q3 h_q4 ⊢
  refine j_putE C rfl (fp_V_V_sent V rfl) hb (nlt rfl) (fit_a _ _) (.inr (kV, [.inr (some q1), .inr (some q2), .inr (some q3), .inl 0, .inr (some q4), .inl 0, .inr none, .inr none])) rfl ?_
  have h_q1 : va_up w8 b (some (.inr (kV, [.inr (some q1), .inr (some q2), .inr (some q3), .inl 0, .inr (some q4), .inl 0, .inr none, .inr none]))) q1 = _ := (va_up_ne _ _ ne_q1.symm).trans h_q1
  have h_q2 : va_up w8 b (some (.inr (kV, [.inr (some q1), .inr (some q2), .inr (some q3), .inl 0, .inr (some q4), .inl 0, .inr none, .inr none]))) q2 = _ := (va_up_ne _ _ ne_q2.symm).trans h_q2
  have h_q3 : va_up w8 b (some (.inr (kV, [.inr (some q1), .inr (some q2), .inr (some q3), .inl 0, .inr (some q4), .inl 0, .inr none, .inr none]))) q3 = _ := (va_up_ne _ _ ne_q3.symm).trans h_q3
  have h_q4 : va_up w8 b (some (.inr (kV, [.inr (some q1), .inr (some q2), .inr (some q3), .inl 0, .inr (some q4), .inl 0, .inr none, .inr none]))) q4 = _ := (va_up_ne _ _ ne_q4.symm).trans h_q4
  have hb : va_up w8 b (some (.inr (kV, [.inr (some q1), .inr (some q2), .inr (some q3), .inl 0, .inr (some q4), .inl 0, .inr none, .inr none]))) b = some (.inr (kV, [.inr (some q1), .inr (some q2), .inr (some q3), .inl 0, .inr (some q4), .inl 0, .inr none, .inr none])) := va_up_self _ _ _
  generalize va_up w8 b (some (.inr (kV, [.inr (some q1), .inr (some q2), .inr (some q3), .inl 0, .inr (some q4), .inl 0, .inr none, .inr none]))) = w9 at hb h_q1 h_q2 h_q3 h_q4 ⊢
  refine j_putE C rfl (fp_V_V_sentCount V) hb (nlt rfl) (fit_i _) (.inr (kV, [.inr (some q1), .inr (some q2), .inr (some q3), .inl 0, .inr (some q4), .inl 0, .inr none, .inr none])) rfl ?_
  have h_q1 : va_up w9 b (some (.inr (kV, [.inr (some q1), .inr (some q2), .inr (some q3), .inl 0, .inr (some q4), .inl 0, .inr none, .inr none]))) q1 = _ := (va_up_ne _ _ ne_q1.symm).trans h_q1
  have h_q2 : va_up w9 b (some (.inr (kV, [.inr (some q1), .inr (some q2), .inr (some q3), .inl 0, .inr (some q4), .inl 0, .inr none, .inr none]))) q2 = _ := (va_up_ne _ _ ne_q2.symm).trans h_q2
  have h_q3 : va_up w9 b (some (.inr (kV, [.inr (some q1), .inr (some q2), .inr (some q3), .inl 0, .inr (some q4), .inl 0, .inr none, .inr none]))) q3 = _ := (va_up_ne _ _ ne_q3.symm).trans h_q3
  have h_q4 : va_up w9 b (some (.inr (kV, [.inr (some q1), .inr (some q2), .inr (some q3), .inl 0, .inr (some q4), .inl 0, .inr none, .inr none]))) q4 = _ := (va_up_ne _ _ ne_q4.symm).trans h_q4
  have hb : va_up w9 b (some (.inr (kV, [.inr (some q1), .inr (some q2), .inr (some q3), .inl 0, .inr (some q4), .inl 0, .inr none, .inr none]))) b = some (.inr (kV, [.inr (some q1), .inr (some q2), .inr (some q3), .inl 0, .inr (some q4), .inl 0, .inr none, .inr none])) := va_up_self _ _ _
  generalize va_up w9 b (some (.inr (kV, [.inr (some q1), .inr (some q2), .inr (some q3), .inl 0, .inr (some q4), .inl 0, .inr none, .inr none]))) = w10 at hb h_q1 h_q2 h_q3 h_q4 ⊢
  refine j_newq (N := 3) C rfl hT.2.2.2.2.1 (by rw [V.1]; exact V.2.2 _ wk_V_L) (by decide) (by decide) (by decide) (by decide) (by decide) (by decide) (fun q5 hq5 => ?_)
  have ne_q5 : b ≠ q5 := ne_new hb hq5
  have ne_q1_q5 : q1 ≠ q5 := ne_new h_q1 hq5
  have ne_q2_q5 : q2 ≠ q5 := ne_new h_q2 hq5
  have ne_q3_q5 : q3 ≠ q5 := ne_new h_q3 hq5
  have ne_q4_q5 : q4 ≠ q5 := ne_new h_q4 hq5
  have hb := up_new (e := .inl (aL, 3, .inr (fun _ => none))) hb hq5
  have h_q1 := up_new (e := .inl (aL, 3, .inr (fun _ => none))) h_q1 hq5
  have h_q2 := up_new (e := .inl (aL, 3, .inr (fun _ => none))) h_q2 hq5
  have h_q3 := up_new (e := .inl (aL, 3, .inr (fun _ => none))) h_q3 hq5
  have h_q4 := up_new (e := .inl (aL, 3, .inr (fun _ => none))) h_q4 hq5
  have h_q5 : va_up w10 q5 (some (.inl (aL, 3, .inr (fun _ => none)))) q5 = some (.inl (aL, 3, .inr (fun _ => none))) := va_up_self _ _ _
  generalize va_up w10 q5 (some (.inl (aL, 3, .inr (fun _ => none)))) = w11 at hb h_q1 h_q2 h_q3 h_q4 h_q5 ⊢
  refine j_putE C rfl (fp_V_V_queues V rfl) hb (nlt rfl) (fit_a _ _) (.inr (kV, [.inr (some q1), .inr (some q2), .inr (some q3), .inl 0, .inr (some q4), .inl 0, .inr (some q5), .inr none])) rfl ?_
  have h_q1 : va_up w11 b (some (.inr (kV, [.inr (some q1), .inr (some q2), .inr (some q3), .inl 0, .inr (some q4), .inl 0, .inr (some q5), .inr none]))) q1 = _ := (va_up_ne _ _ ne_q1.symm).trans h_q1
  have h_q2 : va_up w11 b (some (.inr (kV, [.inr (some q1), .inr (some q2), .inr (some q3), .inl 0, .inr (some q4), .inl 0, .inr (some q5), .inr none]))) q2 = _ := (va_up_ne _ _ ne_q2.symm).trans h_q2
  have h_q3 : va_up w11 b (some (.inr (kV, [.inr (some q1), .inr (some q2), .inr (some q3), .inl 0, .inr (some q4), .inl 0, .inr (some q5), .inr none]))) q3 = _ := (va_up_ne _ _ ne_q3.symm).trans h_q3
  have h_q4 : va_up w11 b (some (.inr (kV, [.inr (some q1), .inr (some q2), .inr (some q3), .inl 0, .inr (some q4), .inl 0, .inr (some q5), .inr none]))) q4 = _ := (va_up_ne _ _ ne_q4.symm).trans h_q4
  have h_q5 : va_up w11 b (some (.inr (kV, [.inr (some q1), .inr (some q2), .inr (some q3), .inl 0, .inr (some q4), .inl 0, .inr (some q5), .inr none]))) q5 = _ := (va_up_ne _ _ ne_q5.symm).trans h_q5
  have hb : va_up w11 b (some (.inr (kV, [.inr (some q1), .inr (some q2), .inr (some q3), .inl 0, .inr (some q4), .inl 0, .inr (some q5), .inr none]))) b = some (.inr (kV, [.inr (some q1), .inr (some q2), .inr (some q3), .inl 0, .inr (some q4), .inl 0, .inr (some q5), .inr none])) := va_up_self _ _ _
  generalize va_up w11 b (some (.inr (kV, [.inr (some q1), .inr (some q2), .inr (some q3), .inl 0, .inr (some q4), .inl 0, .inr (some q5), .inr none]))) = w12 at hb h_q1 h_q2 h_q3 h_q4 h_q5 ⊢
  refine j_new C rfl (fn_V_L V) (by decide) (by decide) (fun q6 hq6 => ?_)
  refine j_callN C rfl (fc_V_L_init V (by decide)) (m_L_init _ hT) rfl rfl (nle rfl) (by decide) (by decide) ?_
  rintro r w' ⟨rfl, hw'⟩
  subst hw'
  have ne_q6 : b ≠ q6 := ne_new hb hq6
  have ne_q1_q6 : q1 ≠ q6 := ne_new h_q1 hq6
  have ne_q2_q6 : q2 ≠ q6 := ne_new h_q2 hq6
  have ne_q3_q6 : q3 ≠ q6 := ne_new h_q3 hq6
  have ne_q4_q6 : q4 ≠ q6 := ne_new h_q4 hq6
  have ne_q5_q6 : q5 ≠ q6 := ne_new h_q5 hq6
  have hb := up_new (e := .inr (kL, nw_L)) hb hq6
  have h_q1 := up_new (e := .inr (kL, nw_L)) h_q1 hq6
  have h_q2 := up_new (e := .inr (kL, nw_L)) h_q2 hq6
  have h_q3 := up_new (e := .inr (kL, nw_L)) h_q3 hq6
  have h_q4 := up_new (e := .inr (kL, nw_L)) h_q4 hq6
  have h_q5 := up_new (e := .inr (kL, nw_L)) h_q5 hq6
  have h_q6 : va_up w12 q6 (some (.inr (kL, nw_L))) q6 = some (.inr (kL, nw_L)) := va_up_self _ _ _
  generalize va_up w12 q6 (some (.inr (kL, nw_L))) = w13 at hb h_q1 h_q2 h_q3 h_q4 h_q5 h_q6 ⊢
  refine j_putE C rfl (fp_V_V_unrouted V rfl) hb (nlt rfl) (fit_o _ _) (.inr (kV, [.inr (some q1), .inr (some q2), .inr (some q3), .inl 0, .inr (some q4), .inl 0, .inr (some q5), .inr (some q6)])) rfl ?_
  have h_q1 : va_up w13 b (some (.inr (kV, [.inr (some q1), .inr (some q2), .inr (some q3), .inl 0, .inr (some q4), .inl 0, .inr (some q5), .inr (some q6)]))) q1 = _ := (va_up_ne _ _ ne_q1.symm).trans h_q1
  have h_q2 : va_up w13 b (some (.inr (kV, [.inr (some q1), .inr (some q2), .inr (some q3), .inl 0, .inr (some q4), .inl 0, .inr (some q5), .inr (some q6)]))) q2 = _ := (va_up_ne _ _ ne_q2.symm).trans h_q2
  have h_q3 : va_up w13 b (some (.inr (kV, [.inr (some q1), .inr (some q2), .inr (some q3), .inl 0, .inr (some q4), .inl 0, .inr (some q5), .inr (some q6)]))) q3 = _ := (va_up_ne _ _ ne_q3.symm).trans h_q3
  have h_q4 : va_up w13 b (some (.inr (kV, [.inr (some q1), .inr (some q2), .inr (some q3), .inl 0, .inr (some q4), .inl 0, .inr (some q5), .inr (some q6)]))) q4 = _ := (va_up_ne _ _ ne_q4.symm).trans h_q4
  have h_q5 : va_up w13 b (some (.inr (kV, [.inr (some q1), .inr (some q2), .inr (some q3), .inl 0, .inr (some q4), .inl 0, .inr (some q5), .inr (some q6)]))) q5 = _ := (va_up_ne _ _ ne_q5.symm).trans h_q5
  have h_q6 : va_up w13 b (some (.inr (kV, [.inr (some q1), .inr (some q2), .inr (some q3), .inl 0, .inr (some q4), .inl 0, .inr (some q5), .inr (some q6)]))) q6 = _ := (va_up_ne _ _ ne_q6.symm).trans h_q6
  have hb : va_up w13 b (some (.inr (kV, [.inr (some q1), .inr (some q2), .inr (some q3), .inl 0, .inr (some q4), .inl 0, .inr (some q5), .inr (some q6)]))) b = some (.inr (kV, [.inr (some q1), .inr (some q2), .inr (some q3), .inl 0, .inr (some q4), .inl 0, .inr (some q5), .inr (some q6)])) := va_up_self _ _ _
  generalize va_up w13 b (some (.inr (kV, [.inr (some q1), .inr (some q2), .inr (some q3), .inl 0, .inr (some q4), .inl 0, .inr (some q5), .inr (some q6)]))) = w14 at hb h_q1 h_q2 h_q3 h_q4 h_q5 h_q6 ⊢
  refine j_icmpF C rfl (by decide) ?_
  refine j_get C rfl (fg_V_V_queues V) hb rfl ?_
  refine j_new C rfl (fn_V_L V) (by decide) (by decide) (fun q7 hq7 => ?_)
  refine j_callN C rfl (fc_V_L_init V (by decide)) (m_L_init _ hT) rfl rfl (nle rfl) (by decide) (by decide) ?_
  rintro r w' ⟨rfl, hw'⟩
  subst hw'
  have ne_q7 : b ≠ q7 := ne_new hb hq7
  have ne_q1_q7 : q1 ≠ q7 := ne_new h_q1 hq7
  have ne_q2_q7 : q2 ≠ q7 := ne_new h_q2 hq7
  have ne_q3_q7 : q3 ≠ q7 := ne_new h_q3 hq7
  have ne_q4_q7 : q4 ≠ q7 := ne_new h_q4 hq7
  have ne_q5_q7 : q5 ≠ q7 := ne_new h_q5 hq7
  have ne_q6_q7 : q6 ≠ q7 := ne_new h_q6 hq7
  have hb := up_new (e := .inr (kL, nw_L)) hb hq7
  have h_q1 := up_new (e := .inr (kL, nw_L)) h_q1 hq7
  have h_q2 := up_new (e := .inr (kL, nw_L)) h_q2 hq7
  have h_q3 := up_new (e := .inr (kL, nw_L)) h_q3 hq7
  have h_q4 := up_new (e := .inr (kL, nw_L)) h_q4 hq7
  have h_q5 := up_new (e := .inr (kL, nw_L)) h_q5 hq7
  have h_q6 := up_new (e := .inr (kL, nw_L)) h_q6 hq7
  have h_q7 : va_up w14 q7 (some (.inr (kL, nw_L))) q7 = some (.inr (kL, nw_L)) := va_up_self _ _ _
  generalize va_up w14 q7 (some (.inr (kL, nw_L))) = w15 at hb h_q1 h_q2 h_q3 h_q4 h_q5 h_q6 h_q7 ⊢
  refine j_aastI C rfl h_q5 hT.2.2.2.2.1 0 (by decide) (by decide) (by decide) (put_obj hT h_q7 rfl) ?_
  have hb : va_up w15 q5 (some (.inl (aL, 3, .inr (va_up (fun _ => none) 0 (some q7))))) b = _ := (va_up_ne _ _ ne_q5).trans hb
  have h_q1 : va_up w15 q5 (some (.inl (aL, 3, .inr (va_up (fun _ => none) 0 (some q7))))) q1 = _ := (va_up_ne _ _ ne_q1_q5).trans h_q1
  have h_q2 : va_up w15 q5 (some (.inl (aL, 3, .inr (va_up (fun _ => none) 0 (some q7))))) q2 = _ := (va_up_ne _ _ ne_q2_q5).trans h_q2
  have h_q3 : va_up w15 q5 (some (.inl (aL, 3, .inr (va_up (fun _ => none) 0 (some q7))))) q3 = _ := (va_up_ne _ _ ne_q3_q5).trans h_q3
  have h_q4 : va_up w15 q5 (some (.inl (aL, 3, .inr (va_up (fun _ => none) 0 (some q7))))) q4 = _ := (va_up_ne _ _ ne_q4_q5).trans h_q4
  have h_q6 : va_up w15 q5 (some (.inl (aL, 3, .inr (va_up (fun _ => none) 0 (some q7))))) q6 = _ := (va_up_ne _ _ ne_q5_q6.symm).trans h_q6
  have h_q7 : va_up w15 q5 (some (.inl (aL, 3, .inr (va_up (fun _ => none) 0 (some q7))))) q7 = _ := (va_up_ne _ _ ne_q5_q7.symm).trans h_q7
  have h_q5 : va_up w15 q5 (some (.inl (aL, 3, .inr (va_up (fun _ => none) 0 (some q7))))) q5 = some (.inl (aL, 3, .inr (va_up (fun _ => none) 0 (some q7)))) := va_up_self _ _ _
  generalize va_up w15 q5 (some (.inl (aL, 3, .inr (va_up (fun _ => none) 0 (some q7))))) = w16 at hb h_q1 h_q2 h_q3 h_q4 h_q5 h_q6 h_q7 ⊢
  refine j_goto C rfl ?_
  refine j_icmpF C rfl (by decide) ?_
  refine j_get C rfl (fg_V_V_queues V) hb rfl ?_
  refine j_new C rfl (fn_V_L V) (by decide) (by decide) (fun q8 hq8 => ?_)
  refine j_callN C rfl (fc_V_L_init V (by decide)) (m_L_init _ hT) rfl rfl (nle rfl) (by decide) (by decide) ?_
  rintro r w' ⟨rfl, hw'⟩
  subst hw'
  have ne_q8 : b ≠ q8 := ne_new hb hq8
  have ne_q1_q8 : q1 ≠ q8 := ne_new h_q1 hq8
  have ne_q2_q8 : q2 ≠ q8 := ne_new h_q2 hq8
  have ne_q3_q8 : q3 ≠ q8 := ne_new h_q3 hq8
  have ne_q4_q8 : q4 ≠ q8 := ne_new h_q4 hq8
  have ne_q5_q8 : q5 ≠ q8 := ne_new h_q5 hq8
  have ne_q6_q8 : q6 ≠ q8 := ne_new h_q6 hq8
  have ne_q7_q8 : q7 ≠ q8 := ne_new h_q7 hq8
  have hb := up_new (e := .inr (kL, nw_L)) hb hq8
  have h_q1 := up_new (e := .inr (kL, nw_L)) h_q1 hq8
  have h_q2 := up_new (e := .inr (kL, nw_L)) h_q2 hq8
  have h_q3 := up_new (e := .inr (kL, nw_L)) h_q3 hq8
  have h_q4 := up_new (e := .inr (kL, nw_L)) h_q4 hq8
  have h_q5 := up_new (e := .inr (kL, nw_L)) h_q5 hq8
  have h_q6 := up_new (e := .inr (kL, nw_L)) h_q6 hq8
  have h_q7 := up_new (e := .inr (kL, nw_L)) h_q7 hq8
  have h_q8 : va_up w16 q8 (some (.inr (kL, nw_L))) q8 = some (.inr (kL, nw_L)) := va_up_self _ _ _
  generalize va_up w16 q8 (some (.inr (kL, nw_L))) = w17 at hb h_q1 h_q2 h_q3 h_q4 h_q5 h_q6 h_q7 h_q8 ⊢
  refine j_aastI C rfl h_q5 hT.2.2.2.2.1 1 (by decide) (by decide) (by decide) (put_obj hT h_q8 rfl) ?_
  have hb : va_up w17 q5 (some (.inl (aL, 3, .inr (va_up (va_up (fun _ => none) 0 (some q7)) 1 (some q8))))) b = _ := (va_up_ne _ _ ne_q5).trans hb
  have h_q1 : va_up w17 q5 (some (.inl (aL, 3, .inr (va_up (va_up (fun _ => none) 0 (some q7)) 1 (some q8))))) q1 = _ := (va_up_ne _ _ ne_q1_q5).trans h_q1
  have h_q2 : va_up w17 q5 (some (.inl (aL, 3, .inr (va_up (va_up (fun _ => none) 0 (some q7)) 1 (some q8))))) q2 = _ := (va_up_ne _ _ ne_q2_q5).trans h_q2
  have h_q3 : va_up w17 q5 (some (.inl (aL, 3, .inr (va_up (va_up (fun _ => none) 0 (some q7)) 1 (some q8))))) q3 = _ := (va_up_ne _ _ ne_q3_q5).trans h_q3
  have h_q4 : va_up w17 q5 (some (.inl (aL, 3, .inr (va_up (va_up (fun _ => none) 0 (some q7)) 1 (some q8))))) q4 = _ := (va_up_ne _ _ ne_q4_q5).trans h_q4
  have h_q6 : va_up w17 q5 (some (.inl (aL, 3, .inr (va_up (va_up (fun _ => none) 0 (some q7)) 1 (some q8))))) q6 = _ := (va_up_ne _ _ ne_q5_q6.symm).trans h_q6
  have h_q7 : va_up w17 q5 (some (.inl (aL, 3, .inr (va_up (va_up (fun _ => none) 0 (some q7)) 1 (some q8))))) q7 = _ := (va_up_ne _ _ ne_q5_q7.symm).trans h_q7
  have h_q8 : va_up w17 q5 (some (.inl (aL, 3, .inr (va_up (va_up (fun _ => none) 0 (some q7)) 1 (some q8))))) q8 = _ := (va_up_ne _ _ ne_q5_q8.symm).trans h_q8
  have h_q5 : va_up w17 q5 (some (.inl (aL, 3, .inr (va_up (va_up (fun _ => none) 0 (some q7)) 1 (some q8))))) q5 = some (.inl (aL, 3, .inr (va_up (va_up (fun _ => none) 0 (some q7)) 1 (some q8)))) := va_up_self _ _ _
  generalize va_up w17 q5 (some (.inl (aL, 3, .inr (va_up (va_up (fun _ => none) 0 (some q7)) 1 (some q8))))) = w18 at hb h_q1 h_q2 h_q3 h_q4 h_q5 h_q6 h_q7 h_q8 ⊢
  refine j_goto C rfl ?_
  refine j_icmpF C rfl (by decide) ?_
  refine j_get C rfl (fg_V_V_queues V) hb rfl ?_
  refine j_new C rfl (fn_V_L V) (by decide) (by decide) (fun q9 hq9 => ?_)
  refine j_callN C rfl (fc_V_L_init V (by decide)) (m_L_init _ hT) rfl rfl (nle rfl) (by decide) (by decide) ?_
  rintro r w' ⟨rfl, hw'⟩
  subst hw'
  have ne_q9 : b ≠ q9 := ne_new hb hq9
  have ne_q1_q9 : q1 ≠ q9 := ne_new h_q1 hq9
  have ne_q2_q9 : q2 ≠ q9 := ne_new h_q2 hq9
  have ne_q3_q9 : q3 ≠ q9 := ne_new h_q3 hq9
  have ne_q4_q9 : q4 ≠ q9 := ne_new h_q4 hq9
  have ne_q5_q9 : q5 ≠ q9 := ne_new h_q5 hq9
  have ne_q6_q9 : q6 ≠ q9 := ne_new h_q6 hq9
  have ne_q7_q9 : q7 ≠ q9 := ne_new h_q7 hq9
  have ne_q8_q9 : q8 ≠ q9 := ne_new h_q8 hq9
  have hb := up_new (e := .inr (kL, nw_L)) hb hq9
  have h_q1 := up_new (e := .inr (kL, nw_L)) h_q1 hq9
  have h_q2 := up_new (e := .inr (kL, nw_L)) h_q2 hq9
  have h_q3 := up_new (e := .inr (kL, nw_L)) h_q3 hq9
  have h_q4 := up_new (e := .inr (kL, nw_L)) h_q4 hq9
  have h_q5 := up_new (e := .inr (kL, nw_L)) h_q5 hq9
  have h_q6 := up_new (e := .inr (kL, nw_L)) h_q6 hq9
  have h_q7 := up_new (e := .inr (kL, nw_L)) h_q7 hq9
  have h_q8 := up_new (e := .inr (kL, nw_L)) h_q8 hq9
  have h_q9 : va_up w18 q9 (some (.inr (kL, nw_L))) q9 = some (.inr (kL, nw_L)) := va_up_self _ _ _
  generalize va_up w18 q9 (some (.inr (kL, nw_L))) = w19 at hb h_q1 h_q2 h_q3 h_q4 h_q5 h_q6 h_q7 h_q8 h_q9 ⊢
  refine j_aastI C rfl h_q5 hT.2.2.2.2.1 2 (by decide) (by decide) (by decide) (put_obj hT h_q9 rfl) ?_
  have hb : va_up w19 q5 (some (.inl (aL, 3, .inr (va_up (va_up (va_up (fun _ => none) 0 (some q7)) 1 (some q8)) 2 (some q9))))) b = _ := (va_up_ne _ _ ne_q5).trans hb
  have h_q1 : va_up w19 q5 (some (.inl (aL, 3, .inr (va_up (va_up (va_up (fun _ => none) 0 (some q7)) 1 (some q8)) 2 (some q9))))) q1 = _ := (va_up_ne _ _ ne_q1_q5).trans h_q1
  have h_q2 : va_up w19 q5 (some (.inl (aL, 3, .inr (va_up (va_up (va_up (fun _ => none) 0 (some q7)) 1 (some q8)) 2 (some q9))))) q2 = _ := (va_up_ne _ _ ne_q2_q5).trans h_q2
  have h_q3 : va_up w19 q5 (some (.inl (aL, 3, .inr (va_up (va_up (va_up (fun _ => none) 0 (some q7)) 1 (some q8)) 2 (some q9))))) q3 = _ := (va_up_ne _ _ ne_q3_q5).trans h_q3
  have h_q4 : va_up w19 q5 (some (.inl (aL, 3, .inr (va_up (va_up (va_up (fun _ => none) 0 (some q7)) 1 (some q8)) 2 (some q9))))) q4 = _ := (va_up_ne _ _ ne_q4_q5).trans h_q4
  have h_q6 : va_up w19 q5 (some (.inl (aL, 3, .inr (va_up (va_up (va_up (fun _ => none) 0 (some q7)) 1 (some q8)) 2 (some q9))))) q6 = _ := (va_up_ne _ _ ne_q5_q6.symm).trans h_q6
  have h_q7 : va_up w19 q5 (some (.inl (aL, 3, .inr (va_up (va_up (va_up (fun _ => none) 0 (some q7)) 1 (some q8)) 2 (some q9))))) q7 = _ := (va_up_ne _ _ ne_q5_q7.symm).trans h_q7
  have h_q8 : va_up w19 q5 (some (.inl (aL, 3, .inr (va_up (va_up (va_up (fun _ => none) 0 (some q7)) 1 (some q8)) 2 (some q9))))) q8 = _ := (va_up_ne _ _ ne_q5_q8.symm).trans h_q8
  have h_q9 : va_up w19 q5 (some (.inl (aL, 3, .inr (va_up (va_up (va_up (fun _ => none) 0 (some q7)) 1 (some q8)) 2 (some q9))))) q9 = _ := (va_up_ne _ _ ne_q5_q9.symm).trans h_q9
  have h_q5 : va_up w19 q5 (some (.inl (aL, 3, .inr (va_up (va_up (va_up (fun _ => none) 0 (some q7)) 1 (some q8)) 2 (some q9))))) q5 = some (.inl (aL, 3, .inr (va_up (va_up (va_up (fun _ => none) 0 (some q7)) 1 (some q8)) 2 (some q9)))) := va_up_self _ _ _
  generalize va_up w19 q5 (some (.inl (aL, 3, .inr (va_up (va_up (va_up (fun _ => none) 0 (some q7)) 1 (some q8)) 2 (some q9))))) = w20 at hb h_q1 h_q2 h_q3 h_q4 h_q5 h_q6 h_q7 h_q8 h_q9 ⊢
  refine j_goto C rfl ?_
  refine j_icmpT C rfl (by decide) ?_
  refine j_vret C E rfl rfl (by decide) (by decide) ⟨rfl, cfg0 b q1 q2 q3 q4 q5 (fun i => if i = 0 then q7 else if i = 1 then q8 else if i = 2 then q9 else q6), rfl, fun _ => none, fun _ => (none, none, 0), ?_, fun i hi => ln_nil _, ⟨fun _ => List.nodup_nil, fun i x h => (by cases h), fun i j x h => (by cases h), fun _ _ => rfl⟩⟩
  refine ⟨hb, h_q1, h_q2, ?_, ?_, ⟨_, h_q5, ?_⟩, fun i hi => absurd hi (Nat.not_lt_zero _), fun i hi => absurd hi (Nat.not_lt_zero _), ?_, fun i j hi => absurd hi (Nat.not_lt_zero _), fun i j hi => absurd hi (Nat.not_lt_zero _), ?_, by decide, by decide⟩
  · exact h_q3
  · exact h_q4
  · intro v hv
    rcases (show v = 0 ∨ v = 1 ∨ v = 2 by omega) with rfl | rfl | rfl <;> rfl
  · intro i hi
    have hi : i < 4 := hi
    rcases (show i = 0 ∨ i = 1 ∨ i = 2 ∨ i = 3 by omega) with rfl | rfl | rfl | rfl
    · exact ⟨h_q7, fun x h => (by cases h), fun x h => (by cases h)⟩
    · exact ⟨h_q8, fun x h => (by cases h), fun x h => (by cases h)⟩
    · exact ⟨h_q9, fun x h => (by cases h), fun x h => (by cases h)⟩
    · exact ⟨h_q6, fun x h => (by cases h), fun x h => (by cases h)⟩
  · intro i j hi hj he
    have hi : i < 4 := hi
    have hj : j < 4 := hj
    rcases (show i = 0 ∨ i = 1 ∨ i = 2 ∨ i = 3 by omega) with rfl | rfl | rfl | rfl <;> rcases (show j = 0 ∨ j = 1 ∨ j = 2 ∨ j = 3 by omega) with rfl | rfl | rfl | rfl <;> first | rfl | (exfalso; simp [cfg0] at he; first | exact ne_q7_q8 he | exact ne_q7_q8 he.symm | exact ne_q7_q9 he | exact ne_q7_q9 he.symm | exact ne_q8_q9 he | exact ne_q8_q9 he.symm | exact ne_q6_q7 he | exact ne_q6_q7 he.symm | exact ne_q6_q8 he | exact ne_q6_q8 he.symm | exact ne_q6_q9 he | exact ne_q6_q9 he.symm)
end INIT
