/-! The constructors of Message and Thing. -/
section CTR
variable {T : fw_T} {w : fw_W}
theorem ne_new {a b : Nat} {e : fw_E} (ha : w a = some e) (hb : w b = none) : a ≠ b := fun q => by subst q; rw [ha] at hb; cases hb
set_option maxHeartbeats 2000000 in
theorem m_M_init (l : Launch) (hT : TOK T) {b tg ar : Nat} {x v : Int32} (hw : w b = some (.inr (kM, nw_M))) :
    Ct l T y_M_init W_M_init rm_M_init [.inr (some b), .inl x, .inr (some tg), .inl v, .inr (some ar)] w (fun r w' => r = none ∧ ∃ ql qp pr : Nat, w ql = none ∧ w qp = none ∧ (∀ a e, a ≠ b → w a = some e → w' a = some e) ∧ w' b = some (.inr (kM, [.inl x, .inl v, .inr (some pr), .inr (some ql), .inr (some tg), .inr (some ar), .inr none, .inl 0, .inr none, .inr (some qp), .inl 0])) ∧ w' ql = some (.inr (kL, nw_L)) ∧ w' qp = some (.inl (aT, 8, .inr (fun _ => none))) ∧ IsR w' pr (3, x)) := by
  refine ct_M_init rfl (nle rfl) ?_
  intro X hl C E
  have V := hv_M_init hT
  refine j_objV C V wm_M_O_init rfl (by decide) (by decide) ?_
  refine j_new C rfl (fn_M_L V) (by decide) (by decide) (fun ql hql => ?_)
  refine j_callN C rfl (fc_M_L_init V (by decide)) (m_L_init _ hT) rfl rfl (nle rfl) (by decide) (by decide) ?_
  rintro r w' ⟨rfl, rfl⟩
  have b1 := up_new (e := .inr (kL, nw_L)) hw hql
  have l1 : va_up w ql (some (.inr (kL, nw_L))) ql = some (.inr (kL, nw_L)) := va_up_self _ _ _
  have m1 : ∀ a e, w a = some e → va_up w ql (some (.inr (kL, nw_L))) a = some e := fun a e h => up_new h hql
  generalize va_up w ql (some (.inr (kL, nw_L))) = w1 at b1 l1 m1 ⊢
  refine j_putE C rfl (fp_M_M_waiters V rfl) b1 (nlt rfl) (fit_o _ _) (.inr (kM, [.inl 0, .inl 0, .inr none, .inr (some ql), .inr none, .inr none, .inr none, .inl 0, .inr none, .inr none, .inl 0])) rfl ?_
  have hbq : b ≠ ql := ne_new hw hql
  generalize he1 : (Sum.inr (kM, [.inl 0, .inl 0, .inr none, .inr (some ql), .inr none, .inr none, .inr none, .inl 0, .inr none, .inr none, .inl 0]) : fw_E) = e1
  have b2 : va_up w1 b (some e1) b = some e1 := va_up_self _ _ _
  have l2 : va_up w1 b (some e1) ql = some (.inr (kL, nw_L)) := by rw [va_up_ne _ _ hbq.symm]; exact l1
  have m2 : ∀ a e, a ≠ b → w a = some e → va_up w1 b (some e1) a = some e := fun a e hab h => by rw [va_up_ne _ _ hab]; exact m1 a e h
  generalize va_up w1 b (some e1) = w2 at b2 l2 m2 ⊢
  refine j_newq (N := 8) C rfl hT.2.2.1 (by rw [V.1]; exact V.2.2 _ wk_M_H) (by decide) (by decide) (by decide) (by decide) (by decide) (by decide) (fun qp hqp => ?_)
  have hbp : b ≠ qp := ne_new b2 hqp
  have hlp : ql ≠ qp := ne_new l2 hqp
  have b3 := up_new (e := .inl (aT, 8, .inr (fun _ => none))) b2 hqp
  have l3 := up_new (e := .inl (aT, 8, .inr (fun _ => none))) l2 hqp
  have p3 : va_up w2 qp (some (.inl (aT, 8, .inr (fun _ => none)))) qp = some (.inl (aT, 8, .inr (fun _ => none))) := va_up_self _ _ _
  have hwqp : w qp = none := by
    cases h : w qp with
    | none => rfl
    | some e => rw [m2 qp e hbp.symm h] at hqp; cases hqp
  have m3 : ∀ a e, a ≠ b → w a = some e → va_up w2 qp (some (.inl (aT, 8, .inr (fun _ => none)))) a = some e := fun a e hab h => up_new (m2 a e hab h) hqp
  generalize va_up w2 qp (some (.inl (aT, 8, .inr (fun _ => none)))) = w3 at b3 l3 p3 m3 ⊢
  subst he1
  refine j_putE C rfl (fp_M_M_passed V rfl) b3 (nlt rfl) (fit_a _ _) (.inr (kM, [.inl 0, .inl 0, .inr none, .inr (some ql), .inr none, .inr none, .inr none, .inl 0, .inr none, .inr (some qp), .inl 0])) rfl ?_
  refine j_putE C rfl (fp_M_M_number V rfl) (va_up_self _ _ _) (nlt rfl) (fit_i _) (.inr (kM, [.inl x, .inl 0, .inr none, .inr (some ql), .inr none, .inr none, .inr none, .inl 0, .inr none, .inr (some qp), .inl 0])) rfl ?_
  refine j_putE C rfl (fp_M_M_target V) (va_up_self _ _ _) (nlt rfl) (fit_o _ _) (.inr (kM, [.inl x, .inl 0, .inr none, .inr (some ql), .inr (some tg), .inr none, .inr none, .inl 0, .inr none, .inr (some qp), .inl 0])) rfl ?_
  refine j_putE C rfl (fp_M_M_verb V rfl) (va_up_self _ _ _) (nlt rfl) (fit_i _) (.inr (kM, [.inl x, .inl v, .inr none, .inr (some ql), .inr (some tg), .inr none, .inr none, .inl 0, .inr none, .inr (some qp), .inl 0])) rfl ?_
  refine j_putE C rfl (fp_M_M_argument V) (va_up_self _ _ _) (nlt rfl) (fit_o _ _) (.inr (kM, [.inl x, .inl v, .inr none, .inr (some ql), .inr (some tg), .inr (some ar), .inr none, .inl 0, .inr none, .inr (some qp), .inl 0])) rfl ?_
  rw [bx_uu, bx_uu, bx_uu, bx_uu]
  generalize he4 : (Sum.inr (kM, [.inl x, .inl v, .inr none, .inr (some ql), .inr (some tg), .inr (some ar), .inr none, .inl 0, .inr none, .inr (some qp), .inl 0]) : fw_E) = e4
  have b4 : va_up w3 b (some e4) b = some e4 := va_up_self _ _ _
  have l4 : va_up w3 b (some e4) ql = some (.inr (kL, nw_L)) := by rw [va_up_ne _ _ hbq.symm]; exact l3
  have p4 : va_up w3 b (some e4) qp = some (.inl (aT, 8, .inr (fun _ => none))) := by rw [va_up_ne _ _ hbp.symm]; exact p3
  have m4 : ∀ a e, a ≠ b → w a = some e → va_up w3 b (some e4) a = some e := fun a e hab h => by rw [va_up_ne _ _ hab]; exact m3 a e hab h
  generalize va_up w3 b (some e4) = w4 at b4 l4 p4 m4 ⊢
  refine j_new C rfl (fn_M_R V) (by decide) (by decide) (fun pr hpr => ?_)
  refine j_callI C rfl (fc_M_R_init V (by decide)) (m_R_init _ hT (s := 3) (x := x) (va_up_self _ _ _)) rfl rfl (nle rfl) (by decide) (by decide) ?_
  rintro r w' ⟨rfl, rfl⟩
  rw [bx_uu]
  have b5 := up_new (e := .inr (kR, [.inl 3, .inl x])) b4 hpr
  have l5 := up_new (e := .inr (kR, [.inl 3, .inl x])) l4 hpr
  have p5 := up_new (e := .inr (kR, [.inl 3, .inl x])) p4 hpr
  have r5 : va_up w4 pr (some (.inr (kR, [.inl 3, .inl x]))) pr = some (.inr (kR, [.inl 3, .inl x])) := va_up_self _ _ _
  have m5 : ∀ a e, a ≠ b → w a = some e → va_up w4 pr (some (.inr (kR, [.inl 3, .inl x]))) a = some e := fun a e hab h => up_new (m4 a e hab h) hpr
  have hbr : b ≠ pr := ne_new b4 hpr
  generalize va_up w4 pr (some (.inr (kR, [.inl 3, .inl x]))) = w5 at b5 l5 p5 r5 m5 ⊢
  subst he4
  refine j_putE C rfl (fp_M_M_promise V rfl) b5 (nlt rfl) (fit_o _ _) (.inr (kM, [.inl x, .inl v, .inr (some pr), .inr (some ql), .inr (some tg), .inr (some ar), .inr none, .inl 0, .inr none, .inr (some qp), .inl 0])) rfl ?_
  refine j_vret C E rfl rfl (by decide) (by decide) ⟨rfl, ql, qp, pr, hql, hwqp, fun a e hab h => ?_, va_up_self _ _ _, ?_, ?_, ?_⟩
  · rw [va_up_ne _ _ hab]; exact m5 a e hab h
  · rw [va_up_ne _ _ hbq.symm]; exact l5
  · rw [va_up_ne _ _ hbp.symm]; exact p5
  · unfold IsR; rw [va_up_ne _ _ hbr.symm]; exact r5
end CTR
