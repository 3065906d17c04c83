section CTRH
variable {T : fw_T} {w : fw_W}
set_option maxHeartbeats 2000000 in
theorem m_H_init (l : Launch) (hT : TOK T) {b ct : Nat} {ow : Option Nat} {x kd hm : Int32} {vr : Rf} (hw : w b = some (.inr (kT, nw_H))) (hct : IsR w ct vr) :
    Ct l T y_H_init W_H_init rm_H_init [.inr (some b), .inl x, .inl kd, .inl hm, .inr ow, .inr (some ct)] w (fun r w' => r = none ∧ ∃ (qs sf : Nat) (f : Nat → Option Nat), w qs = none ∧ (∀ a e, a ≠ b → w a = some e → w' a = some e) ∧ w' b = some (.inr (kT, [.inl x, .inl kd, .inl hm, .inr ow, .inr (some sf), .inr (some qs), .inr (some ct), .inr none, .inl 0, .inl 0, .inl 0])) ∧ w' qs = some (.inl (aR, 4, .inr f)) ∧ (∀ q, q < 4 → f q = some ct) ∧ IsR w' sf (2, x)) := by
  refine ct_H_init rfl (nle rfl) ?_
  intro X hl C E
  have V := hv_H_init hT
  refine j_objV C V wm_H_O_init rfl (by decide) (by decide) ?_
  refine j_newq (N := 4) C rfl hT.2.1 (by rw [V.1]; exact V.2.2 _ wk_H_R) (by decide) (by decide) (by decide) (by decide) (by decide) (by decide) (fun qs hqs => ?_)
  have hbs : b ≠ qs := ne_new hw hqs
  have b1 := up_new (e := .inl (aR, 4, .inr (fun _ => none))) hw hqs
  have s1 : va_up w qs (some (.inl (aR, 4, .inr (fun _ => none)))) qs = some (.inl (aR, 4, .inr (fun _ => none))) := va_up_self _ _ _
  have m1 : ∀ a e, w a = some e → va_up w qs (some (.inl (aR, 4, .inr (fun _ => none)))) a = some e := fun a e h => up_new h hqs
  generalize va_up w qs (some (.inl (aR, 4, .inr (fun _ => none)))) = w1 at b1 s1 m1 ⊢
  refine j_putE C rfl (fp_H_H_slots V rfl) b1 (nlt rfl) (fit_a _ _) (.inr (kT, [.inl 0, .inl 0, .inl 0, .inr none, .inr none, .inr (some qs), .inr none, .inr none, .inl 0, .inl 0, .inl 0])) rfl ?_
  refine j_putE C rfl (fp_H_H_number V rfl) (va_up_self _ _ _) (nlt rfl) (fit_i _) (.inr (kT, [.inl x, .inl 0, .inl 0, .inr none, .inr none, .inr (some qs), .inr none, .inr none, .inl 0, .inl 0, .inl 0])) rfl ?_
  refine j_putE C rfl (fp_H_H_kind V rfl) (va_up_self _ _ _) (nlt rfl) (fit_i _) (.inr (kT, [.inl x, .inl kd, .inl 0, .inr none, .inr none, .inr (some qs), .inr none, .inr none, .inl 0, .inl 0, .inl 0])) rfl ?_
  refine j_putE C rfl (fp_H_H_home V rfl) (va_up_self _ _ _) (nlt rfl) (fit_i _) (.inr (kT, [.inl x, .inl kd, .inl hm, .inr none, .inr none, .inr (some qs), .inr none, .inr none, .inl 0, .inl 0, .inl 0])) rfl ?_
  refine j_putE C rfl (fp_H_H_owner V rfl) (va_up_self _ _ _) (nlt rfl) (fit_o _ _) (.inr (kT, [.inl x, .inl kd, .inl hm, .inr ow, .inr none, .inr (some qs), .inr none, .inr none, .inl 0, .inl 0, .inl 0])) rfl ?_
  rw [bx_uu, bx_uu, bx_uu, bx_uu]
  generalize he2 : (Sum.inr (kT, [.inl x, .inl kd, .inl hm, .inr ow, .inr none, .inr (some qs), .inr none, .inr none, .inl 0, .inl 0, .inl 0]) : fw_E) = e2
  have b2 : va_up w1 b (some e2) b = some e2 := va_up_self _ _ _
  have s2 : va_up w1 b (some e2) qs = some (.inl (aR, 4, .inr (fun _ => none))) := by rw [va_up_ne _ _ hbs.symm]; exact s1
  have m2 : ∀ a e, a ≠ b → w a = some e → va_up w1 b (some e2) a = some e := fun a e hab h => by rw [va_up_ne _ _ hab]; exact m1 a e h
  generalize va_up w1 b (some e2) = w2 at b2 s2 m2 ⊢
  refine j_new C rfl (fn_H_R V) (by decide) (by decide) (fun sf hsf => ?_)
  refine j_callI C rfl (fc_H_R_init V (by decide)) (m_R_init _ hT (s := 2) (x := x) (va_up_self _ _ _)) rfl rfl (nle rfl) (by decide) (by decide) ?_
  rintro r w' ⟨rfl, rfl⟩
  rw [bx_uu]
  have hbf : b ≠ sf := ne_new b2 hsf
  have b3 := up_new (e := .inr (kR, [.inl 2, .inl x])) b2 hsf
  have s3 := up_new (e := .inr (kR, [.inl 2, .inl x])) s2 hsf
  have r3 : va_up w2 sf (some (.inr (kR, [.inl 2, .inl x]))) sf = some (.inr (kR, [.inl 2, .inl x])) := va_up_self _ _ _
  have m3 : ∀ a e, a ≠ b → w a = some e → va_up w2 sf (some (.inr (kR, [.inl 2, .inl x]))) a = some e := fun a e hab h => up_new (m2 a e hab h) hsf
  generalize va_up w2 sf (some (.inr (kR, [.inl 2, .inl x]))) = w3 at b3 s3 r3 m3 ⊢
  subst he2
  refine j_putE C rfl (fp_H_H_self V rfl) b3 (nlt rfl) (fit_o _ _) (.inr (kT, [.inl x, .inl kd, .inl hm, .inr ow, .inr (some sf), .inr (some qs), .inr none, .inr none, .inl 0, .inl 0, .inl 0])) rfl ?_
  refine j_putE C rfl (fp_H_H_held V) (va_up_self _ _ _) (nlt rfl) (fit_o _ _) (.inr (kT, [.inl x, .inl kd, .inl hm, .inr ow, .inr (some sf), .inr (some qs), .inr (some ct), .inr none, .inl 0, .inl 0, .inl 0])) rfl ?_
  rw [bx_uu]
  generalize he4 : (Sum.inr (kT, [.inl x, .inl kd, .inl hm, .inr ow, .inr (some sf), .inr (some qs), .inr (some ct), .inr none, .inl 0, .inl 0, .inl 0]) : fw_E) = e4
  have hcb : ct ≠ b := fun q => by subst q; unfold IsR at hct; rw [hw] at hct; simp [kT, kR] at hct
  have b4 : va_up w3 b (some e4) b = some e4 := va_up_self _ _ _
  have s4 : va_up w3 b (some e4) qs = some (.inl (aR, 4, .inr (fun _ => none))) := by rw [va_up_ne _ _ hbs.symm]; exact s3
  have r4 : va_up w3 b (some e4) sf = some (.inr (kR, [.inl 2, .inl x])) := by rw [va_up_ne _ _ hbf.symm]; exact r3
  have m4 : ∀ a e, a ≠ b → w a = some e → va_up w3 b (some e4) a = some e := fun a e hab h => by rw [va_up_ne _ _ hab]; exact m3 a e hab h
  generalize va_up w3 b (some e4) = w4 at b4 s4 r4 m4 ⊢
  subst he4
  have t4 : IsR w4 ct vr := m4 ct _ hcb hct
  -- four stores
  have hsq : ∀ {a : Nat} {f : Nat → Option Nat} {W : fw_W} {e : fw_E} {y : Option fw_E}, W qs = some (.inl (aR, 4, .inr f)) → W a = some e → (∀ g, e ≠ .inl (aR, 4, .inr g)) → va_up W qs y a = some e := fun h1 h2 h3 => up_ne h1 h2 (h3 _)
  have nb : ∀ g, (Sum.inr (kT, [.inl x, .inl kd, .inl hm, .inr ow, .inr (some sf), .inr (some qs), .inr (some ct), .inr none, .inl 0, .inl 0, .inl 0]) : fw_E) ≠ .inl (aR, 4, .inr g) := fun g h => by cases h
  refine j_icmpF C rfl (by decide) ?_
  refine j_get C rfl (fg_H_H_slots V) b4 rfl ?_
  refine j_aastI C rfl s4 hT.2.1 0 (by decide) (by decide) (by decide) (put_ref hT t4) ?_
  refine j_goto C rfl ?_
  refine j_icmpF C rfl (by decide) ?_
  refine j_get C rfl (fg_H_H_slots V) (hsq s4 b4 nb) rfl ?_
  refine j_aastI C rfl (va_up_self _ _ _) hT.2.1 1 (by decide) (by decide) (by decide) (put_ref hT (t4.up s4 (fun l h => by cases h))) ?_
  rw [bx_uu]
  refine j_goto C rfl ?_
  refine j_icmpF C rfl (by decide) ?_
  refine j_get C rfl (fg_H_H_slots V) (hsq s4 b4 nb) rfl ?_
  refine j_aastI C rfl (va_up_self _ _ _) hT.2.1 2 (by decide) (by decide) (by decide) (put_ref hT (t4.up s4 (fun l h => by cases h))) ?_
  rw [bx_uu]
  refine j_goto C rfl ?_
  refine j_icmpF C rfl (by decide) ?_
  refine j_get C rfl (fg_H_H_slots V) (hsq s4 b4 nb) rfl ?_
  refine j_aastI C rfl (va_up_self _ _ _) hT.2.1 3 (by decide) (by decide) (by decide) (put_ref hT (t4.up s4 (fun l h => by cases h))) ?_
  rw [bx_uu]
  refine j_goto C rfl ?_
  refine j_icmpT C rfl (by decide) ?_
  refine j_vret C E rfl rfl (by decide) (by decide) ⟨rfl, qs, sf, _, hqs, fun a e hab h => ?_, hsq s4 b4 nb, va_up_self _ _ _, ?_, ?_⟩
  · rw [va_up_ne _ _ (ne_new h hqs)]; exact m4 a e hab h
  · intro q hq
    rcases (show q = 0 ∨ q = 1 ∨ q = 2 ∨ q = 3 by omega) with rfl | rfl | rfl | rfl <;> simp [va_up]
  · exact IsR.up (w := w4) r4 s4 (fun l h => by cases h)
end CTRH
