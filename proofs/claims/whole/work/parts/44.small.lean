/-! Reference, and the small methods of Thing and Message. -/
section SML
variable {T : fw_T} {w : fw_W} {c : Cfg} {n k : Nat} {th : Nat → Th} {ms : Nat → Ms} {ln : Nat → List Nat}
theorem m_R_init (l : Launch) (hT : TOK T) {b : Nat} {s x : Int32} (hw : w b = some (.inr (kR, nw_R))) : Ct l T y_R_init W_R_init rm_R_init [.inr (some b), .inl s, .inl x] w (fun r w' => r = none ∧ w' = va_up w b (some (.inr (kR, [.inl s, .inl x])))) := by
  refine ct_R_init rfl (nle rfl) ?_
  intro X hl C E
  have V := hv_R_init hT
  refine j_objV C V wm_R_O_init rfl (by decide) (by decide) ?_
  refine j_putE C rfl (fp_R_R_sort V rfl) hw (nlt rfl) (fit_i _) (.inr (kR, [.inl s, .inl 0])) rfl ?_
  refine j_putE C rfl (fp_R_R_index V rfl) (va_up_self _ _ _) (nlt rfl) (fit_i _) (.inr (kR, [.inl s, .inl x])) rfl ?_
  rw [bx_uu]
  exact j_vret C E rfl rfl (by decide) (by decide) ⟨rfl, rfl⟩
theorem m_R_isSame (l : Launch) (hT : TOK T) {a b : Nat} {r s : Rf} (ha : IsR w a r) (hb : IsR w b s) : Ct l T y_R_isSame W_R_isSame rm_R_isSame [.inr (some a), .inr (some b)] w (fun v w' => w' = w ∧ v = some (.inl (if r = s then 1 else 0))) := by
  refine ct_R_isSame rfl (nle rfl) ?_
  intro X hl C E
  have V := hv_R_isSame hT
  have key : ∀ v : Int32, (v = 0 ∨ v = 1) → v = (if r = s then 1 else 0) → J T G_R_isSame X 27 [some (.inr (some a)), some (.inr (some b))] [.inl v] w 0 0 := fun v h1 h2 => by
    subst h2
    exact j_iret C E rfl (Or.inr ⟨rfl, h1⟩) (by decide) (by decide) ⟨rfl, rfl⟩
  refine j_get C rfl (fg_R_R_sort V) ha rfl ?_
  refine j_get C rfl (fg_R_R_sort V) hb rfl ?_
  refine j_icmp C rfl (fun h => ?_) (fun h => ?_)
  · refine j_to C 27 rfl ?_
    exact key 0 (Or.inl rfl) (by rw [if_neg (fun e => h (by rw [e]))])
  · refine j_get C rfl (fg_R_R_index V) ha rfl ?_
    refine j_get C rfl (fg_R_R_index V) hb rfl ?_
    refine j_icmp C rfl (fun h' => ?_) (fun h' => ?_)
    · refine j_to C 27 rfl ?_
      exact key 0 (Or.inl rfl) (by rw [if_neg (fun e => h' (by rw [e]))])
    · refine j_goto C rfl ?_
      exact key 1 (Or.inr rfl) (by rw [if_pos (Prod.ext (Classical.not_not.mp h) (Classical.not_not.mp h'))])
theorem m_H_isCutOff (l : Launch) (hT : TOK T) (R : RepL w c n th k ms ln) {i : Nat} (hi : i < n) (hz : ∀ j, j < n → tV (th j) = 0 ∨ tV (th j) = 1) : Ct l T y_H_isCutOff W_H_isCutOff rm_H_isCutOff [.inr (some (cT c i))] w (fun v w' => w' = w ∧ v = some (.inl (match tO (th i) with | none => 1 | some o => tV (th o)))) := by
  refine ct_H_isCutOff rfl (nle rfl) ?_
  intro X hl C E
  have V := hv_H_isCutOff hT
  obtain ⟨bh, lf, R, hL, hW⟩ := R
  obtain ⟨ek, sf, hd, f, e0, -⟩ := R.aT hi
  refine j_get C rfl (fg_H_H_owner V) e0 rfl ?_
  cases ho : tO (th i) with
  | none =>
    refine j_ifnull C rfl (fun _ => ?_) (fun a ha => by cases ha)
    refine j_goto C rfl ?_
    exact j_iret C E rfl (Or.inr ⟨rfl, Or.inr rfl⟩) (by decide) (by decide) ⟨rfl, by rw [ho]⟩
  | some o =>
    have hon : o < n := ek.1 o ho
    refine j_ifnull C rfl (fun h => by cases h) (fun a ha => ?_)
    unfold cellT at e0
    rw [ho] at e0
    refine j_get C rfl (fg_H_H_owner V) e0 rfl ?_
    obtain ⟨ek', sf', hd', f', e0', -⟩ := R.aT hon
    refine j_get C rfl (fg_H_H_revoked V) e0' rfl ?_
    refine j_if C rfl (fun h => ?_) (fun h => ?_)
    · refine j_to C 22 rfl ?_
      exact j_iret C E rfl (Or.inr ⟨rfl, Or.inl rfl⟩) (by decide) (by decide) ⟨rfl, by rw [ho]; exact congrArg (fun q => some (Sum.inl q)) (show tV (th o) = 0 from h).symm⟩
    · refine j_goto C rfl ?_
      refine j_iret C E rfl (Or.inr ⟨rfl, Or.inr rfl⟩) (by decide) (by decide) ⟨rfl, ?_⟩
      rcases hz o hon with q | q
      · exact absurd q h
      · rw [ho]; exact congrArg (fun q => some (Sum.inl q)) q.symm
end SML
