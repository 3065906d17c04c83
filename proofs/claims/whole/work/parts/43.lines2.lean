/-! Line: take, takeOver, withBefore, its constructor. -/
theorem ln_take_all {k : Nat} {ln : Nat → List Nat} {bh : Nat → Option Nat} {lf : Nat → Lf} (hl : ∀ i, i < 4 + k → lnOK bh (ln i) (lf i)) {i m : Nat} {r : List Nat} (hi : i < 4 + k) (hm : ln i = m :: r) :
    ∀ j, j < 4 + k → lnOK bh (va_up ln i r j) (va_up lf i (r.head?, (if r = [] then none else (lf i).2.1), (lf i).2.2 - 1) j) := by
  intro j hj
  by_cases hji : j = i
  · subst hji
    rw [va_up_self, va_up_self]
    have := hl j hj
    rw [hm] at this
    exact (ln_take this).2.2.2
  · rw [va_up_ne _ _ hji, va_up_ne _ _ hji]
    exact hl j hj
theorem m_L_init (l : Launch) {T : fw_T} (hT : TOK T) {w : fw_W} {b : Nat} : Ct l T y_L_init W_L_init rm_L_init [.inr (some b)] w (fun r w' => r = none ∧ w' = w) := by
  refine ct_L_init rfl (nle rfl) ?_
  intro X hl C E
  refine j_objV C (hv_L_init hT) wm_L_O_init rfl (by decide) (by decide) ?_
  exact j_vret C E rfl rfl (by decide) (by decide) ⟨rfl, rfl⟩
section LNS
variable {T : fw_T} {w : fw_W} {c : Cfg} {n k : Nat} {th : Nat → Th} {ms : Nat → Ms} {ln : Nat → List Nat}
theorem m_L_take0 (l : Launch) (hT : TOK T) (R : RepL w c n th k ms ln) {i : Nat} (hi : i < 4 + k) (he : ln i = []) : Ct l T y_L_take W_L_take rm_L_take [.inr (some (cL c i))] w (fun r w' => r = some (.inr none) ∧ w' = w) := by
  refine ct_L_take rfl (nle rfl) ?_
  intro X hl C E
  have V := hv_L_take hT
  obtain ⟨bh, lf, R, hL, hW⟩ := R
  have g0 := (R.aL hi).1
  have hx := (hL i hi).1
  rw [hx, he] at g0
  refine j_get C rfl (fg_L_L_first V) g0 rfl ?_
  refine j_ifnn C rfl (fun a ha => by cases ha) (fun _ => ?_)
  exact j_aret C E rfl rfl (by decide) (by decide) ⟨rfl, rfl⟩
set_option maxHeartbeats 1000000 in
theorem m_L_take (l : Launch) (hT : TOK T) (R : RepL w c n th k ms ln) {i m : Nat} {r : List Nat} (hi : i < 4 + k) (he : ln i = m :: r) : Ct l T y_L_take W_L_take rm_L_take [.inr (some (cL c i))] w (fun v w' => v = some (.inr (some (cM c m))) ∧ RepL w' c n th k ms (va_up ln i r)) := by
  refine ct_L_take rfl (nle rfl) ?_
  intro X hl C E
  have V := hv_L_take hT
  obtain ⟨bh, lf, R, hL, hW⟩ := R
  have g0 := (R.aL hi).1
  have hxl := hL i hi
  rw [he] at hxl
  obtain ⟨t1, t2, t3, t4⟩ := ln_take hxl
  have hmk : m < k := hW.2.1 i m (by rw [he]; exact List.mem_cons_self)
  have hlf : lf i = (some m, (lf i).2.1, (lf i).2.2) := by rw [← t2]
  rw [hlf] at g0
  refine j_get C rfl (fg_L_L_first V) g0 rfl ?_
  refine j_ifnn C rfl (fun a ha => ?_) (fun h0 => by cases h0)
  obtain ⟨ek, pr, tg, ar, an, e0, e1, e2, e3, e4, e5⟩ := R.aM hmk
  rw [t1] at e0
  refine j_get C rfl (fg_L_M_behind V) e0 rfl ?_
  refine j_putE C rfl (fp_L_L_first V) g0 (nlt rfl) (fit_o _ _) (cellL c (r.head?, (lf i).2.1, (lf i).2.2)) rfl ?_
  refine j_get C rfl (fg_L_L_first V) (va_up_self _ _ _) rfl ?_
  have hok : ∀ q, okL k (r.head?, (if r = [] then none else (lf i).2.1), q) := fun q => by
    refine ⟨fun x hx => hW.2.1 i x (by rw [he]; exact List.mem_cons_of_mem _ (List.mem_of_head? hx)), fun x hx => ?_⟩
    by_cases hr : r = []
    · rw [if_pos hr] at hx; cases hx
    · rw [if_neg hr] at hx
      exact (R.aL hi).2.2 x hx
  cases r with
  | nil =>
    refine j_ifnn C rfl (fun a ha => by cases ha) (fun _ => ?_)
    refine j_putE C rfl (fp_L_L_last V) (va_up_self _ _ _) (nlt rfl) (fit_o _ _) (cellL c (none, none, (lf i).2.2)) rfl ?_
    refine j_get C rfl (fg_L_L_length V) (va_up_self _ _ _) rfl ?_
    refine j_putE C rfl (fp_L_L_length V) (va_up_self _ _ _) (nlt rfl) (fit_i _) (cellL c (none, none, (lf i).2.2 - 1)) rfl ?_
    rw [bx_uu, bx_uu]
    have h1 := ln_take_all hL hi he
    have h2 := hok ((lf i).2.2 - 1)
    exact j_aret C E rfl rfl (by decide) (by decide) ⟨rfl, _, _, R.setL hi (none, none, (lf i).2.2 - 1) h2, h1, (hW.take he).1⟩
  | cons a r' =>
    refine j_ifnn C rfl (fun a0 ha => ?_) (fun h0 => by cases h0)
    refine j_get C rfl (fg_L_L_length V) (va_up_self _ _ _) rfl ?_
    refine j_putE C rfl (fp_L_L_length V) (va_up_self _ _ _) (nlt rfl) (fit_i _) (cellL c (some a, (lf i).2.1, (lf i).2.2 - 1)) rfl ?_
    rw [bx_uu]
    have h1 := ln_take_all hL hi he
    have h2 := hok ((lf i).2.2 - 1)
    rw [if_neg (by simp)] at h1 h2
    exact j_aret C E rfl rfl (by decide) (by decide) ⟨rfl, _, _, R.setL hi (some a, (lf i).2.1, (lf i).2.2 - 1) h2, h1, (hW.take he).1⟩
end LNS
