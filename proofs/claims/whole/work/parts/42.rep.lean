/-! The heap, with lines as lists. -/
def LnW (k : Nat) (ln : Nat → List Nat) : Prop := (∀ i, (ln i).Nodup) ∧ (∀ i x, x ∈ ln i → x < k) ∧ (∀ i j x, x ∈ ln i → x ∈ ln j → i = j) ∧ ∀ i, 4 + k ≤ i → ln i = []
def RepL (w : fw_W) (c : Cfg) (n : Nat) (th : Nat → Th) (k : Nat) (ms : Nat → Ms) (ln : Nat → List Nat) : Prop :=
  ∃ (bh : Nat → Option Nat) (lf : Nat → Lf), RepK w c n th k ms bh lf ∧ (∀ i, i < 4 + k → lnOK bh (ln i) (lf i)) ∧ LnW k ln
theorem LnW.join {k : Nat} {ln : Nat → List Nat} (h : LnW k ln) {i m : Nat} (hi : i < 4 + k) (hm : m < k) (hn : ∀ j, m ∉ ln j) : LnW k (va_up ln i (ln i ++ [m])) := by
  obtain ⟨h1, h2, h3, h4⟩ := h
  have key : ∀ j x, x ∈ va_up ln i (ln i ++ [m]) j → x ∈ ln j ∨ (j = i ∧ x = m) := by
    intro j x hx
    by_cases hj : j = i
    · subst hj
      rw [va_up_self] at hx
      rcases List.mem_append.mp hx with q | q
      · exact Or.inl q
      · exact Or.inr ⟨rfl, by simpa using q⟩
    · rw [va_up_ne _ _ hj] at hx
      exact Or.inl hx
  refine ⟨fun j => ?_, fun j x hx => ?_, fun j j' x hx hx' => ?_, fun j hj => ?_⟩
  · by_cases hj : j = i
    · subst hj
      rw [va_up_self, List.nodup_append]
      refine ⟨h1 j, by simp, fun a ha b hb => ?_⟩
      have : b = m := by simpa using hb
      subst this
      exact fun e => hn j (e ▸ ha)
    · rw [va_up_ne _ _ hj]; exact h1 j
  · rcases key j x hx with q | ⟨-, q⟩
    · exact h2 j x q
    · omega
  · rcases key j x hx with q | ⟨q1, q2⟩ <;> rcases key j' x hx' with r | ⟨r1, r2⟩
    · exact h3 j j' x q r
    · subst r2; exact absurd q (hn j)
    · subst q2; exact absurd r (hn j')
    · omega
  · rw [va_up_ne _ _ (by omega)]; exact h4 j hj
theorem LnW.take {k : Nat} {ln : Nat → List Nat} (h : LnW k ln) {i m : Nat} {r : List Nat} (hl : ln i = m :: r) : LnW k (va_up ln i r) ∧ ∀ j, m ∉ va_up ln i r j := by
  obtain ⟨h1, h2, h3, h4⟩ := h
  have hi := h1 i
  rw [hl, List.nodup_cons] at hi
  have key : ∀ j x, x ∈ va_up ln i r j → x ∈ ln j := by
    intro j x hx
    by_cases hj : j = i
    · subst hj
      rw [va_up_self] at hx
      rw [hl]; exact List.mem_cons_of_mem _ hx
    · rw [va_up_ne _ _ hj] at hx
      exact hx
  refine ⟨⟨fun j => ?_, fun j x hx => h2 j x (key j x hx), fun j j' x hx hx' => h3 j j' x (key j x hx) (key j' x hx'), fun j hj => ?_⟩, fun j hx => ?_⟩
  · by_cases hj : j = i
    · subst hj
      rw [va_up_self]; exact hi.2
    · rw [va_up_ne _ _ hj]; exact h1 j
  · have hji : j ≠ i := fun e => by subst e; rw [h4 j hj] at hl; cases hl
    rw [va_up_ne _ _ hji]; exact h4 j hj
  · by_cases hj : j = i
    · subst hj
      rw [va_up_self] at hx
      exact hi.1 hx
    · rw [va_up_ne _ _ hj] at hx
      exact hj (h3 j i m hx (by rw [hl]; exact List.mem_cons_self))
/-- joining, of the pure parts -/
theorem ln_join_all {k : Nat} {ln : Nat → List Nat} {bh : Nat → Option Nat} {lf : Nat → Lf} (hl : ∀ i, i < 4 + k → lnOK bh (ln i) (lf i)) (hw : LnW k ln) {i m z : Nat} (hi : i < 4 + k) (hn : ∀ j, m ∉ ln j) (hz : (ln i).getLast? = some z) :
    ∀ j, j < 4 + k → lnOK (va_up (va_up bh m none) z (some m)) (va_up ln i (ln i ++ [m]) j) (va_up lf i ((ln i).head?, some m, (lf i).2.2 + 1) j) := by
  intro j hj
  by_cases hji : j = i
  · subst hji
    rw [va_up_self, va_up_self]
    exact ln_join (hl j hj) (hw.1 j) (hn j) hz
  · rw [va_up_ne _ _ hji, va_up_ne _ _ hji]
    refine ln_other (hl j hj) (fun y hy => ?_)
    have h1 : y ≠ z := fun e => hji (hw.2.2.1 j i y hy (e ▸ List.mem_of_getLast? hz))
    have h2 : y ≠ m := fun e => hn j (e ▸ hy)
    rw [va_up_ne _ _ h1, va_up_ne _ _ h2]
theorem ln_join_nil {k : Nat} {ln : Nat → List Nat} {bh : Nat → Option Nat} {lf : Nat → Lf} (hl : ∀ i, i < 4 + k → lnOK bh (ln i) (lf i)) {i m : Nat} (hn : ∀ j, m ∉ ln j) (hz : ln i = []) :
    ∀ j, j < 4 + k → lnOK (va_up bh m none) (va_up ln i (ln i ++ [m]) j) (va_up lf i (some m, some m, 1) j) := by
  intro j hj
  by_cases hji : j = i
  · subst hji
    rw [va_up_self, va_up_self, hz]
    exact ln_join0 (va_up_self _ _ _)
  · rw [va_up_ne _ _ hji, va_up_ne _ _ hji]
    refine ln_other (hl j hj) (fun y hy => ?_)
    have h2 : y ≠ m := fun e => hn j (e ▸ hy)
    rw [va_up_ne _ _ h2]
theorem okM.b {n k : Nat} {m : Ms} {b b' : Option Nat} (h : okM n k m b) (hb : ∀ x, b' = some x → x < k) : okM n k m b' := ⟨h.1, hb, h.2.2⟩
set_option maxHeartbeats 1000000 in
/-- join: the message goes to the line's end -/
theorem m_L_join (l : Launch) {T : fw_T} (hT : TOK T) {w : fw_W} {c : Cfg} {n k : Nat} {th : Nat → Th} {ms : Nat → Ms} {ln : Nat → List Nat} (R : RepL w c n th k ms ln) {i m : Nat} (hi : i < 4 + k) (hm : m < k) (hn : ∀ j, m ∉ ln j) :
    Ct l T y_L_join W_L_join rm_L_join [.inr (some (cL c i)), .inr (some (cM c m))] w (fun r w' => r = none ∧ RepL w' c n th k ms (va_up ln i (ln i ++ [m]))) := by
  refine ct_L_join rfl (nle rfl) ?_
  intro X hl C E
  have V := hv_L_join hT
  obtain ⟨bh, lf, R, hL, hW⟩ := R
  obtain ⟨ek, pr, tg, ar, an, e0, e1, e2, e3, e4, e5⟩ := R.aM hm
  have R1 := R.setM hm (m := ms m) (b := none) (ek.b (fun x h => by cases h)) e1 e2 e3 e4 rfl
  rw [va_up_same] at R1
  refine j_putE C rfl (fp_L_M_behind V) e0 (nlt rfl) (fit_o _ _) (cellM c m (ms m) none pr tg ar an) rfl ?_
  have g0 := (R1.aL hi).1
  have hx := (hL i hi).1
  cases hz : (ln i).getLast? with
  | none =>
    have hnil : ln i = [] := List.getLast?_eq_none_iff.mp hz
    have hx0 : lf i = (none, none, 0) := by rw [hx, hnil]; rfl
    rw [hx0] at g0
    refine j_get C rfl (fg_L_L_last V) g0 rfl ?_
    refine j_ifnn C rfl (fun a ha => by cases ha) (fun _ => ?_)
    refine j_putE C rfl (fp_L_L_first V) g0 (nlt rfl) (fit_o _ _) (cellL c (some m, none, 0)) rfl ?_
    refine j_goto C rfl ?_
    refine j_putE C rfl (fp_L_L_last V) (va_up_self _ _ _) (nlt rfl) (fit_o _ _) (cellL c (some m, some m, 0)) rfl ?_
    refine j_get C rfl (fg_L_L_length V) (va_up_self _ _ _) rfl ?_
    refine j_putE C rfl (fp_L_L_length V) (va_up_self _ _ _) (nlt rfl) (fit_i _) (cellL c (some m, some m, 1)) rfl ?_
    rw [bx_uu, bx_uu]
    refine j_vret C E rfl rfl (by decide) (by decide) ⟨rfl, _, _, R1.setL hi (some m, some m, 1) ⟨fun x h => by cases h; exact hm, fun x h => by cases h; exact hm⟩, ln_join_nil hL hn hnil, hW.join hi hm hn⟩
  | some z =>
    have hzm : z ∈ ln i := List.mem_of_getLast? hz
    have hzk : z < k := hW.2.1 i z hzm
    have hzne : z ≠ m := fun e => hn i (e ▸ hzm)
    have hx0 : lf i = ((ln i).head?, some z, (lf i).2.2) := by rw [hx, hz]
    rw [hx0] at g0
    refine j_get C rfl (fg_L_L_last V) g0 rfl ?_
    refine j_ifnn C rfl (fun a ha => ?_) (fun h0 => by cases h0)
    refine j_get C rfl (fg_L_L_last V) g0 rfl ?_
    obtain ⟨fk, pr', tg', ar', an', f0, f1, f2, f3, f4, f5⟩ := R1.aM hzk
    have R2 := R1.setM hzk (m := ms z) (b := some m) (fk.b (fun x h => by cases h; exact hm)) f1 f2 f3 f4 rfl
    rw [va_up_same] at R2
    refine j_putE C rfl (fp_L_M_behind V) f0 (nlt rfl) (fit_o _ _) (cellM c z (ms z) (some m) pr' tg' ar' an') rfl ?_
    have g1 := (R2.aL hi).1
    rw [hx0] at g1
    refine j_putE C rfl (fp_L_L_last V) g1 (nlt rfl) (fit_o _ _) (cellL c ((ln i).head?, some m, (lf i).2.2)) rfl ?_
    refine j_get C rfl (fg_L_L_length V) (va_up_self _ _ _) rfl ?_
    refine j_putE C rfl (fp_L_L_length V) (va_up_self _ _ _) (nlt rfl) (fit_i _) (cellL c ((ln i).head?, some m, (lf i).2.2 + 1)) rfl ?_
    rw [bx_uu]
    refine j_vret C E rfl rfl (by decide) (by decide) ⟨rfl, _, _, R2.setL hi ((ln i).head?, some m, (lf i).2.2 + 1) ⟨fun x h => hW.2.1 i x (List.mem_of_head? h), fun x h => by cases h; exact hm⟩, ln_join_all hL hW hi hn hz, hW.join hi hm hn⟩
