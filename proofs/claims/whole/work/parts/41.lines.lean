/-! Lines: a line's fields and the links behind its messages, as the list of its messages says. -/
theorem nd_inj {l : List Nat} (hd : l.Nodup) {i j : Nat} (hi : i < l.length) (hj : j < l.length) (h : l[i] = l[j]) : i = j := by
  have hp := List.pairwise_iff_getElem.mp hd
  rcases Nat.lt_trichotomy i j with q | q | q
  · exact absurd h (hp i j hi hj q)
  · exact q
  · exact absurd h.symm (hp j i hj hi q)
def lnOK (bh : Nat → Option Nat) (l : List Nat) (x : Lf) : Prop := x = (l.head?, l.getLast?, nI l.length) ∧ ∀ (i y : Nat), l[i]? = some y → bh y = l[i + 1]?
theorem ln_nil (bh : Nat → Option Nat) : lnOK bh [] (none, none, 0) := ⟨rfl, fun i y h => by simp at h⟩
theorem ln_other {bh bh' : Nat → Option Nat} {l : List Nat} {x : Lf} (h : lnOK bh l x) (he : ∀ y, y ∈ l → bh' y = bh y) : lnOK bh' l x := ⟨h.1, fun i y hy => by rw [he y (List.mem_of_getElem? hy)]; exact h.2 i y hy⟩
theorem ln_join0 {bh : Nat → Option Nat} {m : Nat} (h : bh m = none) : lnOK bh [m] (some m, some m, 1) := by
  refine ⟨rfl, fun i y hy => ?_⟩
  cases i with
  | zero => simp at hy; subst hy; simpa using h
  | succ i => simp at hy
theorem ln_join {bh : Nat → Option Nat} {l : List Nat} {x : Lf} {m z : Nat} (h : lnOK bh l x) (hd : l.Nodup) (hm : m ∉ l) (hz : l.getLast? = some z) : lnOK (va_up (va_up bh m none) z (some m)) (l ++ [m]) (l.head?, some m, x.2.2 + 1) := by
  have hzl : z ∈ l := List.mem_of_getLast? hz
  have hne : l ≠ [] := fun q => by subst q; cases hzl
  have hlen : 0 < l.length := List.length_pos_iff.mpr hne
  have hzi : l[l.length - 1]? = some z := by rw [← List.getLast?_eq_getElem?]; exact hz
  refine ⟨?_, fun i y hy => ?_⟩
  · rw [h.1]
    simp only [List.getLast?_append, List.length_append, List.length_cons, List.length_nil, Prod.mk.injEq]
    refine ⟨?_, by simp, ?_⟩
    · cases l with
      | nil => exact absurd rfl hne
      | cons a l => rfl
    · exact (nI_1 _)
  · by_cases hi : i < l.length
    · rw [List.getElem?_append_left hi] at hy
      have hym : y ≠ m := fun q => hm (q ▸ List.mem_of_getElem? hy)
      by_cases hyz : y = z
      · subst hyz
        have hii : i = l.length - 1 := by
          have h1 := (List.getElem?_eq_some_iff.mp hy)
          have h2 := (List.getElem?_eq_some_iff.mp hzi)
          obtain ⟨a1, b1⟩ := h1
          obtain ⟨a2, b2⟩ := h2
          exact nd_inj hd a1 a2 (b1.trans b2.symm)
        rw [va_up_self, List.getElem?_append_right (by omega), show i + 1 - l.length = 0 by omega]
        rfl
      · rw [va_up_ne _ _ hyz, va_up_ne _ _ hym, h.2 i y hy]
        have hi2 : i + 1 < l.length := by
          rcases Nat.lt_or_ge (i + 1) l.length with q | q
          · exact q
          · exfalso
            have : i = l.length - 1 := by omega
            rw [this, hzi] at hy
            exact hyz (Option.some.inj hy).symm
        rw [List.getElem?_append_left hi2]
    · rw [List.getElem?_append_right (by omega)] at hy
      have hi0 : i - l.length = 0 := by
        have := (List.getElem?_eq_some_iff.mp hy).1
        simp at this
        omega
      rw [hi0] at hy
      have hym : m = y := by simpa using hy
      subst hym
      have hmz : m ≠ z := fun q => hm (q ▸ hzl)
      rw [va_up_ne _ _ hmz, va_up_self, List.getElem?_append_right (by omega)]
      have : i + 1 - l.length = 1 := by omega
      rw [this]
      rfl
theorem ln_take {bh : Nat → Option Nat} {m : Nat} {r : List Nat} {x : Lf} (h : lnOK bh (m :: r) x) : bh m = r.head? ∧ x.1 = some m ∧ x.2.2 = nI (r.length + 1) ∧ lnOK bh r (r.head?, (if r = [] then none else x.2.1), x.2.2 - 1) := by
  have h0 := h.2 0 m rfl
  have hm : bh m = r.head? := by
    rw [h0]
    cases r <;> rfl
  refine ⟨hm, by rw [h.1]; rfl, by rw [h.1]; rfl, ?_, fun i y hy => ?_⟩
  · rw [h.1]
    have e3 : nI (r.length + 1) - 1 = nI r.length := nI_pred _
    cases r with
    | nil => exact congrArg (fun q => ((none : Option Nat), (none : Option Nat), q)) e3
    | cons a r =>
      rw [if_neg (by simp)]
      exact congrArg (fun q => (some a, (a :: r).getLast?, q)) e3
  · have := h.2 (i + 1) y (by simpa using hy)
    simpa using this
theorem ln_len {l : List Nat} {k : Nat} (hd : l.Nodup) (hk : ∀ x, x ∈ l → x < k) : l.length ≤ k := by
  rcases Nat.lt_or_ge k l.length with h | h
  · exfalso
    obtain ⟨i, j, h1, h2, h3⟩ := ch_pig k (fun i => l.getD i 0) (fun i hi => by
      have hil : i < l.length := by omega
      show l.getD i 0 < k
      rw [List.getD_eq_getElem?_getD, List.getElem?_eq_getElem hil]
      exact hk _ (List.getElem_mem hil))
    have hil : i < l.length := by omega
    have hjl : j < l.length := by omega
    have h3 : l.getD i 0 = l.getD j 0 := h3
    rw [List.getD_eq_getElem?_getD, List.getD_eq_getElem?_getD, List.getElem?_eq_getElem hil, List.getElem?_eq_getElem hjl] at h3
    have := nd_inj hd hil hjl (show l[i] = l[j] from h3)
    omega
  · exact h
