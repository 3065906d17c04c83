section FWST
variable {T : fw_T} {G : fw_G} {X : fw_X} {w : fw_W} {k n : Nat}
theorem fw_iok_spec {cc : ByteArray} {Ts : List Jvm.Cond} {own : String} {pc len nx tg : Nat} {i : Instr} {v : Int32} (h : fw_iok cc Ts own (pc, i, len, nx, tg, v) = true) : decode cc pc = .ok (i, len) ∧ nx = pc + len ∧ len = fw_len i len ∧ fw_ix Ts own pc tg v i = true := by
  simp only [fw_iok, Bool.and_eq_true, decide_eq_true_eq] at h
  exact h
set_option maxHeartbeats 4000000 in
theorem fw_st_ok (C : fw_ok T G X) {pc len nx tg : Nat} {i : Instr} {v : Int32} (hq : fw_iok (gC G) (gW G) (gO G) (pc, i, len, nx, tg, v) = true) {L L' : List (Option fw_V)} {S S' : List fw_V} (h : fw_st i v L S = some (L', S')) (kk : J T G X nx L' S' w k n) : J T G X pc L S w k n := by
  obtain ⟨hd, hn, hlen, hx2⟩ := fw_iok_spec hq
  obtain ⟨⟨hx, hb, hml, ho, hts⟩, hK, -⟩ := C
  subst hn
  intro H locs ls hl hP hD hS
  cases i
  case iconst z =>
    simp only [fw_len] at hlen; subst hlen
    simp only [fw_st, Option.some.injEq, Prod.mk.injEq] at h
    obtain ⟨rfl, rfl⟩ := h
    exact lv_iconst hx hb hd (of_decide_eq_true hx2) (kk H locs ls hl hP hD hS)
  case bipush z =>
    simp only [fw_len] at hlen; subst hlen
    simp only [fw_st, Option.some.injEq, Prod.mk.injEq] at h
    obtain ⟨rfl, rfl⟩ := h
    exact lv_bipush hx hb hd (of_decide_eq_true hx2) (kk H locs ls hl hP hD hS)
  case sipush z =>
    simp only [fw_len] at hlen; subst hlen
    simp only [fw_st, Option.some.injEq, Prod.mk.injEq] at h
    obtain ⟨rfl, rfl⟩ := h
    exact lv_sipush hx hb hd (of_decide_eq_true hx2) (kk H locs ls hl hP hD hS)
  case ldc z =>
    simp only [fw_len] at hlen; subst hlen
    simp only [fw_st, Option.some.injEq, Prod.mk.injEq] at h
    obtain ⟨rfl, rfl⟩ := h
    exact lv_ldc hx hb ho (hts _ (of_decide_eq_true hx2)) hd (kk H locs ls hl hP hD hS)
  case ldc_w z =>
    simp only [fw_len] at hlen; subst hlen
    simp only [fw_st, Option.some.injEq, Prod.mk.injEq] at h
    obtain ⟨rfl, rfl⟩ := h
    exact lv_ldcw hx hb ho (hts _ (of_decide_eq_true hx2)) hd (kk H locs ls hl hP hD hS)
  case dup2 =>
    simp only [fw_len] at hlen; subst hlen
    simp only [fw_st] at h
    split at h
    · simp only [Option.some.injEq, Prod.mk.injEq] at h
      obtain ⟨rfl, rfl⟩ := h
      exact lv_dup2_11 hx hb hd (fw_cat _) (fw_cat _) (kk H locs ls hl hP hD hS)
    · cases h
  case aconst_null =>
    simp only [fw_len] at hlen; subst hlen
    simp only [fw_st, Option.some.injEq, Prod.mk.injEq] at h
    obtain ⟨rfl, rfl⟩ := h
    exact lv_null hx hb hd (kk H locs ls hl hP hD hS)
  case iload j =>
    simp only [fw_len] at hlen; subst hlen
    simp only [fw_st] at h
    split at h
    · rename_i x hj
      simp only [Option.some.injEq, Prod.mk.injEq] at h
      obtain ⟨rfl, rfl⟩ := h
      exact lv_iload hx hb hd (fw_load hl hj) (kk H locs ls hl hP hD hS)
    · cases h
  case iload_n j =>
    simp only [fw_len] at hlen; subst hlen
    simp only [fw_st] at h
    split at h
    · rename_i x hj
      simp only [Option.some.injEq, Prod.mk.injEq] at h
      obtain ⟨rfl, rfl⟩ := h
      exact lv_iload_n hx hb hd rfl (fw_load hl hj) (kk H locs ls hl hP hD hS)
    · cases h
  case aload j =>
    simp only [fw_len] at hlen; subst hlen
    simp only [fw_st] at h
    split at h
    · rename_i x hj
      simp only [Option.some.injEq, Prod.mk.injEq] at h
      obtain ⟨rfl, rfl⟩ := h
      cases x with
      | none => exact lv_aloadN hx hb hd (fw_load hl hj) (kk H locs ls hl hP hD hS)
      | some x => exact lv_aload hx hb hd (fw_load hl hj) (kk H locs ls hl hP hD hS)
    · cases h
  case aload_n j =>
    simp only [fw_len] at hlen; subst hlen
    simp only [fw_st] at h
    split at h
    · rename_i x hj
      simp only [Option.some.injEq, Prod.mk.injEq] at h
      obtain ⟨rfl, rfl⟩ := h
      cases x with
      | none => exact lv_aload_nN hx hb hd rfl (fw_load hl hj) (kk H locs ls hl hP hD hS)
      | some x => exact lv_aload_n hx hb hd rfl (fw_load hl hj) (kk H locs ls hl hP hD hS)
    · cases h
  case istore j =>
    simp only [fw_len] at hlen; subst hlen
    cases S with
    | nil => simp only [fw_st] at h; cases h
    | cons s0 S =>
      cases s0 with
      | inr r => simp only [fw_st] at h; cases h
      | inl x =>
        simp only [fw_st, fw_force_eq] at h
        cases hj : L[j]? with
        | none => rw [hj] at h; cases h
        | some o =>
          rw [hj] at h
          simp only [Option.some.injEq, Prod.mk.injEq] at h
          obtain ⟨rfl, rfl⟩ := h
          obtain ⟨l, h1, h2, h3⟩ := fw_store hl j (.inl x)
          exact lv_istore hx hb hd h1 (fw_lt hl (List.getElem?_eq_some_iff.mp hj).1) rfl (fun ls' h' => kk H locs ls' (h2 ls' h') hP hD hS)
  case istore_n j =>
    simp only [fw_len] at hlen; subst hlen
    cases S with
    | nil => simp only [fw_st] at h; cases h
    | cons s0 S =>
      cases s0 with
      | inr r => simp only [fw_st] at h; cases h
      | inl x =>
        simp only [fw_st, fw_force_eq] at h
        cases hj : L[j.val]? with
        | none => rw [hj] at h; cases h
        | some o =>
          rw [hj] at h
          simp only [Option.some.injEq, Prod.mk.injEq] at h
          obtain ⟨rfl, rfl⟩ := h
          obtain ⟨l, h1, h2, h3⟩ := fw_store hl j.val (.inl x)
          exact lv_istore_n hx hb hd rfl h1 (fw_lt hl (List.getElem?_eq_some_iff.mp hj).1) rfl (fun ls' h' => kk H locs ls' (h2 ls' h') hP hD hS)
  case astore j =>
    simp only [fw_len] at hlen; subst hlen
    cases S with
    | nil => simp only [fw_st] at h; cases h
    | cons s0 S =>
      cases s0 with
      | inl r => simp only [fw_st] at h; cases h
      | inr x =>
        simp only [fw_st, fw_force_eq] at h
        cases hj : L[j]? with
        | none => rw [hj] at h; cases h
        | some o =>
          rw [hj] at h
          simp only [Option.some.injEq, Prod.mk.injEq] at h
          obtain ⟨rfl, rfl⟩ := h
          obtain ⟨l, h1, h2, h3⟩ := fw_store hl j (.inr x)
          cases x with
          | none => exact lv_astoreN hx hb hd h1 (fw_lt hl (List.getElem?_eq_some_iff.mp hj).1) rfl (fun ls' h' => kk H locs ls' (h2 ls' h') hP hD hS)
          | some x => exact lv_astore hx hb hd h1 (fw_lt hl (List.getElem?_eq_some_iff.mp hj).1) rfl (fun ls' h' => kk H locs ls' (h2 ls' h') hP hD hS)
  case astore_n j =>
    simp only [fw_len] at hlen; subst hlen
    cases S with
    | nil => simp only [fw_st] at h; cases h
    | cons s0 S =>
      cases s0 with
      | inl r => simp only [fw_st] at h; cases h
      | inr x =>
        simp only [fw_st, fw_force_eq] at h
        cases hj : L[j.val]? with
        | none => rw [hj] at h; cases h
        | some o =>
          rw [hj] at h
          simp only [Option.some.injEq, Prod.mk.injEq] at h
          obtain ⟨rfl, rfl⟩ := h
          obtain ⟨l, h1, h2, h3⟩ := fw_store hl j.val (.inr x)
          cases x with
          | none => exact lv_astore_nN hx hb hd rfl h1 (fw_lt hl (List.getElem?_eq_some_iff.mp hj).1) rfl (fun ls' h' => kk H locs ls' (h2 ls' h') hP hD hS)
          | some x => exact lv_astore_n hx hb hd rfl h1 (fw_lt hl (List.getElem?_eq_some_iff.mp hj).1) rfl (fun ls' h' => kk H locs ls' (h2 ls' h') hP hD hS)
  case iinc j z =>
    simp only [fw_len] at hlen; subst hlen
    simp only [fw_st, fw_force_eq] at h
    split at h
    · rename_i x hj
      simp only [Option.some.injEq, Prod.mk.injEq] at h
      obtain ⟨rfl, rfl⟩ := h
      have hv : Int32.ofInt z = v := of_decide_eq_true hx2
      obtain ⟨l, h1, h2, h3⟩ := fw_store hl j (.inl (x + v))
      obtain ⟨kq, hkq⟩ := List.getElem?_of_mem (h3 j _ hj)
      exact lv_iinc (k := kq) hx hb hd h1 hkq (by rw [hv]) (fw_lt hl (List.getElem?_eq_some_iff.mp hj).1) rfl (fun ls' h' => kk H locs ls' (h2 ls' h') hP hD hS)
    · cases h
  case iadd =>
    simp only [fw_len] at hlen; subst hlen
    simp only [fw_st] at h
    split at h
    · simp only [Option.some.injEq, Prod.mk.injEq] at h
      obtain ⟨rfl, rfl⟩ := h
      exact lv_iadd hx hb hd (kk H locs ls hl hP hD hS)
    · cases h
  case isub =>
    simp only [fw_len] at hlen; subst hlen
    simp only [fw_st] at h
    split at h
    · simp only [Option.some.injEq, Prod.mk.injEq] at h
      obtain ⟨rfl, rfl⟩ := h
      exact lv_isub hx hb hd (kk H locs ls hl hP hD hS)
    · cases h
  case imul =>
    simp only [fw_len] at hlen; subst hlen
    simp only [fw_st] at h
    split at h
    · simp only [Option.some.injEq, Prod.mk.injEq] at h
      obtain ⟨rfl, rfl⟩ := h
      exact lv_imul hx hb hd (kk H locs ls hl hP hD hS)
    · cases h
  case iand =>
    simp only [fw_len] at hlen; subst hlen
    simp only [fw_st] at h
    split at h
    · simp only [Option.some.injEq, Prod.mk.injEq] at h
      obtain ⟨rfl, rfl⟩ := h
      exact lv_iand hx hb hd (kk H locs ls hl hP hD hS)
    · cases h
  case dup =>
    simp only [fw_len] at hlen; subst hlen
    simp only [fw_st] at h
    split at h
    · simp only [Option.some.injEq, Prod.mk.injEq] at h
      obtain ⟨rfl, rfl⟩ := h
      exact lv_dup hx hb hd (fw_cat _) (kk H locs ls hl hP hD hS)
    · cases h
  case dup_x1 =>
    simp only [fw_len] at hlen; subst hlen
    simp only [fw_st] at h
    split at h
    · simp only [Option.some.injEq, Prod.mk.injEq] at h
      obtain ⟨rfl, rfl⟩ := h
      exact lv_dup_x1 hx hb hd (fw_cat _) (fw_cat _) (kk H locs ls hl hP hD hS)
    · cases h
  case pop =>
    simp only [fw_len] at hlen; subst hlen
    simp only [fw_st] at h
    split at h
    · simp only [Option.some.injEq, Prod.mk.injEq] at h
      obtain ⟨rfl, rfl⟩ := h
      exact lv_pop hx hb hd (fw_cat _) (kk H locs ls hl hP hD hS)
    · cases h
  all_goals (simp only [fw_st] at h; cases h)
end FWST
