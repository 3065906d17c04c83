/-! The law's walk: its beginning, its loop, its end. -/
theorem ar_obj {s : State} {args : Array Value} {C : String} (h : (Jvm.Cond.arrayOver (.object C)).before args s = true) : ∃ cA, ArrOfT s cA (.object C) ∧ va_RA s cA (.object C) := by
  obtain ⟨comp, cA, kA, h1, -, h2, h3, h4⟩ := Jvm.Cond.arrayOver_spec h
  exact ⟨cA, fun N z => ⟨(fun k h => by cases h), kA, h2, comp, h3⟩, kA, comp, h2, h3, h1, h4⟩
theorem ar_int {s : State} {args : Array Value} (h : (Jvm.Cond.arrayClass .int).before args s = true) : ∃ cA, ArrOfT s cA .int ∧ va_RA s cA .int := by
  obtain ⟨cA, kA, comp, h1, h2, h3⟩ := Jvm.Cond.arrayClass_spec h
  exact ⟨cA, fun N z => ⟨(fun k h => by cases h), kA, h2, comp, h3⟩, h1⟩
theorem ar_bool {s : State} {args : Array Value} (h : (Jvm.Cond.arrayClass .boolean).before args s = true) : ∃ cA, ArrOfT s cA .boolean ∧ va_RA s cA .boolean := by
  obtain ⟨cA, kA, comp, h1, h2, h3⟩ := Jvm.Cond.arrayClass_spec h
  exact ⟨cA, fun N z => ⟨(fun k h => by cases h), kA, h2, comp, h3⟩, h1⟩
theorem len6 {N : Nat} (h : N ≤ 3072) : (Int32.ofNat N - 6).toInt = (N : Int) - 6 := by
  have e : (Int32.ofNat N).toInt = (N : Int) := nI_toInt (n := N) (by omega)
  rw [Int32.toInt_sub, e]
  show Int.bmod ((N : Int) - 6) (2 ^ 32) = _
  exact Int.bmod_eq_of_le (by omega) (by omega)
theorem gt6 {N q : Nat} (h : N ≤ 3072) (hq : 6 * q ≤ 4000) : Int32.ofNat N - 6 < nI (6 * q) ↔ N < 6 * q + 6 := by
  rw [Int32.lt_iff_toInt_lt, len6 h, nI_toInt (by omega)]
  omega
section LWL
variable {T : fw_T} {nm : String} {X : fw_X} {sc N a b : Nat} {xs : Nat → Int32}
set_option maxHeartbeats 4000000 in
theorem lw_loop (hT : TOK T) (C : fw_ok T (G_W nm) X) (hN : N ≤ 3072) (hX : va_X sc N xs (xS X) (xS X).heap) (hbl : sc < (xS X).heap.size) (hbA : ¬ xF X sc) (fin : ∀ (L : List (Option fw_V)) (w : fw_W) (k n : Nat), k ≤ 600000 → n ≤ 7302250 → J T (G_W nm) X END L [] w k n) :
    ∀ (r q k n B : Nat) (w : fw_W), N ≤ 6 * q + 6 * r + 5 → 6 * q ≤ N + 5 → B ≤ 200 * q → k ≤ 100 + 30 * q → n ≤ 7000 + 170 * q → LwI a b B w → J T (G_W nm) X HEAD (Lw sc a b (nI (6 * q))) [] w k n
  | r, q, k, n, B, w, hr, hq, hB, hk, hn, I => by
    refine j_slen C hX hbl hbA rfl ?_
    refine j_icmp C rfl (fun _ => ?_) (fun hc => ?_)
    · exact fin _ _ _ _ (by omega) (by omega)
    · have hc : ¬ N < 6 * q + 6 := fun z => hc ((gt6 hN (by omega)).mpr z)
      match r, hr with
      | 0, hr => exact absurd hr (by omega)
      | r + 1, hr =>
        have hv : ∀ d, d < 6 → vp_in (nI (6 * q) + nI d) N := fun d hd => by
          rw [nI_add]
          exact vp_in_nI (by omega) (by omega)
        refine lw_step hT C hX hbl hbA (vp_in_nI (by omega) (by omega)) ⟨hv 1 (by omega), hv 2 (by omega), hv 3 (by omega), hv 4 (by omega), hv 5 (by omega)⟩ I (by omega) (by omega) (by omega) (fun w' k' n' I' hk' hn' => ?_)
        refine j_goto C rfl ?_
        have e : nI (6 * q) + 6 = nI (6 * (q + 1)) := by
          show nI (6 * q) + nI 6 = _
          rw [nI_add]
        show J T (G_W nm) X HEAD (Lw sc a b (nI (6 * q) + 6)) [] w' k' n'
        rw [e]
        exact lw_loop hT C hN hX hbl hbA fin r (q + 1) k' n' (B + 200) w' (by omega) (by omega) (by omega) (by omega) (by omega) I'
set_option maxHeartbeats 4000000 in
theorem lw_all (hT : TOK T) (C : fw_ok T (G_W nm) X) (hN : N ≤ 3072) (hX : va_X sc N xs (xS X) (xS X).heap) (hbl : sc < (xS X).heap.size) (hbA : ¬ xF X sc) (fin : ∀ (L : List (Option fw_V)) (w : fw_W) (k n : Nat), k ≤ 600000 → n ≤ 7302250 → J T (G_W nm) X END L [] w k n) : J T (G_W nm) X 0 [some (.inr (some sc)), none, none, none] [] (fun _ => none) 0 0 := by
  have V := hv_W hT nm
  refine j_new C rfl (fn_W_V V) (nle rfl) (nle rfl) (fun q1 hq1 => ?_)
  refine j_callI C rfl (fc_W_V_init V ⟨nle rfl, nle rfl⟩) (m_V_init (xL X) hT (va_up_self _ _ _)) rfl rfl (nle rfl) (nle rfl) (nle rfl) ?_
  rintro r wC ⟨rfl, c, hc, R⟩
  refine j_new C rfl (fn_W_D V) (nle rfl) (nle rfl) (fun q2 hq2 => ?_)
  rw [un_one]
  refine j_callUI C rfl (fc_W_D_init V ⟨nle rfl, nle rfl⟩) (dj_one hq2) (m_D_init (xL X) hT (va_up_self _ _ _)) rfl rfl (nle rfl) (nle rfl) (nle rfl) ?_
  rintro r wM ⟨rfl, A, RD⟩ dj
  refine j_to C HEAD rfl ?_
  exact lw_loop hT C hN hX hbl hbA fin 512 0 _ _ 0 _ (by omega) (by omega) (by omega) (nle rfl) (nle rfl) ⟨wC, wM, c, st0, A, M0, fw_un_comm dj, dj.symm, hc, R, RD, Iv.start⟩
end LWL
/-- the law's end -/
theorem lw_end {T : fw_T} {nm : String} {p : Program} {l : Launch} {e : Env} {s : State} {m : MethodId} {below : List Frame} {meth : Method} {c : Code} {b : Nat} (C : fw_ok T (G_W nm) (p, l, e, s, m, #[Value.ref b], below, meth, c, (fun _ => none), lw_Z below #[Value.ref b] s)) (L : List (Option fw_V)) (w : fw_W) (k n : Nat) (h1 : k ≤ 600000) (h2 : n ≤ 7302250) : J T (G_W nm) (p, l, e, s, m, #[Value.ref b], below, meth, c, (fun _ => none), lw_Z below #[Value.ref b] s) END L [] w k n := by
  refine (fw_run (G := G_W nm) (pc := END) (L := L) (S := []) (w := w) (k := k) (n := n) C (L' := L) (S' := [.inl 1]) (q := (ENDR, .ireturn, 1, ENDR1, 0, 0)) rfl).2 ?_
  obtain ⟨⟨hx, hb, hml, ho, hts⟩, hK, hret, hlocks, -⟩ := C
  intro H locs ls hl hP hD hS
  refine va_forget (fun q hq => ?_) (W.widen h1 h2 (lw_ret hx hb hret hlocks (by decide +kernel)))
  rcases hS.2.2 q hq with ⟨x, hx⟩ | hx
  · cases hx
  · exact hx
