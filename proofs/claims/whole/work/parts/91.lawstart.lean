/-! The law's walk: its beginning, its loop, its end. -/
theorem ar_obj {s : State} {args : Array Value} {C : String} (h : (Jvm.Cond.arrayOver (.object C)).before args s = true) : ∃ cA, ArrOfT s cA (.object C) ∧ va_RA s cA (.object C) := by
  obtain ⟨comp, cA, kA, h1, -, h2, h3, h4⟩ := Jvm.Cond.arrayOver_spec h
  exact ⟨cA, fun N z => ⟨(fun k h => by cases h), kA, h2, comp, h3⟩, kA, comp, h2, h3, h1, h4⟩
theorem ar_int {s : State} {args : Array Value} (h : (Jvm.Cond.arrayClass .int).before args s = true) : ∃ cA, ArrOfT s cA .int ∧ va_RA s cA .int := by
  obtain ⟨cA, kA, comp, h1, h2, h3⟩ := Jvm.Cond.arrayClass_spec h
  exact ⟨cA, fun N z => ⟨(fun k h => by cases h), kA, h2, comp, h3⟩, h1⟩
theorem ar_bool {s : State} {args : Array Value} (h : (Jvm.Cond.arrayClass .boolean).before args s = true) : ∃ cA, ArrOfT s cA .boolean ∧ va_RA s cA .boolean := by
  obtain ⟨cA, kA, comp, h1, h2, h3⟩ := Jvm.Cond.arrayClass_spec h
  exact ⟨cA, fun N z => ⟨(fun k h => by cases h), kA, h2, comp, h3⟩, h1⟩
theorem len6 {N : Nat} (h : N ≤ 3072) : (Int32.ofNat N - 6).toInt = (N : Int) - 6 := by
  have e : (Int32.ofNat N).toInt = (N : Int) := nI_toInt (n := N) (by omega)
  rw [Int32.toInt_sub, e]
  show Int.bmod ((N : Int) - 6) (2 ^ 32) = _
  exact Int.bmod_eq_of_le (by omega) (by omega)
theorem gt6 {N q : Nat} (h : N ≤ 3072) (hq : 6 * q ≤ 4000) : Int32.ofNat N - 6 < nI (6 * q) ↔ N < 6 * q + 6 := by
  rw [Int32.lt_iff_toInt_lt, len6 h, nI_toInt (by omega)]
  omega
section LWL
variable {T : fw_T} {nm : String} {X : fw_X} {sc N a b : Nat} {xs : Nat → Int32}
set_option maxRecDepth 20000 in
set_option maxHeartbeats 4000000 in
theorem lw_loop (hT : TOK T) (C : fw_ok T (G_W nm) X) (hN : N ≤ 3072) (hX : va_X sc N xs (xS X) (xS X).heap) (hbl : sc < (xS X).heap.size) (hbA : ¬ xF X sc) (fin : ∀ (a b : Nat) (i : Int32) (w : fw_W) (k n : Nat), k ≤ 600000 → n ≤ 7302250 → J T (G_W nm) X 667 (Lw sc a b i) [] w k n) :
    ∀ (r q k n B : Nat) (w : fw_W), N ≤ 6 * q + 6 * r + 5 → 6 * q ≤ N + 5 → B ≤ 200 * q → k ≤ 100 + 30 * q → n ≤ 7000 + 170 * q → LwI a b B w → J T (G_W nm) X 18 (Lw sc a b (nI (6 * q))) [] w k n
  | r, q, k, n, B, w, hr, hq, hB, hk, hn, I => by
    refine j_slen C hX hbl hbA rfl ?_
    refine j_icmp C rfl (fun _ => ?_) (fun hc => ?_)
    · exact fin _ _ _ _ _ _ (by omega) (by omega)
    · have hc : ¬ N < 6 * q + 6 := fun z => hc ((gt6 hN (by omega)).mpr z)
      match r, hr with
      | 0, hr => exact absurd hr (by omega)
      | r + 1, hr =>
        have hv : ∀ d, d < 6 → vp_in (nI (6 * q) + nI d) N := fun d hd => by
          rw [nI_add]
          exact vp_in_nI (by omega) (by omega)
        refine lw_step hT C hX hbl hbA (vp_in_nI (by omega) (by omega)) ⟨hv 1 (by omega), hv 2 (by omega), hv 3 (by omega), hv 4 (by omega), hv 5 (by omega)⟩ I (by omega) (by omega) (by omega) (fun w' k' n' I' hk' hn' => ?_)
        refine j_goto C rfl ?_
        have e : nI (6 * q) + 6 = nI (6 * (q + 1)) := by
          show nI (6 * q) + nI 6 = _
          rw [nI_add, Nat.mul_succ]
        show J T (G_W nm) X 18 (Lw sc a b (nI (6 * q) + 6)) [] w' k' n'
        rw [e]
        exact lw_loop hT C hN hX hbl hbA fin r (q + 1) k' n' (B + 200) w' (by omega) (by omega) (by omega) (by omega) (by omega) I'
set_option maxRecDepth 20000 in
set_option maxHeartbeats 4000000 in
theorem lw_all (hT : TOK T) (C : fw_ok T (G_W nm) X) (hN : N ≤ 3072) (hX : va_X sc N xs (xS X) (xS X).heap) (hbl : sc < (xS X).heap.size) (hbA : ¬ xF X sc) (fin : ∀ (a b : Nat) (i : Int32) (w : fw_W) (k n : Nat), k ≤ 600000 → n ≤ 7302250 → J T (G_W nm) X 667 (Lw sc a b i) [] w k n) : J T (G_W nm) X 0 [some (.inr (some sc)), none, none, none] [] (fun _ => none) 0 0 := by
  have V := hv_W hT nm
  refine j_new C rfl (fn_W_V V) (nle rfl) (nle rfl) (fun q1 hq1 => ?_)
  refine j_callI C rfl (fc_W_V_init V ⟨nle rfl, nle rfl⟩) (m_V_init (xL X) hT (va_up_self _ _ _)) rfl rfl (nle rfl) (nle rfl) (nle rfl) ?_
  rintro r wC ⟨rfl, c, hc, R⟩
  refine j_new C rfl (fn_W_D V) (nle rfl) (nle rfl) (fun q2 hq2 => ?_)
  rw [un_one]
  refine j_callUI C rfl (fc_W_D_init V ⟨nle rfl, nle rfl⟩) (dj_one hq2) (m_D_init (xL X) hT (va_up_self _ _ _)) rfl rfl (nle rfl) (nle rfl) (nle rfl) ?_
  rintro r wM ⟨rfl, A, RD⟩ dj
  refine j_to C 18 rfl ?_
  exact lw_loop hT C hN hX hbl hbA fin 512 0 _ _ 0 _ (by omega) (by omega) (by omega) (nle rfl) (nle rfl) ⟨wC, wM, c, st0, A, M0, fw_un_comm dj, dj.symm, hc, R, RD, Iv.start⟩
end LWL
/-- the law's end -/
theorem lw_end {T : fw_T} {nm : String} {p : Program} {l : Launch} {e : Env} {s : State} {m : MethodId} {below : List Frame} {meth : Method} {c : Code} {b : Nat} (C : fw_ok T (G_W nm) (p, l, e, s, m, #[Value.ref b], below, meth, c, (fun _ => none), lw_Z below #[Value.ref b] s)) {pc pc' len nx tg : Nat} {v : Int32} {L L' : List (Option fw_V)} {S : List fw_V} (h : fw_go (fw_from (gT (G_W nm)) pc) L S = some ((pc', .ireturn, len, nx, tg, v), L', [.inl 1])) (w : fw_W) (k n : Nat) (h1 : k ≤ 600000) (h2 : n ≤ 7302250) : J T (G_W nm) (p, l, e, s, m, #[Value.ref b], below, meth, c, (fun _ => none), lw_Z below #[Value.ref b] s) pc L S w k n := by
  obtain ⟨⟨hd, hn, hlen, -⟩, hrun⟩ := fw_run (w := w) (k := k) (n := n) C h
  refine hrun ?_
  obtain ⟨⟨hx, hb, hml, ho, hts⟩, hK, hret, hlocks, -⟩ := C
  simp only [fw_len] at hlen; subst hlen
  intro H locs ls hl hP hD hS
  refine va_forget (fun q hq => ?_) (W.widen h1 h2 (lw_ret hx hb hret hlocks hd))
  rcases hS.2.2 q hq with ⟨x, hx⟩ | hx
  · cases hx
  · exact hx
theorem Kn6 {s : State} {args : Array Value} (hW : ∀ w, w ∈ Wall → w.before args s = true) (h1 : va_AO R_R s) (h2 : va_AO R_H s) (h3 : va_AO R_M s) (h4 : va_AO R_L s) (n1 : va_Nw fw_N1 s) (n2 : va_Nw fw_N2 s) : ∃ T, TOK T ∧ fw_K T s := by
  obtain ⟨c0, i0, k0⟩ := u_known hW lay_V (hW _ wb_V)
  obtain ⟨c1, i1, k1⟩ := u_known hW lay_R (hW _ wb_R)
  obtain ⟨c2, i2, k2⟩ := u_known hW lay_H (hW _ wb_H)
  obtain ⟨c3, i3, k3⟩ := u_known hW lay_M (hW _ wb_M)
  obtain ⟨c4, i4, k4⟩ := u_known hW lay_L (hW _ wb_L)
  obtain ⟨c5, i5, k5⟩ := u_known hW lay_D (hW _ wb_D)
  obtain ⟨a0, r0⟩ := ar_obj (args := #[]) (va_AO.use h1)
  obtain ⟨a1, r1⟩ := ar_obj (args := #[]) (va_AO.use h2)
  obtain ⟨a2, r2⟩ := ar_obj (args := #[]) (va_AO.use h3)
  obtain ⟨a3, r3⟩ := ar_obj (args := #[]) (va_AO.use h4)
  obtain ⟨a4, r4⟩ := ar_int (hW _ wa_int)
  obtain ⟨a5, r5⟩ := ar_bool (hW _ wa_bool)
  refine ⟨((fun j => [c0, c1, c2, c3, c4, c5].getD j 0, fun j => [i0, i1, i2, i3, i4, i5].getD j (fun _ => 0)), cls, [(a0, .object R_R), (a1, .object R_H), (a2, .object R_M), (a3, .object R_L), (a4, .int), (a5, .boolean)]), ⟨rfl, rfl, rfl, rfl, rfl, rfl, rfl⟩, ⟨fun j q hq => ?_, fun j q hq => ?_⟩, n1, n2, fun C hC => ?_⟩
  · have hj : j < 6 := (List.getElem?_eq_some_iff.mp hq).1
    rcases (show j = 0 ∨ j = 1 ∨ j = 2 ∨ j = 3 ∨ j = 4 ∨ j = 5 by omega) with rfl | rfl | rfl | rfl | rfl | rfl <;> cases hq <;> assumption
  · have hj : j < 6 := (List.getElem?_eq_some_iff.mp hq).1
    rcases (show j = 0 ∨ j = 1 ∨ j = 2 ∨ j = 3 ∨ j = 4 ∨ j = 5 by omega) with rfl | rfl | rfl | rfl | rfl | rfl <;> cases hq <;> assumption
  · simp only [fw_AL, List.mem_cons, List.not_mem_nil, or_false] at hC
    rcases hC with rfl | rfl | rfl | rfl <;> assumption
theorem in_tb {w : Jvm.Cond} (h : w ∈ tables_1) : w ∈ lw_tbl := List.mem_append_right _ h
set_option maxRecDepth 20000 in
theorem wo_R : Jvm.Cond.arrayOver (.object R_R) ∈ tables_1 := by decide +kernel
set_option maxRecDepth 20000 in
theorem wo_H : Jvm.Cond.arrayOver (.object R_H) ∈ tables_1 := by decide +kernel
set_option maxRecDepth 20000 in
theorem wo_M : Jvm.Cond.arrayOver (.object R_M) ∈ tables_1 := by decide +kernel
set_option maxRecDepth 20000 in
theorem wo_L : Jvm.Cond.arrayOver (.object R_L) ∈ tables_1 := by decide +kernel
set_option maxRecDepth 20000 in
theorem wo_1 : fw_N1 ∈ tables_1 := by decide +kernel
set_option maxRecDepth 20000 in
theorem wo_2 : fw_N2 ∈ tables_1 := by decide +kernel
set_option maxRecDepth 20000 in
theorem whole_start {p : Program} {e : Env} {s : State} {m : MethodId} {below : List Frame} {meth : Method} {c : Code} (l : Launch) {b L : Nat} {xs : Nat → Int32} (hL : L ≤ 3072) (C0 : lw_At p s m meth c b L xs) : W p l e room_1 s m #[Value.ref b] below meth c s.heap [] 0 0 (lw_Z below #[Value.ref b] s) (entryFrame m ([Value.ref b] : List Value).toArray 4) := by
  obtain ⟨hx, hb, hret, hml, hown, hts, hX, hbl, hlocks, -⟩ := C0
  have hW : ∀ w, w ∈ Wall → w.before #[Value.ref b] s = true := fun w hw => hts w (List.mem_filter.mp hw).1
  obtain ⟨T, hT, hK⟩ := Kn6 hW (va_AO.of (hts _ (in_tb wo_R))) (va_AO.of (hts _ (in_tb wo_H))) (va_AO.of (hts _ (in_tb wo_M))) (va_AO.of (hts _ (in_tb wo_L))) (va_Nw.of rfl (hts _ (in_tb wo_1))) (va_Nw.of rfl (hts _ (in_tb wo_2)))
  have C : fw_ok T (G_W meth.name) (p, l, e, s, m, #[Value.ref b], below, meth, c, (fun _ => none), lw_Z below #[Value.ref b] s) := ⟨⟨hx, hb, hml, hown, hW⟩, hK, hret, hlocks, tok_W, rfl⟩
  have hl := lv_entry [Value.ref b] (n := 4) (nle rfl)
  rw [lg_entry_eq]
  generalize (lg_sl [Value.ref b] ++ List.replicate (4 - (lg_sl [Value.ref b]).length) Slot.unset).toArray = ls at hl ⊢
  have hbA : ¬ xF (p, l, e, s, m, #[Value.ref b], below, meth, c, (fun _ => none), lw_Z below #[Value.ref b] s) b := fun z => by
    rcases z with ⟨x, z⟩ | z
    · cases z
    · exact absurd hbl (Nat.not_lt.mpr z)
  refine lw_all hT C hL hX hbl hbA (fun a b i w k n h1 h2 => lw_end C rfl w k n h1 h2) s.heap [] ls ⟨_, hl, rfl, fun i v hi => ?_⟩ (fun a e h => (by cases h)) (fun a e h => (by cases h)) va_S.rf
  rcases (show i = 0 ∨ i = 1 ∨ i = 2 ∨ i = 3 ∨ 4 ≤ i by omega) with rfl | rfl | rfl | rfl | h
  · cases hi
    exact List.mem_cons_self
  · cases hi
  · cases hi
  · cases hi
  · rw [List.getElem?_eq_none h] at hi
    cases hi
