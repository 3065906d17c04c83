section FWC
variable {T : fw_T} {G : fw_G} {X : fw_X} {w : fw_W} {k n : Nat}
theorem fw_blind {av : List fw_V} {sz : Nat} : FrameBlind (fw_Pc T av w sz) := fun a U g mk q => by
  obtain ⟨q0, q1, qP, qK⟩ := q
  exact ⟨q0, q1, qP, fw_K.same (U := U.calling g mk a) rfl qK⟩
theorem fw_pre {av : List fw_V} {s U : State} {H : Heap} (hP : fw_P T w H) (hK : fw_K T s) (hU : U.heap = H) (hW : s.WarmedH U.vm) : fw_Pc T av w H.size (av.map fw_v).toArray U :=
  ⟨rfl, by rw [hU], by rw [hU]; exact hP, fw_K.moved hW hK⟩
theorem fw_after {p : Program} {l : Launch} {e : Env} {R : Room} {s : State} {m : MethodId} {args : Array Value} {below : List Frame} {meth : Method} {c : Code} {H : Heap} {locs : List Loc} {cells slots mc ms pc : Nat} {Q : State → Prop} {ls : Array Slot} {st0 rest : List Value} {A0 : Nat → Prop} {H0 : Heap} {a : Array Value} {post2 : Option fw_V → fw_W → Prop}
    (hr : va_Run p l e R s m args below meth c H locs cells slots mc ms (F0 m pc ls st0) rest (fw_Qc T w H.size post2 a) (fw_A w H.size)) (hD : fw_D A0 w) (hS : va_S A0 H0 H locs) (hA : ∀ q, H0.size ≤ q → A0 q)
    (kk : ∀ (r : Option fw_V) (w' : fw_W) (H1 : Heap) (locs1 : List Loc), post2 r w' → fw_P T w' H1 → fw_D A0 w' → va_S A0 H0 H1 locs1 → W p l e R s m args below meth c H1 locs1 (cells + mc) (slots + ms) Q (F0 m (pc + 3) ls ((r.map fw_v).toList ++ rest))) : W p l e R s m args below meth c H locs cells slots Q (F0 m pc ls st0) := by
  intro T0 hT X0
  obtain ⟨v, st₀, t, T', L, h0, X', hL, e1, e2, ⟨⟨r, w', hv, hp, hP', hK', hD'⟩, hz, hk⟩, st⟩ := hr T0 hT X0
  cases hv
  rw [h0] at hz hk
  have hin : ∀ q, fw_A w H.size q → A0 q := fun q h => by
    rcases h with ⟨e, h⟩ | h
    · exact hD q e h
    · exact hA q (Nat.le_trans hS.1 h)
  obtain ⟨t2, a1, b1⟩ := kk r w' T'.heap (locs ++ L) hp (by rw [e1]; exact hP') (fun q e h => hin q (hD' q e h))
    ⟨Nat.le_trans hS.1 (by rw [e1]; exact hz), fun q h1 h2 => by rw [e1, hk q (Nat.lt_of_lt_of_le h1 hS.1) (fun z => h2 (hin q z))]; exact hS.2.1 q h1 h2, fun q hq => by
      rcases List.mem_append.mp hq with h | h
      · exact hS.2.2 q h
      · exact hin _ (hL q h)⟩ T' rfl X'
  exact ⟨t2, st t2 a1, b1⟩
theorem fw_back (r : Option fw_V) (S : List fw_V) : (r.toList ++ S).map fw_v = (r.map fw_v).toList ++ S.map fw_v := by cases r <;> rfl
theorem fw_sum : ∀ (S : List fw_V), ((S.map fw_v).map fun v => v.category).sum = S.length
  | [] => rfl
  | v :: S => by simp only [List.map_cons, List.sum_cons, List.length_cons, fw_sum S, fw_cat]; omega
def fw_cV (G : fw_G) (idx : Nat) (y : MethodName) (bytes : ByteArray) (maxL : Nat) (ret : Option FieldType) (ws : List Jvm.Cond) (rm : Room) (nA : Nat) : Prop := ∀ (s : State) (args : Array Value), (∀ w ∈ gW G, w.before args s = true) → CallW (gR G) s args (gO G) y.cls idx y bytes maxL ret ws rm rm.cells rm.slots nA
def fw_cS (G : fw_G) (idx : Nat) (y : MethodName) (bytes : ByteArray) (maxL : Nat) (ret : Option FieldType) (ws : List Jvm.Cond) (rm : Room) (nA : Nat) : Prop := ∀ (s : State) (args : Array Value), (∀ w ∈ gW G, w.before args s = true) → CallB (gR G) s args (gO G) idx y bytes maxL ret ws rm rm.cells rm.slots nA ∧ (Cond.static y).before args s = true
def fw_cI (G : fw_G) (idx : Nat) (y : MethodName) (bytes : ByteArray) (maxL : Nat) (ws : List Jvm.Cond) (rm : Room) (nA : Nat) : Prop := ∀ (s : State) (args : Array Value), (∀ w ∈ gW G, w.before args s = true) → CallB (gR G) s args (gO G) idx y bytes maxL none ws rm rm.cells rm.slots nA ∧ y.name = "<init>" ∧ (Cond.instanceMethod y).before args s = true
theorem j_callV (C : fw_ok T G X) {pc pc' len nx tg idx nA maxL b ci N : Nat} {v : Int32} {L L' : List (Option fw_V)} {S S1 S' As : List fw_V} {y : MethodName} {bytes : ByteArray} {ret : Option FieldType} {ws : List Jvm.Cond} {rm : Room} {post2 : Option fw_V → fw_W → Prop} {Tb : u_T} {fs : List fw_V}
    (h : fw_go (fw_from (gT G) pc) L S = some ((pc', .invokevirtual idx, len, nx, tg, v), L', S1)) (hc : fw_cV G idx y bytes maxL ret ws rm nA) (hM : Ct (xL X) T y ws rm (.inr (some b) :: As) w post2) (hS1 : S1 = As.reverse ++ .inr (some b) :: S') (hn : As.length = nA) (hw : w b = some (.inr (ci, fs))) (hci : T.2.1[ci]? = some (y.cls, Tb, N)) (hst : S'.length ≤ 8) (h1 : k + rm.cells ≤ (gR G).cells) (h2 : n + rm.slots ≤ (gR G).slots)
    (kk : ∀ (r : Option fw_V) (w' : fw_W), post2 r w' → J T G X nx L' (r.toList ++ S') w' (k + rm.cells) (n + rm.slots)) : J T G X pc L S w k n := by
  obtain ⟨⟨hd, hnx, hlen, -⟩, hrun⟩ := fw_run (w := w) (k := k) (n := n) C h
  refine hrun ?_
  obtain ⟨S0, hK, -⟩ := C
  obtain ⟨hx, hb, hml, ho, hts⟩ := S0
  simp only [fw_len] at hlen; subst hlen; subst hnx; subst hS1
  intro H locs ls hl hP hD hS
  obtain ⟨l0, hl1, hl2, hl3⟩ := hl
  obtain ⟨r', g0, cell, g1, g2, g3, -⟩ := hP b _ hw
  have hr' : r' = (y.cls, Tb, N) := Option.some.inj (g0.symm.trans hci)
  subst hr'
  have hfc := (hK.1.1 ci _ hci).2.1
  refine fw_after (va_runV (As := As.map fw_v) (rest := S'.map fw_v) (b := b) ⟨hx, hb, hml, ho, hts⟩ (hM H.size) (hc _ _ hts) ⟨fw_blind, ⟨cell, g1, by rw [g3]; rfl, by rw [g2]; exact hfc⟩, fun U hU hW => fw_pre (av := .inr (some b) :: As) hP hK hU hW⟩ rfl (by rw [List.length_map]; exact hn) hl1.1 ?_ (lv_room (by rw [fw_sum]; exact hst)) hd ⟨h1, h2⟩) hD hS (fun q hq => Or.inr hq) (fun r w' H1 locs1 hp hP1 hD1 hS1 => ?_)
  · show (As.reverse ++ .inr (some b) :: S').map fw_v = _
    rw [List.map_append, List.map_reverse]
    rfl
  · rw [← fw_back]
    exact kk r w' hp H1 locs1 ls ⟨l0, hl1, hl2, hl3⟩ hP1 hD1 hS1
theorem j_callS (C : fw_ok T G X) {pc pc' len nx tg idx nA maxL : Nat} {v : Int32} {L L' : List (Option fw_V)} {S S1 S' As : List fw_V} {y : MethodName} {bytes : ByteArray} {ret : Option FieldType} {ws : List Jvm.Cond} {rm : Room} {post2 : Option fw_V → fw_W → Prop}
    (h : fw_go (fw_from (gT G) pc) L S = some ((pc', .invokestatic idx, len, nx, tg, v), L', S1)) (hc : fw_cS G idx y bytes maxL ret ws rm nA) (hM : Ct (xL X) T y ws rm As w post2) (hS1 : S1 = As.reverse ++ S') (hn : As.length = nA) (hst : S'.length ≤ 8) (h1 : k + rm.cells ≤ (gR G).cells) (h2 : n + rm.slots ≤ (gR G).slots)
    (kk : ∀ (r : Option fw_V) (w' : fw_W), post2 r w' → J T G X nx L' (r.toList ++ S') w' (k + rm.cells) (n + rm.slots)) : J T G X pc L S w k n := by
  obtain ⟨⟨hd, hnx, hlen, -⟩, hrun⟩ := fw_run (w := w) (k := k) (n := n) C h
  refine hrun ?_
  obtain ⟨S0, hK, -⟩ := C
  obtain ⟨hx, hb, hml, ho, hts⟩ := S0
  simp only [fw_len] at hlen; subst hlen; subst hnx; subst hS1
  intro H locs ls hl hP hD hS
  obtain ⟨l0, hl1, hl2, hl3⟩ := hl
  refine fw_after (va_runS (As := As.map fw_v) (rest := S'.map fw_v) ⟨hx, hb, hml, ho, hts⟩ (hM H.size) (hc _ _ hts) ⟨fw_blind, fun U hU hW => fw_pre (av := As) hP hK hU hW⟩ rfl (by rw [List.length_map]; exact hn) hl1.1 ?_ (lv_room (by rw [fw_sum]; exact hst)) hd ⟨h1, h2⟩) hD hS (fun q hq => Or.inr hq) (fun r w' H1 locs1 hp hP1 hD1 hS1 => ?_)
  · show (As.reverse ++ S').map fw_v = _
    rw [List.map_append, List.map_reverse]
  · rw [← fw_back]
    exact kk r w' hp H1 locs1 ls ⟨l0, hl1, hl2, hl3⟩ hP1 hD1 hS1
theorem j_callI (C : fw_ok T G X) {pc pc' len nx tg idx nA maxL b : Nat} {v : Int32} {L L' : List (Option fw_V)} {S S1 S' As : List fw_V} {y : MethodName} {bytes : ByteArray} {ws : List Jvm.Cond} {rm : Room} {post2 : Option fw_V → fw_W → Prop}
    (h : fw_go (fw_from (gT G) pc) L S = some ((pc', .invokespecial idx, len, nx, tg, v), L', S1)) (hc : fw_cI G idx y bytes maxL ws rm nA) (hM : Ct (xL X) T y ws rm (.inr (some b) :: As) w post2) (hS1 : S1 = As.reverse ++ .inr (some b) :: S') (hn : As.length = nA) (hst : S'.length ≤ 8) (h1 : k + rm.cells ≤ (gR G).cells) (h2 : n + rm.slots ≤ (gR G).slots)
    (kk : ∀ (r : Option fw_V) (w' : fw_W), post2 r w' → J T G X nx L' (r.toList ++ S') w' (k + rm.cells) (n + rm.slots)) : J T G X pc L S w k n := by
  obtain ⟨⟨hd, hnx, hlen, -⟩, hrun⟩ := fw_run (w := w) (k := k) (n := n) C h
  refine hrun ?_
  obtain ⟨S0, hK, -⟩ := C
  obtain ⟨hx, hb, hml, ho, hts⟩ := S0
  simp only [fw_len] at hlen; subst hlen; subst hnx; subst hS1
  intro H locs ls hl hP hD hS
  obtain ⟨l0, hl1, hl2, hl3⟩ := hl
  refine fw_after (va_runI (As := As.map fw_v) (rest := S'.map fw_v) (b := b) ⟨hx, hb, hml, ho, hts⟩ (hM H.size) (hc _ _ hts) ⟨fw_blind, fun U hU hW => fw_pre (av := .inr (some b) :: As) hP hK hU hW⟩ rfl (by rw [List.length_map]; exact hn) hl1.1 ?_ (lv_room (by rw [fw_sum]; exact hst)) hd ⟨h1, h2⟩) hD hS (fun q hq => Or.inr hq) (fun r w' H1 locs1 hp hP1 hD1 hS1 => ?_)
  · show (As.reverse ++ .inr (some b) :: S').map fw_v = _
    rw [List.map_append, List.map_reverse]
    rfl
  · rw [← fw_back]
    exact kk r w' hp H1 locs1 ls ⟨l0, hl1, hl2, hl3⟩ hP1 hD1 hS1
theorem fw_args_mem : ∀ (av : List fw_V) (j i : Nat) (v : fw_V), av[i]? = some v → (j + i, fw_v v) ∈ lv_args j (av.map fw_v)
  | [], _, i, v, h => by simp at h
  | a :: av, j, 0, v, h => by
    simp only [List.getElem?_cons_zero, Option.some.injEq] at h
    subst h
    exact List.mem_cons_self
  | a :: av, j, i + 1, v, h => by
    rw [List.getElem?_cons_succ] at h
    simp only [List.map_cons, lv_args, fw_cat]
    refine List.mem_cons_of_mem _ ?_
    have := fw_args_mem av (j + 1) i v h
    rw [show j + (i + 1) = j + 1 + i by omega]
    simpa using this
theorem fw_sl_len : ∀ (av : List fw_V), (lg_sl (av.map fw_v)).length = av.length
  | [] => rfl
  | a :: av => by
    have h := fw_sl_len av
    simp only [lg_sl, List.map_cons, List.flatMap_cons, List.length_append, List.length_cons] at h ⊢
    rw [h]
    have hc := fw_cat a
    simp [hc]
    omega
/-- a contract by its walk -/
theorem ct_of {post : Option fw_V → fw_W → Prop} {l : Launch} {y : MethodName} {ws ws' : List Jvm.Cond} {rm : Room} {av : List fw_V} (cc : ByteArray) (nL : Nat) (own : String) (ret : Option FieldType) (tab : List fw_I) (hG : G = (cc, nL, ws, own, rm, ret, tab, y)) (hy : plainName y.cls = true) (hws : ws = Jvm.Cond.code y cc nL ret :: ws') (hown : y.cls = own) (htab : fw_tok cc ws own tab = true) {L : List (Option fw_V)} (hL : L = av.map some ++ List.replicate (nL - av.length) none) (hlen : av.length ≤ nL)
    (kk : ∀ X : fw_X, xL X = l → fw_ok T G X → fw_ends T G X post → J T G X 0 L [] w 0 0) : Ct l T y ws rm av w post := by
  intro sz
  subst hG
  refine Met.ofW (cc := cc) (maxL := nL) (ret := ret) hy hws ?_
  intro p e s m args below meth c s₁ B hml hv
  obtain ⟨rfl, hsz, hP, hK⟩ := hv
  subst hsz
  have hl := lv_entry (av.map fw_v) (n := nL) (by rw [fw_sl_len]; exact hlen)
  rw [lg_entry_eq]
  generalize (lg_sl (av.map fw_v) ++ List.replicate (nL - (lg_sl (av.map fw_v)).length) Slot.unset).toArray = ls at hl ⊢
  have hts := atoms_spec (ws := ws) B.pre
  have hfc : s.vm.findClass own = some m.cls := by rw [← hown]; exact findClass_of_methodNamed B.named
  refine kk (p, l, e, s, m, (av.map fw_v).toArray, below, meth, c, w, MQ below (fw_Qc T w s.heap.size post) (av.map fw_v).toArray s rm.cells rm.slots (fw_A w s.heap.size)) rfl ⟨⟨B.exec, B.bytes, hml, hfc, hts⟩, hK, B.returns, B.notSynchronized, htab, (name_of_methodNamed B.named B.method).1⟩ (by rfl) s.heap [] ls ⟨_, hl, ?_, ?_⟩ hP (fun a e h => Or.inl ⟨e, h⟩) va_S.rf
  · rw [hL, List.length_append, List.length_map, List.length_replicate]
    show _ = nL
    omega
  · intro i v hi
    rw [hL] at hi
    have := fw_args_mem av 0 i v (by
      by_cases h : i < av.length
      · rw [List.getElem?_append_left (by rw [List.length_map]; exact h), List.getElem?_map] at hi
        cases hq : av[i]? with
        | none => rw [hq] at hi; cases hi
        | some u => rw [hq] at hi; cases hi; rfl
      · rw [List.getElem?_append_right (by rw [List.length_map]; omega), List.getElem?_replicate] at hi
        split at hi <;> cases hi)
    rwa [Nat.zero_add] at this
end FWC
