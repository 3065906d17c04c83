section FWL
variable {T : fw_T} {G : fw_G} {X : fw_X} {w : fw_W} {k n : Nat}
/-- the script -/
theorem j_sld (C : fw_ok T G X) {pc pc' len nx tg b N : Nat} {v i : Int32} {xs : Nat → Int32} {L L' : List (Option fw_V)} {S S' : List fw_V} (hX : va_X b N xs (xS X) (xS X).heap) (hbl : b < (xS X).heap.size) (hbA : ¬ xF X b) (h : fw_go (fw_from (gT G) pc) L S = some ((pc', .iaload, len, nx, tg, v), L', .inl i :: .inr (some b) :: S')) (hin : vp_in i N)
    (kk : J T G X nx L' (.inl (xs i.toNatClampNeg) :: S') w k n) : J T G X pc L S w k n := by
  obtain ⟨⟨hd, hn, hlen, -⟩, hrun⟩ := fw_run (w := w) (k := k) (n := n) C h
  refine hrun ?_
  obtain ⟨⟨hx, hb, hml, ho, hts⟩, ⟨hK, -⟩, -⟩ := C
  simp only [fw_len] at hlen; subst hlen; subst hn
  intro H locs ls hl hP hD hS
  exact va_sld hx hb hX hbl hbA hS hin hd (kk H locs ls hl hP hD hS)
theorem j_slen (C : fw_ok T G X) {pc pc' len nx tg b N : Nat} {v : Int32} {xs : Nat → Int32} {L L' : List (Option fw_V)} {S S' : List fw_V} (hX : va_X b N xs (xS X) (xS X).heap) (hbl : b < (xS X).heap.size) (hbA : ¬ xF X b) (h : fw_go (fw_from (gT G) pc) L S = some ((pc', .arraylength, len, nx, tg, v), L', .inr (some b) :: S'))
    (kk : J T G X nx L' (.inl (Int32.ofNat N) :: S') w k n) : J T G X pc L S w k n := by
  obtain ⟨⟨hd, hn, hlen, -⟩, hrun⟩ := fw_run (w := w) (k := k) (n := n) C h
  refine hrun ?_
  obtain ⟨⟨hx, hb, hml, ho, hts⟩, ⟨hK, -⟩, -⟩ := C
  simp only [fw_len] at hlen; subst hlen; subst hn
  intro H locs ls hl hP hD hS
  exact va_slen hx hb hX hbl hbA hS hd (kk H locs ls hl hP hD hS)
/-- two worlds side by side -/
def fw_un (w1 w2 : fw_W) : fw_W := fun a => match w1 a with
  | some e => some e
  | none => w2 a
def fw_dj (w1 w2 : fw_W) : Prop := ∀ a, w1 a = none ∨ w2 a = none
theorem fw_un_l {w1 w2 : fw_W} {a : Nat} {e : fw_E} (h : w1 a = some e) : fw_un w1 w2 a = some e := by simp [fw_un, h]
theorem fw_un_comm {w1 w2 : fw_W} (h : fw_dj w1 w2) : fw_un w1 w2 = fw_un w2 w1 := by
  funext a
  rcases h a with h | h
  · simp only [fw_un, h]; cases w2 a <;> rfl
  · simp only [fw_un, h]; cases w1 a <;> rfl
theorem fw_dj.symm {w1 w2 : fw_W} (h : fw_dj w1 w2) : fw_dj w2 w1 := fun a => (h a).symm
theorem fw_un_or {w1 w2 : fw_W} {a : Nat} {e : fw_E} (h : fw_un w1 w2 a = some e) : w1 a = some e ∨ (w1 a = none ∧ w2 a = some e) := by
  unfold fw_un at h
  cases h1 : w1 a with
  | some x => rw [h1] at h; exact Or.inl h
  | none => rw [h1] at h; exact Or.inr ⟨rfl, h⟩
theorem fw_afterU {w1 w2 : fw_W} {p : Program} {l : Launch} {e : Env} {R : Room} {s : State} {m : MethodId} {args : Array Value} {below : List Frame} {meth : Method} {c : Code} {H : Heap} {locs : List Loc} {cells slots mc ms pc : Nat} {Q : State → Prop} {ls : Array Slot} {st0 rest : List Value} {A0 : Nat → Prop} {H0 : Heap} {a : Array Value} {post2 : Option fw_V → fw_W → Prop}
    (hr : va_Run p l e R s m args below meth c H locs cells slots mc ms (F0 m pc ls st0) rest (fw_Qc T w1 H.size post2 a) (fw_A w1 H.size)) (hP : fw_P T (fw_un w1 w2) H) (hdj : fw_dj w1 w2) (hD : fw_D A0 (fw_un w1 w2)) (hS : va_S A0 H0 H locs) (hA : ∀ q, H0.size ≤ q → A0 q)
    (kk : ∀ (r : Option fw_V) (w' : fw_W) (H1 : Heap) (locs1 : List Loc), post2 r w' → fw_dj w' w2 → fw_P T (fw_un w' w2) H1 → fw_D A0 (fw_un w' w2) → va_S A0 H0 H1 locs1 → W p l e R s m args below meth c H1 locs1 (cells + mc) (slots + ms) Q (F0 m (pc + 3) ls ((r.map fw_v).toList ++ rest))) : W p l e R s m args below meth c H locs cells slots Q (F0 m pc ls st0) := by
  intro T0 hT X0
  obtain ⟨v, st₀, t, T', L, h0, X', hL, e1, e2, ⟨⟨r, w', hv, hp, hP', hK', hD'⟩, hz, hk⟩, st⟩ := hr T0 hT X0
  cases hv
  rw [h0] at hz hk
  have hin : ∀ q, fw_A w1 H.size q → A0 q := fun q h => by
    rcases h with ⟨e, h⟩ | h
    · exact hD q e (fw_un_l h)
    · exact hA q (Nat.le_trans hS.1 h)
  have h2 : ∀ q e, w2 q = some e → w1 q = none ∧ fw_un w1 w2 q = some e := fun q e h => by
    rcases hdj q with h1 | h1
    · exact ⟨h1, by simp only [fw_un, h1]; exact h⟩
    · rw [h1] at h; cases h
  have hnA : ∀ q e, w2 q = some e → q < H.size ∧ ¬ fw_A w1 H.size q := fun q e h => by
    obtain ⟨h3, h4⟩ := h2 q e h
    have hlt := (hP q e h4).lt
    refine ⟨hlt, fun z => ?_⟩
    rcases z with ⟨e', z⟩ | z
    · rw [h3] at z; cases z
    · exact absurd hlt (Nat.not_lt.mpr z)
  have hdj' : fw_dj w' w2 := fun q => by
    cases hw : w2 q with
    | none => exact Or.inr rfl
    | some e =>
      left
      cases hw' : w' q with
      | none => rfl
      | some e' => exact absurd (hD' q e' hw') (hnA q e hw).2
  obtain ⟨t2, a1, b1⟩ := kk r w' T'.heap (locs ++ L) hp hdj' (fun q e h => by
      rcases fw_un_or h with h | ⟨-, h⟩
      · rw [e1]; exact hP' q e h
      · refine (hP q e (h2 q e h).2).kept ?_
        show T'.heap[q]? = H[q]?
        rw [e1]
        exact hk q (hnA q e h).1 (hnA q e h).2) (fun q e h => by
      rcases fw_un_or h with h | ⟨-, h⟩
      · exact hin q (hD' q e h)
      · exact hD q e (h2 q e h).2)
    ⟨Nat.le_trans hS.1 (by rw [e1]; exact hz), fun q h1 h2 => by rw [e1, hk q (Nat.lt_of_lt_of_le h1 hS.1) (fun z => h2 (hin q z))]; exact hS.2.1 q h1 h2, fun q hq => by
      rcases List.mem_append.mp hq with h | h
      · exact hS.2.2 q h
      · exact hin _ (hL q h)⟩ T' rfl X'
  exact ⟨t2, st t2 a1, b1⟩
theorem j_callU (C : fw_ok T G X) {w1 w2 : fw_W} {pc pc' len nx tg idx nA maxL b ci N : Nat} {v : Int32} {L L' : List (Option fw_V)} {S S1 S' As : List fw_V} {y : MethodName} {bytes : ByteArray} {ret : Option FieldType} {ws : List Jvm.Cond} {rm : Room} {post2 : Option fw_V → fw_W → Prop} {Tb : u_T} {fs : List fw_V}
    (h : fw_go (fw_from (gT G) pc) L S = some ((pc', .invokevirtual idx, len, nx, tg, v), L', S1)) (hc : fw_cV G idx y bytes maxL ret ws rm nA) (hdj : fw_dj w1 w2) (hM : Ct (xL X) T y ws rm (.inr (some b) :: As) w1 post2) (hS1 : S1 = As.reverse ++ .inr (some b) :: S') (hn : As.length = nA) (hw : w1 b = some (.inr (ci, fs))) (hci : T.2.1[ci]? = some (y.cls, Tb, N)) (hst : S'.length ≤ 8) (h1 : k + rm.cells ≤ (gR G).cells) (h2 : n + rm.slots ≤ (gR G).slots)
    (kk : ∀ (r : Option fw_V) (w' : fw_W), post2 r w' → fw_dj w' w2 → J T G X nx L' (r.toList ++ S') (fw_un w' w2) (k + rm.cells) (n + rm.slots)) : J T G X pc L S (fw_un w1 w2) k n := by
  obtain ⟨⟨hd, hnx, hlen, -⟩, hrun⟩ := fw_run (w := fw_un w1 w2) (k := k) (n := n) C h
  refine hrun ?_
  obtain ⟨S0, hK, -⟩ := C
  obtain ⟨hx, hb, hml, ho, hts⟩ := S0
  simp only [fw_len] at hlen; subst hlen; subst hnx; subst hS1
  intro H locs ls hl hP hD hS
  obtain ⟨l0, hl1, hl2, hl3⟩ := hl
  have hPw : fw_P T w1 H := fun q e h => hP q e (fw_un_l h)
  obtain ⟨r', g0, cell, g1, g2, g3, -⟩ := hPw b _ hw
  have hr' : r' = (y.cls, Tb, N) := Option.some.inj (g0.symm.trans hci)
  subst hr'
  have hfc := (hK.1.1 ci _ hci).2.1
  refine fw_afterU (va_runV (As := As.map fw_v) (rest := S'.map fw_v) (b := b) ⟨hx, hb, hml, ho, hts⟩ (hM H.size) (hc _ _ hts) ⟨fw_blind, ⟨cell, g1, by rw [g3]; rfl, by rw [g2]; exact hfc⟩, fun U hU hW => fw_pre (av := .inr (some b) :: As) hPw hK hU hW⟩ rfl (by rw [List.length_map]; exact hn) hl1.1 ?_ (lv_room (by rw [fw_sum]; exact hst)) hd ⟨h1, h2⟩) hP hdj hD hS (fun q hq => Or.inr hq) (fun r w' H1 locs1 hp hdj' hP1 hD1 hS1 => ?_)
  · show (As.reverse ++ .inr (some b) :: S').map fw_v = _
    rw [List.map_append, List.map_reverse]
    rfl
  · rw [← fw_back]
    exact kk r w' hp hdj' H1 locs1 ls ⟨l0, hl1, hl2, hl3⟩ hP1 hD1 hS1
end FWL
