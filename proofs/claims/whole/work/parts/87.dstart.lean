/-! Both sides at their beginning. -/
theorem Iv.start : Iv st0 M0 0 := by
  have no : ∀ {j : Nat}, j < sK st0 → False := fun h => Nat.not_lt_zero _ h
  have no' : ∀ {j : Nat}, j < sN st0 → False := fun h => Nat.not_lt_zero _ h
  refine ⟨fun _ => rN, ⟨⟨Nat.zero_le _, Nat.zero_le _⟩, fun i hi => (no' hi).elim, ⟨fun j hj => (no hj).elim, fun j a hj => (no hj).elim, fun _ => 0, fun j a hj => (no hj).elim⟩, ⟨fun j hj => (no hj).elim, fun j a hj => (no hj).elim, fun _ => 0, fun j a hj => (no hj).elim⟩, fun j hj => (no hj).elim, ⟨rfl, rfl⟩, fun i hi => (no' hi).elim, fun j hj => (no hj).elim, fun q _ _ => rfl⟩, rfl, ⟨fun i j => ⟨fun h => (by cases h), fun h => (no h.1).elim⟩, fun i => List.Pairwise.nil⟩, fun j hj => (no hj).elim, fun j hj => (no hj).elim, 0, Nat.le_refl _, rfl, fun j hj => (no hj).elim⟩
theorem Iv.up {s : St} {M : Md} {B B' : Nat} (h : Iv s M B) (hB : B ≤ B') : Iv s M B' := by
  obtain ⟨ph, S, h1, h2, h3, h4, q, hq, h5⟩ := h
  exact ⟨ph, S, h1, h2, h3, h4, q, Nat.le_trans hq hB, h5⟩
theorem Iv.good {s : St} {M : Md} {B : Nat} (h : Iv s M B) : good s := by
  obtain ⟨ph, S, -⟩ := h
  exact S.2.1
section FWU
variable {T : fw_T} {G : fw_G} {X : fw_X} {k n : Nat}
/-- a constructor beside another world -/
theorem j_callUI (C : fw_ok T G X) {w1 w2 : fw_W} {pc pc' len nx tg idx nA maxL b : Nat} {v : Int32} {L L' : List (Option fw_V)} {S S1 S' As : List fw_V} {y : MethodName} {bytes : ByteArray} {ws : List Jvm.Cond} {rm : Room} {post2 : Option fw_V → fw_W → Prop}
    (h : fw_go (fw_from (gT G) pc) L S = some ((pc', .invokespecial idx, len, nx, tg, v), L', S1)) (hc : fw_cI G idx y bytes maxL ws rm nA) (hdj : fw_dj w1 w2) (hM : Ct (xL X) T y ws rm (.inr (some b) :: As) w1 post2) (hS1 : S1 = As.reverse ++ .inr (some b) :: S') (hn : As.length = nA) (hst : S'.length ≤ 8) (h1 : k + rm.cells ≤ (gR G).cells) (h2 : n + rm.slots ≤ (gR G).slots)
    (kk : ∀ (r : Option fw_V) (w' : fw_W), post2 r w' → fw_dj w' w2 → J T G X nx L' (r.toList ++ S') (fw_un w' w2) (k + rm.cells) (n + rm.slots)) : J T G X pc L S (fw_un w1 w2) k n := by
  obtain ⟨⟨hd, hnx, hlen, -⟩, hrun⟩ := fw_run (w := fw_un w1 w2) (k := k) (n := n) C h
  refine hrun ?_
  obtain ⟨S0, hK, -⟩ := C
  obtain ⟨hx, hb, hml, ho, hts⟩ := S0
  simp only [fw_len] at hlen; subst hlen; subst hnx; subst hS1
  intro H locs ls hl hP hD hS
  obtain ⟨l0, hl1, hl2, hl3⟩ := hl
  have hPw : fw_P T w1 H := fun q e h => hP q e (fw_un_l h)
  refine fw_afterU (va_runI (As := As.map fw_v) (rest := S'.map fw_v) (b := b) ⟨hx, hb, hml, ho, hts⟩ (hM H.size) (hc _ _ hts) ⟨fw_blind, fun U hU hW => fw_pre (av := .inr (some b) :: As) hPw hK hU hW⟩ rfl (by rw [List.length_map]; exact hn) hl1.1 ?_ (lv_room (by rw [fw_sum]; exact hst)) hd ⟨h1, h2⟩) hP hdj hD hS (fun q hq => Or.inr hq) (fun r w' H1 locs1 hp hdj' hP1 hD1 hS1 => ?_)
  · show (As.reverse ++ .inr (some b) :: S').map fw_v = _
    rw [List.map_append, List.map_reverse]
    rfl
  · rw [← fw_back]
    exact kk r w' hp hdj' H1 locs1 ls ⟨l0, hl1, hl2, hl3⟩ hP1 hD1 hS1
theorem un_one {w : fw_W} {q : Nat} {e : fw_E} : va_up w q (some e) = fw_un (va_up (fun _ => none) q (some e)) w := by
  funext a
  by_cases h : a = q
  · subst h
    rw [va_up_self]
    exact (fw_un_l (va_up_self _ _ _)).symm
  · rw [va_up_ne _ _ h]
    simp only [fw_un, va_up_ne _ _ h]
theorem dj_one {w : fw_W} {q : Nat} {e : fw_E} (h : w q = none) : fw_dj (va_up (fun _ => none) q (some e)) w := fun a => by
  by_cases ha : a = q
  · subst ha; exact Or.inr h
  · exact Or.inl (va_up_ne _ _ ha)
end FWU
/-- what holds between two calls of the law -/
def LwI (a b : Nat) (B : Nat) (w : fw_W) : Prop := ∃ wC wM c s A M, w = fw_un wC wM ∧ fw_dj wC wM ∧ cO c = a ∧ Rp wC c s ∧ RepD wM b A M ∧ Iv s M B
