section FWR3
variable {T : fw_T} {G : fw_G} {X : fw_X} {w : fw_W} {k n : Nat}
theorem nle {a b : Nat} (h : Nat.ble a b = true) : a ≤ b := Nat.le_of_ble_eq_true h
theorem nlt {a b : Nat} (h : Nat.ble (a + 1) b = true) : a < b := Nat.le_of_ble_eq_true h
theorem va_up_same {α : Type} (f : Nat → α) (i : Nat) : va_up f i (f i) = f := by
  funext j
  by_cases h : j = i
  · rw [h, va_up_self]
  · rw [va_up_ne _ _ h]
theorem va_up_eq {α : Type} {f : Nat → α} {i : Nat} {v : α} (h : f i = v) : va_up f i v = f := by rw [← h]; exact va_up_same f i
/-- silent instructions up to a place -/
def fw_to : List fw_I → Nat → List (Option fw_V) → List fw_V → Option (List (Option fw_V) × List fw_V)
  | [], _, _, _ => none
  | (pc, i, len, nx, tg, v) :: r, pc', L, S => bif pc == pc' then some (L, S) else match fw_st i v L S with
    | some (L', S') => fw_to r pc' L' S'
    | none => none
theorem fw_to_ok (C : fw_ok T G X) : ∀ (t : List fw_I) (q0 : fw_I) (pc' : Nat) (L : List (Option fw_V)) (S : List fw_V) (L' : List (Option fw_V)) (S' : List fw_V), fw_tok (gC G) (gW G) (gO G) (q0 :: t) = true → fw_to (q0 :: t) pc' L S = some (L', S') → J T G X pc' L' S' w k n → J T G X q0.1 L S w k n
  | t, (pc, i, len, nx, tg, v), pc', L, S, L', S', ht, h, kk => by
    unfold fw_to at h
    cases hb : pc == pc' with
    | true =>
      rw [hb] at h
      cases h
      rw [show pc = pc' from eq_of_beq hb]
      exact kk
    | false =>
      rw [hb] at h
      dsimp only [cond_false] at h
      cases hs : fw_st i v L S with
      | none => rw [hs] at h; cases h
      | some z =>
        obtain ⟨L1, S1⟩ := z
        rw [hs] at h
        cases t with
        | nil => cases h
        | cons q1 t =>
          have hn := fw_tok_next ht
          exact fw_st_ok C (fw_tok_head ht) hs (by rw [show nx = q1.1 from hn]; exact fw_to_ok C t q1 pc' L1 S1 L' S' (fw_tok_tail ht) h kk)
/-- goes on to the place pc' by silent instructions -/
theorem j_to (C : fw_ok T G X) {pc : Nat} (pc' : Nat) {L L' : List (Option fw_V)} {S S' : List fw_V} (h : fw_to (fw_from (gT G) pc) pc' L S = some (L', S')) (kk : J T G X pc' L' S' w k n) : J T G X pc L S w k n := by
  have ht := fw_from_tok (gT G) pc C.2.2.2.2.1
  cases hf : fw_from (gT G) pc with
  | nil => rw [hf] at h; cases h
  | cons q r =>
    rw [hf] at h ht
    have hq := fw_from_head _ _ _ _ hf
    subst hq
    exact fw_to_ok C r q pc' L S L' S' ht h kk
theorem j_putE (C : fw_ok T G X) {pc pc' len nx tg idx ci kf a : Nat} {v : Int32} {L L' : List (Option fw_V)} {S S' : List fw_V} {fs : List fw_V} {u : fw_V} {ty : FieldType} {fin : Bool} (h : fw_go (fw_from (gT G) pc) L S = some ((pc', .putfield idx, len, nx, tg, v), L', u :: .inr (some a) :: S')) (hf : fw_fp T G idx ci kf ty fin) (hw : w a = some (.inr (ci, fs))) (hv : kf < fs.length) (hfit : fw_fit ty u) (e' : fw_E) (he : (.inr (ci, fs.set kf u) : fw_E) = e')
    (kk : J T G X nx L' S' (va_up w a (some e')) k n) : J T G X pc L S w k n := by
  subst he
  exact j_put C h hf hw hv hfit kk
theorem j_aastE (C : fw_ok T G X) {pc pc' len nx tg t N a : Nat} {v i : Int32} {r : Option Nat} {Cn : String} {f : Nat → Option Nat} {L L' : List (Option fw_V)} {S S' : List fw_V} (h : fw_go (fw_from (gT G) pc) L S = some ((pc', .aastore, len, nx, tg, v), L', .inr r :: .inl i :: .inr (some a) :: S')) (hw : w a = some (.inl (t, N, .inr f))) (ht : fw_ar T t (.object Cn)) (hin : vp_in i N) (hr : fw_put T w Cn r) (e' : fw_E) (he : (.inl (t, N, .inr (va_up f i.toNatClampNeg r)) : fw_E) = e')
    (kk : J T G X nx L' S' (va_up w a (some e')) k n) : J T G X pc L S w k n := by
  subst he
  exact j_aast C h hw ht hin hr kk
/-- Line's constructor, a nest mate's -/
def fw_cN (T : fw_T) (G : fw_G) (idx : Nat) (y : MethodName) (bytes : ByteArray) (maxL : Nat) (ws : List Jvm.Cond) (rm : Room) (nA : Nat) : Prop := ∀ (s : State) (args : Array Value), (∀ w ∈ gW G, w.before args s = true) → fw_K T s → ∃ host : String, va_CN (gR G) s args (gO G) idx y host bytes maxL none ws rm rm.cells rm.slots nA ∧ y.name = "<init>" ∧ (Cond.instanceMethod y).before args s = true
theorem j_callN (C : fw_ok T G X) {pc pc' len nx tg idx nA maxL b : Nat} {v : Int32} {L L' : List (Option fw_V)} {S S1 S' As : List fw_V} {y : MethodName} {bytes : ByteArray} {ws : List Jvm.Cond} {rm : Room} {post2 : Option fw_V → fw_W → Prop}
    (h : fw_go (fw_from (gT G) pc) L S = some ((pc', .invokespecial idx, len, nx, tg, v), L', S1)) (hc : fw_cN T G idx y bytes maxL ws rm nA) (hM : Ct (xL X) T y ws rm (.inr (some b) :: As) w post2) (hS1 : S1 = As.reverse ++ .inr (some b) :: S') (hn : As.length = nA) (hst : S'.length ≤ 8) (h1 : k + rm.cells ≤ (gR G).cells) (h2 : n + rm.slots ≤ (gR G).slots)
    (kk : ∀ (r : Option fw_V) (w' : fw_W), post2 r w' → J T G X nx L' (r.toList ++ S') w' (k + rm.cells) (n + rm.slots)) : J T G X pc L S w k n := by
  obtain ⟨⟨hd, hnx, hlen, -⟩, hrun⟩ := fw_run (w := w) (k := k) (n := n) C h
  refine hrun ?_
  obtain ⟨S0, hK, -⟩ := C
  obtain ⟨hx, hb, hml, ho, hts⟩ := S0
  simp only [fw_len] at hlen; subst hlen; subst hnx; subst hS1
  intro H locs ls hl hP hD hS
  obtain ⟨l0, hl1, hl2, hl3⟩ := hl
  obtain ⟨host, hcw⟩ := hc _ _ hts hK
  refine fw_after (va_runIN (As := As.map fw_v) (rest := S'.map fw_v) (b := b) ⟨hx, hb, hml, ho, hts⟩ (hM H.size) hcw ⟨fw_blind, fun U hU hW => fw_pre (av := .inr (some b) :: As) hP hK hU hW⟩ rfl (by rw [List.length_map]; exact hn) hl1.1 ?_ (lv_room (by rw [fw_sum]; exact hst)) hd ⟨h1, h2⟩) hD hS (fun q hq => Or.inr hq) (fun r w' H1 locs1 hp hP1 hD1 hS1 => ?_)
  · show (As.reverse ++ .inr (some b) :: S').map fw_v = _
    rw [List.map_append, List.map_reverse]
    rfl
  · rw [← fw_back]
    exact kk r w' hp H1 locs1 ls ⟨l0, hl1, hl2, hl3⟩ hP1 hD1 hS1
theorem fc_V_L_init {T : fw_T} {G : fw_G} (h : HV T G R_V) (hR : rm_L_init.frames + 1 ≤ (gR G).frames ∧ 8 + (1 + 11) + rm_L_init.locals ≤ (gR G).locals) : fw_cN T G 46 y_L_init c_L_init 1 W_L_init rm_L_init 0 := fun s args hts hK => ⟨"CapabilityVats", by rw [h.1]; exact va_cnB 0 hts (good_sub h.2.2 (in_cons wc_L_init)) rfl rfl rfl hK.2.1 (hts _ (h.2.2 _ wn_L)) (by decide +kernel) hR, rfl, hts _ (h.2.2 _ wi_L_init)⟩
theorem fc_M_L_init {T : fw_T} {G : fw_G} (h : HV T G R_M) (hR : rm_L_init.frames + 1 ≤ (gR G).frames ∧ 8 + (1 + 11) + rm_L_init.locals ≤ (gR G).locals) : fw_cN T G 11 y_L_init c_L_init 1 W_L_init rm_L_init 0 := fun s args hts hK => ⟨"CapabilityVats", by rw [h.1]; exact va_cnB 0 hts (good_sub h.2.2 (in_cons wc_L_init)) rfl rfl rfl hK.2.2.1 (hts _ (h.2.2 _ wn_L)) (by decide +kernel) hR, rfl, hts _ (h.2.2 _ wi_L_init)⟩
/-- Object's constructor, by the class -/
theorem j_objV (C : fw_ok T G X) {own : String} {pc pc' len nx tg idx a : Nat} {v : Int32} {L L' : List (Option fw_V)} {S S' : List fw_V} (hV : HV T G own) (hm : Jvm.Cond.methodLink own idx objectInit ∈ Wall) (h : fw_go (fw_from (gT G) pc) L S = some ((pc', .invokespecial idx, len, nx, tg, v), L', .inr (some a) :: S')) (hfr : 1 ≤ (gR G).frames) (hlo : S'.length + 12 ≤ (gR G).locals)
    (kk : J T G X nx L' S' w k n) : J T G X pc L S w k n := j_obj C h (by rw [hV.1]; exact hV.2.2 _ hm) (hV.2.2 _ wi_O_init) (hV.2.2 _ wc_O_init) hfr hlo kk
end FWR3
