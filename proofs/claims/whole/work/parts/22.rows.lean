section FWR
variable {T : fw_T} {G : fw_G} {X : fw_X} {w : fw_W} {k n : Nat}
theorem fw_tok_head {cc : ByteArray} {Ts : List Jvm.Cond} {own : String} {q : fw_I} {r : List fw_I} (h : fw_tok cc Ts own (q :: r) = true) : fw_iok cc Ts own q = true := by
  cases r with
  | nil => exact h
  | cons q2 r =>
    simp only [fw_tok, Bool.and_eq_true] at h
    exact h.1
theorem fw_tok_tail {cc : ByteArray} {Ts : List Jvm.Cond} {own : String} {q : fw_I} {r : List fw_I} (h : fw_tok cc Ts own (q :: r) = true) : fw_tok cc Ts own r = true := by
  cases r with
  | nil => rfl
  | cons q2 r =>
    simp only [fw_tok, Bool.and_eq_true] at h
    exact h.2.2
theorem fw_tok_next {cc : ByteArray} {Ts : List Jvm.Cond} {own : String} {q q2 : fw_I} {r : List fw_I} (h : fw_tok cc Ts own (q :: q2 :: r) = true) : q.2.2.2.1 = q2.1 := by
  simp only [fw_tok, Bool.and_eq_true, decide_eq_true_eq] at h
  exact h.2.1
theorem fw_from_tok {cc : ByteArray} {Ts : List Jvm.Cond} {own : String} : ∀ (t : List fw_I) (pc : Nat), fw_tok cc Ts own t = true → fw_tok cc Ts own (fw_from t pc) = true
  | [], _, h => h
  | q :: r, pc, h => by
    unfold fw_from
    cases hq : q.1 == pc with
    | true => exact h
    | false => exact fw_from_tok r pc (fw_tok_tail h)
theorem fw_from_head : ∀ (t : List fw_I) (pc : Nat) (q : fw_I) (r : List fw_I), fw_from t pc = q :: r → q.1 = pc
  | [], _, _, _, h => by cases h
  | q0 :: r0, pc, q, r, h => by
    unfold fw_from at h
    cases hq : q0.1 == pc with
    | true => rw [hq] at h; cases h; exact eq_of_beq hq
    | false => rw [hq] at h; exact fw_from_head r0 pc q r h
theorem fw_go_ok (C : fw_ok T G X) : ∀ (t : List fw_I) (q0 : fw_I) (L : List (Option fw_V)) (S : List fw_V) (q : fw_I) (L' : List (Option fw_V)) (S' : List fw_V), fw_tok (gC G) (gW G) (gO G) (q0 :: t) = true → fw_go (q0 :: t) L S = some (q, L', S') →
    fw_iok (gC G) (gW G) (gO G) q = true ∧ (J T G X q.1 L' S' w k n → J T G X q0.1 L S w k n)
  | t, (pc, i, len, nx, tg, v), L, S, q, L', S', ht, h => by
    unfold fw_go at h
    cases hs : fw_st i v L S with
    | none =>
      rw [hs] at h
      cases h
      exact ⟨fw_tok_head ht, id⟩
    | some z =>
      obtain ⟨L1, S1⟩ := z
      rw [hs] at h
      cases t with
      | nil => cases h
      | cons q1 t =>
        obtain ⟨h1, h2⟩ := fw_go_ok C t q1 L1 S1 q L' S' (fw_tok_tail ht) h
        refine ⟨h1, fun kk => ?_⟩
        have hn := fw_tok_next ht
        exact fw_st_ok C (fw_tok_head ht) hs (by rw [show nx = q1.1 from hn]; exact h2 kk)
/-- runs the silent instructions -/
theorem fw_run (C : fw_ok T G X) {pc pc' len nx tg : Nat} {i : Instr} {v : Int32} {L L' : List (Option fw_V)} {S S' : List fw_V} (h : fw_go (fw_from (gT G) pc) L S = some ((pc', i, len, nx, tg, v), L', S')) :
    (decode (gC G) pc' = .ok (i, len) ∧ nx = pc' + len ∧ len = fw_len i len ∧ fw_ix (gW G) (gO G) pc' tg v i = true) ∧ (J T G X pc' L' S' w k n → J T G X pc L S w k n) := by
  have ht := fw_from_tok (gT G) pc C.2.2.2.2.1
  cases hf : fw_from (gT G) pc with
  | nil => rw [hf] at h; cases h
  | cons q r =>
    rw [hf] at h ht
    obtain ⟨h1, h2⟩ := fw_go_ok (w := w) (k := k) (n := n) C r q L S _ L' S' ht h
    have hq := fw_from_head _ _ _ _ hf
    subst hq
    exact ⟨fw_iok_spec h1, h2⟩
/-- a field: the class ci of the world's classes has it at place kf -/
def fw_fl (T : fw_T) (G : fw_G) (idx ci kf : Nat) : Prop := ∃ (C : String) (Tb : u_T) (N : Nat), T.2.1[ci]? = some (C, Tb, N) ∧ kf < N ∧ (∀ w ∈ u_ws C Tb N, w ∈ gW G) ∧ Jvm.Cond.fieldLink (gO G) idx (Tb kf).1 (Tb kf).2.1 (Tb kf).2.2.1 ∈ gW G
theorem j_get (C : fw_ok T G X) {pc pc' len nx tg idx ci kf a : Nat} {v : Int32} {L L' : List (Option fw_V)} {S S' : List fw_V} {fs : List fw_V} {u : fw_V} (h : fw_go (fw_from (gT G) pc) L S = some ((pc', .getfield idx, len, nx, tg, v), L', .inr (some a) :: S')) (hf : fw_fl T G idx ci kf) (hw : w a = some (.inr (ci, fs))) (hv : fs[kf]? = some u)
    (kk : J T G X nx L' (u :: S') w k n) : J T G X pc L S w k n := by
  obtain ⟨⟨hd, hn, hlen, -⟩, hrun⟩ := fw_run (w := w) (k := k) (n := n) C h
  refine hrun ?_
  obtain ⟨⟨hx, hb, hml, ho, hts⟩, ⟨hK, -⟩, -⟩ := C
  simp only [fw_len] at hlen; subst hlen; subst hn
  obtain ⟨Cn, Tb, N, hc, hk, hin, hlink⟩ := hf
  intro H locs ls hl hP hD hS
  have hP1 : va_P T.1 T.2.1 [(a, .inr (ci, fs.map fw_v))] H := fun j q hj => by
    cases j with
    | zero => cases hj; exact hP a _ hw
    | succ j => cases hj
  exact va_get hx hb hts hin ho hK hP1 0 rfl hc kf hk (hts _ hlink) (fun _ h => h) (v := fw_v u) (by rw [List.getElem?_map, hv]; rfl) hd (kk H locs ls hl hP hD hS)
/-- a field that may be written -/
def fw_fp (T : fw_T) (G : fw_G) (idx ci kf : Nat) (ty : FieldType) (fin : Bool) : Prop := ∃ (C : String) (Tb : u_T) (N : Nat) (ty0 : Nat → FieldType), T.2.1[ci]? = some (C, Tb, N) ∧ kf < N ∧ (∀ w ∈ u_ws C Tb N, w ∈ gW G) ∧ Jvm.Cond.fieldLink (gO G) idx (Tb kf).1 (Tb kf).2.1 (Tb kf).2.2.1 ∈ gW G ∧ (∀ k, k < N → parseFieldDescriptor (Tb k).2.2.1 = some (ty0 k)) ∧ (∀ a, a < N → ∀ b, b < N → a ≠ b → (Tb a).2.1 ≠ (Tb b).2.1) ∧ (Tb kf).2.2.2 = fin ∧ ty0 kf = ty ∧ (fin = true → (gY G).name = "<init>" ∧ (Tb kf).1 = gO G)
def fw_fit (ty : FieldType) (u : fw_V) : Prop := narrow ty (fw_v u) = fw_v u ∧ fits ty (fw_v u) = true
theorem fit_i (x : Int32) : fw_fit .int (.inl x) := ⟨rfl, rfl⟩
theorem fit_z0 : fw_fit .boolean (.inl 0) := ⟨by decide, by decide⟩
theorem fit_z1 : fw_fit .boolean (.inl 1) := ⟨by decide, by decide⟩
theorem fit_o (C : String) (r : Option Nat) : fw_fit (.object C) (.inr r) := by cases r <;> exact ⟨rfl, rfl⟩
theorem fit_a (t : FieldType) (r : Option Nat) : fw_fit (.array t) (.inr r) := by cases r <;> exact ⟨rfl, rfl⟩
theorem fw_P.up {w : fw_W} {H H1 : Heap} {a : Nat} {e : fw_E} (hP : fw_P T w H) (he : va_at T.1 T.2.1 (a, fw_e T e) H1) (oq : ∀ q : Nat, q ≠ a → q < H.size → H1[q]? = H[q]?) : fw_P T (va_up w a (some e)) H1 := by
  intro b e' hb
  by_cases hba : b = a
  · subst hba
    rw [va_up_self] at hb
    cases hb
    exact he
  · rw [va_up_ne _ _ hba] at hb
    exact (hP b e' hb).kept (oq b hba (hP b e' hb).lt)
theorem fw_D.up {A : Nat → Prop} {w : fw_W} {a : Nat} {e : fw_E} (hD : fw_D A w) (ha : A a) : fw_D A (va_up w a (some e)) := by
  intro b e' hb
  by_cases hba : b = a
  · subst hba; exact ha
  · rw [va_up_ne _ _ hba] at hb
    exact hD b e' hb
theorem fw_set_map (fs : List fw_V) (kf : Nat) (u : fw_V) : (fs.set kf u).map fw_v = (fs.map fw_v).set kf (fw_v u) := List.map_set
theorem j_put (C : fw_ok T G X) {pc pc' len nx tg idx ci kf a : Nat} {v : Int32} {L L' : List (Option fw_V)} {S S' : List fw_V} {fs : List fw_V} {u : fw_V} {ty : FieldType} {fin : Bool} (h : fw_go (fw_from (gT G) pc) L S = some ((pc', .putfield idx, len, nx, tg, v), L', u :: .inr (some a) :: S')) (hf : fw_fp T G idx ci kf ty fin) (hw : w a = some (.inr (ci, fs))) (hv : kf < fs.length) (hfit : fw_fit ty u)
    (kk : J T G X nx L' S' (va_up w a (some (.inr (ci, fs.set kf u)))) k n) : J T G X pc L S w k n := by
  obtain ⟨⟨hd, hn, hlen, -⟩, hrun⟩ := fw_run (w := w) (k := k) (n := n) C h
  refine hrun ?_
  obtain ⟨⟨hx, hb, hml, ho, hts⟩, ⟨hK, -⟩, -, -, -, hnm0⟩ := C
  simp only [fw_len] at hlen; subst hlen; subst hn
  obtain ⟨Cn, Tb, N, ty0, hc, hk, hin, hlink, hty, hnm, hfin, hty1, hini⟩ := hf
  intro H locs ls hl hP hD hS
  have hap := va_apart (own := gO G) hts hin ty0 hty hnm hK hc
  obtain ⟨r, h1, cell, q1, q2, q3, q4⟩ := hP a _ hw
  have hr : r = (Cn, Tb, N) := Option.some.inj (h1.symm.trans hc)
  subst hr
  obtain ⟨hSl, hfc, kC, hkC, hkind⟩ := hK.1 ci _ hc
  obtain ⟨cf, kf', fi, f, hi, hsl⟩ := hSl kf hk
  have hlay := hts _ (hin _ (u_in_lay hk))
  have hst := (u_facts hfc hkC (u_lays hts hin hk) hi).1
  have hd1 : parseFieldDescriptor (Tb kf).2.2.1 = some ty := by rw [hty kf hk, hty1]
  have key : ∀ (H1 : Heap), H1[a]? = some (cell.setSlot f.slot (fw_v u)) → H1.size = H.size → (∀ q : Nat, q ≠ a → H1[q]? = H[q]?) → W (xP X) (xL X) (xE X) (gR G) (xS X) (xM X) (xA X) (xB X) (xT X) (xC X) H1 (locs ++ [⟨a, f.slot⟩]) k n (xQ X) (F0 (xM X) (pc' + 3) ls (S'.map fw_v)) := by
    intro H1 e1 e2 e3
    rw [hsl] at e1
    refine kk H1 _ ls hl (hP.up ?_ (fun q hq _ => e3 q hq)) (hD.up (hD a _ hw)) (hS.put e2 e3 (hD a _ hw))
    refine ⟨_, hc, t_OB.to (V := updV (vp_V (fs.map fw_v)) kf (fw_v u)) ⟨_, e1, q2, q3, t_set q4 hap hk (fw_v u)⟩ (fun j _ => ?_)⟩
    show _ = vp_V ((fs.set kf u).map fw_v) j
    rw [fw_set_map]
    exact vp_updV_set (by rw [List.length_map]; exact hv) (fw_v u) j
  unfold u_lay at hlay
  cases fin with
  | false =>
    rw [if_neg (by rw [hfin]; decide)] at hlay
    have h6 := u_store hfc hkC hkind hlay hi hd1 hfit.1 hfit.2
    exact W.putK hx hb (f := f) ⟨ho, hts _ hlink, ⟨_, _, _, hi⟩, hst⟩ (by rw [q2]; exact h6) q1 q3 (by rw [hsl]; exact k2_hasslot (q4 kf hk)) rfl rfl hd key
  | true =>
    rw [if_pos hfin] at hlay
    obtain ⟨hin1, hdecl⟩ := hini rfl
    have hcf : (xM X).cls = cf := by
      obtain ⟨_, _, c', _, _, _, -, -, hf', -, -, -, hown2, -⟩ := Cond.laysFinal_spec hlay
      have e1 : c' = cf := by have := hi.symm.trans hf'; simp at this; exact this.1.symm
      rw [hdecl] at hown2
      rw [← e1]; exact Option.some.inj (ho.symm.trans hown2)
    have h6 := u_fits hfc hkC hkind (Or.inr hlay) hi hd1 hfit.1 hfit.2
    exact W.putFinK hx hb ho (hts _ hlink) hi hst hcf (hnm0.trans hin1) (by rw [q2]; exact h6) q1 q3 (by rw [hsl]; exact k2_hasslot (q4 kf hk)) rfl rfl hd key
/-- an object of class ci that can be made here -/
def fw_nw (T : fw_T) (G : fw_G) (idx ci N : Nat) (fs : List fw_V) : Prop := ∃ (C : String) (Tb : u_T) (ty : Nat → FieldType), T.2.1[ci]? = some (C, Tb, N) ∧ (∀ w ∈ u_ws C Tb N, w ∈ gW G) ∧ (∀ k, k < N → parseFieldDescriptor (Tb k).2.2.1 = some (ty k)) ∧ Jvm.Cond.classLink (gO G) idx C ∈ gW G ∧ Jvm.Cond.instantiable C N ∈ gW G ∧ Jvm.Cond.initialized C ∈ gW G ∧ (∀ j, j < N → defaultValue (ty j) = vp_V (fs.map fw_v) j)
theorem xF_new {H : Heap} {locs : List Loc} (hS : va_S (xF X) (xS X).heap H locs) : xF X H.size := Or.inr hS.1
theorem fw_none {H : Heap} (hP : fw_P T w H) : w H.size = none := by
  cases h : w H.size with
  | none => rfl
  | some e => exact absurd (hP _ e h).lt (Nat.lt_irrefl _)
theorem j_new (C : fw_ok T G X) {pc pc' len nx tg idx ci N : Nat} {v : Int32} {L L' : List (Option fw_V)} {S S' : List fw_V} {fs : List fw_V} (h : fw_go (fw_from (gT G) pc) L S = some ((pc', .new idx, len, nx, tg, v), L', S')) (hf : fw_nw T G idx ci N fs) (hcl : k + 1 ≤ (gR G).cells) (hsl : n + N ≤ (gR G).slots)
    (kk : ∀ q : Nat, w q = none → J T G X nx L' (.inr (some q) :: S') (va_up w q (some (.inr (ci, fs)))) (k + 1) (n + N)) : J T G X pc L S w k n := by
  obtain ⟨⟨hd, hn, hlen, -⟩, hrun⟩ := fw_run (w := w) (k := k) (n := n) C h
  refine hrun ?_
  obtain ⟨⟨hx, hb, hml, ho, hts⟩, ⟨hK, -⟩, -⟩ := C
  simp only [fw_len] at hlen; subst hlen; subst hn
  obtain ⟨Cn, Tb, ty, hc, hin, hty, hcln, hinst, hini, hfs⟩ := hf
  intro H locs ls hl hP hD hS
  have hKn := hK.1 ci _ hc
  refine W.newcK hx hb ho (hts _ hcln) (hts _ hinst) (hts _ hini) rfl hd hcl hsl hKn.2.1 rfl fun H1 kC hkC e1 z1 o1 => ?_
  exact kk H.size (fw_none hP) H1 locs ls hl (hP.up ⟨_, hc, (u_born ty hts hin hKn hkC e1 hty).to hfs⟩ (fun q _ hq => o1 q hq)) (hD.up (xF_new hS)) ⟨Nat.le_trans hS.1 (by omega), fun x h1 h2 => (o1 x (Nat.lt_of_lt_of_le h1 hS.1)).trans (hS.2.1 x h1 h2), hS.2.2⟩
end FWR
