section FWR2
variable {T : fw_T} {G : fw_G} {X : fw_X} {w : fw_W} {k n : Nat}
/-- the array type t of the world's is of class C -/
def fw_ar (T : fw_T) (t : Nat) (ty : FieldType) : Prop := (T.2.2[t]?).map Prod.snd = some ty
theorem fw_ar_at {t : Nat} {ty : FieldType} (h : fw_ar T t ty) : T.2.2[t]? = some (fw_c T t, ty) := by
  unfold fw_ar at h
  unfold fw_c
  cases hq : T.2.2[t]? with
  | none => rw [hq] at h; cases h
  | some q =>
    rw [hq] at h
    obtain ⟨c, ty'⟩ := q
    cases h
    rfl
theorem fw_P.one {a : Nat} {e : fw_E} {H : Heap} (hP : fw_P T w H) (hw : w a = some e) : va_P T.1 T.2.1 [(a, fw_e T e)] H := fun j q hj => by
  cases j with
  | zero => cases hj; exact hP a _ hw
  | succ j => cases hj
theorem j_aald (C : fw_ok T G X) {pc pc' len nx tg t N a : Nat} {v i : Int32} {Cn : String} {f : Nat → Option Nat} {L L' : List (Option fw_V)} {S S' : List fw_V} (h : fw_go (fw_from (gT G) pc) L S = some ((pc', .aaload, len, nx, tg, v), L', .inl i :: .inr (some a) :: S')) (hw : w a = some (.inl (t, N, .inr f))) (ht : fw_ar T t (.object Cn)) (hin : vp_in i N)
    (kk : J T G X nx L' (.inr (f i.toNatClampNeg) :: S') w k n) : J T G X pc L S w k n := by
  obtain ⟨⟨hd, hn, hlen, -⟩, hrun⟩ := fw_run (w := w) (k := k) (n := n) C h
  refine hrun ?_
  obtain ⟨⟨hx, hb, hml, ho, hts⟩, ⟨hK, -⟩, -⟩ := C
  simp only [fw_len] at hlen; subst hlen; subst hn
  intro H locs ls hl hP hD hS
  exact va_aldq hx hb hK (hP.one hw) 0 t rfl (fw_ar_at ht) hin hd (kk H locs ls hl hP hD hS)
theorem j_iald (C : fw_ok T G X) {pc pc' len nx tg t N a : Nat} {v i : Int32} {f : Nat → Int32} {L L' : List (Option fw_V)} {S S' : List fw_V} (h : fw_go (fw_from (gT G) pc) L S = some ((pc', .iaload, len, nx, tg, v), L', .inl i :: .inr (some a) :: S')) (hw : w a = some (.inl (t, N, .inl f))) (ht : fw_ar T t .int) (hin : vp_in i N)
    (kk : J T G X nx L' (.inl (f i.toNatClampNeg) :: S') w k n) : J T G X pc L S w k n := by
  obtain ⟨⟨hd, hn, hlen, -⟩, hrun⟩ := fw_run (w := w) (k := k) (n := n) C h
  refine hrun ?_
  obtain ⟨⟨hx, hb, hml, ho, hts⟩, ⟨hK, -⟩, -⟩ := C
  simp only [fw_len] at hlen; subst hlen; subst hn
  intro H locs ls hl hP hD hS
  exact va_iald hx hb hK (hP.one hw) 0 t rfl (fw_ar_at ht) hin hd (kk H locs ls hl hP hD hS)
theorem j_iast (C : fw_ok T G X) {pc pc' len nx tg t N a : Nat} {v i x : Int32} {f : Nat → Int32} {L L' : List (Option fw_V)} {S S' : List fw_V} (h : fw_go (fw_from (gT G) pc) L S = some ((pc', .iastore, len, nx, tg, v), L', .inl x :: .inl i :: .inr (some a) :: S')) (hw : w a = some (.inl (t, N, .inl f))) (ht : fw_ar T t .int) (hin : vp_in i N)
    (kk : J T G X nx L' S' (va_up w a (some (.inl (t, N, .inl (va_up f i.toNatClampNeg x))))) k n) : J T G X pc L S w k n := by
  obtain ⟨⟨hd, hn, hlen, -⟩, hrun⟩ := fw_run (w := w) (k := k) (n := n) C h
  refine hrun ?_
  obtain ⟨⟨hx, hb, hml, ho, hts⟩, ⟨hK, -⟩, -⟩ := C
  simp only [fw_len] at hlen; subst hlen; subst hn
  intro H locs ls hl hP hD hS
  refine W.iast hx hb (hP a _ hw) ((hK.2 t _ (fw_ar_at ht)).1 N (fun j => .int (f j))) (fun q => by cases q) (by show ¬ (i < 0 ∨ (arrV _ _ _).slots.size ≤ _); rw [arrV_size]; exact hin) rfl rfl hd fun H1 e z oq => ?_
  refine kk H1 _ ls hl (hP.up ?_ (fun q hq _ => oq q hq)) (hD.up (hD a _ hw)) (hS.put z oq (hD a _ hw))
  show H1[a]? = some (vp_cell _ _)
  rw [e]
  dsimp only
  rw [vp_cell_i, vp_cell_i, arrV_store]
  congr 2
  funext q
  by_cases hq : q = i.toNatClampNeg
  · subst hq
    simp [updV, va_up]
  · simp [updV, va_up, hq]
/-- what may be put into an array of class C: nothing, or an object of the world's class ci, which is C -/
def fw_put (T : fw_T) (w : fw_W) (Cn : String) (r : Option Nat) : Prop := r = none ∨ ∃ (b ci N : Nat) (Tb : u_T) (fs : List fw_V), r = some b ∧ w b = some (.inr (ci, fs)) ∧ T.2.1[ci]? = some (Cn, Tb, N)
theorem j_aast (C : fw_ok T G X) {pc pc' len nx tg t N a : Nat} {v i : Int32} {r : Option Nat} {Cn : String} {f : Nat → Option Nat} {L L' : List (Option fw_V)} {S S' : List fw_V} (h : fw_go (fw_from (gT G) pc) L S = some ((pc', .aastore, len, nx, tg, v), L', .inr r :: .inl i :: .inr (some a) :: S')) (hw : w a = some (.inl (t, N, .inr f))) (ht : fw_ar T t (.object Cn)) (hin : vp_in i N) (hr : fw_put T w Cn r)
    (kk : J T G X nx L' S' (va_up w a (some (.inl (t, N, .inr (va_up f i.toNatClampNeg r))))) k n) : J T G X pc L S w k n := by
  obtain ⟨⟨hd, hn, hlen, -⟩, hrun⟩ := fw_run (w := w) (k := k) (n := n) C h
  refine hrun ?_
  obtain ⟨⟨hx, hb, hml, ho, hts⟩, ⟨hK, -⟩, -⟩ := C
  simp only [fw_len] at hlen; subst hlen; subst hn
  intro H locs ls hl hP hD hS
  have hlt : i.toNatClampNeg < N := Nat.not_le.mp fun q => hin (Or.inr q)
  have h0 : ¬ i < 0 := fun q => hin (Or.inl q)
  have key : ∀ (r : Option Nat) (H1 : Heap), H1[a]? = some ((vp_cell (fw_c T t) (N, .inr (.inr (.inr (.inr f))))).setSlot i.toNatClampNeg (va_rf r)) → va_at T.1 T.2.1 (a, fw_e T (.inl (t, N, .inr (va_up f i.toNatClampNeg r)))) H1 := by
    intro r H1 e
    show H1[a]? = some (vp_cell _ _)
    rw [e]
    dsimp only
    rw [vp_cell_q, vp_cell_q, arrV_store]
    congr 2
    funext q
    by_cases hq : q = i.toNatClampNeg
    · subst hq
      simp [updV, va_up]
    · simp [updV, va_up, hq]
  rcases hr with rfl | ⟨b, ci, N2, Tb, fs, rfl, hwb, hc⟩
  · refine va_WaastN (C := Cn) hx hb (hP a _ hw) ((hK.2 t _ (fw_ar_at ht)).1 N (fun j => va_rf (f j))) (fun h => by cases h) (by show ¬ (i < 0 ∨ (arrV _ _ _).slots.size ≤ _); rw [arrV_size]; exact hin) rfl rfl hd fun H1 e z oq => ?_
    exact kk H1 _ ls hl (hP.up (key none H1 e) (fun q hq _ => oq q hq)) (hD.up (hD a _ hw)) (hS.put z oq (hD a _ hw))
  · obtain ⟨r', hr', cellV, g1, g2, g3, -⟩ := hP b _ hwb
    have hcls := (hK.1 ci _ hc).2
    obtain ⟨kA, comp, k1, k2, k3, -⟩ := (hK.2 t _ (fw_ar_at ht)).2
    have hcomp : comp = T.1.1 ci := Option.some.inj (k3.symm.trans hcls.1)
    subst hcomp
    obtain ⟨kC, hkC, -⟩ := hcls.2
    refine W.aast hx hb (hP a _ hw) (fun q h => by cases h) (fun h => by cases h) k1 k2 rfl hkC ⟨h0, by show _ < (arrV _ _ _).slots.size; rw [arrV_size]; exact hlt⟩ g1 (fun q h => by rw [g3] at h; cases h) (by rw [g2]; exact hkC) (by rw [g2]; exact va_assign hcls) rfl rfl hd fun H1 e z oq => ?_
    exact kk H1 _ ls hl (hP.up (key (some b) H1 e) (fun q hq _ => oq q hq)) (hD.up (hD a _ hw)) (hS.put z oq (hD a _ hw))
theorem j_alen (C : fw_ok T G X) {pc pc' len nx tg t a N : Nat} {v : Int32} {f : (Nat → Int32) ⊕ (Nat → Option Nat)} {ty : FieldType} {L L' : List (Option fw_V)} {S S' : List fw_V} (h : fw_go (fw_from (gT G) pc) L S = some ((pc', .arraylength, len, nx, tg, v), L', .inr (some a) :: S')) (hw : w a = some (.inl (t, N, f))) (ht : fw_ar T t ty)
    (kk : J T G X nx L' (.inl (Int32.ofNat N) :: S') w k n) : J T G X pc L S w k n := by
  obtain ⟨⟨hd, hn, hlen, -⟩, hrun⟩ := fw_run (w := w) (k := k) (n := n) C h
  refine hrun ?_
  obtain ⟨⟨hx, hb, hml, ho, hts⟩, ⟨hK, -⟩, -⟩ := C
  simp only [fw_len] at hlen; subst hlen; subst hn
  intro H locs ls hl hP hD hS
  rcases f with f | f
  · exact va_alen hx hb hK (hP.one hw) 0 t (x := (N, .inl f)) rfl (fw_ar_at ht) rfl hd (kk H locs ls hl hP hD hS)
  · exact va_alen hx hb hK (hP.one hw) 0 t (x := (N, .inr (.inr (.inr (.inr f))))) rfl (fw_ar_at ht) rfl hd (kk H locs ls hl hP hD hS)
theorem j_newq (C : fw_ok T G X) {pc pc' len nx tg idx t N : Nat} {v x : Int32} {Cn : String} {L L' : List (Option fw_V)} {S S' : List fw_V} (h : fw_go (fw_from (gT G) pc) L S = some ((pc', .anewarray idx, len, nx, tg, v), L', .inl x :: S')) (ht : fw_ar T t (.object Cn)) (hw1 : Jvm.Cond.classLink (gO G) idx Cn ∈ gW G) (hw2 : Cn ∈ fw_AL) (hx0 : ¬ x < 0) (hxN : x.toNatClampNeg = N) (hby : N * 4 ≤ 536870912) (hcl : k + 1 ≤ (gR G).cells) (hsl : n + N ≤ (gR G).slots)
    (kk : ∀ q : Nat, w q = none → J T G X nx L' (.inr (some q) :: S') (va_up w q (some (.inl (t, N, .inr (fun _ => none))))) (k + 1) (n + N)) : J T G X pc L S w k n := by
  obtain ⟨⟨hd, hn, hlen, -⟩, hrun⟩ := fw_run (w := w) (k := k) (n := n) C h
  refine hrun ?_
  obtain ⟨⟨hx, hb, hml, ho, hts⟩, ⟨hK, -, -, hAO⟩, -⟩ := C
  simp only [fw_len] at hlen; subst hlen; subst hn; subst hxN
  intro H locs ls hl hP hD hS
  refine W.anew hx hb ho (hts _ hw1) (va_AO.use (hAO Cn hw2)) rfl hd rfl hx0 hby hcl hsl fun cA kA comp f1 f2 f3 f4 => ?_
  generalize hH1 : H.push ({ cls := cA, slots := Array.replicate x.toNatClampNeg .null, vm := .none } : Cell) = H1
  have z1 : H1.size = H.size + 1 := by rw [← hH1, Array.size_push]
  have e1 : H1[H.size]? = some (arrV cA x.toNatClampNeg (fun _ => .null)) := by rw [← hH1, Array.getElem?_push_size, ← arrV_new]
  have o1 : ∀ q : Nat, q < H.size → H1[q]? = H[q]? := fun q hq => by rw [← hH1, Array.getElem?_push, if_neg (Nat.ne_of_lt hq)]
  have hcA : cA = fw_c T t := by
    obtain ⟨_, _, _, _, _, k4⟩ := (hK.2 t _ (fw_ar_at ht)).2
    exact Option.some.inj (f1.symm.trans k4)
  refine kk H.size (fw_none hP) H1 locs ls hl (hP.up ?_ (fun q _ hq => o1 q hq)) (hD.up (xF_new hS)) ⟨Nat.le_trans hS.1 (by omega), fun q h1 h2 => (o1 q (Nat.lt_of_lt_of_le h1 hS.1)).trans (hS.2.1 q h1 h2), hS.2.2⟩
  show H1[H.size]? = some (vp_cell _ _)
  rw [e1, hcA]
  rfl
theorem j_newi (C : fw_ok T G X) {pc pc' len nx tg t N : Nat} {v x : Int32} {L L' : List (Option fw_V)} {S S' : List fw_V} (h : fw_go (fw_from (gT G) pc) L S = some ((pc', .newarray .int, len, nx, tg, v), L', .inl x :: S')) (ht : fw_ar T t .int) (hw1 : Jvm.Cond.arrayClass .int ∈ gW G) (hx0 : ¬ x < 0) (hxN : x.toNatClampNeg = N) (hby : N * 4 ≤ 536870912) (hcl : k + 1 ≤ (gR G).cells) (hsl : n + N ≤ (gR G).slots)
    (kk : ∀ q : Nat, w q = none → J T G X nx L' (.inr (some q) :: S') (va_up w q (some (.inl (t, N, .inl (fun _ => 0))))) (k + 1) (n + N)) : J T G X pc L S w k n := by
  obtain ⟨⟨hd, hn, hlen, -⟩, hrun⟩ := fw_run (w := w) (k := k) (n := n) C h
  refine hrun ?_
  obtain ⟨⟨hx, hb, hml, ho, hts⟩, ⟨hK, -⟩, -⟩ := C
  simp only [fw_len] at hlen; subst hlen; subst hn; subst hxN
  intro H locs ls hl hP hD hS
  refine va_newaK hx hb (atype := .int) (hts _ hw1) rfl hd rfl hx0 rfl hby hcl hsl rfl fun H1 cA e1 z1 o1 hAr hNm => ?_
  have hcA : cA = fw_c T t := by
    have k4 := (hK.2 t _ (fw_ar_at ht)).2
    exact Option.some.inj (hNm.symm.trans k4)
  refine kk H.size (fw_none hP) H1 locs ls hl (hP.up ?_ (fun q _ hq => o1 q hq)) (hD.up (xF_new hS)) ⟨Nat.le_trans hS.1 (by omega), fun q h1 h2 => (o1 q (Nat.lt_of_lt_of_le h1 hS.1)).trans (hS.2.1 q h1 h2), hS.2.2⟩
  show H1[H.size]? = some (vp_cell _ _)
  rw [e1, hcA]
  rfl
def fw_cmp (c : Jvm.ClassFile.Cond) (x y : Int32) : Prop := match c with
  | .eq => x = y
  | .ne => ¬ x = y
  | .lt => x < y
  | .ge => y ≤ x
  | .gt => y < x
  | .le => x ≤ y
theorem j_if (C : fw_ok T G X) {pc pc' len nx tg : Nat} {v x : Int32} {cd : Jvm.ClassFile.Cond} {o : Int} {L L' : List (Option fw_V)} {S S' : List fw_V} (h : fw_go (fw_from (gT G) pc) L S = some ((pc', .ifCond cd o, len, nx, tg, v), L', .inl x :: S'))
    (kt : fw_cmp cd x 0 → J T G X tg L' S' w k n) (kf : ¬ fw_cmp cd x 0 → J T G X nx L' S' w k n) : J T G X pc L S w k n := by
  obtain ⟨⟨hd, hn, hlen, htg⟩, hrun⟩ := fw_run (w := w) (k := k) (n := n) C h
  refine hrun ?_
  obtain ⟨⟨hx, hb, hml, ho, hts⟩, ⟨hK, -⟩, -⟩ := C
  simp only [fw_len] at hlen; subst hlen; subst hn
  have htg2 : (pc' : Int) + o = (tg : Int) := of_decide_eq_true htg
  intro H locs ls hl hP hD hS
  cases cd
  · exact lv_if_eq hx hb hd htg2 (fun q => kt q H locs ls hl hP hD hS) (fun q => kf q H locs ls hl hP hD hS)
  · exact lv_if_ne hx hb hd htg2 (fun q => kt q H locs ls hl hP hD hS) (fun q => kf (fun z => z q) H locs ls hl hP hD hS)
  · exact lv_if_lt hx hb hd htg2 (fun q => kt q H locs ls hl hP hD hS) (fun q => kf q H locs ls hl hP hD hS)
  · exact lv_if_ge hx hb hd htg2 (fun q => kt q H locs ls hl hP hD hS) (fun q => kf q H locs ls hl hP hD hS)
  · exact lv_if_gt hx hb hd htg2 (fun q => kt q H locs ls hl hP hD hS) (fun q => kf q H locs ls hl hP hD hS)
  · exact lv_if_le hx hb hd htg2 (fun q => kt q H locs ls hl hP hD hS) (fun q => kf q H locs ls hl hP hD hS)
theorem j_icmp (C : fw_ok T G X) {pc pc' len nx tg : Nat} {v x y : Int32} {cd : Jvm.ClassFile.Cond} {o : Int} {L L' : List (Option fw_V)} {S S' : List fw_V} (h : fw_go (fw_from (gT G) pc) L S = some ((pc', .if_icmp cd o, len, nx, tg, v), L', .inl y :: .inl x :: S'))
    (kt : fw_cmp cd x y → J T G X tg L' S' w k n) (kf : ¬ fw_cmp cd x y → J T G X nx L' S' w k n) : J T G X pc L S w k n := by
  obtain ⟨⟨hd, hn, hlen, htg⟩, hrun⟩ := fw_run (w := w) (k := k) (n := n) C h
  refine hrun ?_
  obtain ⟨⟨hx, hb, hml, ho, hts⟩, ⟨hK, -⟩, -⟩ := C
  simp only [fw_len] at hlen; subst hlen; subst hn
  have htg2 : (pc' : Int) + o = (tg : Int) := of_decide_eq_true htg
  intro H locs ls hl hP hD hS
  cases cd
  · exact lv_icmp_eq hx hb hd htg2 (fun q => kt q H locs ls hl hP hD hS) (fun q => kf q H locs ls hl hP hD hS)
  · exact lv_icmp_ne hx hb hd htg2 (fun q => kt q H locs ls hl hP hD hS) (fun q => kf (fun z => z q) H locs ls hl hP hD hS)
  · exact lv_icmp_lt hx hb hd htg2 (fun q => kt q H locs ls hl hP hD hS) (fun q => kf q H locs ls hl hP hD hS)
  · exact lv_icmp_ge hx hb hd htg2 (fun q => kt q H locs ls hl hP hD hS) (fun q => kf q H locs ls hl hP hD hS)
  · exact lv_icmp_gt hx hb hd htg2 (fun q => kt q H locs ls hl hP hD hS) (fun q => kf q H locs ls hl hP hD hS)
  · exact lv_icmp_le hx hb hd htg2 (fun q => kt q H locs ls hl hP hD hS) (fun q => kf q H locs ls hl hP hD hS)
def fw_acmp (c : Jvm.ClassFile.ACond) (x y : Option Nat) : Prop := match c with
  | .eq => x = y
  | .ne => ¬ x = y
theorem j_acmp (C : fw_ok T G X) {pc pc' len nx tg : Nat} {v : Int32} {x y : Option Nat} {cd : Jvm.ClassFile.ACond} {o : Int} {L L' : List (Option fw_V)} {S S' : List fw_V} (h : fw_go (fw_from (gT G) pc) L S = some ((pc', .if_acmp cd o, len, nx, tg, v), L', .inr y :: .inr x :: S'))
    (kt : fw_acmp cd x y → J T G X tg L' S' w k n) (kf : ¬ fw_acmp cd x y → J T G X nx L' S' w k n) : J T G X pc L S w k n := by
  obtain ⟨⟨hd, hn, hlen, htg⟩, hrun⟩ := fw_run (w := w) (k := k) (n := n) C h
  refine hrun ?_
  obtain ⟨⟨hx, hb, hml, ho, hts⟩, ⟨hK, -⟩, -⟩ := C
  simp only [fw_len] at hlen; subst hlen; subst hn
  have htg2 : (pc' : Int) + o = (tg : Int) := of_decide_eq_true htg
  intro H locs ls hl hP hD hS
  cases cd
  · exact lv_acmp_eq hx hb hd htg2 (fun q => kt q H locs ls hl hP hD hS) (fun q => kf q H locs ls hl hP hD hS)
  · exact lv_acmp_ne hx hb hd htg2 (fun q => kt q H locs ls hl hP hD hS) (fun q => kf (fun z => z q) H locs ls hl hP hD hS)
theorem j_ifnull (C : fw_ok T G X) {pc pc' len nx tg : Nat} {v : Int32} {x : Option Nat} {o : Int} {L L' : List (Option fw_V)} {S S' : List fw_V} (h : fw_go (fw_from (gT G) pc) L S = some ((pc', .ifnull o, len, nx, tg, v), L', .inr x :: S'))
    (kt : x = none → J T G X tg L' S' w k n) (kf : ∀ a, x = some a → J T G X nx L' S' w k n) : J T G X pc L S w k n := by
  obtain ⟨⟨hd, hn, hlen, htg⟩, hrun⟩ := fw_run (w := w) (k := k) (n := n) C h
  refine hrun ?_
  obtain ⟨⟨hx, hb, hml, ho, hts⟩, ⟨hK, -⟩, -⟩ := C
  simp only [fw_len] at hlen; subst hlen; subst hn
  have htg2 : (pc' : Int) + o = (tg : Int) := of_decide_eq_true htg
  intro H locs ls hl hP hD hS
  cases x with
  | none => exact lv_ifnullN hx hb hd htg2 (kt rfl H locs ls hl hP hD hS)
  | some a => exact lv_ifnull hx hb hd (kf a rfl H locs ls hl hP hD hS)
theorem j_ifnn (C : fw_ok T G X) {pc pc' len nx tg : Nat} {v : Int32} {x : Option Nat} {o : Int} {L L' : List (Option fw_V)} {S S' : List fw_V} (h : fw_go (fw_from (gT G) pc) L S = some ((pc', .ifnonnull o, len, nx, tg, v), L', .inr x :: S'))
    (kt : ∀ a, x = some a → J T G X tg L' S' w k n) (kf : x = none → J T G X nx L' S' w k n) : J T G X pc L S w k n := by
  obtain ⟨⟨hd, hn, hlen, htg⟩, hrun⟩ := fw_run (w := w) (k := k) (n := n) C h
  refine hrun ?_
  obtain ⟨⟨hx, hb, hml, ho, hts⟩, ⟨hK, -⟩, -⟩ := C
  simp only [fw_len] at hlen; subst hlen; subst hn
  have htg2 : (pc' : Int) + o = (tg : Int) := of_decide_eq_true htg
  intro H locs ls hl hP hD hS
  cases x with
  | none => exact lv_ifnonnullN hx hb hd (kf rfl H locs ls hl hP hD hS)
  | some a => exact lv_ifnonnull hx hb hd htg2 (kt a rfl H locs ls hl hP hD hS)
theorem j_goto (C : fw_ok T G X) {pc pc' len nx tg : Nat} {v : Int32} {o : Int} {L L' : List (Option fw_V)} {S S' : List fw_V} (h : fw_go (fw_from (gT G) pc) L S = some ((pc', .goto o, len, nx, tg, v), L', S'))
    (kt : J T G X tg L' S' w k n) : J T G X pc L S w k n := by
  obtain ⟨⟨hd, hn, hlen, htg⟩, hrun⟩ := fw_run (w := w) (k := k) (n := n) C h
  refine hrun ?_
  obtain ⟨⟨hx, hb, hml, ho, hts⟩, ⟨hK, -⟩, -⟩ := C
  simp only [fw_len] at hlen; subst hlen; subst hn
  have htg2 : (pc' : Int) + o = (tg : Int) := of_decide_eq_true htg
  intro H locs ls hl hP hD hS
  exact lv_goto hx hb hd htg2 (kt H locs ls hl hP hD hS)
/-- a table switch at a known number -/
theorem j_tsw (C : fw_ok T G X) {pc pc' len nx tg tgt : Nat} {v x : Int32} {d lo hi o : Int} {os : Array Int} {L L' : List (Option fw_V)} {S S' : List fw_V} (h : fw_go (fw_from (gT G) pc) L S = some ((pc', .tableswitch d lo hi os, len, nx, tg, v), L', .inl x :: S')) (h1 : ¬ x.toInt < lo) (h2 : ¬ hi < x.toInt) (ho : os[(x.toInt - lo).toNat]? = some o) (ht : (pc' : Int) + o = (tgt : Int))
    (kt : J T G X tgt L' S' w k n) : J T G X pc L S w k n := by
  obtain ⟨⟨hd, hn, hlen, -⟩, hrun⟩ := fw_run (w := w) (k := k) (n := n) C h
  refine hrun ?_
  obtain ⟨⟨hx, hb, hml, -, hts⟩, ⟨hK, -⟩, -⟩ := C
  intro H locs ls hl hP hD hS
  exact lv_tableIn hx hb hd h1 h2 ho ht (kt H locs ls hl hP hD hS)
theorem j_tsd (C : fw_ok T G X) {pc pc' len nx tg tgt : Nat} {v x : Int32} {d lo hi : Int} {os : Array Int} {L L' : List (Option fw_V)} {S S' : List fw_V} (h : fw_go (fw_from (gT G) pc) L S = some ((pc', .tableswitch d lo hi os, len, nx, tg, v), L', .inl x :: S')) (h1 : x.toInt < lo ∨ hi < x.toInt) (ht : (pc' : Int) + d = (tgt : Int))
    (kt : J T G X tgt L' S' w k n) : J T G X pc L S w k n := by
  obtain ⟨⟨hd, hn, hlen, -⟩, hrun⟩ := fw_run (w := w) (k := k) (n := n) C h
  refine hrun ?_
  obtain ⟨⟨hx, hb, hml, -, hts⟩, ⟨hK, -⟩, -⟩ := C
  intro H locs ls hl hP hD hS
  exact lv_tableOut hx hb hd h1 ht (kt H locs ls hl hP hD hS)
theorem j_lsw (C : fw_ok T G X) {pc pc' len nx tg tgt : Nat} {v x : Int32} {d o : Int} {ps : Array (Int × Int)} {L L' : List (Option fw_V)} {S S' : List fw_V} (h : fw_go (fw_from (gT G) pc) L S = some ((pc', .lookupswitch d ps, len, nx, tg, v), L', .inl x :: S')) (hp : (ps.toList.zip (ps.toList.drop 1)).all (fun (a, next) => a.1 < next.1) = true) (ho : Op.lookupswitch.offset ps.toList d x.toInt = o) (ht : (pc' : Int) + o = (tgt : Int))
    (kt : J T G X tgt L' S' w k n) : J T G X pc L S w k n := by
  obtain ⟨⟨hd, hn, hlen, -⟩, hrun⟩ := fw_run (w := w) (k := k) (n := n) C h
  refine hrun ?_
  obtain ⟨⟨hx, hb, hml, -, hts⟩, ⟨hK, -⟩, -⟩ := C
  intro H locs ls hl hP hD hS
  exact lv_lookup hx hb hd hp ho ht (kt H locs ls hl hP hD hS)
/-- more may be counted -/
theorem j_wide {pc k2 n2 : Nat} {L : List (Option fw_V)} {S : List fw_V} (h1 : k ≤ k2) (h2 : n ≤ n2) (kk : J T G X pc L S w k2 n2) : J T G X pc L S w k n :=
  fun H locs ls hl hP hD hS => W.widen h1 h2 (kk H locs ls hl hP hD hS)
theorem fw_end {post : Option fw_V → fw_W → Prop} {H : Heap} {locs : List Loc} {t : State} (r : Option fw_V) (hq : post r w) (hK : fw_K T (xS X)) (hP : fw_P T w H) (hD : fw_D (xF X) w) (hS : va_S (xF X) (xS X).heap H locs) (ht : t.heap = H) (hW : (xS X).WarmedH t.vm) : fw_Qc T (xW X) (xS X).heap.size post (xA X) (xS X) (.returned (r.map fw_v)) t :=
  ⟨⟨r, w, rfl, hq, by rw [ht]; exact hP, fw_K.moved hW hK, hD⟩, hS.F ht⟩
theorem j_iret {post : Option fw_V → fw_W → Prop} (C : fw_ok T G X) (E : fw_ends T G X post) {pc pc' len nx tg : Nat} {v x : Int32} {L L' : List (Option fw_V)} {S : List fw_V} (h : fw_go (fw_from (gT G) pc) L S = some ((pc', .ireturn, len, nx, tg, v), L', [.inl x])) (hr : gA G = some .int ∨ (gA G = some .boolean ∧ (x = 0 ∨ x = 1))) (h1 : k ≤ (gR G).cells) (h2 : n ≤ (gR G).slots) (hq : post (some (.inl x)) w) : J T G X pc L S w k n := by
  obtain ⟨⟨hd, hn, hlen, -⟩, hrun⟩ := fw_run (w := w) (k := k) (n := n) C h
  refine hrun (j_wide h1 h2 ?_)
  obtain ⟨⟨hx, hb, hml, ho, hts⟩, hK, hret, hlocks, -⟩ := C
  simp only [fw_len] at hlen; subst hlen; subst hn
  intro H locs ls hl hP hD hS
  rw [show xQ X = _ from E]
  rcases hr with hr | ⟨hr, h01⟩
  · exact W.iret hx hb (hret.trans hr) (fun t ht hW => fw_end (some (.inl x)) hq hK hP hD hS ht hW) hS.2.2 hd hlocks
  · exact W.zret hx hb (hret.trans hr) (by rcases h01 with rfl | rfl <;> decide) (fun t ht hW => fw_end (some (.inl x)) hq hK hP hD hS ht hW) hS.2.2 hd hlocks
theorem j_aret {post : Option fw_V → fw_W → Prop} (C : fw_ok T G X) (E : fw_ends T G X post) {pc pc' len nx tg : Nat} {v : Int32} {x : Option Nat} {Cn : String} {L L' : List (Option fw_V)} {S : List fw_V} (h : fw_go (fw_from (gT G) pc) L S = some ((pc', .areturn, len, nx, tg, v), L', [.inr x])) (hr : gA G = some (.object Cn)) (h1 : k ≤ (gR G).cells) (h2 : n ≤ (gR G).slots) (hq : post (some (.inr x)) w) : J T G X pc L S w k n := by
  obtain ⟨⟨hd, hn, hlen, -⟩, hrun⟩ := fw_run (w := w) (k := k) (n := n) C h
  refine hrun (j_wide h1 h2 ?_)
  obtain ⟨⟨hx, hb, hml, ho, hts⟩, hK, hret, hlocks, -⟩ := C
  simp only [fw_len] at hlen; subst hlen; subst hn
  intro H locs ls hl hP hD hS
  rw [show xQ X = _ from E]
  exact W.aret (v := va_rf x) hx hb (hret.trans hr) (Or.inl ⟨_, rfl⟩) (va_rf_or x) (fun t ht hW => fw_end (some (.inr x)) hq hK hP hD hS ht hW) hS.2.2 hd hlocks
theorem j_vret {post : Option fw_V → fw_W → Prop} (C : fw_ok T G X) (E : fw_ends T G X post) {pc pc' len nx tg : Nat} {v : Int32} {L L' : List (Option fw_V)} {S : List fw_V} (h : fw_go (fw_from (gT G) pc) L S = some ((pc', .return_, len, nx, tg, v), L', [])) (hr : gA G = none) (h1 : k ≤ (gR G).cells) (h2 : n ≤ (gR G).slots) (hq : post none w) : J T G X pc L S w k n := by
  obtain ⟨⟨hd, hn, hlen, -⟩, hrun⟩ := fw_run (w := w) (k := k) (n := n) C h
  refine hrun (j_wide h1 h2 ?_)
  obtain ⟨⟨hx, hb, hml, ho, hts⟩, hK, hret, hlocks, -⟩ := C
  simp only [fw_len] at hlen; subst hlen; subst hn
  intro H locs ls hl hP hD hS
  rw [show xQ X = _ from E]
  exact W.vret hx hb (hret.trans hr) (fun t ht hW => fw_end none hq hK hP hD hS ht hW) hS.2.2 hd hlocks
/-- Object's constructor -/
theorem j_obj (C : fw_ok T G X) {pc pc' len nx tg idx a : Nat} {v : Int32} {L L' : List (Option fw_V)} {S S' : List fw_V} (h : fw_go (fw_from (gT G) pc) L S = some ((pc', .invokespecial idx, len, nx, tg, v), L', .inr (some a) :: S')) (hw1 : Jvm.Cond.methodLink (gO G) idx objectInit ∈ gW G) (hw2 : Jvm.Cond.instanceMethod objectInit ∈ gW G) (hw3 : Jvm.Cond.code objectInit ⟨#[0xb1]⟩ 1 none ∈ gW G) (hfr : 1 ≤ (gR G).frames) (hlo : S'.length + 12 ≤ (gR G).locals)
    (kk : J T G X nx L' S' w k n) : J T G X pc L S w k n := by
  obtain ⟨⟨hd, hn, hlen, -⟩, hrun⟩ := fw_run (w := w) (k := k) (n := n) C h
  refine hrun ?_
  obtain ⟨⟨hx, hb, hml, ho, hts⟩, ⟨hK, -⟩, -⟩ := C
  simp only [fw_len] at hlen; subst hlen; subst hn
  intro H locs ls hl hP hD hS
  have hsum : ∀ (S : List fw_V), ((S.map fw_v).map fun v => v.category).sum = S.length := by
    intro S
    induction S with
    | nil => rfl
    | cons v S ih => simp only [List.map_cons, List.sum_cons, List.length_cons, ih, fw_cat]; omega
  obtain ⟨l0, hl1, hl2, hl3⟩ := hl
  refine W.objInit hx hb ho (hts _ hw1) (hts _ hw2) (hts _ hw3) rfl (by rw [hml]; exact hl1.1) rfl hd hfr ?_ (kk H locs ls ⟨l0, hl1, hl2, hl3⟩ hP hD hS)
  rw [hsum]
  show 2 * (F0 (xM X) pc' ls _).monitorRoom + _ + 12 ≤ _
  have : (F0 (xM X) pc' ls ((Sum.inr (some a) :: S').map fw_v)).monitorRoom = 0 := rfl
  omega
end FWR2
