/-! The reference's objects: ints by the number of their field, arrays of ints by the number of theirs. -/
abbrev Md : Type := (Nat → Int32) × (Nat → Nat → Int32)
def dInt (f : Nat) : Bool := f == 0 || f == 11 || f == 15 || f == 27 || f == 28
def dZ (f : Nat) : Bool := f == 6 || f == 21
def dTy (f : Nat) : Nat := if dZ f = true then aZ else aI
def dLen (f : Nat) : Nat := if f < 9 then 40 else if f < 11 then 160 else if f < 25 then 200 else 1600
def dFs (A : Nat → Nat) (M : Nat → Int32) : List fw_V := [.inl (M 0), .inr (some (A 1)), .inr (some (A 2)), .inr (some (A 3)), .inr (some (A 4)), .inr (some (A 5)), .inr (some (A 6)), .inr (some (A 7)), .inr (some (A 8)), .inr (some (A 9)), .inr (some (A 10)), .inl (M 11), .inr (some (A 12)), .inr (some (A 13)), .inr (some (A 14)), .inl (M 15), .inr (some (A 16)), .inr (some (A 17)), .inr (some (A 18)), .inr (some (A 19)), .inr (some (A 20)), .inr (some (A 21)), .inr (some (A 22)), .inr (some (A 23)), .inr (some (A 24)), .inr (some (A 25)), .inr (some (A 26)), .inl (M 27), .inl (M 28)]
def RepD (w : fw_W) (b : Nat) (A : Nat → Nat) (M : Md) : Prop :=
  w b = some (.inr (kD, dFs A M.1)) ∧ (∀ f, f < 29 → dInt f = false → w (A f) = some (.inl (dTy f, dLen f, .inl (M.2 f)))) ∧ ∀ f f', f < 29 → f' < 29 → dInt f = false → dInt f' = false → A f = A f' → f = f'
theorem dFs_up (A : Nat → Nat) (M : Nat → Int32) {f : Nat} (hf : f < 29) (hi : dInt f = true) (x : Int32) : (dFs A M).set f (.inl x) = dFs A (va_up M f x) := by
  rcases (show f = 0 ∨ f = 11 ∨ f = 15 ∨ f = 27 ∨ f = 28 by
    simp only [dInt, Bool.or_eq_true, beq_iff_eq] at hi; omega) with rfl | rfl | rfl | rfl | rfl <;> simp [dFs, va_up]
theorem RepD.put {w : fw_W} {b : Nat} {A : Nat → Nat} {M : Md} (R : RepD w b A M) {f : Nat} (hf : f < 29) (hi : dInt f = true) (x : Int32) : RepD (va_up w b (some (.inr (kD, (dFs A M.1).set f (.inl x))))) b A (va_up M.1 f x, M.2) := by
  rw [dFs_up A M.1 hf hi]
  exact ⟨va_up_self _ _ _, fun g hg hgi => up_ne R.1 (R.2.1 g hg hgi) (fun h => by cases h), R.2.2⟩
theorem RepD.ast {w : fw_W} {b : Nat} {A : Nat → Nat} {M : Md} (R : RepD w b A M) {f : Nat} (hf : f < 29) (hi : dInt f = false) (g : Nat → Int32) : RepD (va_up w (A f) (some (.inl (dTy f, dLen f, .inl g)))) b A (M.1, va_up M.2 f g) := by
  refine ⟨up_ne (R.2.1 f hf hi) R.1 (fun h => by cases h), fun f' hf' hi' => ?_, R.2.2⟩
  by_cases h : f' = f
  · subst h
    show va_up w (A f') _ (A f') = some (.inl (dTy f', dLen f', .inl (va_up M.2 f' g f')))
    rw [va_up_self, va_up_self]
  · show va_up w (A f) _ (A f') = some (.inl (dTy f', dLen f', .inl (va_up M.2 f g f')))
    rw [va_up_ne _ _ (fun e => h (R.2.2 f' f hf' hf hi' hi e)), va_up_ne _ _ h]
    exact R.2.1 f' hf' hi'
def dPost (b : Nat) (A : Nat → Nat) (post : Option fw_V → Md → Prop) : Option fw_V → fw_W → Prop := fun v w' => ∃ M', post v M' ∧ RepD w' b A M'
def CtD (l : Launch) (T : fw_T) (y : MethodName) (ws : List Jvm.Cond) (rm : Room) (b : Nat) (A : Nat → Nat) (av : List fw_V) (M : Md) (post : Option fw_V → Md → Prop) : Prop := ∀ w, RepD w b A M → Ct l T y ws rm av w (dPost b A post)
def JD (T : fw_T) (G : fw_G) (X : fw_X) (b : Nat) (A : Nat → Nat) (pc : Nat) (L : List (Option fw_V)) (S : List fw_V) (M : Md) : Prop := ∀ w, RepD w b A M → J T G X pc L S w 0 0
section DL
variable {T : fw_T} {G : fw_G} {X : fw_X} {b : Nat} {A : Nat → Nat} {M : Md} {pc pc' len nx tg : Nat} {v : Int32} {L L' : List (Option fw_V)} {S S' : List fw_V}
theorem j_zald (C : fw_ok T G X) {w : fw_W} {k n t N a : Nat} {i : Int32} {f : Nat → Int32} (h : fw_go (fw_from (gT G) pc) L S = some ((pc', .baload, len, nx, tg, v), L', .inl i :: .inr (some a) :: S')) (hw : w a = some (.inl (t, N, .inl f))) (ht : fw_ar T t .boolean) (q : Nat) (hi : i = nI q) (hq : q < N) (hN : N < 2147483648)
    (kk : J T G X nx L' (.inl (f q) :: S') w k n) : J T G X pc L S w k n := by
  subst hi
  obtain ⟨⟨hd, hn, hlen, -⟩, hrun⟩ := fw_run (w := w) (k := k) (n := n) C h
  refine hrun ?_
  obtain ⟨⟨hx, hb, hml, ho, hts⟩, ⟨hK, -⟩, -⟩ := C
  simp only [fw_len] at hlen; subst hlen; subst hn
  intro H locs ls hl hP hD hS
  have hin : vp_in (nI q) N := vp_in_nI hq (by omega)
  refine va_zald hx hb hK (hP.one hw) 0 t rfl (fw_ar_at ht) hin hd ?_
  rw [nI_clamp (by omega)]
  exact kk H locs ls hl hP hD hS
theorem j_zast (C : fw_ok T G X) {w : fw_W} {k n t N a : Nat} {i x : Int32} {f : Nat → Int32} (h : fw_go (fw_from (gT G) pc) L S = some ((pc', .bastore, len, nx, tg, v), L', .inl x :: .inl i :: .inr (some a) :: S')) (hw : w a = some (.inl (t, N, .inl f))) (ht : fw_ar T t .boolean) (q : Nat) (hi : i = nI q) (hq : q < N) (hN : N < 2147483648) (hx01 : x = 0 ∨ x = 1)
    (kk : J T G X nx L' S' (va_up w a (some (.inl (t, N, .inl (va_up f q x))))) k n) : J T G X pc L S w k n := by
  subst hi
  obtain ⟨⟨hd, hn, hlen, -⟩, hrun⟩ := fw_run (w := w) (k := k) (n := n) C h
  refine hrun ?_
  obtain ⟨⟨hx, hb, hml, ho, hts⟩, ⟨hK, -⟩, -⟩ := C
  simp only [fw_len] at hlen; subst hlen; subst hn
  intro H locs ls hl hP hD hS
  have hin : vp_in (nI q) N := vp_in_nI hq (by omega)
  have hnar : narrow .boolean (.int x) = .int x := by rcases hx01 with rfl | rfl <;> decide
  refine W.zast hx hb (hP a _ hw) ((hK.2 t _ (fw_ar_at ht)).1 N (fun j => .int (f j))) (fun q => by cases q) (by show ¬ (nI q < 0 ∨ (arrV _ _ _).slots.size ≤ _); rw [arrV_size]; exact hin) rfl rfl hd fun H1 e z oq => ?_
  rw [hnar] at e
  refine kk H1 _ ls hl (hP.up ?_ (fun q hq _ => oq q hq)) (hD.up (hD a _ hw)) (hS.put z oq (hD a _ hw))
  show H1[a]? = some (vp_cell _ _)
  rw [e]
  dsimp only
  rw [vp_cell_i, vp_cell_i, arrV_store, nI_clamp (by omega)]
  congr 2
  funext p
  by_cases hp : p = q
  · subst hp
    simp [updV, va_up]
  · simp [updV, va_up, hp]
theorem jd_get (C : fw_ok T G X) {idx f : Nat} {u : fw_V} (h : fw_go (fw_from (gT G) pc) L S = some ((pc', .getfield idx, len, nx, tg, v), L', .inr (some b) :: S')) (hf : fw_fl T G idx kD f) (hv : (dFs A M.1)[f]? = some u) (kk : JD T G X b A nx L' (u :: S') M) : JD T G X b A pc L S M :=
  fun w R => j_get C h hf R.1 hv (kk w R)
theorem jd_put (C : fw_ok T G X) {idx f : Nat} {x : Int32} (h : fw_go (fw_from (gT G) pc) L S = some ((pc', .putfield idx, len, nx, tg, v), L', .inl x :: .inr (some b) :: S')) (hf : fw_fp T G idx kD f .int false) (hf2 : f < 29) (hi : dInt f = true) (kk : JD T G X b A nx L' S' (va_up M.1 f x, M.2)) : JD T G X b A pc L S M :=
  fun w R => j_put C h hf R.1 (by show f < (dFs A M.1).length; exact hf2) (fit_i x) (kk _ (R.put hf2 hi x))
theorem jd_ald (C : fw_ok T G X) (hT : TOK T) {f : Nat} {i : Int32} (h : fw_go (fw_from (gT G) pc) L S = some ((pc', .iaload, len, nx, tg, v), L', .inl i :: .inr (some (A f)) :: S')) (hf : f < 29) (hi : dInt f = false) (hz : dZ f = false) (q : Nat) (hq : i = nI q) (hl : q < dLen f) (kk : JD T G X b A nx L' (.inl (M.2 f q) :: S') M) : JD T G X b A pc L S M :=
  fun w R => j_ialdI C h (R.2.1 f hf hi) (by unfold dTy; rw [hz]; exact hT.2.2.2.2.2.1) q hq hl (by unfold dLen; split <;> (try split) <;> (try split) <;> decide) (kk w R)
theorem jd_ast (C : fw_ok T G X) (hT : TOK T) {f : Nat} {i x : Int32} (h : fw_go (fw_from (gT G) pc) L S = some ((pc', .iastore, len, nx, tg, v), L', .inl x :: .inl i :: .inr (some (A f)) :: S')) (hf : f < 29) (hi : dInt f = false) (hz : dZ f = false) (q : Nat) (hq : i = nI q) (hl : q < dLen f) (kk : JD T G X b A nx L' S' (M.1, va_up M.2 f (va_up (M.2 f) q x))) : JD T G X b A pc L S M :=
  fun w R => j_iastI C h (R.2.1 f hf hi) (by unfold dTy; rw [hz]; exact hT.2.2.2.2.2.1) q hq hl (by unfold dLen; split <;> (try split) <;> (try split) <;> decide) (kk _ (R.ast hf hi _))
theorem jd_zld (C : fw_ok T G X) (hT : TOK T) {f : Nat} {i : Int32} (h : fw_go (fw_from (gT G) pc) L S = some ((pc', .baload, len, nx, tg, v), L', .inl i :: .inr (some (A f)) :: S')) (hf : f < 29) (hi : dInt f = false) (hz : dZ f = true) (q : Nat) (hq : i = nI q) (hl : q < dLen f) (kk : JD T G X b A nx L' (.inl (M.2 f q) :: S') M) : JD T G X b A pc L S M :=
  fun w R => j_zald C h (R.2.1 f hf hi) (by unfold dTy; rw [hz]; exact hT.2.2.2.2.2.2) q hq hl (by unfold dLen; split <;> (try split) <;> (try split) <;> decide) (kk w R)
theorem jd_zst (C : fw_ok T G X) (hT : TOK T) {f : Nat} {i x : Int32} (h : fw_go (fw_from (gT G) pc) L S = some ((pc', .bastore, len, nx, tg, v), L', .inl x :: .inl i :: .inr (some (A f)) :: S')) (hf : f < 29) (hi : dInt f = false) (hz : dZ f = true) (q : Nat) (hq : i = nI q) (hl : q < dLen f) (hx : x = 0 ∨ x = 1) (kk : JD T G X b A nx L' S' (M.1, va_up M.2 f (va_up (M.2 f) q x))) : JD T G X b A pc L S M :=
  fun w R => j_zast C h (R.2.1 f hf hi) (by unfold dTy; rw [hz]; exact hT.2.2.2.2.2.2) q hq hl (by unfold dLen; split <;> (try split) <;> (try split) <;> decide) hx (kk _ (R.ast hf hi _))
theorem jd_if (C : fw_ok T G X) {x : Int32} {cd : Jvm.ClassFile.Cond} {o : Int} (h : fw_go (fw_from (gT G) pc) L S = some ((pc', .ifCond cd o, len, nx, tg, v), L', .inl x :: S')) (kt : fw_cmp cd x 0 → JD T G X b A tg L' S' M) (kf : ¬ fw_cmp cd x 0 → JD T G X b A nx L' S' M) : JD T G X b A pc L S M := fun w R => j_if C h (fun z => kt z w R) (fun z => kf z w R)
theorem jd_icmp (C : fw_ok T G X) {x y : Int32} {cd : Jvm.ClassFile.Cond} {o : Int} (h : fw_go (fw_from (gT G) pc) L S = some ((pc', .if_icmp cd o, len, nx, tg, v), L', .inl y :: .inl x :: S')) (kt : fw_cmp cd x y → JD T G X b A tg L' S' M) (kf : ¬ fw_cmp cd x y → JD T G X b A nx L' S' M) : JD T G X b A pc L S M := fun w R => j_icmp C h (fun z => kt z w R) (fun z => kf z w R)
theorem jd_ifT (C : fw_ok T G X) {x : Int32} {cd : Jvm.ClassFile.Cond} {o : Int} (h : fw_go (fw_from (gT G) pc) L S = some ((pc', .ifCond cd o, len, nx, tg, v), L', .inl x :: S')) (hb : fw_cb cd x 0 = true) (kt : JD T G X b A tg L' S' M) : JD T G X b A pc L S M := fun w R => j_ifT C h hb (kt w R)
theorem jd_ifF (C : fw_ok T G X) {x : Int32} {cd : Jvm.ClassFile.Cond} {o : Int} (h : fw_go (fw_from (gT G) pc) L S = some ((pc', .ifCond cd o, len, nx, tg, v), L', .inl x :: S')) (hb : fw_cb cd x 0 = false) (kf : JD T G X b A nx L' S' M) : JD T G X b A pc L S M := fun w R => j_ifF C h hb (kf w R)
theorem jd_icmpT (C : fw_ok T G X) {x y : Int32} {cd : Jvm.ClassFile.Cond} {o : Int} (h : fw_go (fw_from (gT G) pc) L S = some ((pc', .if_icmp cd o, len, nx, tg, v), L', .inl y :: .inl x :: S')) (hb : fw_cb cd x y = true) (kt : JD T G X b A tg L' S' M) : JD T G X b A pc L S M := fun w R => j_icmpT C h hb (kt w R)
theorem jd_icmpF (C : fw_ok T G X) {x y : Int32} {cd : Jvm.ClassFile.Cond} {o : Int} (h : fw_go (fw_from (gT G) pc) L S = some ((pc', .if_icmp cd o, len, nx, tg, v), L', .inl y :: .inl x :: S')) (hb : fw_cb cd x y = false) (kf : JD T G X b A nx L' S' M) : JD T G X b A pc L S M := fun w R => j_icmpF C h hb (kf w R)
theorem jd_goto (C : fw_ok T G X) {o : Int} (h : fw_go (fw_from (gT G) pc) L S = some ((pc', .goto o, len, nx, tg, v), L', S')) (kt : JD T G X b A tg L' S' M) : JD T G X b A pc L S M := fun w R => j_goto C h (kt w R)
theorem jd_to (C : fw_ok T G X) (pc' : Nat) (h : fw_to (fw_from (gT G) pc) pc' L S = some (L', S')) (kk : JD T G X b A pc' L' S' M) : JD T G X b A pc L S M := fun w R => j_to C pc' h (kk w R)
theorem jd_iret {post : Option fw_V → Md → Prop} (C : fw_ok T G X) (E : fw_ends T G X (dPost b A post)) {x : Int32} (h : fw_go (fw_from (gT G) pc) L S = some ((pc', .ireturn, len, nx, tg, v), L', [.inl x])) (hr : gA G = some .int ∨ (gA G = some .boolean ∧ (x = 0 ∨ x = 1))) (hq : post (some (.inl x)) M) : JD T G X b A pc L S M := fun w R => j_iret C E h hr (Nat.zero_le _) (Nat.zero_le _) ⟨M, hq, R⟩
theorem jd_vret {post : Option fw_V → Md → Prop} (C : fw_ok T G X) (E : fw_ends T G X (dPost b A post)) (h : fw_go (fw_from (gT G) pc) L S = some ((pc', .return_, len, nx, tg, v), L', [])) (hr : gA G = none) (hq : post none M) : JD T G X b A pc L S M := fun w R => j_vret C E h hr (Nat.zero_le _) (Nat.zero_le _) ⟨M, hq, R⟩
theorem jd_call (C : fw_ok T G X) (hT : TOK T) {idx nA maxL : Nat} {S1 As : List fw_V} {y : MethodName} {bytes : ByteArray} {ret : Option FieldType} {ws : List Jvm.Cond} {rm : Room} {post2 : Option fw_V → Md → Prop} (h : fw_go (fw_from (gT G) pc) L S = some ((pc', .invokevirtual idx, len, nx, tg, v), L', S1)) (hc : fw_cV G idx y bytes maxL ret ws rm nA) (hM : CtD (xL X) T y ws rm b A (.inr (some b) :: As) M post2) (hS1 : S1 = As.reverse ++ .inr (some b) :: S') (hn : As.length = nA) (hy : y.cls = R_D) (hst : S'.length ≤ 8) (h0 : rm.cells = 0) (h1 : rm.slots = 0)
    (kk : ∀ (r : Option fw_V) (M' : Md), post2 r M' → JD T G X b A nx L' (r.toList ++ S') M') : JD T G X b A pc L S M := fun w R => by
  refine j_callV C h hc (hM w R) hS1 hn R.1 (Tb := F_D) (N := 29) (by rw [hT.1, hy]; rfl) hst (by rw [h0]; exact Nat.zero_le _) (by rw [h1]; exact Nat.zero_le _) ?_
  rintro r w' ⟨M', hp, R'⟩
  have := kk r M' hp w' R'
  rw [h0, h1]
  exact this
theorem jd_callS (C : fw_ok T G X) {idx nA maxL : Nat} {S1 As : List fw_V} {y : MethodName} {bytes : ByteArray} {ret : Option FieldType} {ws : List Jvm.Cond} {rm : Room} {r0 : Option fw_V} (h : fw_go (fw_from (gT G) pc) L S = some ((pc', .invokestatic idx, len, nx, tg, v), L', S1)) (hc : fw_cS G idx y bytes maxL ret ws rm nA) (hM : ∀ w, Ct (xL X) T y ws rm As w (fun r w' => w' = w ∧ r = r0)) (hS1 : S1 = As.reverse ++ S') (hn : As.length = nA) (hst : S'.length ≤ 8) (h0 : rm.cells = 0) (h1 : rm.slots = 0)
    (kk : JD T G X b A nx L' (r0.toList ++ S') M) : JD T G X b A pc L S M := fun w R => by
  refine j_callS C h hc (hM w) hS1 hn hst (by rw [h0]; exact Nat.zero_le _) (by rw [h1]; exact Nat.zero_le _) ?_
  rintro r w' ⟨rfl, rfl⟩
  rw [h0, h1]
  exact kk w' R
end DL
section DS
variable {T : fw_T} {w : fw_W} {b : Nat} {A : Nat → Nat} {M : Md}
/-- out: not below the limit -/
theorem m_D_out (l : Launch) (hT : TOK T) (x : Int32) (n : Nat) (hn : n < 2 ^ 31) : ∀ w : fw_W, Ct l T y_D_out W_D_out rm_D_out [.inl x, .inl (nI n)] w (fun r w' => w' = w ∧ r = some (.inl (bI (ixO n x).isNone))) := by
  intro w
  refine ct_D_out rfl (nle rfl) ?_
  intro X hl C E
  rcases ixO_cases n hn x with ⟨h, e⟩ | ⟨h0, h, e⟩ | ⟨i, hi, rfl, h0, h, e⟩ <;> rw [e] at E
  · refine j_ifT C rfl (fw_cb_iff.mpr h) ?_
    refine j_goto C rfl ?_
    exact j_iret C E rfl (Or.inr ⟨rfl, Or.inr rfl⟩) (by decide) (by decide) ⟨rfl, rfl⟩
  · refine j_if C rfl (fun q => absurd q h0) (fun _ => ?_)
    refine j_icmp C rfl (fun q => ?_) (fun _ => ?_)
    · exfalso
      have q : x < nI n := q
      rw [Int32.lt_iff_toInt_lt] at q
      rw [Int32.le_iff_toInt_le] at h
      omega
    · refine j_goto C rfl ?_
      exact j_iret C E rfl (Or.inr ⟨rfl, Or.inr rfl⟩) (by decide) (by decide) ⟨rfl, rfl⟩
  · refine j_if C rfl (fun q => absurd q h0) (fun _ => ?_)
    refine j_icmpT C rfl (fw_cb_iff.mpr (nI_lt hi hn)) ?_
    exact j_iret C E rfl (Or.inr ⟨rfl, Or.inl rfl⟩) (by decide) (by decide) ⟨rfl, rfl⟩
abbrev mHold (M : Md) (s v : Int32) : Md := (va_up (va_up M.1 27 s) 28 v, M.2)
theorem m_D_hold (l : Launch) (hT : TOK T) (s v : Int32) : CtD l T y_D_hold W_D_hold rm_D_hold b A [.inr (some b), .inl s, .inl v] M (fun r M' => r = none ∧ M' = mHold M s v) := by
  intro w R
  refine ct_D_hold rfl (nle rfl) ?_
  intro X hl C E
  have V := hv_D_hold hT
  suffices JD T G_D_hold X b A 0 [some (.inr (some b)), some (.inl s), some (.inl v)] [] M from this w R
  refine jd_put C rfl (fp_D_D_sort V) (by decide) rfl ?_
  refine jd_put C rfl (fp_D_D_ref V) (by decide) rfl ?_
  exact jd_vret C E rfl rfl ⟨rfl, rfl⟩
theorem m_D_broken (l : Launch) (hT : TOK T) : CtD l T y_D_broken W_D_broken rm_D_broken b A [.inr (some b)] M (fun r M' => r = none ∧ M' = mHold M 4 0) := by
  intro w R
  refine ct_D_broken rfl (nle rfl) ?_
  intro X hl C E
  have V := hv_D_broken hT
  suffices JD T G_D_broken X b A 0 [some (.inr (some b))] [] M from this w R
  refine jd_call C hT rfl (fc_D_D_hold V (by decide)) (m_D_hold _ hT 4 0) rfl rfl rfl (nle rfl) rfl rfl ?_
  rintro r M' ⟨rfl, rfl⟩
  exact jd_vret C E rfl rfl ⟨rfl, rfl⟩
end DS
