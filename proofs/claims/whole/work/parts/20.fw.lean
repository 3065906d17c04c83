/-! The layer of functional worlds: a value is an int or a nullable reference; a world is a partial map from addresses to cells; a call hands the whole world over. -/
abbrev fw_V : Type := Int32 ⊕ Option Nat
def fw_v : fw_V → Value
  | .inl x => .int x
  | .inr r => va_rf r
abbrev fw_E : Type := (Nat × Nat × ((Nat → Int32) ⊕ (Nat → Option Nat))) ⊕ (Nat × List fw_V)
abbrev fw_W : Type := Nat → Option fw_E
abbrev fw_T : Type := va_G × List vw_C × List (ClassId × FieldType)
def fw_c (T : fw_T) (t : Nat) : ClassId := ((T.2.2[t]?).map Prod.fst).getD 0
def fw_e (T : fw_T) : fw_E → va_E
  | .inl (t, n, .inl f) => .inl (fw_c T t, n, .inl f)
  | .inl (t, n, .inr f) => .inl (fw_c T t, n, .inr (.inr (.inr (.inr f))))
  | .inr (ci, fs) => .inr (ci, fs.map fw_v)
def fw_P (T : fw_T) (w : fw_W) (H : Heap) : Prop := ∀ (a : Nat) (e : fw_E), w a = some e → va_at T.1 T.2.1 (a, fw_e T e) H
def fw_D (A : Nat → Prop) (w : fw_W) : Prop := ∀ (a : Nat) (e : fw_E), w a = some e → A a
def fw_A (w : fw_W) (sz : Nat) : Nat → Prop := fun q => (∃ e, w q = some e) ∨ sz ≤ q
def fw_K (T : fw_T) (U : State) : Prop := va_K T.1 T.2.1 T.2.2 U ∧ va_Nw fw_N1 U ∧ va_Nw fw_N2 U ∧ ∀ C, C ∈ fw_AL → va_AO C U
theorem fw_K.moved {T : fw_T} {s U : State} (hW : s.WarmedH U.vm) (h : fw_K T s) : fw_K T U := ⟨va_K.moved hW.alike h.1, va_Nw.warmM hW h.2.1, va_Nw.warmM hW h.2.2.1, fun C hC => (h.2.2.2 C hC).moved hW.alike⟩
theorem fw_K.same {T : fw_T} {s U : State} (hvm : s.vm = U.vm) (h : fw_K T s) : fw_K T U := ⟨va_K.moved (by rw [hvm]; exact Vm.Alike.refl _) h.1, va_Nw.same rfl hvm h.2.1, va_Nw.same rfl hvm h.2.2.1, fun C hC => (h.2.2.2 C hC).moved (by rw [hvm]; exact Vm.Alike.refl _)⟩
def fw_Pc (T : fw_T) (av : List fw_V) (w : fw_W) (sz : Nat) : Array Value → State → Prop := va_Pc (av.map fw_v) (fun U => U.heap.size = sz ∧ fw_P T w U.heap ∧ fw_K T U)
def fw_Qc (T : fw_T) (w : fw_W) (sz : Nat) (post : Option fw_V → fw_W → Prop) : Array Value → State → Outcome → State → Prop := fun _ st oc t =>
  (∃ (r : Option fw_V) (w' : fw_W), oc = .returned (r.map fw_v) ∧ post r w' ∧ fw_P T w' t.heap ∧ fw_K T t ∧ fw_D (fw_A w sz) w') ∧ va_F (fw_A w sz) st t
def Ct (l : Launch) (T : fw_T) (y : MethodName) (ws : List Jvm.Cond) (rm : Room) (av : List fw_V) (w : fw_W) (post : Option fw_V → fw_W → Prop) : Prop :=
  ∀ sz : Nat, Met l y ws rm (fw_Pc T av w sz) (fw_Qc T w sz post) rm.cells rm.slots (fw_A w sz)
/-- an instruction of a method's table: place, instruction, length, the next place, the place it jumps to, its number -/
abbrev fw_I : Type := Nat × Instr × Nat × Nat × Nat × Int32
/-- a method: code, locals, words, its class, room, answer's type, table, name -/
abbrev fw_G : Type := ByteArray × Nat × List Jvm.Cond × String × Room × Option FieldType × List fw_I × MethodName
abbrev gC (G : fw_G) : ByteArray := G.1
abbrev gL (G : fw_G) : Nat := G.2.1
abbrev gW (G : fw_G) : List Jvm.Cond := G.2.2.1
abbrev gO (G : fw_G) : String := G.2.2.2.1
abbrev gR (G : fw_G) : Room := G.2.2.2.2.1
abbrev gA (G : fw_G) : Option FieldType := G.2.2.2.2.2.1
abbrev gT (G : fw_G) : List fw_I := G.2.2.2.2.2.2.1
abbrev gY (G : fw_G) : MethodName := G.2.2.2.2.2.2.2
/-- a run of it: the machine's own, and the world at its start -/
abbrev fw_X : Type := Program × Launch × Env × State × MethodId × Array Value × List Frame × Method × Code × fw_W × (State → Prop)
abbrev xP (X : fw_X) : Program := X.1
abbrev xL (X : fw_X) : Launch := X.2.1
abbrev xE (X : fw_X) : Env := X.2.2.1
abbrev xS (X : fw_X) : State := X.2.2.2.1
abbrev xM (X : fw_X) : MethodId := X.2.2.2.2.1
abbrev xA (X : fw_X) : Array Value := X.2.2.2.2.2.1
abbrev xB (X : fw_X) : List Frame := X.2.2.2.2.2.2.1
abbrev xT (X : fw_X) : Method := X.2.2.2.2.2.2.2.1
abbrev xC (X : fw_X) : Code := X.2.2.2.2.2.2.2.2.1
abbrev xW (X : fw_X) : fw_W := X.2.2.2.2.2.2.2.2.2.1
abbrev xQ (X : fw_X) : State → Prop := X.2.2.2.2.2.2.2.2.2.2
/-- what it may change -/
def xF (X : fw_X) : Nat → Prop := fw_A (xW X) (xS X).heap.size
def fw_len (i : Instr) (n : Nat) : Nat := match i with
  | .iconst _ => 1
  | .bipush _ => 2
  | .sipush _ => 3
  | .ldc _ => 2
  | .ldc_w _ => 3
  | .dup2 => 1
  | .baload => 1
  | .bastore => 1
  | .aconst_null => 1
  | .iload _ => 2
  | .iload_n _ => 1
  | .aload _ => 2
  | .aload_n _ => 1
  | .istore _ => 2
  | .istore_n _ => 1
  | .astore _ => 2
  | .astore_n _ => 1
  | .iinc _ _ => 3
  | .iadd => 1
  | .isub => 1
  | .imul => 1
  | .iand => 1
  | .dup => 1
  | .dup_x1 => 1
  | .pop => 1
  | .getfield _ => 3
  | .putfield _ => 3
  | .new _ => 3
  | .newarray _ => 2
  | .anewarray _ => 3
  | .arraylength => 1
  | .iaload => 1
  | .iastore => 1
  | .aaload => 1
  | .aastore => 1
  | .goto _ => 3
  | .ifCond _ _ => 3
  | .if_icmp _ _ => 3
  | .if_acmp _ _ => 3
  | .ifnull _ => 3
  | .ifnonnull _ => 3
  | .invokevirtual _ => 3
  | .invokestatic _ => 3
  | .invokespecial _ => 3
  | .ireturn => 1
  | .areturn => 1
  | .return_ => 1
  | _ => n
def fw_ix (Ts : List Jvm.Cond) (own : String) (pc tg : Nat) (v : Int32) (i : Instr) : Bool := match i with
  | .iconst z => decide (Int32.ofInt z = v)
  | .bipush z => decide ((Int8.ofInt z).toInt32 = v)
  | .sipush z => decide ((Int16.ofInt z).toInt32 = v)
  | .iinc _ z => decide (Int32.ofInt z = v)
  | .ldc i => decide (Jvm.Cond.constant own i v ∈ Ts)
  | .ldc_w i => decide (Jvm.Cond.constant own i v ∈ Ts)
  | .goto o => decide ((pc : Int) + o = (tg : Int))
  | .ifCond _ o => decide ((pc : Int) + o = (tg : Int))
  | .if_icmp _ o => decide ((pc : Int) + o = (tg : Int))
  | .if_acmp _ o => decide ((pc : Int) + o = (tg : Int))
  | .ifnull o => decide ((pc : Int) + o = (tg : Int))
  | .ifnonnull o => decide ((pc : Int) + o = (tg : Int))
  | _ => true
def fw_iok (cc : ByteArray) (Ts : List Jvm.Cond) (own : String) (q : fw_I) : Bool :=
  decide (decode cc q.1 = .ok (q.2.1, q.2.2.1)) && (decide (q.2.2.2.1 = q.1 + q.2.2.1) && (decide (q.2.2.1 = fw_len q.2.1 q.2.2.1) && fw_ix Ts own q.1 q.2.2.2.2.1 q.2.2.2.2.2 q.2.1))
def fw_tok (cc : ByteArray) (Ts : List Jvm.Cond) (own : String) : List fw_I → Bool
  | [] => true
  | [q] => fw_iok cc Ts own q
  | q :: q2 :: r => fw_iok cc Ts own q && (decide (q.2.2.2.1 = q2.1) && fw_tok cc Ts own (q2 :: r))
def fw_ok (T : fw_T) (G : fw_G) (X : fw_X) : Prop :=
  CallFix (xP X) (xM X) (xC X) (gC G) (gL G) (xS X) (xA X) (gW G) (gO G) ∧ fw_K T (xS X) ∧ (xT X).sig.returnType = gA G ∧ (xT X).locks = false ∧ fw_tok (gC G) (gW G) (gO G) (gT G) = true ∧ (xT X).name = (gY G).name
/-- the locals hold L -/
def fw_l (ls : Array Slot) (nL : Nat) (L : List (Option fw_V)) : Prop := ∃ l : List (Nat × Value), lv_has ls nL l ∧ L.length = nL ∧ ∀ (i : Nat) (v : fw_V), L[i]? = some (some v) → (i, fw_v v) ∈ l
/-- a method's own end: it answers with post -/
def fw_ends (T : fw_T) (G : fw_G) (X : fw_X) (post : Option fw_V → fw_W → Prop) : Prop := xQ X = MQ (xB X) (fw_Qc T (xW X) (xS X).heap.size post) (xA X) (xS X) (gR G).cells (gR G).slots (xF X)
/-- from here it comes to its end -/
def J (T : fw_T) (G : fw_G) (X : fw_X) (pc : Nat) (L : List (Option fw_V)) (S : List fw_V) (w : fw_W) (k n : Nat) : Prop :=
  ∀ (H : Heap) (locs : List Loc) (ls : Array Slot), fw_l ls (gL G) L → fw_P T w H → fw_D (xF X) w → va_S (xF X) (xS X).heap H locs →
    W (xP X) (xL X) (xE X) (gR G) (xS X) (xM X) (xA X) (xB X) (xT X) (xC X) H locs k n (xQ X)
      (F0 (xM X) pc ls (S.map fw_v))
def fw_from : List fw_I → Nat → List fw_I
  | [], _ => []
  | q :: r, pc => bif q.1 == pc then q :: r else fw_from r pc
def fw_force {α : Type} : List (Option fw_V) → (List (Option fw_V) → α) → α
  | [], k => k []
  | x :: r, k => fw_force r (fun r' => k (x :: r'))
theorem fw_force_eq {α : Type} : ∀ (L : List (Option fw_V)) (k : List (Option fw_V) → α), fw_force L k = k L
  | [], _ => rfl
  | _ :: r, _ => fw_force_eq r _
/-- a silent instruction -/
def fw_st (i : Instr) (v : Int32) (L : List (Option fw_V)) (S : List fw_V) : Option (List (Option fw_V) × List fw_V) :=
  match i with
  | .iconst _ => some (L, .inl v :: S)
  | .bipush _ => some (L, .inl v :: S)
  | .sipush _ => some (L, .inl v :: S)
  | .ldc _ => some (L, .inl v :: S)
  | .ldc_w _ => some (L, .inl v :: S)
  | .aconst_null => some (L, .inr none :: S)
  | .iload k => match L[k]? with
    | some (some (.inl x)) => some (L, .inl x :: S)
    | _ => none
  | .iload_n k => match L[k.val]? with
    | some (some (.inl x)) => some (L, .inl x :: S)
    | _ => none
  | .aload k => match L[k]? with
    | some (some (.inr x)) => some (L, .inr x :: S)
    | _ => none
  | .aload_n k => match L[k.val]? with
    | some (some (.inr x)) => some (L, .inr x :: S)
    | _ => none
  | .istore k => match S with
    | .inl x :: S => match L[k]? with
      | some _ => fw_force (L.set k (some (.inl x))) (fun L' => some (L', S))
      | none => none
    | _ => none
  | .istore_n k => match S with
    | .inl x :: S => match L[k.val]? with
      | some _ => fw_force (L.set k.val (some (.inl x))) (fun L' => some (L', S))
      | none => none
    | _ => none
  | .astore k => match S with
    | .inr x :: S => match L[k]? with
      | some _ => fw_force (L.set k (some (.inr x))) (fun L' => some (L', S))
      | none => none
    | _ => none
  | .astore_n k => match S with
    | .inr x :: S => match L[k.val]? with
      | some _ => fw_force (L.set k.val (some (.inr x))) (fun L' => some (L', S))
      | none => none
    | _ => none
  | .iinc k _ => match L[k]? with
    | some (some (.inl x)) => fw_force (L.set k (some (.inl (x + v)))) (fun L' => some (L', S))
    | _ => none
  | .iadd => match S with
    | .inl y :: .inl x :: S => some (L, .inl (x + y) :: S)
    | _ => none
  | .isub => match S with
    | .inl y :: .inl x :: S => some (L, .inl (x - y) :: S)
    | _ => none
  | .imul => match S with
    | .inl y :: .inl x :: S => some (L, .inl (x * y) :: S)
    | _ => none
  | .iand => match S with
    | .inl y :: .inl x :: S => some (L, .inl (x &&& y) :: S)
    | _ => none
  | .dup => match S with
    | x :: S => some (L, x :: x :: S)
    | _ => none
  | .dup_x1 => match S with
    | x :: y :: S => some (L, x :: y :: x :: S)
    | _ => none
  | .dup2 => match S with
    | x :: y :: S => some (L, x :: y :: x :: y :: S)
    | _ => none
  | .pop => match S with
    | _ :: S => some (L, S)
    | _ => none
  | _ => none
/-- runs the silent instructions, up to the first that isn't -/
def fw_go : List fw_I → List (Option fw_V) → List fw_V → Option (fw_I × List (Option fw_V) × List fw_V)
  | [], _, _ => none
  | (pc, i, len, nx, tg, v) :: r, L, S => match fw_st i v L S with
    | some (L', S') => fw_go r L' S'
    | none => some ((pc, i, len, nx, tg, v), L, S)
theorem fw_cat (v : fw_V) : (fw_v v).category = 1 := by
  rcases v with x | r
  · rfl
  · cases r <;> rfl
theorem fw_store {ls : Array Slot} {nL : Nat} {L : List (Option fw_V)} (hl : fw_l ls nL L) (i : Nat) (v : fw_V) : ∃ l : List (Nat × Value), lv_has ls nL l ∧ (∀ ls' : Array Slot, lv_has ls' nL ((i, fw_v v) :: l.filter (fun q => !(q.1 == i) && !(q.1 + 1 == i && q.2.category == 2))) → fw_l ls' nL (L.set i (some v))) ∧ ∀ (j : Nat) (u : fw_V), L[j]? = some (some u) → (j, fw_v u) ∈ l := by
  obtain ⟨l, h1, h2, h3⟩ := hl
  refine ⟨l, h1, fun ls' h' => ⟨_, h', by rw [List.length_set]; exact h2, fun j u hj => ?_⟩, h3⟩
  by_cases hji : j = i
  · subst hji
    have hlt : j < L.length := by
      have := (List.getElem?_eq_some_iff.mp hj).1
      rwa [List.length_set] at this
    rw [List.getElem?_set_self hlt] at hj
    cases hj
    exact List.mem_cons_self
  · rw [List.getElem?_set_ne (Ne.symm hji)] at hj
    refine List.mem_cons_of_mem _ (List.mem_filter.mpr ⟨h3 j u hj, ?_⟩)
    simp [hji, fw_cat]
theorem fw_load {ls : Array Slot} {nL : Nat} {L : List (Option fw_V)} (hl : fw_l ls nL L) {i : Nat} {v : fw_V} (h : L[i]? = some (some v)) : ls[i]? = some (.val (fw_v v)) := by
  obtain ⟨l, h1, h2, h3⟩ := hl
  exact h1.2.2 _ (h3 i v h)
theorem fw_lt {ls : Array Slot} {nL : Nat} {L : List (Option fw_V)} (hl : fw_l ls nL L) {i : Nat} (h : i < L.length) : i < nL := by
  obtain ⟨l, h1, h2, h3⟩ := hl
  omega
