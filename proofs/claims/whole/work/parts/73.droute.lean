/-! The reference's lines: the one of lowest stamp; settle, direct. -/
def iO (o : Option Nat) : Int32 := match o with | none => -1 | some i => nI i
def mnF (P : Nat → Bool) (st : Nat → Int32) : Nat → Option Nat
  | 0 => none
  | i + 1 => if P i = true ∧ (∀ f, mnF P st i = some f → st i < st f) then some i else mnF P st i
theorem mnF_none {P : Nat → Bool} {st : Nat → Int32} : ∀ {k : Nat}, mnF P st k = none → ∀ j, j < k → P j = false
  | 0, _, j, h => absurd h (Nat.not_lt_zero _)
  | k + 1, h, j, hj => by
    unfold mnF at h
    by_cases hc : P k = true ∧ (∀ f, mnF P st k = some f → st k < st f)
    · rw [if_pos hc] at h; cases h
    · rw [if_neg hc] at h
      by_cases hjk : j = k
      · subst hjk
        cases hp : P j with
        | false => rfl
        | true => exact absurd ⟨hp, fun f hf => by rw [h] at hf; cases hf⟩ hc
      · exact mnF_none h j (by omega)
theorem mnF_some {P : Nat → Bool} {st : Nat → Int32} : ∀ {k m : Nat}, mnF P st k = some m → m < k ∧ P m = true ∧ ∀ j, j < k → P j = true → ¬ st j < st m
  | 0, _, h => by cases h
  | k + 1, m, h => by
    unfold mnF at h
    by_cases hc : P k = true ∧ (∀ f, mnF P st k = some f → st k < st f)
    · rw [if_pos hc] at h
      cases h
      refine ⟨Nat.lt_succ_self _, hc.1, fun j hj hp hlt => ?_⟩
      by_cases hjk : j = k
      · subst hjk; exact Int32.lt_irrefl hlt
      · cases hm : mnF P st k with
        | none => rw [mnF_none hm j (by omega)] at hp; cases hp
        | some f =>
          obtain ⟨_, _, h3⟩ := mnF_some hm
          have h4 := hc.2 f hm
          have h5 := h3 j (by omega) hp
          rw [Int32.lt_iff_toInt_lt] at *
          omega
    · rw [if_neg hc] at h
      obtain ⟨h1, h2, h3⟩ := mnF_some h
      refine ⟨by omega, h2, fun j hj hp hlt => ?_⟩
      by_cases hjk : j = k
      · subst hjk
        exact hc ⟨hp, fun f hf => by rw [h] at hf; cases hf; exact hlt⟩
      · exact h3 j (by omega) hp hlt
theorem mnF_line {P : Nat → Bool} {st : Nat → Int32} {k : Nat} {l : List Nat} (hm : ∀ j, j ∈ l ↔ j < k ∧ P j = true) (hp : l.Pairwise (fun a b => st a < st b)) : mnF P st k = l.head? := by
  cases l with
  | nil =>
    cases h : mnF P st k with
    | none => rfl
    | some m => obtain ⟨h1, h2, -⟩ := mnF_some h; exact absurd ((hm m).mpr ⟨h1, h2⟩) List.not_mem_nil
  | cons a t =>
    have ha := (hm a).mp List.mem_cons_self
    cases h : mnF P st k with
    | none => have := mnF_none h a ha.1; rw [ha.2] at this; cases this
    | some m =>
      obtain ⟨h1, h2, h3⟩ := mnF_some h
      have hmm := (hm m).mpr ⟨h1, h2⟩
      rcases List.mem_cons.mp hmm with rfl | ht
      · rfl
      · exact absurd ((List.pairwise_cons.mp hp).1 m ht) (h3 a ha.1 ha.2)
def relP (M : Md) (i : Nat) : Bool := decide (M.2 12 i = 2 ∧ ¬ M.2 21 (M.2 13 i).toNatClampNeg = 0)
def nthP (M : Md) (p x af : Int32) (i : Nat) : Bool := decide (M.2 12 i = p ∧ M.2 13 i = x ∧ af < M.2 14 i)
section DRT
variable {T : fw_T} {b : Nat} {A : Nat → Nat} {M : Md} {k : Nat} {ph : Nat → Rf}
theorem m_D_released (l : Launch) (hT : TOK T) (hk : M.1 11 = nI k) (h200 : k ≤ 200) (hw : ∀ i, i < k → M.2 12 i = 2 → ∃ x, x < 200 ∧ M.2 13 i = nI x) : CtD l T y_D_released W_D_released rm_D_released b A [.inr (some b)] M (fun r M' => r = some (.inl (iO (mnF (relP M) (M.2 14) k))) ∧ M' = M) := by
  intro w R
  refine ct_D_released rfl (nle rfl) ?_
  intro X hl C E
  have V := hv_D_released hT
  suffices JD T G_D_released X b A 0 [some (.inr (some b)), none, none, none] [] M from this w R
  have loop : ∀ d i z, i + d = k → JD T G_D_released X b A 4 [some (.inr (some b)), some (.inl (iO (mnF (relP M) (M.2 14) i))), some (.inl (nI i)), z] [] M := by
    intro d
    induction d with
    | zero =>
      intro i z hi
      refine jd_get C rfl (fg_D_D_messages V) (u := .inl (nI k)) (by rw [← hk]; rfl) ?_
      refine jd_icmpT C rfl (fw_cb_iff.mpr (by show nI k ≤ nI i; exact nI_le (by omega) (by omega))) ?_
      refine jd_iret C E rfl (Or.inl rfl) ⟨by rw [show i = k by omega], rfl⟩
    | succ d ih =>
      intro i z hi
      refine jd_get C rfl (fg_D_D_messages V) (u := .inl (nI k)) (by rw [← hk]; rfl) ?_
      refine jd_icmpF C rfl (Bool.eq_false_iff.mpr fun q => nI_ge (a := i) (b := k) (by omega) (by omega) (fw_cb_iff.mp q)) ?_
      have hr := fun z => ih (i + 1) z (by omega)
      have no : relP M i = false → JD T G_D_released X b A 40 [some (.inr (some b)), some (.inl (iO (mnF (relP M) (M.2 14) i))), some (.inl (nI i)), z] [] M := by
        intro hz
        refine jd_ifT C rfl rfl ?_
        refine jd_goto C rfl ?_
        have h1 := hr (some (.inl 0))
        rw [show mnF (relP M) (M.2 14) (i + 1) = mnF (relP M) (M.2 14) i by show (if _ then _ else _) = _; rw [if_neg (fun q => by rw [hz] at q; cases q.1)], ← nI_1] at h1
        exact h1
      refine jd_get C rfl (fg_D_D_place V) rfl ?_
      refine jd_ald C hT (f := 12) rfl (by decide) rfl rfl i rfl (by show i < 200; omega) ?_
      refine jd_icmp C rfl (fun h => ?_) (fun h => ?_)
      · have h : ¬ M.2 12 i = 2 := h
        exact no (by unfold relP; rw [decide_eq_false (fun q => h q.1)])
      · have h : M.2 12 i = 2 := Classical.not_not.mp h
        obtain ⟨x, hx, hwx⟩ := hw i (by omega) h
        refine jd_get C rfl (fg_D_D_resolved V) rfl ?_
        refine jd_get C rfl (fg_D_D_where V) rfl ?_
        refine jd_ald C hT (f := 13) rfl (by decide) rfl rfl i rfl (by show i < 200; omega) ?_
        refine jd_zld C hT (f := 21) rfl (by decide) rfl rfl x hwx hx ?_
        refine jd_if C rfl (fun h' => ?_) (fun h' => ?_)
        · have h' : M.2 21 x = 0 := h'
          exact no (by unfold relP; rw [hwx, nI_clamp (by omega), decide_eq_false (fun q => q.2 h')])
        · have h' : ¬ M.2 21 x = 0 := h'
          have hp : relP M i = true := by unfold relP; rw [hwx, nI_clamp (by omega), decide_eq_true ⟨h, h'⟩]
          refine jd_goto C rfl ?_
          refine jd_ifF C rfl rfl ?_
          have h1 := hr (some (.inl 1))
          cases hm : mnF (relP M) (M.2 14) i with
          | none =>
            rw [show mnF (relP M) (M.2 14) (i + 1) = some i by show (if _ then _ else _) = _; rw [if_pos ⟨hp, fun f hf => by rw [hm] at hf; cases hf⟩], ← nI_1] at h1
            refine jd_ifT C rfl rfl ?_
            refine jd_goto C rfl ?_
            refine jd_goto C rfl ?_
            exact h1
          | some f =>
            obtain ⟨hf, -, -⟩ := mnF_some hm
            refine jd_ifF C rfl (Bool.eq_false_iff.mpr fun q => nI_pos (n := f) (by omega) (fw_cb_iff.mp q)) ?_
            refine jd_get C rfl (fg_D_D_stamp V) rfl ?_
            refine jd_ald C hT (f := 14) rfl (by decide) rfl rfl i rfl (by show i < 200; omega) ?_
            refine jd_get C rfl (fg_D_D_stamp V) rfl ?_
            refine jd_ald C hT (f := 14) rfl (by decide) rfl rfl f rfl (by show f < 200; omega) ?_
            refine jd_icmp C rfl (fun q => ?_) (fun q => ?_)
            · have q : M.2 14 f ≤ M.2 14 i := q
              rw [show mnF (relP M) (M.2 14) (i + 1) = some f by show (if _ then _ else _) = _; rw [if_neg (fun z => by have := z.2 f hm; rw [Int32.lt_iff_toInt_lt] at this; rw [Int32.le_iff_toInt_le] at q; omega)]; exact hm, ← nI_1] at h1
              refine jd_goto C rfl ?_
              exact h1
            · have q : ¬ M.2 14 f ≤ M.2 14 i := q
              rw [show mnF (relP M) (M.2 14) (i + 1) = some i by show (if _ then _ else _) = _; rw [if_pos ⟨hp, fun f' hf' => by rw [hm] at hf'; cases hf'; rw [Int32.lt_iff_toInt_lt]; rw [Int32.le_iff_toInt_le] at q; omega⟩], ← nI_1] at h1
              refine jd_goto C rfl ?_
              refine jd_goto C rfl ?_
              exact h1
  refine jd_to C 4 rfl ?_
  exact loop k 0 none (Nat.zero_add _)
theorem m_D_nth (l : Launch) (hT : TOK T) (hk : M.1 11 = nI k) (h200 : k ≤ 200) {p x : Int32} {ln : List Nat} (hm : ∀ j, j ∈ ln ↔ j < k ∧ M.2 12 j = p ∧ M.2 13 j = x) (hp : ln.Pairwise (fun a b => M.2 14 a < M.2 14 b)) (h0 : ∀ j, j ∈ ln → -1 < M.2 14 j) {B : Nat} (hB : B < 200) : CtD l T y_D_nth W_D_nth rm_D_nth b A [.inr (some b), .inl p, .inl x, .inl (nI B)] M (fun r M' => r = some (.inl (iO ln[B]?)) ∧ M' = M) := by
  intro w R
  refine ct_D_nth rfl (nle rfl) ?_
  intro X hl C E
  have V := hv_D_nth hT
  suffices JD T G_D_nth X b A 0 [some (.inr (some b)), some (.inl p), some (.inl x), some (.inl (nI B)), none, none, none, none, none] [] M from this w R
  have inner : ∀ (af : Int32) (c : Nat) (d i : Nat) z, i + d = k → (∀ z, JD T G_D_nth X b A 113 [some (.inr (some b)), some (.inl p), some (.inl x), some (.inl (nI B)), some (.inl af), some (.inl (iO (mnF (nthP M p x af) (M.2 14) k))), some (.inl (nI c)), some (.inl (nI k)), z] [] M) → JD T G_D_nth X b A 21 [some (.inr (some b)), some (.inl p), some (.inl x), some (.inl (nI B)), some (.inl af), some (.inl (iO (mnF (nthP M p x af) (M.2 14) i))), some (.inl (nI c)), some (.inl (nI i)), z] [] M := by
    intro af c d
    induction d with
    | zero =>
      intro i z hi hpost
      refine jd_get C rfl (fg_D_D_messages V) (u := .inl (nI k)) (by rw [← hk]; rfl) ?_
      refine jd_icmpT C rfl (fw_cb_iff.mpr (by show nI k ≤ nI i; exact nI_le (by omega) (by omega))) ?_
      rw [show i = k by omega]
      exact hpost z
    | succ d ih =>
      intro i z hi hpost
      refine jd_get C rfl (fg_D_D_messages V) (u := .inl (nI k)) (by rw [← hk]; rfl) ?_
      refine jd_icmpF C rfl (Bool.eq_false_iff.mpr fun q => nI_ge (a := i) (b := k) (by omega) (by omega) (fw_cb_iff.mp q)) ?_
      have hr := fun z => ih (i + 1) z (by omega) hpost
      have no : nthP M p x af i = false → JD T G_D_nth X b A 68 [some (.inr (some b)), some (.inl p), some (.inl x), some (.inl (nI B)), some (.inl af), some (.inl (iO (mnF (nthP M p x af) (M.2 14) i))), some (.inl (nI c)), some (.inl (nI i)), z] [] M := by
        intro hz
        refine jd_ifT C rfl rfl ?_
        refine jd_goto C rfl ?_
        have h1 := hr (some (.inl 0))
        rw [show mnF (nthP M p x af) (M.2 14) (i + 1) = mnF (nthP M p x af) (M.2 14) i by show (if _ then _ else _) = _; rw [if_neg (fun q => by rw [hz] at q; cases q.1)], ← nI_1] at h1
        exact h1
      refine jd_get C rfl (fg_D_D_place V) rfl ?_
      refine jd_ald C hT (f := 12) rfl (by decide) rfl rfl i rfl (by show i < 200; omega) ?_
      refine jd_icmp C rfl (fun h => ?_) (fun h => ?_)
      · have h : ¬ M.2 12 i = p := h
        exact no (by unfold nthP; rw [decide_eq_false (fun q => h q.1)])
      have h : M.2 12 i = p := Classical.not_not.mp h
      refine jd_get C rfl (fg_D_D_where V) rfl ?_
      refine jd_ald C hT (f := 13) rfl (by decide) rfl rfl i rfl (by show i < 200; omega) ?_
      refine jd_icmp C rfl (fun h' => ?_) (fun h' => ?_)
      · have h' : ¬ M.2 13 i = x := h'
        exact no (by unfold nthP; rw [decide_eq_false (fun q => h' q.2.1)])
      have h' : M.2 13 i = x := Classical.not_not.mp h'
      refine jd_get C rfl (fg_D_D_stamp V) rfl ?_
      refine jd_ald C hT (f := 14) rfl (by decide) rfl rfl i rfl (by show i < 200; omega) ?_
      refine jd_icmp C rfl (fun h2 => ?_) (fun h2 => ?_)
      · have h2 : M.2 14 i ≤ af := h2
        exact no (by unfold nthP; rw [decide_eq_false (fun q => by have := q.2.2; rw [Int32.lt_iff_toInt_lt] at this; rw [Int32.le_iff_toInt_le] at h2; omega)])
      have h2 : ¬ M.2 14 i ≤ af := h2
      have hpp : nthP M p x af i = true := by unfold nthP; exact decide_eq_true ⟨h, h', by rw [Int32.lt_iff_toInt_lt]; rw [Int32.le_iff_toInt_le] at h2; omega⟩
      refine jd_goto C rfl ?_
      refine jd_ifF C rfl rfl ?_
      have h1 := hr (some (.inl 1))
      cases hmn : mnF (nthP M p x af) (M.2 14) i with
      | none =>
        rw [show mnF (nthP M p x af) (M.2 14) (i + 1) = some i by show (if _ then _ else _) = _; rw [if_pos ⟨hpp, fun f hf => by rw [hmn] at hf; cases hf⟩], ← nI_1] at h1
        refine jd_ifT C rfl rfl ?_
        refine jd_goto C rfl ?_
        refine jd_goto C rfl ?_
        exact h1
      | some f =>
        obtain ⟨hf, -, -⟩ := mnF_some hmn
        refine jd_ifF C rfl (Bool.eq_false_iff.mpr fun q => nI_pos (n := f) (by omega) (fw_cb_iff.mp q)) ?_
        refine jd_get C rfl (fg_D_D_stamp V) rfl ?_
        refine jd_ald C hT (f := 14) rfl (by decide) rfl rfl i rfl (by show i < 200; omega) ?_
        refine jd_get C rfl (fg_D_D_stamp V) rfl ?_
        refine jd_ald C hT (f := 14) rfl (by decide) rfl rfl f rfl (by show f < 200; omega) ?_
        refine jd_icmp C rfl (fun q => ?_) (fun q => ?_)
        · have q : M.2 14 f ≤ M.2 14 i := q
          rw [show mnF (nthP M p x af) (M.2 14) (i + 1) = some f by show (if _ then _ else _) = _; rw [if_neg (fun z => by have := z.2 f hmn; rw [Int32.lt_iff_toInt_lt] at this; rw [Int32.le_iff_toInt_le] at q; omega)]; exact hmn, ← nI_1] at h1
          refine jd_goto C rfl ?_
          exact h1
        · have q : ¬ M.2 14 f ≤ M.2 14 i := q
          rw [show mnF (nthP M p x af) (M.2 14) (i + 1) = some i by show (if _ then _ else _) = _; rw [if_pos ⟨hpp, fun f' hf' => by rw [hmn] at hf'; cases hf'; rw [Int32.lt_iff_toInt_lt]; rw [Int32.le_iff_toInt_le] at q; omega⟩], ← nI_1] at h1
          refine jd_goto C rfl ?_
          refine jd_goto C rfl ?_
          exact h1
  have outer : ∀ (d c : Nat) (l1 l2 : List Nat) (af : Int32) z1 z2, ln = l1 ++ l2 → l1.length = c → c + d = B + 1 → (∀ j, j ∈ l1 → ¬ af < M.2 14 j) → (∀ j, j ∈ l2 → af < M.2 14 j) → JD T G_D_nth X b A 9 [some (.inr (some b)), some (.inl p), some (.inl x), some (.inl (nI B)), some (.inl af), some (.inl (iO l1.getLast?)), some (.inl (nI c)), z1, z2] [] M := by
    intro d
    induction d with
    | zero =>
      intro c l1 l2 af z1 z2 e hc hd h1 h2
      refine jd_icmpT C rfl (fw_cb_iff.mpr (by show nI B < nI c; exact nI_lt (by omega) (by omega))) ?_
      refine jd_iret C E rfl (Or.inl rfl) ⟨?_, rfl⟩
      rw [e, List.getElem?_append_left (by omega), List.getLast?_eq_getElem?, show l1.length - 1 = B by omega]
    | succ d ih =>
      intro c l1 l2 af z1 z2 e hc hd h1 h2
      refine jd_icmpF C rfl (Bool.eq_false_iff.mpr fun q => by
        have q : nI B < nI c := fw_cb_iff.mp q
        rw [nI_ltI (by omega) (by omega)] at q; omega) ?_
      refine jd_to C 21 rfl ?_
      have hmem : ∀ j, j ∈ l2 ↔ j < k ∧ nthP M p x af j = true := by
        intro j
        constructor
        · intro hj
          have := (hm j).mp (by rw [e]; exact List.mem_append_right _ hj)
          exact ⟨this.1, by unfold nthP; exact decide_eq_true ⟨this.2.1, this.2.2, h2 j hj⟩⟩
        · rintro ⟨hj, hq⟩
          unfold nthP at hq
          obtain ⟨q1, q2, q3⟩ := of_decide_eq_true hq
          have := (hm j).mpr ⟨hj, q1, q2⟩
          rw [e] at this
          rcases List.mem_append.mp this with h | h
          · exact absurd q3 (h1 j h)
          · exact h
      rw [e] at hp
      have hp2 := (List.pairwise_append.mp hp)
      refine inner af c k 0 z2 (Nat.zero_add _) (fun z => ?_)
      rw [mnF_line hmem hp2.2.1]
      cases l2 with
      | nil =>
        refine jd_ifF C rfl rfl ?_
        refine jd_iret C E rfl (Or.inl rfl) ⟨?_, rfl⟩
        rw [e, List.append_nil, List.getElem?_eq_none (by omega)]
        rfl
      | cons a t =>
        have ha := ((hmem a).mp List.mem_cons_self).1
        refine jd_ifT C rfl (fw_cb_iff.mpr (by show (0 : Int32) ≤ nI a; exact nI_pos' (by omega))) ?_
        refine jd_get C rfl (fg_D_D_stamp V) rfl ?_
        refine jd_ald C hT (f := 14) rfl (by decide) rfl rfl a rfl (by show a < 200; omega) ?_
        refine jd_goto C rfl ?_
        have hr := ih (c + 1) (l1 ++ [a]) t (M.2 14 a) (some (.inl (nI k))) z (by rw [e, List.append_assoc]; rfl) (by simp [hc]) (by omega) (fun j hj => by
          rcases List.mem_append.mp hj with h | h
          · have := hp2.2.2 j h a List.mem_cons_self
            intro q
            rw [Int32.lt_iff_toInt_lt] at *; omega
          · rw [List.mem_singleton.mp h]; exact Int32.lt_irrefl) (List.pairwise_cons.mp hp2.2.1).1
        rw [← nI_1, List.getLast?_concat] at hr
        exact hr
  refine jd_to C 9 rfl ?_
  exact outer (B + 1) 0 [] ln (-1) none none rfl rfl (Nat.zero_add _) (fun j hj => by cases hj) h0
abbrev badC (c : Rf) (m : Nat) : Prop := c.1 = 0 ∨ (c.1 = 3 ∧ c.2 = nI m)
/-- resolves m to (s, v), which counts as c -/
def mSettle (M : Md) (m : Nat) (a c : Rf) : Md :=
  ((mHold M c.1 c.2).1, va_up (va_up (va_up (va_up M.2 21 (va_up (M.2 21) m 1)) 22 (va_up (M.2 22) m (if badC c m then 4 else a.1))) 23 (va_up (M.2 23) m (if badC c m then 0 else a.2))) 12 (va_up (M.2 12) m 0))
theorem m_D_settle (l : Launch) (hT : TOK T) (hc : CH k ph (dAns M)) (hk : k ≤ 200) {m : Nat} (hm : m < 200) {a : Rf} (h27 : M.1 27 = a.1) (h28 : M.1 28 = a.2) (hv : vR k a) : CtD l T y_D_settle W_D_settle rm_D_settle b A [.inr (some b), .inl (nI m)] M (fun r M' => r = none ∧ M' = mSettle M m a (can ph a)) := by
  intro w R
  refine ct_D_settle rfl (nle rfl) ?_
  intro X hl C E
  have V := hv_D_settle hT
  suffices JD T G_D_settle X b A 0 [some (.inr (some b)), some (.inl (nI m)), none, none, none] [] M from this w R
  refine jd_get C rfl (fg_D_D_sort V) (u := .inl a.1) (by rw [← h27]; rfl) ?_
  refine jd_get C rfl (fg_D_D_ref V) (u := .inl a.2) (by rw [← h28]; rfl) ?_
  refine jd_call C hT rfl (fc_D_D_look V (by decide)) (m_D_look _ hT hc hk (s := a.1) (v := a.2) hv) (As := [.inl a.1, .inl a.2]) rfl rfl rfl (nle rfl) rfl rfl ?_
  rintro r M' ⟨rfl, rfl⟩
  rw [show ((a.1, a.2) : Rf) = a from rfl]
  generalize hcc : can ph a = c at E
  have bad : badC c m → JD T G_D_settle X b A 39 [some (.inr (some b)), some (.inl (nI m)), some (.inl a.1), some (.inl a.2), none] [] (mHold M c.1 c.2) := by
    intro hb
    refine jd_goto C rfl ?_
    refine jd_get C rfl (fg_D_D_resolved V) rfl ?_
    refine jd_zst C hT (f := 21) rfl (by decide) rfl rfl m rfl hm (Or.inr rfl) ?_
    refine jd_get C rfl (fg_D_D_endSort V) rfl ?_
    refine jd_ifF C rfl rfl ?_
    refine jd_goto C rfl ?_
    refine jd_ast C hT (f := 22) rfl (by decide) rfl rfl m rfl hm ?_
    refine jd_get C rfl (fg_D_D_end V) rfl ?_
    refine jd_ifF C rfl rfl ?_
    refine jd_goto C rfl ?_
    refine jd_ast C hT (f := 23) rfl (by decide) rfl rfl m rfl hm ?_
    refine jd_get C rfl (fg_D_D_place V) rfl ?_
    refine jd_ast C hT (f := 12) rfl (by decide) rfl rfl m rfl hm ?_
    refine jd_vret C E rfl rfl ⟨rfl, ?_⟩
    unfold mSettle
    rw [if_pos hb, if_pos hb]
    rfl
  have good : ¬ badC c m → JD T G_D_settle X b A 43 [some (.inr (some b)), some (.inl (nI m)), some (.inl a.1), some (.inl a.2), none] [] (mHold M c.1 c.2) := by
    intro hb
    refine jd_get C rfl (fg_D_D_resolved V) rfl ?_
    refine jd_zst C hT (f := 21) rfl (by decide) rfl rfl m rfl hm (Or.inr rfl) ?_
    refine jd_get C rfl (fg_D_D_endSort V) rfl ?_
    refine jd_ifT C rfl rfl ?_
    refine jd_ast C hT (f := 22) rfl (by decide) rfl rfl m rfl hm ?_
    refine jd_get C rfl (fg_D_D_end V) rfl ?_
    refine jd_ifT C rfl rfl ?_
    refine jd_ast C hT (f := 23) rfl (by decide) rfl rfl m rfl hm ?_
    refine jd_get C rfl (fg_D_D_place V) rfl ?_
    refine jd_ast C hT (f := 12) rfl (by decide) rfl rfl m rfl hm ?_
    refine jd_vret C E rfl rfl ⟨rfl, ?_⟩
    unfold mSettle
    rw [if_neg hb, if_neg hb]
    rfl
  refine jd_get C rfl (fg_D_D_sort V) (u := .inl c.1) rfl ?_
  refine jd_if C rfl (fun h => bad (Or.inl h)) (fun h0 => ?_)
  refine jd_get C rfl (fg_D_D_sort V) (u := .inl c.1) rfl ?_
  refine jd_icmp C rfl (fun h => good (fun q => q.elim h0 (fun z => h z.1))) (fun h3 => ?_)
  refine jd_get C rfl (fg_D_D_ref V) (u := .inl c.2) rfl ?_
  exact jd_icmp C rfl (fun h => good (fun q => q.elim h0 (fun z => h z.2))) (fun h => bad (Or.inr ⟨Classical.not_not.mp h3, Classical.not_not.mp h⟩))
/-- where message m goes, its target counting as c -/
def mDir (M : Md) (m : Nat) (c : Rf) : Md :=
  if c.1 = 2 then mStand (mHold M c.1 c.2) m 1 (M.2 2 c.2.toNatClampNeg) else if c.1 = 3 then mStand (mHold M c.1 c.2) m 2 c.2 else mSettle M m rB rB
theorem m_D_direct (l : Launch) (hT : TOK T) (hc : CH k ph (dAns M)) (hk : k ≤ 200) {m : Nat} (hm : m < 200) (hv : vR k (M.2 16 m, M.2 17 m)) (ho : (can ph (M.2 16 m, M.2 17 m)).1 = 2 → ∃ i, i < 40 ∧ (can ph (M.2 16 m, M.2 17 m)).2 = nI i) : CtD l T y_D_direct W_D_direct rm_D_direct b A [.inr (some b), .inl (nI m)] M (fun r M' => r = none ∧ M' = mDir M m (can ph (M.2 16 m, M.2 17 m))) := by
  intro w R
  refine ct_D_direct rfl (nle rfl) ?_
  intro X hl C E
  have V := hv_D_direct hT
  suffices JD T G_D_direct X b A 0 [some (.inr (some b)), some (.inl (nI m))] [] M from this w R
  refine jd_get C rfl (fg_D_D_targetSort V) rfl ?_
  refine jd_ald C hT (f := 16) rfl (by decide) rfl rfl m rfl hm ?_
  refine jd_get C rfl (fg_D_D_target V) rfl ?_
  refine jd_ald C hT (f := 17) rfl (by decide) rfl rfl m rfl hm ?_
  refine jd_call C hT rfl (fc_D_D_look V (by decide)) (m_D_look _ hT hc hk hv) (As := [.inl (M.2 16 m), .inl (M.2 17 m)]) rfl rfl rfl (nle rfl) rfl rfl ?_
  rintro r M' ⟨rfl, rfl⟩
  generalize hcc : can ph (M.2 16 m, M.2 17 m) = c at E ho
  refine jd_get C rfl (fg_D_D_sort V) (u := .inl c.1) rfl ?_
  refine jd_icmp C rfl (fun h => ?_) (fun h => ?_)
  · have h : ¬ c.1 = 2 := h
    refine jd_get C rfl (fg_D_D_sort V) (u := .inl c.1) rfl ?_
    refine jd_icmp C rfl (fun h3 => ?_) (fun h3 => ?_)
    · have h3 : ¬ c.1 = 3 := h3
      refine jd_call C hT rfl (fc_D_D_broken V (by decide)) (m_D_broken _ hT) (As := []) rfl rfl rfl (nle rfl) rfl rfl ?_
      rintro r M' ⟨rfl, rfl⟩
      rw [mHold2]
      refine jd_call C hT rfl (fc_D_D_settle V (by decide)) (m_D_settle (M := mHold M 4 0) _ hT (a := rB) hc hk hm rfl rfl (fun q => by cases q)) (As := [.inl (nI m)]) rfl rfl rfl (nle rfl) rfl rfl ?_
      rintro r M' ⟨rfl, rfl⟩
      refine jd_vret C E rfl rfl ⟨rfl, ?_⟩
      unfold mDir
      rw [if_neg h, if_neg h3, can_n (r := rB) (by decide)]
      unfold mSettle
      rw [mHold2]
    · have h3 : c.1 = 3 := Classical.not_not.mp h3
      refine jd_get C rfl (fg_D_D_ref V) (u := .inl c.2) rfl ?_
      refine jd_call C hT rfl (fc_D_D_stand V (by decide)) (m_D_stand _ hT hm 2 c.2) (As := [.inl (nI m), .inl 2, .inl c.2]) rfl rfl rfl (nle rfl) rfl rfl ?_
      rintro r M' ⟨rfl, rfl⟩
      refine jd_goto C rfl ?_
      refine jd_vret C E rfl rfl ⟨rfl, ?_⟩
      unfold mDir
      rw [if_neg h, if_pos h3]
  · have h : c.1 = 2 := Classical.not_not.mp h
    obtain ⟨i, hi, e⟩ := ho h
    refine jd_get C rfl (fg_D_D_home V) rfl ?_
    refine jd_get C rfl (fg_D_D_ref V) (u := .inl c.2) rfl ?_
    refine jd_ald C hT (f := 2) rfl (by decide) rfl rfl i e hi ?_
    refine jd_call C hT rfl (fc_D_D_stand V (by decide)) (m_D_stand _ hT hm 1 (M.2 2 i)) (As := [.inl (nI m), .inl 1, .inl (M.2 2 i)]) rfl rfl rfl (nle rfl) rfl rfl ?_
    rintro r M' ⟨rfl, rfl⟩
    refine jd_goto C rfl ?_
    refine jd_vret C E rfl rfl ⟨rfl, ?_⟩
    unfold mDir
    rw [if_pos h, e, nI_clamp (by omega)]
end DRT
