/-! The reference's small methods. -/
theorem mHold2 (M : Md) (a b c d : Int32) : mHold (mHold M a b) c d = mHold M c d := by
  refine Prod.ext (funext fun i => ?_) rfl
  show va_up (va_up (va_up (va_up M.1 27 a) 28 b) 27 c) 28 d i = va_up (va_up M.1 27 c) 28 d i
  by_cases h8 : i = 28
  · subst h8; rw [va_up_self, va_up_self]
  · rw [va_up_ne _ _ h8, va_up_ne _ _ h8]
    by_cases h7 : i = 27
    · subst h7; rw [va_up_self, va_up_self]
    · rw [va_up_ne _ _ h7, va_up_ne _ _ h7, va_up_ne _ _ h8, va_up_ne _ _ h7]
def dAns (M : Md) (j : Nat) : Option Rf := if M.2 21 j = 0 then none else some (M.2 22 j, M.2 23 j)
theorem ne_of_cmp {x y : Int32} (h : x ≠ y) : fw_cb .ne x y = true := by simpa [fw_cb] using h
section DLF
variable {T : fw_T} {b : Nat} {A : Nat → Nat} {M : Md} {k : Nat} {ph : Nat → Rf}
theorem m_D_look (l : Launch) (hT : TOK T) (hc : CH k ph (dAns M)) (hk : k ≤ 200) {s v : Int32} (hv : vR k (s, v)) : CtD l T y_D_look W_D_look rm_D_look b A [.inr (some b), .inl s, .inl v] M (fun r M' => r = none ∧ M' = mHold M (can ph (s, v)).1 (can ph (s, v)).2) := by
  intro w R
  refine ct_D_look rfl (nle rfl) ?_
  intro X hl C E
  have V := hv_D_look hT
  suffices JD T G_D_look X b A 0 [some (.inr (some b)), some (.inl s), some (.inl v)] [] M from this w R
  obtain ⟨h1, h2, rk, h3⟩ := hc
  have loop : ∀ N (r : Rf), vR k r → (r.1 = 3 → rk r.2.toNatClampNeg < N) → can ph r = can ph (s, v) → JD T G_D_look X b A 6 [some (.inr (some b)), some (.inl s), some (.inl v)] [] (mHold M r.1 r.2) := by
    intro N
    induction N with
    | zero =>
      intro r hr hN he
      by_cases h : r.1 = 3
      · exact absurd (hN h) (Nat.not_lt_zero _)
      · refine jd_get C rfl (fg_D_D_sort V) (u := .inl r.1) rfl ?_
        refine jd_icmpT C rfl (fw_cb_iff.mpr h) ?_
        refine jd_vret C E rfl rfl ⟨rfl, ?_⟩
        rw [← he, can_n h]
    | succ N ih =>
      intro r hr hN he
      refine jd_get C rfl (fg_D_D_sort V) (u := .inl r.1) rfl ?_
      refine jd_icmp C rfl (fun h => ?_) (fun h => ?_)
      · have h : ¬ r.1 = 3 := h
        refine jd_vret C E rfl rfl ⟨rfl, ?_⟩
        rw [← he, can_n h]
      · have h : r.1 = 3 := Classical.not_not.mp h
        obtain ⟨j, hj, rfl⟩ := vR_eq hr h
        refine jd_get C rfl (fg_D_D_resolved V) rfl ?_
        refine jd_get C rfl (fg_D_D_ref V) (u := .inl (nI j)) rfl ?_
        refine jd_zld C hT (f := 21) rfl (by decide) rfl rfl j rfl (by show j < 200; omega) ?_
        refine jd_if C rfl (fun hz => ?_) (fun hz => ?_)
        · have hz : M.2 21 j = 0 := hz
          refine jd_vret C E rfl rfl ⟨rfl, ?_⟩
          rw [← he, can_p (by omega), h1 j hj (by unfold dAns; rw [if_pos hz])]
        · have hz : ¬ M.2 21 j = 0 := hz
          refine jd_get C rfl (fg_D_D_endSort V) rfl ?_
          refine jd_get C rfl (fg_D_D_ref V) (u := .inl (nI j)) rfl ?_
          refine jd_ald C hT (f := 22) rfl (by decide) rfl rfl j rfl (by show j < 200; omega) ?_
          refine jd_get C rfl (fg_D_D_end V) rfl ?_
          refine jd_get C rfl (fg_D_D_ref V) (u := .inl (nI j)) rfl ?_
          refine jd_ald C hT (f := 23) rfl (by decide) rfl rfl j rfl (by show j < 200; omega) ?_
          refine jd_call C hT rfl (fc_D_D_hold V (by decide)) (m_D_hold _ hT _ _) (As := [.inl (M.2 22 j), .inl (M.2 23 j)]) rfl rfl rfl (nle rfl) rfl rfl ?_
          rintro r M' ⟨rfl, rfl⟩
          rw [mHold2]
          refine jd_goto C rfl ?_
          have ha : dAns M j = some (M.2 22 j, M.2 23 j) := by unfold dAns; rw [if_neg hz]
          obtain ⟨e1, e2⟩ := h2 j _ hj ha
          refine ih (M.2 22 j, M.2 23 j) e2 (fun q => ?_) ?_
          · have := h3 j _ hj ha q
            have h4 := hN rfl
            rw [show ((3, nI j) : Rf).2.toNatClampNeg = j from nI_clamp (by omega)] at h4
            omega
          · rw [← he, can_p (by omega)]; exact e1.symm
  refine jd_call C hT rfl (fc_D_D_hold V (by decide)) (m_D_hold _ hT s v) (As := [.inl s, .inl v]) rfl rfl rfl (nle rfl) rfl rfl ?_
  rintro r M' ⟨rfl, rfl⟩
  exact loop (rk v.toNatClampNeg + 1) (s, v) hv (fun _ => Nat.lt_succ_self _) rfl
theorem m_D_isObject (l : Launch) (hT : TOK T) (kd : Int32) (hv : M.1 27 = 2 → ∃ i, i < 40 ∧ M.1 28 = nI i) : CtD l T y_D_isObject W_D_isObject rm_D_isObject b A [.inr (some b), .inl kd] M (fun r M' => r = some (.inl (bI (decide (M.1 27 = 2 ∧ M.2 1 (M.1 28).toNatClampNeg = kd)))) ∧ M' = M) := by
  intro w R
  refine ct_D_isObject rfl (nle rfl) ?_
  intro X hl C E
  have V := hv_D_isObject hT
  suffices JD T G_D_isObject X b A 0 [some (.inr (some b)), some (.inl kd)] [] M from this w R
  refine jd_get C rfl (fg_D_D_sort V) rfl ?_
  refine jd_icmp C rfl (fun h => ?_) (fun h => ?_)
  · have h : ¬ M.1 27 = 2 := h
    refine jd_iret C E rfl (Or.inr ⟨rfl, Or.inl rfl⟩) ⟨?_, rfl⟩
    rw [decide_eq_false (fun q => h q.1)]; rfl
  · have h : M.1 27 = 2 := Classical.not_not.mp h
    obtain ⟨i, hi, e⟩ := hv h
    refine jd_get C rfl (fg_D_D_kind V) rfl ?_
    refine jd_get C rfl (fg_D_D_ref V) rfl ?_
    refine jd_ald C hT (f := 1) rfl (by decide) rfl rfl i e hi ?_
    refine jd_icmp C rfl (fun h' => ?_) (fun h' => ?_)
    · have h' : ¬ M.2 1 i = kd := h'
      refine jd_iret C E rfl (Or.inr ⟨rfl, Or.inl rfl⟩) ⟨?_, rfl⟩
      rw [e, nI_clamp (by omega), decide_eq_false (fun q => h' q.2)]; rfl
    · have h' : M.2 1 i = kd := Classical.not_not.mp h'
      refine jd_goto C rfl ?_
      refine jd_iret C E rfl (Or.inr ⟨rfl, Or.inr rfl⟩) ⟨?_, rfl⟩
      rw [e, nI_clamp (by omega), decide_eq_true ⟨h, h'⟩]; rfl
/-- a new object's row -/
def mMake (M : Md) (n : Nat) (kd vat to : Int32) : Md :=
  (va_up M.1 0 (nI (n + 1)), fun f i => if f = 1 ∧ i = n then kd else if f = 2 ∧ i = n then vat else if f = 3 ∧ i = n then to else if (f = 4 ∨ f = 5 ∨ f = 6 ∨ f = 7 ∨ f = 8) ∧ i = n then 0 else if f = 9 ∧ 4 * n ≤ i ∧ i < 4 * n + 4 then 0 else M.2 f i)
theorem nI_mul4 {o i : Nat} : (4 : Int32) * nI o + nI i = nI (4 * o + i) := by
  show nI 4 * nI o + nI i = _
  rw [show nI 4 * nI o = nI (4 * o) from (Int32.ofNat_mul 4 o).symm, nI_add]
theorem m_D_make (l : Launch) (hT : TOK T) {n : Nat} (hn : M.1 0 = nI n) (h40 : n < 40) (kd vat to : Int32) : CtD l T y_D_make W_D_make rm_D_make b A [.inr (some b), .inl kd, .inl vat, .inl to] M (fun r M' => r = some (.inl (nI n)) ∧ M' = mMake M n kd vat to) := by
  intro w R
  refine ct_D_make rfl (nle rfl) ?_
  intro X hl C E
  have V := hv_D_make hT
  suffices JD T G_D_make X b A 0 [some (.inr (some b)), some (.inl kd), some (.inl vat), some (.inl to), none, none] [] M from this w R
  refine jd_get C rfl (fg_D_D_objects V) rfl ?_
  refine jd_get C rfl (fg_D_D_kind V) rfl ?_
  refine jd_ast C hT (f := 1) rfl (by decide) rfl rfl n hn h40 ?_
  refine jd_get C rfl (fg_D_D_home V) rfl ?_
  refine jd_ast C hT (f := 2) rfl (by decide) rfl rfl n hn h40 ?_
  refine jd_get C rfl (fg_D_D_link V) rfl ?_
  refine jd_ast C hT (f := 3) rfl (by decide) rfl rfl n hn h40 ?_
  refine jd_get C rfl (fg_D_D_balance V) rfl ?_
  refine jd_ast C hT (f := 4) rfl (by decide) rfl rfl n hn h40 ?_
  refine jd_get C rfl (fg_D_D_inward V) rfl ?_
  refine jd_ast C hT (f := 5) rfl (by decide) rfl rfl n hn h40 ?_
  refine jd_get C rfl (fg_D_D_revoked V) rfl ?_
  refine jd_zst C hT (f := 6) rfl (by decide) rfl rfl n hn h40 (Or.inl rfl) ?_
  refine jd_get C rfl (fg_D_D_ownSort V) rfl ?_
  refine jd_ast C hT (f := 7) rfl (by decide) rfl rfl n hn h40 ?_
  refine jd_get C rfl (fg_D_D_own V) rfl ?_
  refine jd_ast C hT (f := 8) rfl (by decide) rfl rfl n hn h40 ?_
  have loop : ∀ d i M', i + d = 4 → M'.1 = M.1 → (∀ f q, M'.2 f q = (if f = 9 then (if 4 * n ≤ q ∧ q < 4 * n + i then 0 else M.2 f q) else (mMake M n kd vat to).2 f q)) → JD T G_D_make X b A 73 [some (.inr (some b)), some (.inl kd), some (.inl vat), some (.inl to), some (.inl (M.1 0)), some (.inl (nI i))] [] M' := by
    intro d
    induction d with
    | zero =>
      intro i M' hi h1 h2
      refine jd_icmpT C rfl (fw_cb_iff.mpr (by show (4 : Int32) ≤ nI i; rw [show i = 4 by omega]; decide)) ?_
      refine jd_get C rfl (fg_D_D_objects V) rfl ?_
      refine jd_put C rfl (fp_D_D_objects V) (by decide) rfl ?_
      refine jd_iret C E rfl (Or.inl rfl) ⟨by rw [hn], ?_⟩
      refine Prod.ext ?_ (funext fun f => funext fun q => ?_)
      · show va_up M'.1 0 (M'.1 0 + 1) = va_up M.1 0 (nI (n + 1))
        rw [h1, hn, nI_1]
      · show M'.2 f q = _
        rw [h2 f q, show i = 4 by omega]
        by_cases h9 : f = 9
        · subst h9; simp [mMake]
        · rw [if_neg h9]
    | succ d ih =>
      intro i M' hi h1 h2
      refine jd_icmpF C rfl (Bool.eq_false_iff.mpr fun q => by
        have q : (4 : Int32) ≤ nI i := fw_cb_iff.mp q
        have q' : nI i < nI 4 := nI_lt (by omega) (by omega)
        rw [Int32.lt_iff_toInt_lt] at q'
        rw [Int32.le_iff_toInt_le] at q
        have : (nI 4 : Int32).toInt = (4 : Int32).toInt := rfl
        omega) ?_
      refine jd_get C rfl (fg_D_D_slotSort V) rfl ?_
      refine jd_ast C hT (f := 9) rfl (by decide) rfl rfl (4 * n + i) (by rw [hn]; exact nI_mul4) (by show 4 * n + i < 160; omega) ?_
      refine jd_goto C rfl ?_
      have hrec := ih (i + 1) (M'.1, va_up M'.2 9 (va_up (M'.2 9) (4 * n + i) 0)) (by omega) h1 (fun f q => by
        show va_up M'.2 9 (va_up (M'.2 9) (4 * n + i) 0) f q = _
        by_cases h9 : f = 9
        · subst h9
          rw [va_up_self, if_pos rfl]
          by_cases hq : q = 4 * n + i
          · subst hq; rw [va_up_self, if_pos ⟨by omega, by omega⟩]
          · rw [va_up_ne _ _ hq, h2, if_pos rfl]
            by_cases hc : 4 * n ≤ q ∧ q < 4 * n + i
            · rw [if_pos hc, if_pos ⟨by omega, by omega⟩]
            · rw [if_neg hc, if_neg (by omega)]
        · rw [va_up_ne _ _ h9, h2, if_neg h9, if_neg h9])
      rw [← nI_1] at hrec
      exact hrec
  refine jd_to C 73 rfl ?_
  refine loop 4 0 _ rfl rfl (fun f q => ?_)
  rcases (show f = 1 ∨ f = 2 ∨ f = 3 ∨ f = 4 ∨ f = 5 ∨ f = 6 ∨ f = 7 ∨ f = 8 ∨ f = 9 ∨ (f ≠ 1 ∧ f ≠ 2 ∧ f ≠ 3 ∧ f ≠ 4 ∧ f ≠ 5 ∧ f ≠ 6 ∧ f ≠ 7 ∧ f ≠ 8 ∧ f ≠ 9) by omega) with rfl | rfl | rfl | rfl | rfl | rfl | rfl | rfl | rfl | ⟨a1, a2, a3, a4, a5, a6, a7, a8, a9⟩
  all_goals first
    | (rw [if_pos rfl, if_neg (by omega)]; rfl)
    | (by_cases hq : q = n <;> simp [mMake, va_up, hq]; done)
    | simp [mMake, va_up, *]
theorem m_D_fresh (l : Launch) (hT : TOK T) {n : Nat} (hn : M.1 0 = nI n) (h40 : n ≤ 40) (kd vat to : Int32) : CtD l T y_D_fresh W_D_fresh rm_D_fresh b A [.inr (some b), .inl kd, .inl vat, .inl to] M (fun r M' => r = none ∧ M' = if n < 40 then mHold (mMake M n kd vat to) 2 (nI n) else mHold M 4 0) := by
  intro w R
  refine ct_D_fresh rfl (nle rfl) ?_
  intro X hl C E
  have V := hv_D_fresh hT
  suffices JD T G_D_fresh X b A 0 [some (.inr (some b)), some (.inl kd), some (.inl vat), some (.inl to)] [] M from this w R
  refine jd_get C rfl (fg_D_D_objects V) (u := .inl (nI n)) (by rw [← hn]; rfl) ?_
  by_cases h : n < 40
  · rw [if_pos h] at E
    refine jd_icmpT C rfl (fw_cb_iff.mpr (fun q => by have := (nI_eq (b := 40) (by omega) (by omega)).mp q; omega)) ?_
    refine jd_call C hT rfl (fc_D_D_make V (by decide)) (m_D_make _ hT hn h kd vat to) (As := [.inl kd, .inl vat, .inl to]) rfl rfl rfl (nle rfl) rfl rfl ?_
    rintro r M' ⟨rfl, rfl⟩
    refine jd_call C hT rfl (fc_D_D_hold V (by decide)) (m_D_hold _ hT 2 (nI n)) (As := [.inl 2, .inl (nI n)]) rfl rfl rfl (nle rfl) rfl rfl ?_
    rintro r M' ⟨rfl, rfl⟩
    exact jd_vret C E rfl rfl ⟨rfl, rfl⟩
  · rw [if_neg h] at E
    refine jd_icmpF C rfl (by rw [show n = 40 by omega]; decide) ?_
    refine jd_call C hT rfl (fc_D_D_broken V (by decide)) (m_D_broken _ hT) (As := []) rfl rfl rfl (nle rfl) rfl rfl ?_
    rintro r M' ⟨rfl, rfl⟩
    refine jd_goto C rfl ?_
    exact jd_vret C E rfl rfl ⟨rfl, rfl⟩
def mStand (M : Md) (m : Nat) (p x : Int32) : Md := (va_up M.1 15 (M.1 15 + 1), va_up (va_up (va_up M.2 12 (va_up (M.2 12) m p)) 13 (va_up (M.2 13) m x)) 14 (va_up (M.2 14) m (M.1 15 + 1)))
theorem m_D_stand (l : Launch) (hT : TOK T) {m : Nat} (hm : m < 200) (p x : Int32) : CtD l T y_D_stand W_D_stand rm_D_stand b A [.inr (some b), .inl (nI m), .inl p, .inl x] M (fun r M' => r = none ∧ M' = mStand M m p x) := by
  intro w R
  refine ct_D_stand rfl (nle rfl) ?_
  intro X hl C E
  have V := hv_D_stand hT
  suffices JD T G_D_stand X b A 0 [some (.inr (some b)), some (.inl (nI m)), some (.inl p), some (.inl x)] [] M from this w R
  refine jd_get C rfl (fg_D_D_place V) rfl ?_
  refine jd_ast C hT (f := 12) rfl (by decide) rfl rfl m rfl hm ?_
  refine jd_get C rfl (fg_D_D_where V) rfl ?_
  refine jd_ast C hT (f := 13) rfl (by decide) rfl rfl m rfl hm ?_
  refine jd_get C rfl (fg_D_D_stamps V) rfl ?_
  refine jd_put C rfl (fp_D_D_stamps V) (by decide) rfl ?_
  refine jd_get C rfl (fg_D_D_stamp V) rfl ?_
  refine jd_get C rfl (fg_D_D_stamps V) rfl ?_
  refine jd_ast C hT (f := 14) rfl (by decide) rfl rfl m rfl hm ?_
  exact jd_vret C E rfl rfl ⟨rfl, rfl⟩
/-- how many of the first i stand so -/
def nCount (M : Md) (p x : Int32) : Nat → Nat
  | 0 => 0
  | i + 1 => if M.2 12 i = p ∧ M.2 13 i = x then nCount M p x i + 1 else nCount M p x i
theorem m_D_count (l : Launch) (hT : TOK T) {k : Nat} (hk : M.1 11 = nI k) (h200 : k ≤ 200) (p x : Int32) : CtD l T y_D_count W_D_count rm_D_count b A [.inr (some b), .inl p, .inl x] M (fun r M' => r = some (.inl (nI (nCount M p x k))) ∧ M' = M) := by
  intro w R
  refine ct_D_count rfl (nle rfl) ?_
  intro X hl C E
  have V := hv_D_count hT
  suffices JD T G_D_count X b A 0 [some (.inr (some b)), some (.inl p), some (.inl x), none, none] [] M from this w R
  have loop : ∀ d i, i + d = k → JD T G_D_count X b A 5 [some (.inr (some b)), some (.inl p), some (.inl x), some (.inl (nI (nCount M p x i))), some (.inl (nI i))] [] M := by
    intro d
    induction d with
    | zero =>
      intro i hi
      refine jd_get C rfl (fg_D_D_messages V) (u := .inl (nI k)) (by rw [← hk]; rfl) ?_
      refine jd_icmpT C rfl (fw_cb_iff.mpr (by show nI k ≤ nI i; exact nI_le (by omega) (by omega))) ?_
      refine jd_iret C E rfl (Or.inl rfl) ⟨by rw [show i = k by omega], rfl⟩
    | succ d ih =>
      intro i hi
      refine jd_get C rfl (fg_D_D_messages V) (u := .inl (nI k)) (by rw [← hk]; rfl) ?_
      refine jd_icmpF C rfl (Bool.eq_false_iff.mpr fun q => nI_ge (a := i) (b := k) (by omega) (by omega) (fw_cb_iff.mp q)) ?_
      have hr := ih (i + 1) (by omega)
      refine jd_get C rfl (fg_D_D_place V) rfl ?_
      refine jd_ald C hT (f := 12) rfl (by decide) rfl rfl i rfl (by show i < 200; omega) ?_
      refine jd_icmp C rfl (fun h => ?_) (fun h => ?_)
      · have h : ¬ M.2 12 i = p := h
        rw [show nCount M p x (i + 1) = nCount M p x i by show (if _ then _ else _) = _; rw [if_neg (fun q => h q.1)]] at hr
        refine jd_goto C rfl ?_
        rw [← nI_1] at hr
        exact hr
      · have h : M.2 12 i = p := Classical.not_not.mp h
        refine jd_get C rfl (fg_D_D_where V) rfl ?_
        refine jd_ald C hT (f := 13) rfl (by decide) rfl rfl i rfl (by show i < 200; omega) ?_
        refine jd_icmp C rfl (fun h' => ?_) (fun h' => ?_)
        · have h' : ¬ M.2 13 i = x := h'
          rw [show nCount M p x (i + 1) = nCount M p x i by show (if _ then _ else _) = _; rw [if_neg (fun q => h' q.2)]] at hr
          refine jd_goto C rfl ?_
          rw [← nI_1] at hr
          exact hr
        · have h' : M.2 13 i = x := Classical.not_not.mp h'
          rw [show nCount M p x (i + 1) = nCount M p x i + 1 by show (if _ then _ else _) = _; rw [if_pos ⟨h, h'⟩]] at hr
          refine jd_goto C rfl ?_
          refine jd_goto C rfl ?_
          rw [← nI_1, ← nI_1] at hr
          exact hr
  refine jd_to C 5 rfl ?_
  exact loop k 0 (Nat.zero_add _)
end DLF
