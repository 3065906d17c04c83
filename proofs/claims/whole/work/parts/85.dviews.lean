/-! The reference's views. -/
def PV (s : St) (B : Nat) (x : Int32) : Option fw_V → Md → Prop := fun v M' => v = some (.inl x) ∧ Iv s M' B
theorem nC_len {M : Md} {p x : Int32} : ∀ {k : Nat} {l : List Nat}, l.Nodup → (∀ j, j ∈ l ↔ j < k ∧ M.2 12 j = p ∧ M.2 13 j = x) → nCount M p x k = l.length
  | 0, l, _, hm => by
    cases l with
    | nil => rfl
    | cons a t => exact absurd ((hm a).mp List.mem_cons_self).1 (Nat.not_lt_zero _)
  | k + 1, l, hd, hm => by
    by_cases hk : M.2 12 k = p ∧ M.2 13 k = x
    · show (if M.2 12 k = p ∧ M.2 13 k = x then nCount M p x k + 1 else nCount M p x k) = _
      rw [if_pos hk]
      have hkl : k ∈ l := (hm k).mpr ⟨Nat.lt_succ_self _, hk⟩
      have := nC_len (M := M) (p := p) (x := x) (k := k) (l := l.erase k) (hd.erase k) (fun j => by
        rw [hd.mem_erase_iff, hm j]
        constructor
        · rintro ⟨a, b, c⟩; exact ⟨by omega, c⟩
        · rintro ⟨a, c⟩; exact ⟨by omega, by omega, c⟩)
      rw [this, List.length_erase_of_mem hkl]
      have := List.length_pos_of_mem hkl
      omega
    · show (if M.2 12 k = p ∧ M.2 13 k = x then nCount M p x k + 1 else nCount M p x k) = _
      rw [if_neg hk]
      exact nC_len hd (fun j => by
        rw [hm j]
        constructor
        · rintro ⟨a, c⟩
          exact ⟨by rcases Nat.lt_succ_iff_lt_or_eq.mp a with h | h; exact h; subst h; exact absurd c hk, c⟩
        · rintro ⟨a, c⟩; exact ⟨by omega, c⟩)
section DVW
variable {T : fw_T} {b : Nat} {A : Nat → Nat} {M : Md} {s : St} {B : Nat}
theorem m_D_objects (l : Launch) (hT : TOK T) (I : Iv s M B) : CtD l T y_D_objects W_D_objects rm_D_objects b A [.inr (some b)] M (PV s B (nI (sN s))) := by
  obtain ⟨ph, S, L⟩ := I
  intro w R
  refine ct_D_objects rfl (nle rfl) ?_
  intro X hl C E
  have V := hv_D_objects hT
  suffices JD T G_D_objects X b A 0 [some (.inr (some b))] [] M from this w R
  have n40 := S.n40
  have k200 := S.k200
  refine jd_get C rfl (fg_D_D_objects V) (u := .inl (nI (sN s))) (by rw [← S.hn]; rfl) ?_
  exact jd_iret C E rfl (Or.inl rfl) ⟨rfl, ph, S, L⟩
theorem m_D_messages (l : Launch) (hT : TOK T) (I : Iv s M B) : CtD l T y_D_messages W_D_messages rm_D_messages b A [.inr (some b)] M (PV s B (nI (sK s))) := by
  obtain ⟨ph, S, L⟩ := I
  intro w R
  refine ct_D_messages rfl (nle rfl) ?_
  intro X hl C E
  have V := hv_D_messages hT
  suffices JD T G_D_messages X b A 0 [some (.inr (some b))] [] M from this w R
  have n40 := S.n40
  have k200 := S.k200
  refine jd_get C rfl (fg_D_D_messages V) (u := .inl (nI (sK s))) (by rw [← S.hk]; rfl) ?_
  exact jd_iret C E rfl (Or.inl rfl) ⟨rfl, ph, S, L⟩
theorem m_D_kind (l : Launch) (hT : TOK T) (I : Iv s M B) (x : Int32) : CtD l T y_D_kind W_D_kind rm_D_kind b A [.inr (some b), .inl x] M (PV s B (kindS s x)) := by
  obtain ⟨ph, S, L⟩ := I
  intro w R
  refine ct_D_kind rfl (nle rfl) ?_
  intro X hl C E
  have V := hv_D_kind hT
  suffices JD T G_D_kind X b A 0 [some (.inr (some b)), some (.inl x)] [] M from this w R
  have n40 := S.n40
  have k200 := S.k200
  unfold kindS at E
  refine jd_get C rfl (fg_D_D_objects V) (u := .inl (nI (sN s))) (by rw [← S.hn]; rfl) ?_
  refine jd_callS C rfl (fc_D_D_out V (by decide)) (m_D_outN _ hT x (n := sN s) (by omega)) (As := [.inl x, .inl (nI (sN s))]) rfl rfl (nle rfl) rfl rfl ?_
  cases hx : ixO (sN s) x with
  | none =>
    rw [hx] at E
    refine jd_ifF C rfl rfl ?_
    refine jd_goto C rfl ?_
    exact jd_iret C E rfl (Or.inl rfl) ⟨rfl, ph, S, L⟩
  | some i =>
    obtain ⟨hi, rfl⟩ := ixO_lt (by omega) hx
    rw [hx] at E
    dsimp only at E
    refine jd_ifT C rfl rfl ?_
    refine jd_get C rfl (fg_D_D_kind V) rfl ?_
    refine jd_ald C hT (f := 1) rfl (by decide) rfl rfl i rfl (by show i < 40; omega) ?_
    rw [(S.tt hi).2.1]
    exact jd_iret C E rfl (Or.inl rfl) ⟨rfl, ph, S, L⟩
theorem m_D_home (l : Launch) (hT : TOK T) (I : Iv s M B) (x : Int32) : CtD l T y_D_home W_D_home rm_D_home b A [.inr (some b), .inl x] M (PV s B (homeS s x)) := by
  obtain ⟨ph, S, L⟩ := I
  intro w R
  refine ct_D_home rfl (nle rfl) ?_
  intro X hl C E
  have V := hv_D_home hT
  suffices JD T G_D_home X b A 0 [some (.inr (some b)), some (.inl x)] [] M from this w R
  have n40 := S.n40
  have k200 := S.k200
  unfold homeS at E
  refine jd_get C rfl (fg_D_D_objects V) (u := .inl (nI (sN s))) (by rw [← S.hn]; rfl) ?_
  refine jd_callS C rfl (fc_D_D_out V (by decide)) (m_D_outN _ hT x (n := sN s) (by omega)) (As := [.inl x, .inl (nI (sN s))]) rfl rfl (nle rfl) rfl rfl ?_
  cases hx : ixO (sN s) x with
  | none =>
    rw [hx] at E
    refine jd_ifF C rfl rfl ?_
    refine jd_goto C rfl ?_
    exact jd_iret C E rfl (Or.inl rfl) ⟨rfl, ph, S, L⟩
  | some i =>
    obtain ⟨hi, rfl⟩ := ixO_lt (by omega) hx
    rw [hx] at E
    dsimp only at E
    refine jd_ifT C rfl rfl ?_
    refine jd_get C rfl (fg_D_D_home V) rfl ?_
    refine jd_ald C hT (f := 2) rfl (by decide) rfl rfl i rfl (by show i < 40; omega) ?_
    rw [(S.tt hi).2.2.1]
    exact jd_iret C E rfl (Or.inl rfl) ⟨rfl, ph, S, L⟩
theorem m_D_place (l : Launch) (hT : TOK T) (I : Iv s M B) (x : Int32) : CtD l T y_D_place W_D_place rm_D_place b A [.inr (some b), .inl x] M (PV s B (placeS s x)) := by
  obtain ⟨ph, S, L⟩ := I
  intro w R
  refine ct_D_place rfl (nle rfl) ?_
  intro X hl C E
  have V := hv_D_place hT
  suffices JD T G_D_place X b A 0 [some (.inr (some b)), some (.inl x)] [] M from this w R
  have n40 := S.n40
  have k200 := S.k200
  unfold placeS at E
  refine jd_get C rfl (fg_D_D_messages V) (u := .inl (nI (sK s))) (by rw [← S.hk]; rfl) ?_
  refine jd_callS C rfl (fc_D_D_out V (by decide)) (m_D_outN _ hT x (n := sK s) (by omega)) (As := [.inl x, .inl (nI (sK s))]) rfl rfl (nle rfl) rfl rfl ?_
  cases hx : ixO (sK s) x with
  | none =>
    rw [hx] at E
    refine jd_ifF C rfl rfl ?_
    refine jd_goto C rfl ?_
    exact jd_iret C E rfl (Or.inl rfl) ⟨rfl, ph, S, L⟩
  | some i =>
    obtain ⟨hi, rfl⟩ := ixO_lt (by omega) hx
    rw [hx] at E
    dsimp only at E
    refine jd_ifT C rfl rfl ?_
    refine jd_get C rfl (fg_D_D_place V) rfl ?_
    refine jd_ald C hT (f := 12) rfl (by decide) rfl rfl i rfl (by show i < 200; omega) ?_
    rw [← L.2.2.1 i hi not_noX]
    exact jd_iret C E rfl (Or.inl rfl) ⟨rfl, ph, S, L⟩
theorem m_D_notes (l : Launch) (hT : TOK T) (I : Iv s M B) (x : Int32) : CtD l T y_D_notes W_D_notes rm_D_notes b A [.inr (some b), .inl x] M (PV s B (notesS s x)) := by
  obtain ⟨ph, S, L⟩ := I
  intro w R
  refine ct_D_notes rfl (nle rfl) ?_
  intro X hl C E
  have V := hv_D_notes hT
  suffices JD T G_D_notes X b A 0 [some (.inr (some b)), some (.inl x)] [] M from this w R
  have n40 := S.n40
  have k200 := S.k200
  unfold notesS at E
  refine jd_get C rfl (fg_D_D_messages V) (u := .inl (nI (sK s))) (by rw [← S.hk]; rfl) ?_
  refine jd_callS C rfl (fc_D_D_out V (by decide)) (m_D_outN _ hT x (n := sK s) (by omega)) (As := [.inl x, .inl (nI (sK s))]) rfl rfl (nle rfl) rfl rfl ?_
  cases hx : ixO (sK s) x with
  | none =>
    rw [hx] at E
    refine jd_ifF C rfl rfl ?_
    refine jd_goto C rfl ?_
    exact jd_iret C E rfl (Or.inl rfl) ⟨rfl, ph, S, L⟩
  | some i =>
    obtain ⟨hi, rfl⟩ := ixO_lt (by omega) hx
    rw [hx] at E
    dsimp only at E
    refine jd_ifT C rfl rfl ?_
    refine jd_get C rfl (fg_D_D_notes V) rfl ?_
    refine jd_ald C hT (f := 24) rfl (by decide) rfl rfl i rfl (by show i < 200; omega) ?_
    rw [(S.m hi).2.2.2.2.2.1]
    exact jd_iret C E rfl (Or.inl rfl) ⟨rfl, ph, S, L⟩
theorem m_D_waiting (l : Launch) (hT : TOK T) (I : Iv s M B) (x : Int32) : CtD l T y_D_waiting W_D_waiting rm_D_waiting b A [.inr (some b), .inl x] M (PV s B (waitingS s x)) := by
  obtain ⟨ph, S, L⟩ := I
  intro w R
  refine ct_D_waiting rfl (nle rfl) ?_
  intro X hl C E
  have V := hv_D_waiting hT
  suffices JD T G_D_waiting X b A 0 [some (.inr (some b)), some (.inl x)] [] M from this w R
  have n40 := S.n40
  have k200 := S.k200
  unfold waitingS at E
  refine jd_get C rfl (fg_D_D_messages V) (u := .inl (nI (sK s))) (by rw [← S.hk]; rfl) ?_
  refine jd_callS C rfl (fc_D_D_out V (by decide)) (m_D_outN _ hT x (n := sK s) (by omega)) (As := [.inl x, .inl (nI (sK s))]) rfl rfl (nle rfl) rfl rfl ?_
  cases hx : ixO (sK s) x with
  | none =>
    rw [hx] at E
    refine jd_ifF C rfl rfl ?_
    refine jd_goto C rfl ?_
    exact jd_iret C E rfl (Or.inl rfl) ⟨rfl, ph, S, L⟩
  | some i =>
    obtain ⟨hi, rfl⟩ := ixO_lt (by omega) hx
    rw [hx] at E
    dsimp only at E
    refine jd_ifT C rfl rfl ?_
    obtain ⟨w1, w2⟩ := L.w S hi
    refine jd_call C hT rfl (fc_D_D_count V (by decide)) (m_D_count _ hT S.hk k200 2 (nI i)) (As := [.inl 2, .inl (nI i)]) rfl rfl rfl (nle rfl) rfl rfl ?_
    rintro r M ⟨rfl, rfl⟩
    rw [nC_len w2 w1]
    exact jd_iret C E rfl (Or.inl rfl) ⟨rfl, ph, S, L⟩
theorem m_D_queued (l : Launch) (hT : TOK T) (I : Iv s M B) (x : Int32) : CtD l T y_D_queued W_D_queued rm_D_queued b A [.inr (some b), .inl x] M (PV s B (queuedS s x)) := by
  obtain ⟨ph, S, L⟩ := I
  intro w R
  refine ct_D_queued rfl (nle rfl) ?_
  intro X hl C E
  have V := hv_D_queued hT
  suffices JD T G_D_queued X b A 0 [some (.inr (some b)), some (.inl x)] [] M from this w R
  have n40 := S.n40
  have k200 := S.k200
  unfold queuedS at E
  refine jd_callS C rfl (fc_D_D_out V (by decide)) (m_D_outN _ hT x (n := 3) (by decide)) (As := [.inl x, .inl (nI 3)]) rfl rfl (nle rfl) rfl rfl ?_
  cases hx : ixO 3 x with
  | none =>
    rw [hx] at E
    refine jd_ifF C rfl rfl ?_
    refine jd_goto C rfl ?_
    exact jd_iret C E rfl (Or.inl rfl) ⟨rfl, ph, S, L⟩
  | some v =>
    obtain ⟨hv, rfl⟩ := ixO_lt (by decide) hx
    rw [hx] at E
    dsimp only at E
    refine jd_ifT C rfl rfl ?_
    obtain ⟨w1, w2, -⟩ := L.q S hv
    refine jd_call C hT rfl (fc_D_D_count V (by decide)) (m_D_count _ hT S.hk k200 1 (nI v)) (As := [.inl 1, .inl (nI v)]) rfl rfl rfl (nle rfl) rfl rfl ?_
    rintro r M ⟨rfl, rfl⟩
    rw [nC_len (w2.imp (fun {a b} q e => by subst e; exact Int32.lt_irrefl q)) w1]
    exact jd_iret C E rfl (Or.inl rfl) ⟨rfl, ph, S, L⟩
theorem m_D_next (l : Launch) (hT : TOK T) (I : Iv s M B) (x y : Int32) : CtD l T y_D_next W_D_next rm_D_next b A [.inr (some b), .inl x, .inl y] M (PV s B (nextS s x y)) := by
  obtain ⟨ph, S, L⟩ := I
  intro w R
  refine ct_D_next rfl (nle rfl) ?_
  intro X hl C E
  have V := hv_D_next hT
  suffices JD T G_D_next X b A 0 [some (.inr (some b)), some (.inl x), some (.inl y), none] [] M from this w R
  have n40 := S.n40
  have k200 := S.k200
  unfold nextS at E
  have no : ∀ z, nextS s x y = -3 → JD T G_D_next X b A 18 [some (.inr (some b)), some (.inl x), some (.inl y), z] [] M := by
    intro z hE
    unfold nextS at hE
    rw [hE] at E
    refine jd_goto C rfl ?_
    refine jd_ifF C rfl rfl ?_
    refine jd_goto C rfl ?_
    exact jd_iret C E rfl (Or.inl rfl) ⟨rfl, ph, S, L⟩
  refine jd_callS C rfl (fc_D_D_out V (by decide)) (m_D_outN _ hT x (n := 3) (by decide)) (As := [.inl x, .inl (nI 3)]) rfl rfl (nle rfl) rfl rfl ?_
  cases hx : ixO 3 x with
  | none =>
    refine jd_ifT C rfl rfl ?_
    exact no _ (by unfold nextS; rw [hx])
  | some v =>
    obtain ⟨hv, rfl⟩ := ixO_lt (by decide) hx
    obtain ⟨w1, w2, w3⟩ := L.q S hv
    have hnd : (sL s v).Nodup := w2.imp (fun {a b} q e => by subst e; exact Int32.lt_irrefl q)
    have hln : (sL s v).length ≤ sK s := ln_len hnd (fun j hj => ((w1 j).mp hj).1)
    refine jd_ifF C rfl rfl ?_
    refine jd_callS C rfl (fc_D_D_out V (by decide)) (m_D_outN _ hT y (n := 200) (by decide)) (As := [.inl y, .inl (nI 200)]) rfl rfl (nle rfl) rfl rfl ?_
    cases hy : ixO 200 y with
    | none =>
      refine jd_ifF C rfl rfl ?_
      refine no _ ?_
      unfold nextS
      rw [hx]
      dsimp only
      rw [show ixO (sL s v).length y = none by
        rcases ixO_cases 200 (by decide) y with ⟨h, -⟩ | ⟨h0, h, -⟩ | ⟨p, hp, -, -, -, e⟩
        · exact ixO_neg h
        · refine ixO_big ?_
          have : nI (sL s v).length ≤ nI 200 := nI_le (by omega) (by decide)
          rw [Int32.le_iff_toInt_le] at *
          omega
        · rw [hy] at e; cases e]
    | some p =>
      obtain ⟨hp, rfl⟩ := ixO_lt (by decide) hy
      refine jd_ifT C rfl rfl ?_
      refine jd_call C hT rfl (fc_D_D_nth V (by decide)) (m_D_nth _ hT S.hk k200 w1 w2 w3 (B := p) hp) (As := [.inl 1, .inl (nI v), .inl (nI p)]) rfl rfl rfl (nle rfl) rfl rfl ?_
      rintro r M ⟨rfl, rfl⟩
      rw [hx] at E
      dsimp only at E
      by_cases hpl : p < (sL s v).length
      · rw [ixO_some (by omega) hpl] at E
        dsimp only at E
        rw [List.getD_eq_getElem?_getD, List.getElem?_eq_getElem hpl] at E
        rw [List.getElem?_eq_getElem hpl]
        have hj := ((w1 (sL s v)[p]).mp (List.getElem_mem hpl)).1
        refine jd_ifT C rfl (fw_cb_iff.mpr (by show (0 : Int32) ≤ nI (sL s v)[p]; exact nI_pos' (by omega))) ?_
        exact jd_iret C E rfl (Or.inl rfl) ⟨rfl, ph, S, L⟩
      · rw [ixO_big (nI_le (by omega) (by omega))] at E
        rw [List.getElem?_eq_none (by omega)]
        refine jd_ifF C rfl rfl ?_
        refine jd_goto C rfl ?_
        exact jd_iret C E rfl (Or.inl rfl) ⟨rfl, ph, S, L⟩
theorem m_D_result (l : Launch) (hT : TOK T) (I : Iv s M B) (x : Int32) : CtD l T y_D_result W_D_result rm_D_result b A [.inr (some b), .inl x] M (PV s B (resultS s x)) := by
  obtain ⟨ph, S, L⟩ := I
  intro w R
  refine ct_D_result rfl (nle rfl) ?_
  intro X hl C E
  have V := hv_D_result hT
  suffices JD T G_D_result X b A 0 [some (.inr (some b)), some (.inl x)] [] M from this w R
  have n40 := S.n40
  have k200 := S.k200
  unfold resultS at E
  refine jd_get C rfl (fg_D_D_messages V) (u := .inl (nI (sK s))) (by rw [← S.hk]; rfl) ?_
  refine jd_callS C rfl (fc_D_D_out V (by decide)) (m_D_outN _ hT x (n := sK s) (by omega)) (As := [.inl x, .inl (nI (sK s))]) rfl rfl (nle rfl) rfl rfl ?_
  cases hx : ixO (sK s) x with
  | none =>
    rw [hx] at E
    refine jd_ifF C rfl rfl ?_
    exact jd_iret C E rfl (Or.inl rfl) ⟨rfl, ph, S, L⟩
  | some j =>
    obtain ⟨hj, rfl⟩ := ixO_lt (by omega) hx
    rw [hx] at E
    dsimp only at E
    have hV : VV (sN s) (sK s) (3, nI j) := VV.pro hj
    have hz := (hV.can S.hp k200).2.2
    rw [S.cntE hV] at E
    refine jd_ifT C rfl rfl ?_
    refine jd_call C hT rfl (fc_D_D_look V (by decide)) (m_D_look _ hT S.c2 k200 hV.1) (As := [.inl 3, .inl (nI j)]) rfl rfl rfl (nle rfl) rfl rfl ?_
    rintro r M' ⟨rfl, rfl⟩
    generalize can ph (3, nI j) = c at *
    refine jd_get C rfl (fg_D_D_sort V) (u := .inl c.1) rfl ?_
    exact jd_iret C E rfl (Or.inl rfl) ⟨rfl, ph, S.hold, L.fr rfl Fr.rf.hold⟩
theorem m_D_value (l : Launch) (hT : TOK T) (I : Iv s M B) (x : Int32) : CtD l T y_D_value W_D_value rm_D_value b A [.inr (some b), .inl x] M (PV s B (valueS s x)) := by
  obtain ⟨ph, S, L⟩ := I
  intro w R
  refine ct_D_value rfl (nle rfl) ?_
  intro X hl C E
  have V := hv_D_value hT
  suffices JD T G_D_value X b A 0 [some (.inr (some b)), some (.inl x)] [] M from this w R
  have n40 := S.n40
  have k200 := S.k200
  unfold valueS at E
  refine jd_get C rfl (fg_D_D_messages V) (u := .inl (nI (sK s))) (by rw [← S.hk]; rfl) ?_
  refine jd_callS C rfl (fc_D_D_out V (by decide)) (m_D_outN _ hT x (n := sK s) (by omega)) (As := [.inl x, .inl (nI (sK s))]) rfl rfl (nle rfl) rfl rfl ?_
  cases hx : ixO (sK s) x with
  | none =>
    rw [hx] at E
    refine jd_ifF C rfl rfl ?_
    exact jd_iret C E rfl (Or.inl rfl) ⟨rfl, ph, S, L⟩
  | some j =>
    obtain ⟨hj, rfl⟩ := ixO_lt (by omega) hx
    rw [hx] at E
    dsimp only at E
    have hV : VV (sN s) (sK s) (3, nI j) := VV.pro hj
    have hz := (hV.can S.hp k200).2.2
    rw [S.cntE hV] at E
    refine jd_ifT C rfl rfl ?_
    refine jd_call C hT rfl (fc_D_D_look V (by decide)) (m_D_look _ hT S.c2 k200 hV.1) (As := [.inl 3, .inl (nI j)]) rfl rfl rfl (nle rfl) rfl rfl ?_
    rintro r M' ⟨rfl, rfl⟩
    generalize can ph (3, nI j) = c at *
    refine jd_get C rfl (fg_D_D_sort V) (u := .inl c.1) rfl ?_
    refine jd_icmp C rfl (fun h => ?_) (fun h => ?_)
    · refine jd_get C rfl (fg_D_D_ref V) (u := .inl c.2) rfl ?_
      exact jd_iret C E rfl (Or.inl rfl) ⟨rfl, ph, S.hold, L.fr rfl Fr.rf.hold⟩
    · have h : c.1 = 4 := Classical.not_not.mp h
      refine jd_goto C rfl ?_
      exact jd_iret C E rfl (Or.inl rfl) ⟨by rw [hz (Or.inr h)], ph, S.hold, L.fr rfl Fr.rf.hold⟩
def PSn (s : St) (B : Nat) (x y : Int32) : Option fw_V → Md → Prop := fun v M' => Iv s M' B ∧ ((v = some (.inl 0) ∧ heldS s x y = none) ∨ ∃ c, v = some (.inl 1) ∧ heldS s x y = some c ∧ M'.1 27 = c.1 ∧ M'.1 28 = c.2 ∧ z0 c)
theorem m_D_seen (l : Launch) (hT : TOK T) (I : Iv s M B) (x y : Int32) : CtD l T y_D_seen W_D_seen rm_D_seen b A [.inr (some b), .inl x, .inl y] M (PSn s B x y) := by
  obtain ⟨ph, S, L⟩ := I
  intro w R
  refine ct_D_seen rfl (nle rfl) ?_
  intro X hl C E
  have V := hv_D_seen hT
  suffices JD T G_D_seen X b A 0 [some (.inr (some b)), some (.inl x), some (.inl y), none] [] M from this w R
  have n40 := S.n40
  have k200 := S.k200
  have fin0 : heldS s x y = none → PSn s B x y (some (.inl 0)) M := fun h => ⟨⟨ph, S, L⟩, Or.inl ⟨rfl, h⟩⟩
  refine jd_get C rfl (fg_D_D_objects V) (u := .inl (nI (sN s))) (by rw [← S.hn]; rfl) ?_
  refine jd_callS C rfl (fc_D_D_out V (by decide)) (m_D_outN _ hT x (n := sN s) (by omega)) (As := [.inl x, .inl (nI (sN s))]) rfl rfl (nle rfl) rfl rfl ?_
  cases hx : ixO (sN s) x with
  | none =>
    refine jd_ifF C rfl rfl ?_
    exact jd_iret C E rfl (Or.inr ⟨rfl, Or.inl rfl⟩) (fin0 (by unfold heldS; rw [hx]))
  | some i =>
    obtain ⟨hi, rfl⟩ := ixO_lt (by omega) hx
    have ht := S.tt hi
    refine jd_ifT C rfl rfl ?_
    refine jd_get C rfl (fg_D_D_kind V) rfl ?_
    refine jd_ald C hT (f := 1) rfl (by decide) rfl rfl i rfl (by show i < 40; omega) ?_
    rw [ht.2.1]
    have fin : ∀ r x' y', RR ph (sN s) (sK s) r (x', y') → heldS s (nI i) y = some (cnt s r) → PSn s B (nI i) y (some (.inl 1)) (mHold M (can ph (x', y')).1 (can ph (x', y')).2) := fun r x' y' hr hh => by
      refine ⟨⟨ph, S.hold, L.fr rfl Fr.rf.hold⟩, Or.inr ⟨can ph r, rfl, by rw [hh, S.cntE hr.1], by rw [hr.2.2]; rfl, by rw [hr.2.2]; rfl, (hr.1.can S.hp k200).2.2⟩⟩
    refine jd_if C rfl (fun h => ?_) (fun h => ?_)
    · have h : ¬ tK (sT s i) = 0 := h
      by_cases hy4 : y = 4
      case neg =>
        refine jd_icmpT C rfl (cb_neT hy4) ?_
        exact jd_iret C E rfl (Or.inr ⟨rfl, Or.inl rfl⟩) (fin0 (by unfold heldS; rw [hx]; dsimp only; rw [if_neg h, if_neg (fun q => hy4 q.1)]))
      subst hy4
      refine jd_icmpF C rfl cb_neF ?_
      have at59 : (tK (sT s i) = 2 ∨ tK (sT s i) = 6 ∨ tK (sT s i) = 10) → JD T G_D_seen X b A 59 [some (.inr (some b)), some (.inl (nI i)), some (.inl 4), some (.inl (tK (sT s i)))] [] M := by
        intro hk
        refine jd_ifT C rfl (cb_neT h) ?_
        have hD := ht.2.2.2.2.2.2.2.1
        refine jd_get C rfl (fg_D_D_ownSort V) rfl ?_
        refine jd_ald C hT (f := 7) rfl (by decide) rfl rfl i rfl (by show i < 40; omega) ?_
        refine jd_get C rfl (fg_D_D_own V) rfl ?_
        refine jd_ald C hT (f := 8) rfl (by decide) rfl rfl i rfl (by show i < 40; omega) ?_
        refine jd_call C hT rfl (fc_D_D_look V (by decide)) (m_D_look _ hT S.c2 k200 hD.2.1) (As := [.inl (M.2 7 i), .inl (M.2 8 i)]) rfl rfl rfl (nle rfl) rfl rfl ?_
        rintro r M' ⟨rfl, rfl⟩
        exact jd_iret C E rfl (Or.inr ⟨rfl, Or.inr rfl⟩) (fin _ _ _ hD (by unfold heldS; rw [hx]; dsimp only; rw [if_neg h, if_pos ⟨rfl, hk⟩]))
      refine jd_icmp C rfl (fun q => at59 (Or.inl q)) (fun q2 => ?_)
      refine jd_icmp C rfl (fun q => at59 (Or.inr (Or.inr q))) (fun q10 => ?_)
      refine jd_icmp C rfl (fun q => at59 (Or.inr (Or.inl q))) (fun q6 => ?_)
      exact jd_iret C E rfl (Or.inr ⟨rfl, Or.inl rfl⟩) (fin0 (by unfold heldS; rw [hx]; dsimp only; rw [if_neg h, if_neg (fun q => q.2.elim q2 (fun z => z.elim q6 q10))]))
    · have h : tK (sT s i) = 0 := Classical.not_not.mp h
      refine jd_callS C rfl (fc_D_D_out V (by decide)) (m_D_outN _ hT y (n := 4) (by decide)) (As := [.inl y, .inl (nI 4)]) rfl rfl (nle rfl) rfl rfl ?_
      cases hy : ixO 4 y with
      | none =>
        refine jd_ifF C rfl rfl ?_
        refine jd_goto C rfl ?_
        exact jd_iret C E rfl (Or.inr ⟨rfl, Or.inl rfl⟩) (fin0 (by unfold heldS; rw [hx]; dsimp only; rw [if_pos h, hy]))
      | some q =>
        obtain ⟨hq, rfl⟩ := ixO_lt (by decide) hy
        have hS := ht.2.2.2.2.2.2.2.2 q hq
        refine jd_ifT C rfl rfl ?_
        refine jd_ifF C rfl (by rw [h]; decide) ?_
        refine jd_get C rfl (fg_D_D_slotSort V) rfl ?_
        refine jd_ald C hT (f := 9) rfl (by decide) rfl rfl (4 * i + q) nI_mul4 (by show 4 * i + q < 160; omega) ?_
        refine jd_get C rfl (fg_D_D_slot V) rfl ?_
        refine jd_ald C hT (f := 10) rfl (by decide) rfl rfl (4 * i + q) nI_mul4 (by show 4 * i + q < 160; omega) ?_
        refine jd_call C hT rfl (fc_D_D_look V (by decide)) (m_D_look _ hT S.c2 k200 hS.2.1) (As := [.inl (M.2 9 (4 * i + q)), .inl (M.2 10 (4 * i + q))]) rfl rfl rfl (nle rfl) rfl rfl ?_
        rintro r M' ⟨rfl, rfl⟩
        refine jd_goto C rfl ?_
        exact jd_iret C E rfl (Or.inr ⟨rfl, Or.inr rfl⟩) (fin _ _ _ hS (by unfold heldS; rw [hx]; dsimp only; rw [if_pos h, hy]))
theorem m_D_what (l : Launch) (hT : TOK T) (I : Iv s M B) (x y : Int32) : CtD l T y_D_what W_D_what rm_D_what b A [.inr (some b), .inl x, .inl y] M (PV s B (whatS s x y)) := by
  obtain ⟨ph, S, L⟩ := I
  intro w R
  refine ct_D_what rfl (nle rfl) ?_
  intro X hl C E
  have V := hv_D_what hT
  suffices JD T G_D_what X b A 0 [some (.inr (some b)), some (.inl x), some (.inl y)] [] M from this w R
  have n40 := S.n40
  have k200 := S.k200
  unfold whatS at E
  refine jd_call C hT rfl (fc_D_D_seen V (by decide)) (m_D_seen _ hT ⟨ph, S, L⟩ x y) (As := [.inl x, .inl y]) rfl rfl rfl (nle rfl) rfl rfl ?_
  rintro r M' ⟨hI, ⟨rfl, hh⟩ | ⟨c, rfl, hh, h27, h28, -⟩⟩
  · rw [hh] at E
    refine jd_ifT C rfl rfl ?_
    exact jd_iret C E rfl (Or.inl rfl) ⟨rfl, hI⟩
  · rw [hh] at E
    refine jd_ifF C rfl rfl ?_
    refine jd_get C rfl (fg_D_D_sort V) (u := .inl c.1) (by rw [← h27]; rfl) ?_
    refine jd_goto C rfl ?_
    exact jd_iret C E rfl (Or.inl rfl) ⟨rfl, hI⟩
theorem m_D_which (l : Launch) (hT : TOK T) (I : Iv s M B) (x y : Int32) : CtD l T y_D_which W_D_which rm_D_which b A [.inr (some b), .inl x, .inl y] M (PV s B (whichS s x y)) := by
  obtain ⟨ph, S, L⟩ := I
  intro w R
  refine ct_D_which rfl (nle rfl) ?_
  intro X hl C E
  have V := hv_D_which hT
  suffices JD T G_D_which X b A 0 [some (.inr (some b)), some (.inl x), some (.inl y)] [] M from this w R
  have n40 := S.n40
  have k200 := S.k200
  unfold whichS at E
  refine jd_call C hT rfl (fc_D_D_seen V (by decide)) (m_D_seen _ hT ⟨ph, S, L⟩ x y) (As := [.inl x, .inl y]) rfl rfl rfl (nle rfl) rfl rfl ?_
  rintro r M' ⟨hI, ⟨rfl, hh⟩ | ⟨c, rfl, hh, h27, h28, hz⟩⟩
  · rw [hh] at E
    refine jd_ifT C rfl rfl ?_
    exact jd_iret C E rfl (Or.inl rfl) ⟨rfl, hI⟩
  · rw [hh] at E
    dsimp only at E
    refine jd_ifF C rfl rfl ?_
    refine jd_get C rfl (fg_D_D_sort V) (u := .inl c.1) (by rw [← h27]; rfl) ?_
    refine jd_if C rfl (fun h => ?_) (fun h0 => ?_)
    · exact jd_iret C E rfl (Or.inl rfl) ⟨by rw [hz (Or.inl h)], hI⟩
    refine jd_get C rfl (fg_D_D_sort V) (u := .inl c.1) (by rw [← h27]; rfl) ?_
    refine jd_icmp C rfl (fun h => ?_) (fun h4 => ?_)
    · exact jd_iret C E rfl (Or.inl rfl) ⟨by rw [hz (Or.inr h)], hI⟩
    refine jd_get C rfl (fg_D_D_ref V) (u := .inl c.2) (by rw [← h28]; rfl) ?_
    refine jd_goto C rfl ?_
    exact jd_iret C E rfl (Or.inl rfl) ⟨rfl, hI⟩
theorem m_D_detail (l : Launch) (hT : TOK T) (I : Iv s M B) (x y : Int32) : CtD l T y_D_detail W_D_detail rm_D_detail b A [.inr (some b), .inl x, .inl y] M (PV s B (detailS s x y)) := by
  obtain ⟨ph, S, L⟩ := I
  intro w R
  refine ct_D_detail rfl (nle rfl) ?_
  intro X hl C E
  have V := hv_D_detail hT
  suffices JD T G_D_detail X b A 0 [some (.inr (some b)), some (.inl x), some (.inl y), none] [] M from this w R
  have n40 := S.n40
  have k200 := S.k200
  have bad : detailS s x y = -1 → JD T G_D_detail X b A 19 [some (.inr (some b)), some (.inl x), some (.inl y), none] [] M := by
    intro hE
    rw [hE] at E
    exact jd_iret C E rfl (Or.inl rfl) ⟨rfl, ph, S, L⟩
  refine jd_get C rfl (fg_D_D_objects V) (u := .inl (nI (sN s))) (by rw [← S.hn]; rfl) ?_
  refine jd_callS C rfl (fc_D_D_out V (by decide)) (m_D_outN _ hT x (n := sN s) (by omega)) (As := [.inl x, .inl (nI (sN s))]) rfl rfl (nle rfl) rfl rfl ?_
  cases hx : ixO (sN s) x with
  | none =>
    refine jd_ifT C rfl rfl ?_
    exact bad (by unfold detailS; rw [hx])
  | some i =>
  obtain ⟨hi, rfl⟩ := ixO_lt (by omega) hx
  have ht := S.tt hi
  refine jd_ifF C rfl rfl ?_
  refine jd_callS C rfl (fc_D_D_out V (by decide)) (m_D_outN _ hT y (n := 2) (by decide)) (As := [.inl y, .inl (nI 2)]) rfl rfl (nle rfl) rfl rfl ?_
  cases hy : ixO 2 y with
  | none =>
    refine jd_ifF C rfl rfl ?_
    exact bad (by unfold detailS; rw [hx]; dsimp only; rw [hy])
  | some p =>
  obtain ⟨hp, rfl⟩ := ixO_lt (by decide) hy
  refine jd_ifT C rfl rfl ?_
  refine jd_get C rfl (fg_D_D_kind V) rfl ?_
  refine jd_ald C hT (f := 1) rfl (by decide) rfl rfl i rfl (by show i < 40; omega) ?_
  rw [ht.2.1]
  have hE : detailS s (nI i) (nI p) = if p = 0 then d1S s i else d2S s i := by unfold detailS; rw [hx]; dsimp only; rw [hy]
  rw [hE] at E
  clear bad hE
  have hlk : M.2 3 i = lk (sT s i) := ht.2.2.2.1
  have hI : ∀ x, PV s B x (some (.inl x)) M := fun x => ⟨rfl, ph, S, L⟩
  have lnk : tK (sT s i) ≠ 1 → lk (sT s i) = oNum (tO (sT s i)) := fun h => by unfold lk; rw [if_neg h]
  have non : tO (sT s i) = none → oNum (tO (sT s i)) = 0 := fun h => by rw [h]; rfl
  unfold d1S d2S at E
  rcases (show p = 0 ∨ p = 1 by omega) with rfl | rfl
  · rcases wf_kinds ht.1 with k | k | k | k | k | k | k | k | k | k | k
    · rw [k] at E
      refine jd_icmpF C rfl (by rw [k]; decide) ?_
      refine jd_icmpT C rfl (by rw [k]; decide) ?_
      refine jd_icmpT C rfl (by rw [k]; decide) ?_
      refine jd_icmpT C rfl (by rw [k]; decide) ?_
      refine jd_ifF C rfl (by decide) ?_
      refine jd_icmpF C rfl (by rw [k]; decide) ?_
      refine jd_icmpF C rfl (by rw [k]; decide) ?_
      refine jd_icmpF C rfl (by rw [k]; decide) ?_
      refine jd_icmpF C rfl (by rw [k]; decide) ?_
      refine jd_icmpT C rfl (by rw [k]; decide) ?_
      have hn : tO (sT s i) = none := by
        rcases ht.1 with ⟨q, -⟩ | ⟨q, -⟩ | ⟨-, q⟩
        · rw [k] at q; cases q
        · rw [k] at q; rcases q with q | q | q | q | q | q <;> cases q
        · exact q
      rw [hn] at E
      exact jd_iret C E rfl (Or.inl rfl) (hI _)
    · rw [k] at E
      refine jd_icmpT C rfl (by rw [k]; decide) ?_
      refine jd_ifF C rfl (by decide) ?_
      refine jd_get C rfl (fg_D_D_revoked V) rfl ?_
      refine jd_zld C hT (f := 6) rfl (by decide) rfl rfl i rfl (by show i < 40; omega) ?_
      rw [ht.2.2.2.2.2.2.1]
      rcases (S.gd i hi).1 with e | e <;> rw [e] at E ⊢
      · refine jd_ifT C rfl rfl ?_
        refine jd_goto C rfl ?_
        exact jd_iret C E rfl (Or.inl rfl) (hI _)
      · refine jd_ifF C rfl rfl ?_
        refine jd_goto C rfl ?_
        exact jd_iret C E rfl (Or.inl rfl) (hI _)
    · rw [k] at E
      refine jd_icmpF C rfl (by rw [k]; decide) ?_
      refine jd_icmpT C rfl (by rw [k]; decide) ?_
      refine jd_icmpT C rfl (by rw [k]; decide) ?_
      refine jd_icmpT C rfl (by rw [k]; decide) ?_
      refine jd_ifF C rfl (by decide) ?_
      refine jd_icmpT C rfl (by rw [k]; decide) ?_
      refine jd_get C rfl (fg_D_D_link V) rfl ?_
      refine jd_ald C hT (f := 3) rfl (by decide) rfl rfl i rfl (by show i < 40; omega) ?_
      rw [hlk]
      rw [lnk (by rw [k]; decide)]
      refine jd_goto C rfl ?_
      exact jd_iret C E rfl (Or.inl rfl) (hI _)
    · rw [k] at E
      refine jd_icmpF C rfl (by rw [k]; decide) ?_
      refine jd_icmpT C rfl (by rw [k]; decide) ?_
      refine jd_icmpT C rfl (by rw [k]; decide) ?_
      refine jd_icmpT C rfl (by rw [k]; decide) ?_
      refine jd_ifF C rfl (by decide) ?_
      refine jd_icmpF C rfl (by rw [k]; decide) ?_
      refine jd_icmpF C rfl (by rw [k]; decide) ?_
      refine jd_icmpF C rfl (by rw [k]; decide) ?_
      refine jd_icmpF C rfl (by rw [k]; decide) ?_
      refine jd_icmpT C rfl (by rw [k]; decide) ?_
      have hn : tO (sT s i) = none := by
        rcases ht.1 with ⟨q, -⟩ | ⟨q, -⟩ | ⟨-, q⟩
        · rw [k] at q; cases q
        · rw [k] at q; rcases q with q | q | q | q | q | q <;> cases q
        · exact q
      rw [hn] at E
      exact jd_iret C E rfl (Or.inl rfl) (hI _)
    · rw [k] at E
      refine jd_icmpF C rfl (by rw [k]; decide) ?_
      refine jd_icmpT C rfl (by rw [k]; decide) ?_
      refine jd_icmpT C rfl (by rw [k]; decide) ?_
      refine jd_icmpT C rfl (by rw [k]; decide) ?_
      refine jd_ifF C rfl (by decide) ?_
      refine jd_icmpF C rfl (by rw [k]; decide) ?_
      refine jd_icmpT C rfl (by rw [k]; decide) ?_
      refine jd_get C rfl (fg_D_D_link V) rfl ?_
      refine jd_ald C hT (f := 3) rfl (by decide) rfl rfl i rfl (by show i < 40; omega) ?_
      rw [hlk]
      rw [lnk (by rw [k]; decide)]
      refine jd_goto C rfl ?_
      exact jd_iret C E rfl (Or.inl rfl) (hI _)
    · rw [k] at E
      refine jd_icmpF C rfl (by rw [k]; decide) ?_
      refine jd_icmpT C rfl (by rw [k]; decide) ?_
      refine jd_icmpT C rfl (by rw [k]; decide) ?_
      refine jd_icmpT C rfl (by rw [k]; decide) ?_
      refine jd_ifF C rfl (by decide) ?_
      refine jd_icmpF C rfl (by rw [k]; decide) ?_
      refine jd_icmpF C rfl (by rw [k]; decide) ?_
      refine jd_icmpT C rfl (by rw [k]; decide) ?_
      refine jd_get C rfl (fg_D_D_link V) rfl ?_
      refine jd_ald C hT (f := 3) rfl (by decide) rfl rfl i rfl (by show i < 40; omega) ?_
      rw [hlk]
      rw [lnk (by rw [k]; decide)]
      refine jd_goto C rfl ?_
      exact jd_iret C E rfl (Or.inl rfl) (hI _)
    · rw [k] at E
      refine jd_icmpF C rfl (by rw [k]; decide) ?_
      refine jd_icmpT C rfl (by rw [k]; decide) ?_
      refine jd_icmpT C rfl (by rw [k]; decide) ?_
      refine jd_icmpT C rfl (by rw [k]; decide) ?_
      refine jd_ifF C rfl (by decide) ?_
      refine jd_icmpF C rfl (by rw [k]; decide) ?_
      refine jd_icmpF C rfl (by rw [k]; decide) ?_
      refine jd_icmpF C rfl (by rw [k]; decide) ?_
      refine jd_icmpT C rfl (by rw [k]; decide) ?_
      refine jd_get C rfl (fg_D_D_link V) rfl ?_
      refine jd_ald C hT (f := 3) rfl (by decide) rfl rfl i rfl (by show i < 40; omega) ?_
      rw [hlk]
      rw [lnk (by rw [k]; decide)]
      refine jd_goto C rfl ?_
      exact jd_iret C E rfl (Or.inl rfl) (hI _)
    · rw [k] at E
      refine jd_icmpF C rfl (by rw [k]; decide) ?_
      refine jd_icmpT C rfl (by rw [k]; decide) ?_
      refine jd_icmpT C rfl (by rw [k]; decide) ?_
      refine jd_icmpT C rfl (by rw [k]; decide) ?_
      refine jd_ifF C rfl (by decide) ?_
      refine jd_icmpF C rfl (by rw [k]; decide) ?_
      refine jd_icmpF C rfl (by rw [k]; decide) ?_
      refine jd_icmpF C rfl (by rw [k]; decide) ?_
      refine jd_icmpF C rfl (by rw [k]; decide) ?_
      refine jd_icmpT C rfl (by rw [k]; decide) ?_
      have hn : tO (sT s i) = none := by
        rcases ht.1 with ⟨q, -⟩ | ⟨q, -⟩ | ⟨-, q⟩
        · rw [k] at q; cases q
        · rw [k] at q; rcases q with q | q | q | q | q | q <;> cases q
        · exact q
      rw [hn] at E
      exact jd_iret C E rfl (Or.inl rfl) (hI _)
    · rw [k] at E
      refine jd_icmpF C rfl (by rw [k]; decide) ?_
      refine jd_icmpT C rfl (by rw [k]; decide) ?_
      refine jd_icmpF C rfl (by rw [k]; decide) ?_
      refine jd_ifF C rfl (by decide) ?_
      refine jd_get C rfl (fg_D_D_balance V) rfl ?_
      refine jd_ald C hT (f := 4) rfl (by decide) rfl rfl i rfl (by show i < 40; omega) ?_
      rw [ht.2.2.2.2.1]
      refine jd_goto C rfl ?_
      exact jd_iret C E rfl (Or.inl rfl) (hI _)
    · rw [k] at E
      refine jd_icmpF C rfl (by rw [k]; decide) ?_
      refine jd_icmpF C rfl (by rw [k]; decide) ?_
      refine jd_ifF C rfl (by decide) ?_
      refine jd_get C rfl (fg_D_D_revoked V) rfl ?_
      refine jd_zld C hT (f := 6) rfl (by decide) rfl rfl i rfl (by show i < 40; omega) ?_
      rw [ht.2.2.2.2.2.2.1]
      rcases (S.gd i hi).1 with e | e <;> rw [e] at E ⊢
      · refine jd_ifT C rfl rfl ?_
        refine jd_goto C rfl ?_
        exact jd_iret C E rfl (Or.inl rfl) (hI _)
      · refine jd_ifF C rfl rfl ?_
        refine jd_goto C rfl ?_
        exact jd_iret C E rfl (Or.inl rfl) (hI _)
    · rw [k] at E
      refine jd_icmpF C rfl (by rw [k]; decide) ?_
      refine jd_icmpT C rfl (by rw [k]; decide) ?_
      refine jd_icmpT C rfl (by rw [k]; decide) ?_
      refine jd_icmpF C rfl (by rw [k]; decide) ?_
      refine jd_icmpT C rfl (by decide) ?_
      refine jd_ifF C rfl (by decide) ?_
      refine jd_icmpF C rfl (by rw [k]; decide) ?_
      refine jd_icmpF C rfl (by rw [k]; decide) ?_
      refine jd_icmpF C rfl (by rw [k]; decide) ?_
      refine jd_icmpF C rfl (by rw [k]; decide) ?_
      refine jd_icmpF C rfl (by rw [k]; decide) ?_
      refine jd_get C rfl (fg_D_D_link V) rfl ?_
      refine jd_ald C hT (f := 3) rfl (by decide) rfl rfl i rfl (by show i < 40; omega) ?_
      rw [hlk]
      rw [lnk (by rw [k]; decide)]
      refine jd_goto C rfl ?_
      exact jd_iret C E rfl (Or.inl rfl) (hI _)
  · rcases wf_kinds ht.1 with k | k | k | k | k | k | k | k | k | k | k
    · rw [k] at E
      refine jd_icmpF C rfl (by rw [k]; decide) ?_
      refine jd_icmpT C rfl (by rw [k]; decide) ?_
      refine jd_icmpT C rfl (by rw [k]; decide) ?_
      refine jd_icmpT C rfl (by rw [k]; decide) ?_
      refine jd_ifT C rfl (by decide) ?_
      exact jd_iret C E rfl (Or.inl rfl) (hI _)
    · rw [k] at E
      refine jd_icmpT C rfl (by rw [k]; decide) ?_
      refine jd_ifT C rfl (by decide) ?_
      refine jd_icmpF C rfl (by rw [k]; decide) ?_
      refine jd_get C rfl (fg_D_D_link V) rfl ?_
      refine jd_ald C hT (f := 3) rfl (by decide) rfl rfl i rfl (by show i < 40; omega) ?_
      rw [hlk]
      rw [show lk (sT s i) = oNum (tF (sT s i)) by unfold lk; rw [if_pos k]]
      refine jd_goto C rfl ?_
      exact jd_iret C E rfl (Or.inl rfl) (hI _)
    · rw [k] at E
      refine jd_icmpF C rfl (by rw [k]; decide) ?_
      refine jd_icmpT C rfl (by rw [k]; decide) ?_
      refine jd_icmpT C rfl (by rw [k]; decide) ?_
      refine jd_icmpT C rfl (by rw [k]; decide) ?_
      refine jd_ifT C rfl (by decide) ?_
      exact jd_iret C E rfl (Or.inl rfl) (hI _)
    · rw [k] at E
      refine jd_icmpF C rfl (by rw [k]; decide) ?_
      refine jd_icmpT C rfl (by rw [k]; decide) ?_
      refine jd_icmpT C rfl (by rw [k]; decide) ?_
      refine jd_icmpT C rfl (by rw [k]; decide) ?_
      refine jd_ifT C rfl (by decide) ?_
      exact jd_iret C E rfl (Or.inl rfl) (hI _)
    · rw [k] at E
      refine jd_icmpF C rfl (by rw [k]; decide) ?_
      refine jd_icmpT C rfl (by rw [k]; decide) ?_
      refine jd_icmpT C rfl (by rw [k]; decide) ?_
      refine jd_icmpT C rfl (by rw [k]; decide) ?_
      refine jd_ifT C rfl (by decide) ?_
      exact jd_iret C E rfl (Or.inl rfl) (hI _)
    · rw [k] at E
      refine jd_icmpF C rfl (by rw [k]; decide) ?_
      refine jd_icmpT C rfl (by rw [k]; decide) ?_
      refine jd_icmpT C rfl (by rw [k]; decide) ?_
      refine jd_icmpT C rfl (by rw [k]; decide) ?_
      refine jd_ifT C rfl (by decide) ?_
      exact jd_iret C E rfl (Or.inl rfl) (hI _)
    · rw [k] at E
      refine jd_icmpF C rfl (by rw [k]; decide) ?_
      refine jd_icmpT C rfl (by rw [k]; decide) ?_
      refine jd_icmpT C rfl (by rw [k]; decide) ?_
      refine jd_icmpT C rfl (by rw [k]; decide) ?_
      refine jd_ifT C rfl (by decide) ?_
      exact jd_iret C E rfl (Or.inl rfl) (hI _)
    · rw [k] at E
      refine jd_icmpF C rfl (by rw [k]; decide) ?_
      refine jd_icmpT C rfl (by rw [k]; decide) ?_
      refine jd_icmpT C rfl (by rw [k]; decide) ?_
      refine jd_icmpT C rfl (by rw [k]; decide) ?_
      refine jd_ifT C rfl (by decide) ?_
      exact jd_iret C E rfl (Or.inl rfl) (hI _)
    · rw [k] at E
      refine jd_icmpF C rfl (by rw [k]; decide) ?_
      refine jd_icmpT C rfl (by rw [k]; decide) ?_
      refine jd_icmpF C rfl (by rw [k]; decide) ?_
      refine jd_ifT C rfl (by decide) ?_
      refine jd_get C rfl (fg_D_D_link V) rfl ?_
      refine jd_ald C hT (f := 3) rfl (by decide) rfl rfl i rfl (by show i < 40; omega) ?_
      rw [hlk]
      rw [lnk (by rw [k]; decide)]
      exact jd_iret C E rfl (Or.inl rfl) (hI _)
    · rw [k] at E
      refine jd_icmpF C rfl (by rw [k]; decide) ?_
      refine jd_icmpF C rfl (by rw [k]; decide) ?_
      refine jd_ifT C rfl (by decide) ?_
      refine jd_icmpT C rfl (by rw [k]; decide) ?_
      exact jd_iret C E rfl (Or.inl rfl) (hI _)
    · rw [k] at E
      refine jd_icmpF C rfl (by rw [k]; decide) ?_
      refine jd_icmpT C rfl (by rw [k]; decide) ?_
      refine jd_icmpT C rfl (by rw [k]; decide) ?_
      refine jd_icmpF C rfl (by rw [k]; decide) ?_
      refine jd_icmpF C rfl (by decide) ?_
      refine jd_get C rfl (fg_D_D_inward V) rfl ?_
      refine jd_ald C hT (f := 5) rfl (by decide) rfl rfl i rfl (by show i < 40; omega) ?_
      rw [ht.2.2.2.2.2.1]
      exact jd_iret C E rfl (Or.inl rfl) (hI _)
end DVW
