/-! The reference's host calls: cell, number, introduce, send. -/
def Iv (s : St) (M : Md) (B : Nat) : Prop := ∃ ph, Sm ph s M ∧ LI ph s M B
section DHO
variable {T : fw_T} {b : Nat} {A : Nat → Nat} {M : Md} {ph : Nat → Rf} {s : St} {B : Nat}
theorem LX.fr {s' : St} {M' : Md} {ex : Nat → Prop} {ln : Nat → List Nat} {w : Nat → Rf} (h : LX ph s M ex ln w B) (hK : sK s' = sK s) (hm : ∀ j, j < sK s → ¬ ex j → sM s' j = sM s j) (hf : Fr M M') : LX ph s' M' ex ln w B := by
  obtain ⟨⟨h1, h1'⟩, h2, h3, S, h4, h5, h6⟩ := h
  have hl : ∀ j, locM M' j = locM M j := fun j => by unfold locM; rw [(hf.2 j).1, (hf.2 j).2.1]
  unfold LX
  rw [hK]
  refine ⟨⟨fun i j => by rw [hl j]; exact h1 i j, fun i => (h1' i).imp (fun {a b} q => by rw [(hf.2 a).2.2, (hf.2 b).2.2]; exact q)⟩, fun j hj hx => ?_, fun j hj hx => ?_, S, h4, hf.1.trans h5, fun j hj hx hz => ?_⟩
  · rw [hm j hj hx, (hf.2 j).1]; exact h2 j hj hx
  · rw [hm j hj hx]; unfold PLc; rw [(hf.2 j).1, (hf.2 j).2.1]; exact h3 j hj hx
  · rw [(hf.2 j).1] at hz; rw [(hf.2 j).2.2]; exact h6 j hj hx hz
theorem LI.fr {s' : St} {M' : Md} (h : LI ph s M B) (hs : s'.2.2 = s.2.2) (hf : Fr M M') : LI ph s' M' B := by
  have e1 : sK s' = sK s := congrArg (fun z => z.1) hs
  have e2 : sM s' = sM s := congrArg (fun z => z.2.1) hs
  have e3 : sL s' = sL s := congrArg (fun z => z.2.2) hs
  unfold LI
  rw [e3]
  exact ⟨h.1, h.2.fr e1 (fun j _ _ => by rw [e2]) hf⟩
theorem m_D_outN (l : Launch) (hT : TOK T) (x : Int32) {n : Nat} (hn : n < 2 ^ 31) : ∀ w : fw_W, Ct l T y_D_out W_D_out rm_D_out [.inl x, .inl (nI n)] w (fun r w' => w' = w ∧ r = some (.inl (bI (ixO n x).isNone))) := m_D_out l hT x n hn
theorem m_D_isSlot (l : Launch) (hT : TOK T) (S : Sm ph s M) (x y : Int32) : CtD l T y_D_isSlot W_D_isSlot rm_D_isSlot b A [.inr (some b), .inl x, .inl y] M (fun r M' => r = some (.inl (bI ((cIx s x).isSome && (ixO 4 y).isSome))) ∧ M' = M) := by
  intro w R
  refine ct_D_isSlot rfl (nle rfl) ?_
  intro X hl C E
  have V := hv_D_isSlot hT
  suffices JD T G_D_isSlot X b A 0 [some (.inr (some b)), some (.inl x), some (.inl y)] [] M from this w R
  have n40 := S.n40
  unfold cIx at E
  refine jd_get C rfl (fg_D_D_objects V) (u := .inl (nI (sN s))) (by rw [← S.hn]; rfl) ?_
  refine jd_callS C rfl (fc_D_D_out V (by decide)) (m_D_outN _ hT x (n := sN s) (by omega)) (As := [.inl x, .inl (nI (sN s))]) rfl rfl (nle rfl) rfl rfl ?_
  cases hx : ixO (sN s) x with
  | none =>
    rw [hx] at E
    refine jd_ifT C rfl rfl ?_
    exact jd_iret C E rfl (Or.inr ⟨rfl, Or.inl rfl⟩) ⟨rfl, rfl⟩
  | some i =>
    obtain ⟨hi, rfl⟩ := ixO_lt (by omega) hx
    rw [hx] at E
    dsimp only at E
    refine jd_ifF C rfl rfl ?_
    refine jd_get C rfl (fg_D_D_kind V) rfl ?_
    refine jd_ald C hT (f := 1) rfl (by decide) rfl rfl i rfl (by show i < 40; omega) ?_
    rw [(S.tt hi).2.1]
    refine jd_if C rfl (fun h => ?_) (fun h => ?_)
    · rw [if_neg h] at E
      exact jd_iret C E rfl (Or.inr ⟨rfl, Or.inl rfl⟩) ⟨rfl, rfl⟩
    · have h : tK (sT s i) = 0 := Classical.not_not.mp h
      rw [if_pos h] at E
      refine jd_callS C rfl (fc_D_D_out V (by decide)) (m_D_outN _ hT y (n := 4) (by decide)) (As := [.inl y, .inl (nI 4)]) rfl rfl (nle rfl) rfl rfl ?_
      cases hy : ixO 4 y with
      | none =>
        rw [hy] at E
        refine jd_ifT C rfl rfl ?_
        exact jd_iret C E rfl (Or.inr ⟨rfl, Or.inl rfl⟩) ⟨rfl, rfl⟩
      | some q =>
        rw [hy] at E
        refine jd_ifF C rfl rfl ?_
        refine jd_goto C rfl ?_
        exact jd_iret C E rfl (Or.inr ⟨rfl, Or.inr rfl⟩) ⟨rfl, rfl⟩
def PH1 (f : St × Int32) (B : Nat) : Option fw_V → Md → Prop := fun v M' => v = some (.inl f.2) ∧ Iv f.1 M' B
theorem m_D_cell (l : Launch) (hT : TOK T) (I : Iv s M B) (x : Int32) : CtD l T y_D_cell W_D_cell rm_D_cell b A [.inr (some b), .inl x] M (PH1 (cellS s x) B) := by
  obtain ⟨ph, S, L⟩ := I
  intro w R
  refine ct_D_cell rfl (nle rfl) ?_
  intro X hl C E
  have V := hv_D_cell hT
  suffices JD T G_D_cell X b A 0 [some (.inr (some b)), some (.inl x)] [] M from this w R
  have n40 := S.n40
  unfold cellS at E
  refine jd_callS C rfl (fc_D_D_out V (by decide)) (m_D_outN _ hT x (n := 3) (by decide)) (As := [.inl x, .inl (nI 3)]) rfl rfl (nle rfl) rfl rfl ?_
  cases hx : ixO 3 x with
  | none =>
    rw [hx] at E
    refine jd_ifF C rfl rfl ?_
    exact jd_iret C E rfl (Or.inl rfl) ⟨rfl, ph, S, L⟩
  | some v =>
    obtain ⟨hv, rfl⟩ := ixO_lt (by decide) hx
    rw [hx] at E
    dsimp only at E
    refine jd_ifT C rfl rfl ?_
    refine jd_get C rfl (fg_D_D_objects V) (u := .inl (nI (sN s))) (by rw [← S.hn]; rfl) ?_
    unfold make at E
    by_cases h40 : sN s < 40
    · rw [if_pos h40] at E
      refine jd_icmpT C rfl (cb_neT (fun q => by have := nI_inj (b := 40) (by omega) (by omega) q; omega)) ?_
      refine jd_call C hT rfl (fc_D_D_make V (by decide)) (m_D_make _ hT (n := sN s) S.hn h40 0 (nI v) 0) (As := [.inl 0, .inl (nI v), .inl 0]) rfl rfl rfl (nle rfl) rfl rfl ?_
      rintro r M' ⟨rfl, rfl⟩
      obtain ⟨q1, q2, q3⟩ := S.fresh (kd := 0) (hm := nI v) (ow := none) ⟨v, hv, rfl⟩ (Or.inr (Or.inr ⟨Or.inl rfl, rfl⟩)) (by decide)
      unfold mkR make mFr at q1
      unfold mFr at q3
      rw [if_pos h40, if_pos h40] at q1
      rw [if_pos h40] at q3
      refine jd_iret C E rfl (Or.inl rfl) ⟨rfl, ph, ?_, ?_⟩
      · exact q1
      · exact L.fr (M' := mMake M (sN s) 0 (nI v) 0) rfl q3
    · rw [if_neg h40] at E
      refine jd_icmpF C rfl (by rw [show sN s = 40 by omega]; decide) ?_
      refine jd_goto C rfl ?_
      exact jd_iret C E rfl (Or.inl rfl) ⟨rfl, ph, S, L⟩
theorem m_D_number (l : Launch) (hT : TOK T) (I : Iv s M B) (x y z : Int32) : CtD l T y_D_number W_D_number rm_D_number b A [.inr (some b), .inl x, .inl y, .inl z] M (PH1 (numberS s x y z) B) := by
  obtain ⟨ph, S, L⟩ := I
  intro w R
  refine ct_D_number rfl (nle rfl) ?_
  intro X hl C E
  have V := hv_D_number hT
  suffices JD T G_D_number X b A 0 [some (.inr (some b)), some (.inl x), some (.inl y), some (.inl z)] [] M from this w R
  have n40 := S.n40
  refine jd_call C hT rfl (fc_D_D_isSlot V (by decide)) (m_D_isSlot _ hT S x y) (As := [.inl x, .inl y]) rfl rfl rfl (nle rfl) rfl rfl ?_
  rintro r M ⟨rfl, rfl⟩
  unfold numberS at E
  cases hx : cIx s x with
  | none =>
    rw [hx] at E
    refine jd_ifF C rfl rfl ?_
    exact jd_iret C E rfl (Or.inr ⟨rfl, Or.inl rfl⟩) ⟨rfl, ph, S, L⟩
  | some i =>
    have hi := cIx_lt n40 hx
    have ex : x = nI i := by
      unfold cIx at hx
      cases hq : ixO (sN s) x with
      | none => rw [hq] at hx; cases hx
      | some i' =>
        obtain ⟨-, e⟩ := ixO_lt (by omega) hq
        rw [hq] at hx
        dsimp only at hx
        split at hx
        · cases hx; exact e
        · cases hx
    subst ex
    cases hy : ixO 4 y with
    | none =>
      rw [hx] at E; dsimp only at E
      rw [hy] at E
      refine jd_ifF C rfl rfl ?_
      exact jd_iret C E rfl (Or.inr ⟨rfl, Or.inl rfl⟩) ⟨rfl, ph, S, L⟩
    | some q =>
      obtain ⟨hq, rfl⟩ := ixO_lt (by decide) hy
      rw [hx] at E; dsimp only at E
      rw [hy] at E; dsimp only at E
      refine jd_ifT C rfl rfl ?_
      refine jd_get C rfl (fg_D_D_slotSort V) rfl ?_
      refine jd_ast C hT (f := 9) rfl (by decide) rfl rfl (4 * i + q) nI_mul4 (by show 4 * i + q < 160; omega) ?_
      refine jd_get C rfl (fg_D_D_slot V) rfl ?_
      refine jd_ast C hT (f := 10) rfl (by decide) rfl rfl (4 * i + q) nI_mul4 (by show 4 * i + q < 160; omega) ?_
      refine jd_iret C E rfl (Or.inr ⟨rfl, Or.inr rfl⟩) ⟨rfl, ph, S.slot hi hq (RR.same (VV.num z)), ?_⟩
      exact L.fr rfl ((Fr.rf.st (f := 9) (by decide)).st (f := 10) (by decide))
theorem cIx_eq {x : Int32} {i : Nat} (hn : sN s ≤ 40) (hx : cIx s x = some i) : x = nI i ∧ i < sN s := by
  refine ⟨?_, cIx_lt hn hx⟩
  unfold cIx at hx
  cases hq : ixO (sN s) x with
  | none => rw [hq] at hx; cases hx
  | some i' =>
    obtain ⟨-, e⟩ := ixO_lt (by omega) hq
    rw [hq] at hx
    dsimp only at hx
    split at hx
    · cases hx; exact e
    · cases hx
theorem m_D_introduce (l : Launch) (hT : TOK T) (I : Iv s M B) (x y z : Int32) : CtD l T y_D_introduce W_D_introduce rm_D_introduce b A [.inr (some b), .inl x, .inl y, .inl z] M (PH1 (introduceS s x y z) B) := by
  obtain ⟨ph, S, L⟩ := I
  intro w R
  refine ct_D_introduce rfl (nle rfl) ?_
  intro X hl C E
  have V := hv_D_introduce hT
  suffices JD T G_D_introduce X b A 0 [some (.inr (some b)), some (.inl x), some (.inl y), some (.inl z)] [] M from this w R
  have n40 := S.n40
  refine jd_call C hT rfl (fc_D_D_isSlot V (by decide)) (m_D_isSlot _ hT S x y) (As := [.inl x, .inl y]) rfl rfl rfl (nle rfl) rfl rfl ?_
  rintro r M ⟨rfl, rfl⟩
  have no : introduceS s x y z = (s, 0) → JD T G_D_introduce X b A 20 [some (.inr (some b)), some (.inl x), some (.inl y), some (.inl z)] [] M := by
    intro hE
    rw [hE] at E
    exact jd_iret C E rfl (Or.inr ⟨rfl, Or.inl rfl⟩) ⟨rfl, ph, S, L⟩
  cases hx : cIx s x with
  | none =>
    refine jd_ifT C rfl rfl ?_
    exact no (by unfold introduceS; rw [hx])
  | some i =>
    obtain ⟨rfl, hi⟩ := cIx_eq n40 hx
    cases hy : ixO 4 y with
    | none =>
      refine jd_ifT C rfl rfl ?_
      refine no ?_
      unfold introduceS
      rw [hx]; dsimp only
      cases ixO (sN s) z with
      | none => rfl
      | some o => dsimp only; rw [hy]
    | some q =>
      obtain ⟨hq, rfl⟩ := ixO_lt (by decide) hy
      refine jd_ifF C rfl rfl ?_
      refine jd_get C rfl (fg_D_D_objects V) (u := .inl (nI (sN s))) (by rw [← S.hn]; rfl) ?_
      refine jd_callS C rfl (fc_D_D_out V (by decide)) (m_D_outN _ hT z (n := sN s) (by omega)) (As := [.inl z, .inl (nI (sN s))]) rfl rfl (nle rfl) rfl rfl ?_
      cases hz : ixO (sN s) z with
      | none =>
        refine jd_ifF C rfl rfl ?_
        exact no (by unfold introduceS; rw [hx]; dsimp only; rw [hz])
      | some o =>
        obtain ⟨ho, rfl⟩ := ixO_lt (by omega) hz
        refine jd_ifT C rfl rfl ?_
        refine jd_get C rfl (fg_D_D_slotSort V) rfl ?_
        refine jd_ast C hT (f := 9) rfl (by decide) rfl rfl (4 * i + q) nI_mul4 (by show 4 * i + q < 160; omega) ?_
        refine jd_get C rfl (fg_D_D_slot V) rfl ?_
        refine jd_ast C hT (f := 10) rfl (by decide) rfl rfl (4 * i + q) nI_mul4 (by show 4 * i + q < 160; omega) ?_
        refine jd_iret C E rfl (Or.inr ⟨rfl, Or.inr rfl⟩) ?_
        rw [show introduceS s (nI i) (nI q) (nI o) = (slotS s i q (2, nI o), 1) by unfold introduceS; rw [hx]; dsimp only; rw [hz]; dsimp only; rw [hy]]
        exact ⟨rfl, ph, S.slot hi hq (RR.same (VV.obj ho)), L.fr rfl ((Fr.rf.st (f := 9) (by decide)).st (f := 10) (by decide))⟩
/-- one message more -/
theorem VV.k1 {n k : Nat} {r : Rf} (h : VV n k r) : VV n (k + 1) r := ⟨fun q => by obtain ⟨j, hj, e⟩ := h.1 q; exact ⟨j, by omega, e⟩, h.2⟩
theorem can_k1 {k : Nat} {r : Rf} (hk : k ≤ 200) (h : vR k r) (x : Rf) : can (va_up ph k x) r = can ph r := by
  by_cases h3 : r.1 = 3
  · obtain ⟨j, hj, rfl⟩ := vR_eq h h3
    rw [can_p (by omega), can_p (by omega), va_up_ne _ _ (by omega)]
  · rw [can_n h3, can_n h3]
theorem RR.k1 {n k : Nat} {r r' : Rf} {x : Rf} (hk : k ≤ 200) (h : RR ph n k r r') : RR (va_up ph k x) n (k + 1) r r' := ⟨h.1.k1, fun q => by obtain ⟨j, hj, e⟩ := h.2.1 q; exact ⟨j, by omega, e⟩, by rw [can_k1 hk h.1.1, can_k1 hk h.2.1]; exact h.2.2⟩
theorem MSm.k1 {n k : Nat} {th : Nat → Th} {m : Ms} {j : Nat} {x : Rf} (hk : k ≤ 200) (h : MSm ph n k th m M j) : MSm (va_up ph k x) n (k + 1) th m M j := ⟨h.1, h.2.1, h.2.2.1.k1 hk, h.2.2.2.1.k1 hk, h.2.2.2.2⟩
theorem Sm.push (S : Sm ph s M) (hk : sK s < 200) {m : Ms} (hN : mN m = none) {M' : Md} (h0 : M'.1 0 = M.1 0) (h11 : M'.1 11 = nI (sK s + 1)) (eT : ∀ i, i < sN s → eqT M M' i) (eM : ∀ j, j < sK s → eqM M M' j) (eA : ∀ j, j < sK s → eqA M M' j) (h21 : M'.2 21 (sK s) = 0) (ez : ∀ q, M'.2 10 q = M.2 10 q) (hm : MSm ph (sN s) (sK s) (sT s) m M' (sK s)) : Sm (va_up ph (sK s) (3, nI (sK s))) (sN s, sT s, sK s + 1, va_up (sM s) (sK s) m, sL s) M' := by
  refine ⟨⟨S.n40, hk⟩, S.gd, (S.c1.more hk).eq (fun j _ => ?_), (S.c2.more hk).eq (fun j hj => ?_), fun j hj => ?_, ⟨h0.trans S.hn, h11⟩, fun i hi => ?_, fun j hj => ?_, fun q hq hq' => (ez q).trans (S.z hq hq')⟩
  · show mN (va_up (sM s) (sK s) m j) = _
    by_cases hj : j = sK s
    · subst hj; rw [va_up_self, va_up_self]; exact hN
    · rw [va_up_ne _ _ hj, va_up_ne _ _ hj]
  · by_cases hj' : j = sK s
    · subst hj'; rw [va_up_self]; unfold dAns; rw [if_pos h21]
    · rw [va_up_ne _ _ hj']; exact dAns_eq (eA j (by have hj : j < sK s + 1 := hj; omega))
  · show VV (sN s) (sK s + 1) (va_up ph (sK s) (3, nI (sK s)) j) ∧ (va_up ph (sK s) (3, nI (sK s)) j).1 ≠ 0
    by_cases hj' : j = sK s
    · subst hj'; rw [va_up_self]; exact ⟨VV.pro (Nat.lt_succ_self _), by show (3 : Int32) ≠ 0; decide⟩
    · rw [va_up_ne _ _ hj']
      have := S.hp j (by have hj : j < sK s + 1 := hj; omega)
      exact ⟨this.1.k1, this.2⟩
  · have h := (S.tt hi).eq (eT i hi)
    exact ⟨h.1, h.2.1, h.2.2.1, h.2.2.2.1, h.2.2.2.2.1, h.2.2.2.2.2.1, h.2.2.2.2.2.2.1, h.2.2.2.2.2.2.2.1.k1 S.k200, fun q hq => (h.2.2.2.2.2.2.2.2 q hq).k1 S.k200⟩
  · show MSm _ (sN s) (sK s + 1) (sT s) (va_up (sM s) (sK s) m j) M' j
    by_cases hj' : j = sK s
    · subst hj'; rw [va_up_self]; exact hm.k1 S.k200
    · rw [va_up_ne _ _ hj']
      have hj : j < sK s := by have hj : j < sK s + 1 := hj; omega
      exact ((S.m hj).eq (eM j hj)).k1 S.k200
theorem LI.push (S : Sm ph s M) (h : LI ph s M B) {m : Ms} {M' : Md} {n : Nat} {th : Nat → Th} (hf : Fr M M') : LX (va_up ph (sK s) (3, nI (sK s))) (n, th, sK s + 1, va_up (sM s) (sK s) m, sL s) M' (fun i => i = sK s) (sL s) w0 B := by
  have k200 := S.k200
  obtain ⟨h0, ⟨h1, h1'⟩, h2, h3, S0, h4, h5, h6⟩ := h
  have hl : ∀ j, locM M' j = locM M j := fun j => by unfold locM; rw [(hf.2 j).1, (hf.2 j).2.1]
  have hlt : ∀ {j}, j < sK s + 1 → ¬ j = sK s → j < sK s := fun a b => by omega
  refine ⟨⟨fun i j => ?_, fun i => (h1' i).imp (fun {a b} q => by rw [(hf.2 a).2.2, (hf.2 b).2.2]; exact q)⟩, fun j hj hx => ?_, fun j hj hx => ?_, S0, h4, hf.1.trans h5, fun j hj hx hz => ?_⟩
  · rw [hl j, h1 i j]
    exact ⟨fun ⟨a, b, c⟩ => ⟨by show j < sK s + 1; omega, by show ¬ j = sK s; omega, c⟩, fun ⟨a, b, c⟩ => ⟨hlt a b, not_noX, c⟩⟩
  · have hj := hlt hj hx
    show mP (va_up (sM s) (sK s) m j) = _
    rw [va_up_ne _ _ hx, (hf.2 j).1]; exact h2 j hj not_noX
  · have hj := hlt hj hx
    show PLc _ w0 (sK s + 1) (va_up (sM s) (sK s) m j) M' j
    rw [va_up_ne _ _ hx]
    unfold PLc
    rw [(hf.2 j).1, (hf.2 j).2.1, can_k1 k200 (S.m hj).2.2.1.1.1]
    rcases h3 j hj not_noX with q | q | ⟨q, hn, x, hx, e⟩
    · exact Or.inl q
    · exact Or.inr (Or.inl q)
    · exact Or.inr (Or.inr ⟨q, hn, x, by omega, e⟩)
  · have hj := hlt hj hx
    rw [(hf.2 j).1] at hz; rw [(hf.2 j).2.2]; exact h6 j hj not_noX hz
theorem rAll_one {s1 s2 : St} {j : Nat} (h3 : sL s1 3 = []) (e : s2 = (sN s1, sT s1, sK s1, sM s1, va_up (sL s1) 3 [j])) (f : Nat) : rAll (f + 1) s2 = rAll f (routeS s1 j) := by
  rw [rAll_cons (s := s2) (m := j) (t := []) (by rw [e]; rfl)]
  congr 2
  rw [e]
  refine Prod.ext rfl (Prod.ext rfl (Prod.ext rfl (Prod.ext rfl (funext fun i => ?_))))
  show va_up (va_up (sL s1) 3 [j]) 3 [] i = sL s1 i
  by_cases hi : i = 3
  · subst hi; rw [va_up_self, h3]
  · rw [va_up_ne _ _ hi, va_up_ne _ _ hi]
theorem sOK_cases {x : Int32} : (sOK x = false ∧ ixO 4 x = none ∧ x ≠ -1) ∨ (sOK x = true ∧ x = -1 ∧ ixO 4 x = none) ∨ ∃ p, p < 4 ∧ x = nI p ∧ sOK x = true ∧ ixO 4 x = some p := by
  unfold sOK
  cases hx : ixO 4 x with
  | none =>
    by_cases h : x = -1
    · exact Or.inr (Or.inl ⟨by rw [decide_eq_true h]; rfl, h, rfl⟩)
    · exact Or.inl ⟨by rw [decide_eq_false h]; rfl, rfl, h⟩
  | some p =>
    obtain ⟨hp, e⟩ := ixO_lt (by decide) hx
    exact Or.inr (Or.inr ⟨p, hp, e, by simp, rfl⟩)
set_option maxHeartbeats 1000000 in
theorem m_D_send (l : Launch) (hT : TOK T) (I : Iv s M B) (hB : B + 200 < 2 ^ 31) (x tg v ar rs : Int32) : CtD l T y_D_send W_D_send rm_D_send b A [.inr (some b), .inl x, .inl tg, .inl v, .inl ar, .inl rs] M (PH1 (sendS s x tg v ar rs) (B + 200)) := by
  obtain ⟨ph, S, L⟩ := I
  intro w R
  refine ct_D_send rfl (nle rfl) ?_
  intro X hl C E
  have V := hv_D_send hT
  suffices JD T G_D_send X b A 0 [some (.inr (some b)), some (.inl x), some (.inl tg), some (.inl v), some (.inl ar), some (.inl rs), none] [] M from this w R
  have n40 := S.n40
  have k200 := S.k200
  have bad : sendS s x tg v ar rs = (s, -1) → JD T G_D_send X b A 48 [some (.inr (some b)), some (.inl x), some (.inl tg), some (.inl v), some (.inl ar), some (.inl rs), none] [] M := by
    intro hE
    rw [hE] at E
    exact jd_iret C E rfl (Or.inl rfl) ⟨rfl, ph, S, L.mono (by omega)⟩
  refine jd_call C hT rfl (fc_D_D_isSlot V (by decide)) (m_D_isSlot _ hT S x tg) (As := [.inl x, .inl tg]) rfl rfl rfl (nle rfl) rfl rfl ?_
  rintro r M ⟨rfl, rfl⟩
  cases hx : cIx s x with
  | none =>
    refine jd_ifT C rfl rfl ?_
    exact bad (by unfold sendS; rw [hx])
  | some i =>
  obtain ⟨rfl, hi⟩ := cIx_eq n40 hx
  cases hy : ixO 4 tg with
  | none =>
    refine jd_ifT C rfl rfl ?_
    exact bad (by unfold sendS; rw [hx]; dsimp only; rw [hy])
  | some q =>
  obtain ⟨hq, rfl⟩ := ixO_lt (by decide) hy
  refine jd_ifF C rfl rfl ?_
  refine jd_callS C rfl (fc_D_D_out V (by decide)) (m_D_outN _ hT v (n := 16) (by decide)) (As := [.inl v, .inl (nI 16)]) rfl rfl (nle rfl) rfl rfl ?_
  cases hv : ixO 16 v with
  | none =>
    refine jd_ifT C rfl rfl ?_
    exact bad (by unfold sendS; rw [hx]; dsimp only; rw [hy]; dsimp only; rw [hv])
  | some v' =>
  obtain ⟨hv', rfl⟩ := ixO_lt (by decide) hv
  have hE0 : sendS s (nI i) (nI q) (nI v') ar rs = if sOK ar = true then (if sOK rs = true then (if sK s < 200 then (rAll 200 (upL (send1 s i q (nI v') ar rs) 3 (sL s 3 ++ [sK s])), nI (sK s)) else (s, -2)) else (s, -1)) else (s, -1) := by
    unfold sendS; rw [hx]; dsimp only; rw [hy]; dsimp only; rw [hv]
  refine jd_ifF C rfl rfl ?_
  refine jd_callS C rfl (fc_D_D_out V (by decide)) (m_D_outN _ hT ar (n := 4) (by decide)) (As := [.inl ar, .inl (nI 4)]) rfl rfl (nle rfl) rfl rfl ?_
  -- everything is in order
  have at50 : sOK ar = true → sOK rs = true → JD T G_D_send X b A 50 [some (.inr (some b)), some (.inl (nI i)), some (.inl (nI q)), some (.inl (nI v')), some (.inl ar), some (.inl rs), none] [] M := by
    intro ha hrs
    rw [hE0, if_pos ha, if_pos hrs] at E
    refine jd_get C rfl (fg_D_D_messages V) (u := .inl (nI (sK s))) (by rw [← S.hk]; rfl) ?_
    by_cases hk : sK s < 200
    case neg =>
      rw [if_neg hk] at E
      refine jd_icmpF C rfl (by rw [show sK s = 200 by omega]; decide) ?_
      exact jd_iret C E rfl (Or.inl rfl) ⟨rfl, ph, S, L.mono (by omega)⟩
    rw [if_pos hk] at E
    refine jd_icmpT C rfl (cb_neT (fun z => by have := nI_inj (b := 200) (by omega) (by omega) z; omega)) ?_
    -- once the message lies there
    have fin : ∀ s1 M4, send1 s i q (nI v') ar rs = s1 → Sm (va_up ph (sK s) (3, nI (sK s))) s1 M4 → LX (va_up ph (sK s) (3, nI (sK s))) s1 M4 (fun j => j = sK s) (sL s) w0 B → sK s1 = sK s + 1 → sL s1 = sL s → mN (sM s1 (sK s)) = none → JD T G_D_send X b A 221 [some (.inr (some b)), some (.inl (nI i)), some (.inl (nI q)), some (.inl (nI v')), some (.inl ar), some (.inl rs), some (.inl (nI (sK s)))] [] M4 := by
      intro s1 M4 e1 S1 L1 eK eL eN
      rw [← eL] at L1
      have h3 : sL s1 3 = [] := by rw [eL]; exact L.1
      have hk1 : sK s < sK s1 := by omega
      have hC := routeOk S1 hk1 L1 h3 eN hB
      have hm1 := S1.m hk1
      have k2001 := S1.k200
      have n401 := S1.n40
      rw [hm1.2.2.1.2.2] at hC
      refine jd_call C hT rfl (fc_D_D_route V (by decide)) (m_D_route _ hT S1.c2 k2001 hk1 hm1.2.2.1.2.1 (fun z => ?_) hC) (As := [.inl (nI (sK s))]) rfl rfl rfl (nle rfl) rfl rfl ?_
      · rw [← hm1.2.2.1.2.2] at z ⊢
        obtain ⟨o, ho, eo⟩ := (hm1.2.2.1.1.can S1.hp k2001).2.1 z
        exact ⟨o, by omega, eo⟩
      · rintro r M5 ⟨rfl, ph', S5, L5⟩
        refine jd_iret C E rfl (Or.inl rfl) ⟨rfl, ph', ?_⟩
        rw [show rAll 200 (upL (send1 s i q (nI v') ar rs) 3 (sL s 3 ++ [sK s])) = rAll 199 (routeS s1 (sK s)) from rAll_one h3 (by rw [e1, L.1]; rfl) 199]
        exact ⟨S5, L5⟩
    have hS := fun p hp => (S.tt hi).2.2.2.2.2.2.2.2 p hp
    have rest : ∀ x19 x20, RR ph (sN s) (sK s) (argS s i ar) (x19, x20) → JD T G_D_send X b A 175 [some (.inr (some b)), some (.inl (nI i)), some (.inl (nI q)), some (.inl (nI v')), some (.inl ar), some (.inl rs), some (.inl (nI (sK s)))] [] (mSt (mSt (mSt (mSt (mSt (va_up M.1 11 (nI (sK s) + 1), M.2) 16 (sK s) (M.2 9 (4 * i + q))) 17 (sK s) (M.2 10 (4 * i + q))) 18 (sK s) (nI v')) 19 (sK s) x19) 20 (sK s) x20) := by
      intro x19 x20 hA
      refine jd_get C rfl (fg_D_D_resolved V) rfl ?_
      refine jd_zst C hT (f := 21) rfl (by decide) rfl rfl (sK s) rfl hk (Or.inl rfl) ?_
      refine jd_get C rfl (fg_D_D_notes V) rfl ?_
      refine jd_ast C hT (f := 24) rfl (by decide) rfl rfl (sK s) rfl hk ?_
      have hne : ∀ {j}, j < sK s → j ≠ sK s := fun h => by omega
      have S3 := S.push (m := newM (nI v') (tS (sT s i) q) (argS s i ar)) (M' := mSt (mSt (mSt (mSt (mSt (mSt (mSt (va_up M.1 11 (nI (sK s) + 1), M.2) 16 (sK s) (M.2 9 (4 * i + q))) 17 (sK s) (M.2 10 (4 * i + q))) 18 (sK s) (nI v')) 19 (sK s) x19) 20 (sK s) x20) 21 (sK s) 0) 24 (sK s) 0) hk rfl rfl (by rw [← nI_1]; rfl)
        (fun i _ => ⟨⟨rfl, rfl, rfl, rfl, rfl, rfl, rfl, rfl⟩, fun _ _ => ⟨rfl, rfl⟩⟩)
        (fun j hj => ⟨⟨va_up_ne _ _ (hne hj), va_up_ne _ _ (hne hj), va_up_ne _ _ (hne hj), va_up_ne _ _ (hne hj), va_up_ne _ _ (hne hj), va_up_ne _ _ (hne hj)⟩, fun _ _ => ⟨rfl, rfl⟩⟩)
        (fun j hj => ⟨va_up_ne _ _ (hne hj), rfl, rfl⟩) (va_up_self _ _ _) (fun _ => rfl) ⟨⟨v', hv', rfl⟩, va_up_self _ _ _, ?_, ?_, Nat.zero_le _, va_up_self _ _ _, fun a c z => (by cases z)⟩
      have hfr : Fr M (mSt (mSt (mSt (mSt (mSt (mSt (mSt (va_up M.1 11 (nI (sK s) + 1), M.2) 16 (sK s) (M.2 9 (4 * i + q))) 17 (sK s) (M.2 10 (4 * i + q))) 18 (sK s) (nI v')) 19 (sK s) x19) 20 (sK s) x20) 21 (sK s) 0) 24 (sK s) 0) := ⟨rfl, fun _ => ⟨rfl, rfl, rfl⟩⟩
      have L3 := L.push S (m := newM (nI v') (tS (sT s i) q) (argS s i ar)) (n := sN s) (th := sT s) hfr
      rcases sOK_cases (x := rs) with ⟨q1, -⟩ | ⟨-, rfl, q2⟩ | ⟨p, hp, rfl, -, q2⟩
      · rw [q1] at hrs; cases hrs
      · refine jd_ifT C rfl (by decide) ?_
        exact fin _ _ (by unfold send1; rw [q2]; rfl) S3 L3 rfl rfl (by show mN (va_up (sM s) (sK s) _ (sK s)) = none; rw [va_up_self])
      · refine jd_ifF C rfl (Bool.eq_false_iff.mpr fun z => nI_pos (n := p) (by omega) (fw_cb_iff.mp z)) ?_
        refine jd_get C rfl (fg_D_D_slotSort V) rfl ?_
        refine jd_ast C hT (f := 9) rfl (by decide) rfl rfl (4 * i + p) nI_mul4 (by show 4 * i + p < 160; omega) ?_
        refine jd_get C rfl (fg_D_D_slot V) rfl ?_
        refine jd_ast C hT (f := 10) rfl (by decide) rfl rfl (4 * i + p) nI_mul4 (by show 4 * i + p < 160; omega) ?_
        have S4 := S3.slot (i := i) hi hp (RR.same (VV.pro (j := sK s) (Nat.lt_succ_self _)))
        refine fin _ _ (by unfold send1; rw [q2]; rfl) S4 (L3.fr rfl (fun _ _ _ => rfl) ((Fr.rf.st (f := 9) (by decide)).st (f := 10) (by decide))) rfl rfl (by show mN (va_up (sM s) (sK s) _ (sK s)) = none; rw [va_up_self])
      · show RR ph (sN s) (sK s) (tS (sT s i) q) (va_up _ _ _ _, va_up _ _ _ _)
        rw [va_up_self, va_up_self]; exact hS q hq
      · show RR ph (sN s) (sK s) (argS s i ar) (va_up _ _ _ _, va_up _ _ _ _)
        rw [va_up_self, va_up_self]; exact hA
    refine jd_get C rfl (fg_D_D_messages V) (u := .inl (nI (sK s))) (by rw [← S.hk]; rfl) ?_
    refine jd_get C rfl (fg_D_D_messages V) (u := .inl (nI (sK s))) (by rw [← S.hk]; rfl) ?_
    refine jd_put C rfl (fp_D_D_messages V) (by decide) rfl ?_
    refine jd_get C rfl (fg_D_D_targetSort V) rfl ?_
    refine jd_get C rfl (fg_D_D_slotSort V) rfl ?_
    refine jd_ald C hT (f := 9) rfl (by decide) rfl rfl (4 * i + q) nI_mul4 (by show 4 * i + q < 160; omega) ?_
    refine jd_ast C hT (f := 16) rfl (by decide) rfl rfl (sK s) rfl hk ?_
    refine jd_get C rfl (fg_D_D_target V) rfl ?_
    refine jd_get C rfl (fg_D_D_slot V) rfl ?_
    refine jd_ald C hT (f := 10) rfl (by decide) rfl rfl (4 * i + q) nI_mul4 (by show 4 * i + q < 160; omega) ?_
    refine jd_ast C hT (f := 17) rfl (by decide) rfl rfl (sK s) rfl hk ?_
    refine jd_get C rfl (fg_D_D_verb V) rfl ?_
    refine jd_ast C hT (f := 18) rfl (by decide) rfl rfl (sK s) rfl hk ?_
    refine jd_get C rfl (fg_D_D_argumentSort V) rfl ?_
    rcases sOK_cases (x := ar) with ⟨q1, -⟩ | ⟨-, rfl, q2⟩ | ⟨p, hp, rfl, -, q2⟩
    · rw [q1] at ha; cases ha
    · refine jd_ifF C rfl (by decide) ?_
      refine jd_goto C rfl ?_
      refine jd_ast C hT (f := 19) rfl (by decide) rfl rfl (sK s) rfl hk ?_
      refine jd_get C rfl (fg_D_D_argument V) rfl ?_
      refine jd_ifF C rfl (by decide) ?_
      refine jd_goto C rfl ?_
      refine jd_ast C hT (f := 20) rfl (by decide) rfl rfl (sK s) rfl hk ?_
      exact rest 0 0 (by unfold argS; rw [q2]; exact RR.same VV.not)
    · refine jd_ifT C rfl (fw_cb_iff.mpr (by show (0 : Int32) ≤ nI p; exact nI_pos' (by omega))) ?_
      refine jd_get C rfl (fg_D_D_slotSort V) rfl ?_
      refine jd_ald C hT (f := 9) rfl (by decide) rfl rfl (4 * i + p) nI_mul4 (by show 4 * i + p < 160; omega) ?_
      refine jd_ast C hT (f := 19) rfl (by decide) rfl rfl (sK s) rfl hk ?_
      refine jd_get C rfl (fg_D_D_argument V) rfl ?_
      refine jd_ifT C rfl (fw_cb_iff.mpr (by show (0 : Int32) ≤ nI p; exact nI_pos' (by omega))) ?_
      refine jd_get C rfl (fg_D_D_slot V) rfl ?_
      refine jd_ald C hT (f := 10) rfl (by decide) rfl rfl (4 * i + p) nI_mul4 (by show 4 * i + p < 160; omega) ?_
      refine jd_ast C hT (f := 20) rfl (by decide) rfl rfl (sK s) rfl hk ?_
      exact rest (M.2 9 (4 * i + p)) (M.2 10 (4 * i + p)) (by unfold argS; rw [q2]; exact hS p hp)
  have at33 : sOK ar = true → JD T G_D_send X b A 33 [some (.inr (some b)), some (.inl (nI i)), some (.inl (nI q)), some (.inl (nI v')), some (.inl ar), some (.inl rs), none] [] M := by
    intro ha
    refine jd_callS C rfl (fc_D_D_out V (by decide)) (m_D_outN _ hT rs (n := 4) (by decide)) (As := [.inl rs, .inl (nI 4)]) rfl rfl (nle rfl) rfl rfl ?_
    rcases sOK_cases (x := rs) with ⟨q1, q2, q3⟩ | ⟨q1, q3, q2⟩ | ⟨p, hp, q3, q1, q2⟩ <;> rw [q2]
    · refine jd_ifF C rfl rfl ?_
      refine jd_icmpF C rfl (cb_eqF q3) ?_
      exact bad (by rw [hE0, if_pos ha, q1]; rfl)
    · refine jd_ifF C rfl rfl ?_
      refine jd_icmpT C rfl (by rw [q3]; decide) ?_
      exact at50 ha q1
    · refine jd_ifT C rfl rfl ?_
      exact at50 ha q1
  rcases sOK_cases (x := ar) with ⟨q1, q2, q3⟩ | ⟨q1, q3, q2⟩ | ⟨p, hp, q3, q1, q2⟩ <;> rw [q2]
  · refine jd_ifF C rfl rfl ?_
    refine jd_icmpT C rfl (cb_neT q3) ?_
    exact bad (by rw [hE0, q1]; rfl)
  · refine jd_ifF C rfl rfl ?_
    refine jd_icmpF C rfl (by rw [q3]; decide) ?_
    exact at33 q1
  · refine jd_ifT C rfl rfl ?_
    exact at33 q1
end DHO
