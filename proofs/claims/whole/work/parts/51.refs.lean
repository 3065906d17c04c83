/-! References of the class: what they count as. -/
def nxR (k : Nat) (ms : Nat → Ms) (r : Rf) : Option Rf := if r.1 = 3 then (match ixO k r.2 with
  | some j => mN (ms j)
  | none => none) else none
/-- what a reference counts as -/
def cnt (s : St) (r : Rf) : Rf := ch_it (nxR (sK s) (sM s)) 200 r
def tOf (s : St) (r : Rf) : Option Nat := if (cnt s r).1 = 2 then ixO (sN s) (cnt s r).2 else none
def aOf (s : St) (r : Rf) : Option Nat := if (cnt s r).1 = 3 then ixO (sK s) (cnt s r).2 else none
def kOf (s : St) (kd : Int32) (r : Rf) : Option Nat := match tOf s r with
  | some i => if tK (sT s i) = kd then some i else none
  | none => none
def bN (r : Rf) : Rf := if r.1 = 0 then rB else r
def rTo (o : Option Nat) : Rf := match o with
  | none => rB
  | some i => (2, nI i)
theorem ixO_lt {n i : Nat} {x : Int32} (hn : n < 2 ^ 31) (h : ixO n x = some i) : i < n ∧ x = nI i := by
  rcases ixO_cases n hn x with ⟨-, e⟩ | ⟨-, -, e⟩ | ⟨j, hj, rfl, -, -, e⟩
  · rw [e] at h; cases h
  · rw [e] at h; cases h
  · rw [e] at h; cases h; exact ⟨hj, rfl⟩
theorem ixO_nI {n x i : Nat} (hn : n < 2 ^ 31) (hx : x < 2 ^ 31) (h : ixO n (nI x) = some i) : i = x ∧ x < n := by
  obtain ⟨h1, h2⟩ := ixO_lt hn h
  have := (nI_eq (by omega) (by omega)).mp h2
  omega
section REFS
variable {T : fw_T} {w : fw_W} {c : Cfg} {s : St}
theorem m_V_isSlotOrNone (l : Launch) (hT : TOK T) (x : Int32) : Ct l T y_V_isSlotOrNone W_V_isSlotOrNone rm_V_isSlotOrNone [.inl x] w (fun r w' => w' = w ∧ r = some (.inl (bI (decide (x = -1) || (ixO 4 x).isSome)))) := by
  refine ct_V_isSlotOrNone rfl (nle rfl) ?_
  intro X hl C E
  have V := hv_V_isSlotOrNone hT
  by_cases hx : x = -1
  · refine j_icmp C rfl (fun _ => ?_) (fun q => absurd hx q)
    refine j_goto C rfl ?_
    exact j_iret C E rfl (Or.inr ⟨rfl, Or.inr rfl⟩) (by decide) (by decide) ⟨rfl, by rw [decide_eq_true hx]; rfl⟩
  · refine j_icmp C rfl (fun q => absurd q hx) (fun _ => ?_)
    refine j_callS C rfl (fc_V_V_isSlot V (by decide)) (m_V_isSlot _ hT x) rfl rfl (nle rfl) (by decide) (by decide) ?_
    rintro r w' ⟨rfl, rfl⟩
    cases hs : (ixO 4 x).isSome with
    | true =>
      refine j_ifF C rfl (by decide) ?_
      refine j_goto C rfl ?_
      exact j_iret C E rfl (Or.inr ⟨rfl, Or.inr rfl⟩) (by decide) (by decide) ⟨rfl, by rw [hs, Bool.or_true]; rfl⟩
    | false =>
      refine j_ifT C rfl (by decide) ?_
      exact j_iret C E rfl (Or.inr ⟨rfl, Or.inl rfl⟩) (by decide) (by decide) ⟨rfl, by rw [hs, decide_eq_false hx]; rfl⟩
theorem m_V_cellAt (l : Launch) (hT : TOK T) (R : Rp w c s) (x : Int32) : Ct l T y_V_cellAt W_V_cellAt rm_V_cellAt [.inr (some (cO c)), .inl x] w (fun r w' => w' = w ∧ r = some (.inr ((match ixO (sN s) x with | some i => if tK (sT s i) = 0 then some i else none | none => none).map (cT c)))) := by
  refine ct_V_cellAt rfl (nle rfl) ?_
  intro X hl C E
  have V := hv_V_cellAt hT
  have hn := R.n40
  refine j_callV C rfl (fc_V_V_thingAt V (by decide)) (m_V_thingAt _ hT R x) rfl rfl R.o (by rw [hT.1]; rfl) (nle rfl) (by decide) (by decide) ?_
  rintro r w' ⟨rfl, rfl⟩
  cases hx : ixO (sN s) x with
  | none =>
    rw [hx] at E
    refine j_ifnull C rfl (fun _ => ?_) (fun a ha => by cases ha)
    exact j_aret C E rfl rfl (by decide) (by decide) ⟨rfl, rfl⟩
  | some i =>
    rw [hx] at E
    obtain ⟨hi, -⟩ := ixO_lt (by omega) hx
    obtain ⟨ek, sf, hd, f, e0, -⟩ := R.aT hi
    refine j_ifnull C rfl (fun h => by cases h) (fun a ha => ?_)
    refine j_get C rfl (fg_V_H_kind V) e0 rfl ?_
    refine j_if C rfl (fun h => ?_) (fun h => ?_)
    · exact j_aret C E rfl rfl (by decide) (by decide) ⟨rfl, by dsimp only; rw [if_neg (show ¬ tK (sT s i) = 0 from h)]; rfl⟩
    · refine j_goto C rfl ?_
      exact j_aret C E rfl rfl (by decide) (by decide) ⟨rfl, by dsimp only; rw [if_pos (Classical.not_not.mp (show ¬ ¬ tK (sT s i) = 0 from h))]⟩
theorem m_V_brokenIfNothing (l : Launch) (hT : TOK T) (R : Rp w c s) {a : Nat} {r : Rf} (ha : IsR w a r) : Ct l T y_V_brokenIfNothing W_V_brokenIfNothing rm_V_brokenIfNothing [.inr (some (cO c)), .inr (some a)] w (fun v w' => w' = w ∧ ∃ b, v = some (.inr (some b)) ∧ IsR w b (bN r)) := by
  refine ct_V_brokenIfNothing rfl (nle rfl) ?_
  intro X hl C E
  have V := hv_V_brokenIfNothing hT
  refine j_get C rfl (fg_V_R_sort V) ha rfl ?_
  refine j_if C rfl (fun h => ?_) (fun h => ?_)
  · refine j_aret C E rfl rfl (by decide) (by decide) ⟨rfl, a, rfl, ?_⟩
    unfold bN; rw [if_neg (show ¬ r.1 = 0 from h)]; exact ha
  · refine j_get C rfl (fg_V_V_broken V) R.o rfl ?_
    refine j_goto C rfl ?_
    refine j_aret C E rfl rfl (by decide) (by decide) ⟨rfl, _, rfl, ?_⟩
    unfold bN; rw [if_pos (Classical.not_not.mp (show ¬ ¬ r.1 = 0 from h))]; exact R.broken
theorem m_V_referenceTo (l : Launch) (hT : TOK T) (R : Rp w c s) {o : Option Nat} (ho : ∀ i, o = some i → i < sN s) : Ct l T y_V_referenceTo W_V_referenceTo rm_V_referenceTo [.inr (some (cO c)), .inr (o.map (cT c))] w (fun v w' => w' = w ∧ ∃ b, v = some (.inr (some b)) ∧ IsR w b (rTo o)) := by
  refine ct_V_referenceTo rfl (nle rfl) ?_
  intro X hl C E
  have V := hv_V_referenceTo hT
  cases o with
  | none =>
    refine j_ifnn C rfl (fun a h => by cases h) (fun _ => ?_)
    refine j_get C rfl (fg_V_V_broken V) R.o rfl ?_
    refine j_goto C rfl ?_
    exact j_aret C E rfl rfl (by decide) (by decide) ⟨rfl, _, rfl, R.broken⟩
  | some i =>
    obtain ⟨ek, sf, hd, f, e0, e1, -⟩ := R.aT (ho i rfl)
    refine j_ifnn C rfl (fun a h => ?_) (fun h => by cases h)
    refine j_get C rfl (fg_V_H_self V) e0 rfl ?_
    exact j_aret C E rfl rfl (by decide) (by decide) ⟨rfl, sf, rfl, e1⟩
set_option maxHeartbeats 1000000 in
theorem m_V_countsAs (l : Launch) (hT : TOK T) (R : Rp w c s) {a : Nat} {r : Rf} (ha : IsR w a r) : Ct l T y_V_countsAs W_V_countsAs rm_V_countsAs [.inr (some (cO c)), .inr (some a)] w (fun v w' => w' = w ∧ ∃ b, v = some (.inr (some b)) ∧ IsR w b (cnt s r)) := by
  refine ct_V_countsAs rfl (nle rfl) ?_
  intro X hl C E
  have V := hv_V_countsAs hT
  have hk := R.k200
  have loop : ∀ (d p b : Nat) (q : Rf) (z : Option fw_V), p + d = 200 → IsR w b q → ch_it (nxR (sK s) (sM s)) d q = cnt s r → J T G_V_countsAs X 4 [some (.inr (some (cO c))), some (.inr (some a)), some (.inr (some b)), some (.inl (nI p)), z] [] w 0 0 := by
    intro d
    induction d with
    | zero =>
      intro p b q z hp hb hq
      have hp : p = 200 := by omega
      subst hp
      refine j_icmpT C rfl (by decide) ?_
      exact j_aret C E rfl rfl (by decide) (by decide) ⟨rfl, b, rfl, by rw [← hq]; exact hb⟩
    | succ d ih =>
      intro p b q z hp hb hq
      refine j_icmp C rfl (fun h => absurd h (nI_ge (show p < 200 by omega) (by decide))) (fun _ => ?_)
      refine j_get C rfl (fg_V_R_sort V) hb rfl ?_
      refine j_icmp C rfl (fun h => ?_) (fun h => ?_)
      · have hnx : nxR (sK s) (sM s) q = none := by unfold nxR; rw [if_neg (show ¬ q.1 = 3 from h)]
        rw [ch_it_stop _ hnx] at hq
        exact j_aret C E rfl rfl (by decide) (by decide) ⟨rfl, b, rfl, by rw [← hq]; exact hb⟩
      · have h3 : q.1 = 3 := Classical.not_not.mp h
        refine j_get C rfl (fg_V_R_index V) hb rfl ?_
        refine j_callV C rfl (fc_V_V_messageAt V (by decide)) (m_V_messageAt _ hT R q.2) rfl rfl R.o (by rw [hT.1]; rfl) (nle rfl) (by decide) (by decide) ?_
        rintro v w' ⟨rfl, rfl⟩
        cases hx : ixO (sK s) q.2 with
        | none =>
          have hnx : nxR (sK s) (sM s) q = none := by unfold nxR; rw [if_pos h3, hx]
          rw [ch_it_stop _ hnx] at hq
          refine j_ifnull C rfl (fun _ => ?_) (fun a ha => by cases ha)
          exact j_aret C E rfl rfl (by decide) (by decide) ⟨rfl, b, rfl, by rw [← hq]; exact hb⟩
        | some j =>
          obtain ⟨hj, -⟩ := ixO_lt (by omega) hx
          obtain ⟨bb, ek, pr, tg, ar, an, e0, e1, e2, e3, e4, e5⟩ := R.aM hj
          refine j_ifnull C rfl (fun h => by cases h) (fun a ha => ?_)
          refine j_get C rfl (fg_V_M_answer V) e0 rfl ?_
          rcases e4 with ⟨rfl, hN⟩ | ⟨x, y, rfl, hN, hxy⟩
          · have hnx : nxR (sK s) (sM s) q = none := by unfold nxR; rw [if_pos h3, hx]; exact hN
            rw [ch_it_stop _ hnx] at hq
            refine j_ifnn C rfl (fun a ha => by cases ha) (fun _ => ?_)
            exact j_aret C E rfl rfl (by decide) (by decide) ⟨rfl, b, rfl, by rw [← hq]; exact hb⟩
          · have hnx : nxR (sK s) (sM s) q = some y := by unfold nxR; rw [if_pos h3, hx]; exact hN
            refine j_ifnn C rfl (fun a ha => ?_) (fun h => by cases h)
            refine j_get C rfl (fg_V_M_answer V) e0 rfl ?_
            refine j_goto C rfl ?_
            have := ih (p + 1) x y (some (.inr (some (cM c j)))) (by omega) hxy (by simp only [ch_it, hnx] at hq; exact hq)
            rw [nI_succ] at this
            exact this
  refine j_to C 4 rfl ?_
  exact loop 200 0 a r none rfl ha rfl
theorem m_V_thingOf (l : Launch) (hT : TOK T) (R : Rp w c s) {a : Nat} {r : Rf} (ha : IsR w a r) : Ct l T y_V_thingOf W_V_thingOf rm_V_thingOf [.inr (some (cO c)), .inr (some a)] w (fun v w' => w' = w ∧ v = some (.inr ((tOf s r).map (cT c)))) := by
  refine ct_V_thingOf rfl (nle rfl) ?_
  intro X hl C E
  have V := hv_V_thingOf hT
  refine j_callV C rfl (fc_V_V_countsAs V (by decide)) (m_V_countsAs _ hT R ha) rfl rfl R.o (by rw [hT.1]; rfl) (nle rfl) (by decide) (by decide) ?_
  rintro v w' ⟨rfl, b, rfl, hb⟩
  refine j_get C rfl (fg_V_R_sort V) hb rfl ?_
  refine j_icmp C rfl (fun h => ?_) (fun h => ?_)
  · exact j_aret C E rfl rfl (by decide) (by decide) ⟨rfl, by unfold tOf; rw [if_neg (show ¬ (cnt s r).1 = 2 from h)]; rfl⟩
  · refine j_get C rfl (fg_V_R_index V) hb rfl ?_
    refine j_callV C rfl (fc_V_V_thingAt V (by decide)) (m_V_thingAt _ hT R _) rfl rfl R.o (by rw [hT.1]; rfl) (nle rfl) (by decide) (by decide) ?_
    rintro v w' ⟨rfl, rfl⟩
    refine j_goto C rfl ?_
    exact j_aret C E rfl rfl (by decide) (by decide) ⟨rfl, by unfold tOf; rw [if_pos (Classical.not_not.mp (show ¬ ¬ (cnt s r).1 = 2 from h))]⟩
theorem m_V_awaitedBy (l : Launch) (hT : TOK T) (R : Rp w c s) {a : Nat} {r : Rf} (ha : IsR w a r) : Ct l T y_V_awaitedBy W_V_awaitedBy rm_V_awaitedBy [.inr (some (cO c)), .inr (some a)] w (fun v w' => w' = w ∧ v = some (.inr ((aOf s r).map (cM c)))) := by
  refine ct_V_awaitedBy rfl (nle rfl) ?_
  intro X hl C E
  have V := hv_V_awaitedBy hT
  refine j_callV C rfl (fc_V_V_countsAs V (by decide)) (m_V_countsAs _ hT R ha) rfl rfl R.o (by rw [hT.1]; rfl) (nle rfl) (by decide) (by decide) ?_
  rintro v w' ⟨rfl, b, rfl, hb⟩
  refine j_get C rfl (fg_V_R_sort V) hb rfl ?_
  refine j_icmp C rfl (fun h => ?_) (fun h => ?_)
  · exact j_aret C E rfl rfl (by decide) (by decide) ⟨rfl, by unfold aOf; rw [if_neg (show ¬ (cnt s r).1 = 3 from h)]; rfl⟩
  · refine j_get C rfl (fg_V_R_index V) hb rfl ?_
    refine j_callV C rfl (fc_V_V_messageAt V (by decide)) (m_V_messageAt _ hT R _) rfl rfl R.o (by rw [hT.1]; rfl) (nle rfl) (by decide) (by decide) ?_
    rintro v w' ⟨rfl, rfl⟩
    refine j_goto C rfl ?_
    exact j_aret C E rfl rfl (by decide) (by decide) ⟨rfl, by unfold aOf; rw [if_pos (Classical.not_not.mp (show ¬ ¬ (cnt s r).1 = 3 from h))]⟩
theorem tOf_lt {s : St} (hn : sN s ≤ 40) {r : Rf} {i : Nat} (h : tOf s r = some i) : i < sN s := by
  unfold tOf at h
  split at h
  · exact (ixO_lt (by omega) h).1
  · cases h
theorem aOf_lt {s : St} (hn : sK s ≤ 200) {r : Rf} {i : Nat} (h : aOf s r = some i) : i < sK s := by
  unfold aOf at h
  split at h
  · exact (ixO_lt (by omega) h).1
  · cases h
theorem kOf_lt {s : St} (hn : sN s ≤ 40) {kd : Int32} {r : Rf} {i : Nat} (h : kOf s kd r = some i) : i < sN s ∧ tK (sT s i) = kd := by
  unfold kOf at h
  cases ht : tOf s r with
  | none => rw [ht] at h; cases h
  | some j =>
    rw [ht] at h
    dsimp only at h
    by_cases hk : tK (sT s j) = kd
    · rw [if_pos hk] at h; cases h; exact ⟨tOf_lt hn ht, hk⟩
    · rw [if_neg hk] at h; cases h
theorem m_V_thingOfKind (l : Launch) (hT : TOK T) (R : Rp w c s) {a : Nat} {r : Rf} (kd : Int32) (ha : IsR w a r) : Ct l T y_V_thingOfKind W_V_thingOfKind rm_V_thingOfKind [.inr (some (cO c)), .inl kd, .inr (some a)] w (fun v w' => w' = w ∧ v = some (.inr ((kOf s kd r).map (cT c)))) := by
  refine ct_V_thingOfKind rfl (nle rfl) ?_
  intro X hl C E
  have V := hv_V_thingOfKind hT
  refine j_callV C rfl (fc_V_V_thingOf V (by decide)) (m_V_thingOf _ hT R ha) rfl rfl R.o (by rw [hT.1]; rfl) (nle rfl) (by decide) (by decide) ?_
  rintro v w' ⟨rfl, rfl⟩
  unfold kOf at E
  cases ht : tOf s r with
  | none =>
    rw [ht] at E
    refine j_ifnull C rfl (fun _ => ?_) (fun a ha => by cases ha)
    exact j_aret C E rfl rfl (by decide) (by decide) ⟨rfl, rfl⟩
  | some i =>
    rw [ht] at E
    obtain ⟨ek, sf, hd, f, e0, -⟩ := R.aT (tOf_lt R.n40 ht)
    refine j_ifnull C rfl (fun h => by cases h) (fun a ha => ?_)
    refine j_get C rfl (fg_V_H_kind V) e0 rfl ?_
    refine j_icmp C rfl (fun h => ?_) (fun h => ?_)
    · exact j_aret C E rfl rfl (by decide) (by decide) ⟨rfl, by dsimp only; rw [if_neg (show ¬ tK (sT s i) = kd from h)]; rfl⟩
    · refine j_goto C rfl ?_
      exact j_aret C E rfl rfl (by decide) (by decide) ⟨rfl, by dsimp only; rw [if_pos (Classical.not_not.mp (show ¬ ¬ tK (sT s i) = kd from h))]⟩
end REFS
