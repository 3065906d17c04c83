/-! The views. -/
def kindS (s : St) (x : Int32) : Int32 := match ixO (sN s) x with | none => -1 | some i => tK (sT s i)
def homeS (s : St) (x : Int32) : Int32 := match ixO (sN s) x with | none => -1 | some i => tH (sT s i)
def placeS (s : St) (x : Int32) : Int32 := match ixO (sK s) x with | none => -1 | some j => mP (sM s j)
def resultS (s : St) (x : Int32) : Int32 := match ixO (sK s) x with | none => -1 | some j => (cnt s (3, nI j)).1
def valueS (s : St) (x : Int32) : Int32 := match ixO (sK s) x with | none => 0 | some j => (cnt s (3, nI j)).2
def notesS (s : St) (x : Int32) : Int32 := match ixO (sK s) x with | none => -1 | some j => nI (mW (sM s j)).length
def waitingS (s : St) (x : Int32) : Int32 := match ixO (sK s) x with | none => -1 | some j => nI (sL s (4 + j)).length
def queuedS (s : St) (x : Int32) : Int32 := match ixO 3 x with | none => -1 | some v => nI (sL s v).length
def heldS (s : St) (x y : Int32) : Option Rf := match ixO (sN s) x with
  | none => none
  | some i => if tK (sT s i) = 0 then (match ixO 4 y with | none => none | some q => some (cnt s (tS (sT s i) q)))
    else if y = 4 ∧ (tK (sT s i) = 2 ∨ tK (sT s i) = 6 ∨ tK (sT s i) = 10) then some (cnt s (tD (sT s i))) else none
def whatS (s : St) (x y : Int32) : Int32 := match heldS s x y with | none => -1 | some r => r.1
def whichS (s : St) (x y : Int32) : Int32 := match heldS s x y with | none => 0 | some r => r.2
def oNum (o : Option Nat) : Int32 := match o with | none => 0 | some i => nI i
def d1S (s : St) (i : Nat) : Int32 := if tK (sT s i) = 1 ∨ tK (sT s i) = 9 then tV (sT s i) else if tK (sT s i) = 8 then tB (sT s i) else oNum (tO (sT s i))
def d2S (s : St) (i : Nat) : Int32 := if tK (sT s i) = 1 then oNum (tF (sT s i)) else if tK (sT s i) = 8 then oNum (tO (sT s i)) else if tK (sT s i) = 10 then tI (sT s i) else 0
def detailS (s : St) (x y : Int32) : Int32 := match ixO (sN s) x with
  | none => -1
  | some i => match ixO 2 y with
    | none => -1
    | some p => if p = 0 then d1S s i else d2S s i
def nextS (s : St) (x y : Int32) : Int32 := match ixO 3 x with
  | none => -3
  | some v => match ixO (sL s v).length y with
    | none => -3
    | some p => nI ((sL s v).getD p 0)
section VIEWS
variable {T : fw_T} {w : fw_W} {c : Cfg} {s : St}
theorem m_V_objects (l : Launch) (hT : TOK T) (R : Rp w c s) : Ct l T y_V_objects W_V_objects rm_V_objects [.inr (some (cO c))] w (fun v w' => w' = w ∧ v = some (.inl (nI (sN s)))) := by
  refine ct_V_objects rfl (nle rfl) ?_
  intro X hl C E
  refine j_get C rfl (fg_V_V_thingCount (hv_V_objects hT)) R.o rfl ?_
  exact j_iret C E rfl (Or.inl rfl) (by decide) (by decide) ⟨rfl, rfl⟩
theorem m_V_messages (l : Launch) (hT : TOK T) (R : Rp w c s) : Ct l T y_V_messages W_V_messages rm_V_messages [.inr (some (cO c))] w (fun v w' => w' = w ∧ v = some (.inl (nI (sK s)))) := by
  refine ct_V_messages rfl (nle rfl) ?_
  intro X hl C E
  refine j_get C rfl (fg_V_V_sentCount (hv_V_messages hT)) R.o rfl ?_
  exact j_iret C E rfl (Or.inl rfl) (by decide) (by decide) ⟨rfl, rfl⟩
theorem m_V_kind (l : Launch) (hT : TOK T) (R : Rp w c s) (x : Int32) : Ct l T y_V_kind W_V_kind rm_V_kind [.inr (some (cO c)), .inl x] w (fun v w' => w' = w ∧ v = some (.inl (kindS s x))) := by
  refine ct_V_kind rfl (nle rfl) ?_
  intro X hl C E
  have V := hv_V_kind hT
  have hn := R.n40
  unfold kindS at E
  refine j_callV C rfl (fc_V_V_thingAt V (by decide)) (m_V_thingAt _ hT R x) rfl rfl R.o (by rw [hT.1]; rfl) (nle rfl) (by decide) (by decide) ?_
  rintro v w' ⟨rfl, rfl⟩
  cases hx : ixO (sN s) x with
  | none =>
    rw [hx] at E
    refine j_ifnn C rfl (fun _ h => by cases h) (fun _ => ?_)
    refine j_goto C rfl ?_
    exact j_iret C E rfl (Or.inl rfl) (by decide) (by decide) ⟨rfl, rfl⟩
  | some i =>
    rw [hx] at E
    obtain ⟨ek, sf, hd, f, e0, -⟩ := R.aT (ixO_lt (by omega) hx).1
    refine j_ifnn C rfl (fun _ _ => ?_) (fun h => by cases h)
    refine j_get C rfl (fg_V_H_kind V) e0 rfl ?_
    exact j_iret C E rfl (Or.inl rfl) (by decide) (by decide) ⟨rfl, rfl⟩
theorem m_V_home (l : Launch) (hT : TOK T) (R : Rp w c s) (x : Int32) : Ct l T y_V_home W_V_home rm_V_home [.inr (some (cO c)), .inl x] w (fun v w' => w' = w ∧ v = some (.inl (homeS s x))) := by
  refine ct_V_home rfl (nle rfl) ?_
  intro X hl C E
  have V := hv_V_home hT
  have hn := R.n40
  unfold homeS at E
  refine j_callV C rfl (fc_V_V_thingAt V (by decide)) (m_V_thingAt _ hT R x) rfl rfl R.o (by rw [hT.1]; rfl) (nle rfl) (by decide) (by decide) ?_
  rintro v w' ⟨rfl, rfl⟩
  cases hx : ixO (sN s) x with
  | none =>
    rw [hx] at E
    refine j_ifnn C rfl (fun _ h => by cases h) (fun _ => ?_)
    refine j_goto C rfl ?_
    exact j_iret C E rfl (Or.inl rfl) (by decide) (by decide) ⟨rfl, rfl⟩
  | some i =>
    rw [hx] at E
    obtain ⟨ek, sf, hd, f, e0, -⟩ := R.aT (ixO_lt (by omega) hx).1
    refine j_ifnn C rfl (fun _ _ => ?_) (fun h => by cases h)
    refine j_get C rfl (fg_V_H_home V) e0 rfl ?_
    exact j_iret C E rfl (Or.inl rfl) (by decide) (by decide) ⟨rfl, rfl⟩
theorem m_V_place (l : Launch) (hT : TOK T) (R : Rp w c s) (x : Int32) : Ct l T y_V_place W_V_place rm_V_place [.inr (some (cO c)), .inl x] w (fun v w' => w' = w ∧ v = some (.inl (placeS s x))) := by
  refine ct_V_place rfl (nle rfl) ?_
  intro X hl C E
  have V := hv_V_place hT
  have hn := R.k200
  unfold placeS at E
  refine j_callV C rfl (fc_V_V_messageAt V (by decide)) (m_V_messageAt _ hT R x) rfl rfl R.o (by rw [hT.1]; rfl) (nle rfl) (by decide) (by decide) ?_
  rintro v w' ⟨rfl, rfl⟩
  cases hx : ixO (sK s) x with
  | none =>
    rw [hx] at E
    refine j_ifnn C rfl (fun _ h => by cases h) (fun _ => ?_)
    refine j_goto C rfl ?_
    exact j_iret C E rfl (Or.inl rfl) (by decide) (by decide) ⟨rfl, rfl⟩
  | some i =>
    rw [hx] at E
    obtain ⟨b, pr, tg, ar, an, m0, -⟩ := R.msg (ixO_lt (by omega) hx).1
    refine j_ifnn C rfl (fun _ _ => ?_) (fun h => by cases h)
    refine j_get C rfl (fg_V_M_place V) m0 rfl ?_
    exact j_iret C E rfl (Or.inl rfl) (by decide) (by decide) ⟨rfl, rfl⟩
theorem m_V_notes (l : Launch) (hT : TOK T) (R : Rp w c s) (x : Int32) : Ct l T y_V_notes W_V_notes rm_V_notes [.inr (some (cO c)), .inl x] w (fun v w' => w' = w ∧ v = some (.inl (notesS s x))) := by
  refine ct_V_notes rfl (nle rfl) ?_
  intro X hl C E
  have V := hv_V_notes hT
  have hn := R.k200
  unfold notesS at E
  refine j_callV C rfl (fc_V_V_messageAt V (by decide)) (m_V_messageAt _ hT R x) rfl rfl R.o (by rw [hT.1]; rfl) (nle rfl) (by decide) (by decide) ?_
  rintro v w' ⟨rfl, rfl⟩
  cases hx : ixO (sK s) x with
  | none =>
    rw [hx] at E
    refine j_ifnn C rfl (fun _ h => by cases h) (fun _ => ?_)
    refine j_goto C rfl ?_
    exact j_iret C E rfl (Or.inl rfl) (by decide) (by decide) ⟨rfl, rfl⟩
  | some i =>
    rw [hx] at E
    obtain ⟨b, pr, tg, ar, an, m0, -⟩ := R.msg (ixO_lt (by omega) hx).1
    refine j_ifnn C rfl (fun _ _ => ?_) (fun h => by cases h)
    refine j_get C rfl (fg_V_M_noteCount V) m0 rfl ?_
    exact j_iret C E rfl (Or.inl rfl) (by decide) (by decide) ⟨rfl, rfl⟩
theorem Rp.line (R : Rp w c s) {i : Nat} (hi : i < 4 + sK s) : w (cL c i) = some (cellL c ((sL s i).head?, (sL s i).getLast?, nI (sL s i).length)) := by
  obtain ⟨bh, lf, R, hL, -⟩ := R
  have := (R.aL hi).1
  rw [(hL i hi).1] at this
  exact this
theorem m_V_waiting (l : Launch) (hT : TOK T) (R : Rp w c s) (x : Int32) : Ct l T y_V_waiting W_V_waiting rm_V_waiting [.inr (some (cO c)), .inl x] w (fun v w' => w' = w ∧ v = some (.inl (waitingS s x))) := by
  refine ct_V_waiting rfl (nle rfl) ?_
  intro X hl C E
  have V := hv_V_waiting hT
  have hn := R.k200
  unfold waitingS at E
  refine j_callV C rfl (fc_V_V_messageAt V (by decide)) (m_V_messageAt _ hT R x) rfl rfl R.o (by rw [hT.1]; rfl) (nle rfl) (by decide) (by decide) ?_
  rintro v w' ⟨rfl, rfl⟩
  cases hx : ixO (sK s) x with
  | none =>
    rw [hx] at E
    refine j_ifnn C rfl (fun _ h => by cases h) (fun _ => ?_)
    refine j_goto C rfl ?_
    exact j_iret C E rfl (Or.inl rfl) (by decide) (by decide) ⟨rfl, rfl⟩
  | some i =>
    rw [hx] at E
    have hi := (ixO_lt (by omega) hx).1
    obtain ⟨b, pr, tg, ar, an, m0, -⟩ := R.msg hi
    refine j_ifnn C rfl (fun _ _ => ?_) (fun h => by cases h)
    refine j_get C rfl (fg_V_M_waiters V) m0 rfl ?_
    refine j_get C rfl (fg_V_L_length V) (R.line (i := 4 + i) (by omega)) rfl ?_
    exact j_iret C E rfl (Or.inl rfl) (by decide) (by decide) ⟨rfl, rfl⟩
theorem Rp.pr (R : Rp w c s) {j : Nat} (hj : j < sK s) : ∃ (b : Option Nat) (pr tg ar : Nat) (an : Option Nat), w (cM c j) = some (cellM c j (sM s j) b pr tg ar an) ∧ IsR w pr (3, nI j) := by
  obtain ⟨bb, ekm, pr, tg, ar, an, m0, m1, -⟩ := R.aM hj
  exact ⟨bb, pr, tg, ar, an, m0, m1⟩
theorem m_V_result (l : Launch) (hT : TOK T) (R : Rp w c s) (x : Int32) : Ct l T y_V_result W_V_result rm_V_result [.inr (some (cO c)), .inl x] w (fun v w' => w' = w ∧ v = some (.inl (resultS s x))) := by
  refine ct_V_result rfl (nle rfl) ?_
  intro X hl C E
  have V := hv_V_result hT
  have hn := R.k200
  unfold resultS at E
  refine j_callV C rfl (fc_V_V_messageAt V (by decide)) (m_V_messageAt _ hT R x) rfl rfl R.o (by rw [hT.1]; rfl) (nle rfl) (by decide) (by decide) ?_
  rintro v w' ⟨rfl, rfl⟩
  cases hx : ixO (sK s) x with
  | none =>
    rw [hx] at E
    refine j_ifnn C rfl (fun _ h => by cases h) (fun _ => ?_)
    refine j_goto C rfl ?_
    exact j_iret C E rfl (Or.inl rfl) (by decide) (by decide) ⟨rfl, rfl⟩
  | some i =>
    rw [hx] at E
    obtain ⟨b, pr, tg, ar, an, m0, m1⟩ := R.pr (ixO_lt (by omega) hx).1
    refine j_ifnn C rfl (fun _ _ => ?_) (fun h => by cases h)
    refine j_get C rfl (fg_V_M_promise V) m0 rfl ?_
    refine j_callV C rfl (fc_V_V_countsAs V (by decide)) (m_V_countsAs _ hT R m1) rfl rfl R.o (by rw [hT.1]; rfl) (nle rfl) (by decide) (by decide) ?_
    rintro v w' ⟨rfl, b', rfl, hb'⟩
    refine j_get C rfl (fg_V_R_sort V) hb' rfl ?_
    exact j_iret C E rfl (Or.inl rfl) (by decide) (by decide) ⟨rfl, rfl⟩
theorem m_V_value (l : Launch) (hT : TOK T) (R : Rp w c s) (x : Int32) : Ct l T y_V_value W_V_value rm_V_value [.inr (some (cO c)), .inl x] w (fun v w' => w' = w ∧ v = some (.inl (valueS s x))) := by
  refine ct_V_value rfl (nle rfl) ?_
  intro X hl C E
  have V := hv_V_value hT
  have hn := R.k200
  unfold valueS at E
  refine j_callV C rfl (fc_V_V_messageAt V (by decide)) (m_V_messageAt _ hT R x) rfl rfl R.o (by rw [hT.1]; rfl) (nle rfl) (by decide) (by decide) ?_
  rintro v w' ⟨rfl, rfl⟩
  cases hx : ixO (sK s) x with
  | none =>
    rw [hx] at E
    refine j_ifnn C rfl (fun _ h => by cases h) (fun _ => ?_)
    refine j_goto C rfl ?_
    exact j_iret C E rfl (Or.inl rfl) (by decide) (by decide) ⟨rfl, rfl⟩
  | some i =>
    rw [hx] at E
    obtain ⟨b, pr, tg, ar, an, m0, m1⟩ := R.pr (ixO_lt (by omega) hx).1
    refine j_ifnn C rfl (fun _ _ => ?_) (fun h => by cases h)
    refine j_get C rfl (fg_V_M_promise V) m0 rfl ?_
    refine j_callV C rfl (fc_V_V_countsAs V (by decide)) (m_V_countsAs _ hT R m1) rfl rfl R.o (by rw [hT.1]; rfl) (nle rfl) (by decide) (by decide) ?_
    rintro v w' ⟨rfl, b', rfl, hb'⟩
    refine j_get C rfl (fg_V_R_index V) hb' rfl ?_
    exact j_iret C E rfl (Or.inl rfl) (by decide) (by decide) ⟨rfl, rfl⟩
theorem Rp.q (R : Rp w c s) : ∃ f : Nat → Option Nat, w (cQA c) = some (.inl (aL, 3, .inr f)) ∧ ∀ v, v < 3 → f v = some (cL c v) := by
  obtain ⟨bh, lf, R, -⟩ := R
  exact R.2.2.2.2.2.1
theorem m_V_queued (l : Launch) (hT : TOK T) (R : Rp w c s) (x : Int32) : Ct l T y_V_queued W_V_queued rm_V_queued [.inr (some (cO c)), .inl x] w (fun v w' => w' = w ∧ v = some (.inl (queuedS s x))) := by
  refine ct_V_queued rfl (nle rfl) ?_
  intro X hl C E
  have V := hv_V_queued hT
  unfold queuedS at E
  refine j_callS C rfl (fc_V_V_isVat V (by decide)) (m_V_isVat _ hT x) rfl rfl (nle rfl) (by decide) (by decide) ?_
  rintro v w' ⟨rfl, rfl⟩
  cases hx : ixO 3 x with
  | none =>
    rw [hx] at E
    refine j_ifT C rfl (by decide) ?_
    exact j_iret C E rfl (Or.inl rfl) (by decide) (by decide) ⟨rfl, rfl⟩
  | some q =>
    rw [hx] at E
    obtain ⟨hq, rfl⟩ := ixO_lt (by decide) hx
    refine j_ifF C rfl (show fw_cb _ (bI true) 0 = false by decide) ?_
    refine j_get C rfl (fg_V_V_queues V) R.o rfl ?_
    obtain ⟨f, q1, q2⟩ := R.q
    refine j_aaldI C rfl q1 hT.2.2.2.2.1 q rfl hq (by decide) ?_
    rw [q2 q hq]
    refine j_get C rfl (fg_V_L_length V) (R.line (i := q) (by omega)) rfl ?_
    refine j_goto C rfl ?_
    exact j_iret C E rfl (Or.inl rfl) (by decide) (by decide) ⟨rfl, rfl⟩
theorem m_H_holdsOne (l : Launch) (hT : TOK T) (R : Rp w c s) {i : Nat} (hi : i < sN s) : Ct l T y_H_holdsOne W_H_holdsOne rm_H_holdsOne [.inr (some (cT c i))] w (fun v w' => w' = w ∧ v = some (.inl (bI (decide (tK (sT s i) = 2 ∨ tK (sT s i) = 6 ∨ tK (sT s i) = 10))))) := by
  refine ct_H_holdsOne rfl (nle rfl) ?_
  intro X hl C E
  have V := hv_H_holdsOne hT
  obtain ⟨ek, sf, hd, f, e0, -⟩ := R.aT hi
  have yes : (tK (sT s i) = 2 ∨ tK (sT s i) = 6 ∨ tK (sT s i) = 10) → J T G_H_holdsOne X 26 [some (.inr (some (cT c i)))] [] w 0 0 := fun h => by
    refine j_goto C rfl ?_
    exact j_iret C E rfl (Or.inr ⟨rfl, Or.inr rfl⟩) (by decide) (by decide) ⟨rfl, by rw [decide_eq_true h]; rfl⟩
  refine j_get C rfl (fg_H_H_kind V) e0 rfl ?_
  refine j_icmp C rfl (fun h => yes (Or.inl h)) (fun h2 => ?_)
  refine j_get C rfl (fg_H_H_kind V) e0 rfl ?_
  refine j_icmp C rfl (fun h => yes (Or.inr (Or.inl h))) (fun h6 => ?_)
  refine j_get C rfl (fg_H_H_kind V) e0 rfl ?_
  refine j_icmp C rfl (fun h10 => ?_) (fun h => yes (Or.inr (Or.inr (Classical.not_not.mp h))))
  exact j_iret C E rfl (Or.inr ⟨rfl, Or.inl rfl⟩) (by decide) (by decide) ⟨rfl, by rw [decide_eq_false (fun q => q.elim h2 (fun z => z.elim h6 h10))]; rfl⟩
set_option maxHeartbeats 1000000 in
theorem m_V_heldAt (l : Launch) (hT : TOK T) (R : Rp w c s) (x y : Int32) : Ct l T y_V_heldAt W_V_heldAt rm_V_heldAt [.inr (some (cO c)), .inl x, .inl y] w (fun v w' => w' = w ∧ ∃ o, v = some (.inr o) ∧ isA w o (heldS s x y)) := by
  refine ct_V_heldAt rfl (nle rfl) ?_
  intro X hl C E
  have V := hv_V_heldAt hT
  have hn := R.n40
  unfold heldS at E
  refine j_callV C rfl (fc_V_V_thingAt V (by decide)) (m_V_thingAt _ hT R x) rfl rfl R.o (by rw [hT.1]; rfl) (nle rfl) (by decide) (by decide) ?_
  rintro v w' ⟨rfl, rfl⟩
  cases hx : ixO (sN s) x with
  | none =>
    rw [hx] at E
    refine j_ifnn C rfl (fun _ h => by cases h) (fun _ => ?_)
    exact j_aret C E rfl rfl (by decide) (by decide) ⟨rfl, none, rfl, Or.inl ⟨rfl, rfl⟩⟩
  | some i =>
    rw [hx] at E
    have hi := (ixO_lt (by omega) hx).1
    obtain ⟨ek, sf, hd, f, e0, e1, e2, e3, e4⟩ := R.aT hi
    refine j_ifnn C rfl (fun _ _ => ?_) (fun h => by cases h)
    refine j_get C rfl (fg_V_H_kind V) e0 rfl ?_
    refine j_if C rfl (fun hk => ?_) (fun hk => ?_)
    · have hk : ¬ tK (sT s i) = 0 := hk
      dsimp only at E
      rw [if_neg hk] at E
      refine j_icmp C rfl (fun h4 => ?_) (fun h4 => ?_)
      · rw [if_neg (fun q => h4 q.1)] at E
        exact j_aret C E rfl rfl (by decide) (by decide) ⟨rfl, none, rfl, Or.inl ⟨rfl, rfl⟩⟩
      · have h4 : y = 4 := Classical.not_not.mp h4
        refine j_callV C rfl (fc_V_H_holdsOne V (by decide)) (m_H_holdsOne _ hT R hi) rfl rfl e0 (by rw [hT.1]; rfl) (nle rfl) (by decide) (by decide) ?_
        rintro v w' ⟨rfl, rfl⟩
        by_cases hh : tK (sT s i) = 2 ∨ tK (sT s i) = 6 ∨ tK (sT s i) = 10
        · rw [if_pos ⟨h4, hh⟩] at E
          rw [decide_eq_true hh]
          refine j_ifF C rfl (show fw_cb _ (bI true) 0 = false by decide) ?_
          refine j_get C rfl (fg_V_H_held V) e0 rfl ?_
          refine j_callV C rfl (fc_V_V_countsAs V (by decide)) (m_V_countsAs _ hT R e2) rfl rfl R.o (by rw [hT.1]; rfl) (nle rfl) (by decide) (by decide) ?_
          rintro v w' ⟨rfl, b', rfl, hb'⟩
          refine j_goto C rfl ?_
          exact j_aret C E rfl rfl (by decide) (by decide) ⟨rfl, _, rfl, Or.inr ⟨b', _, rfl, rfl, hb'⟩⟩
        · rw [if_neg (fun q => hh q.2)] at E
          rw [decide_eq_false hh]
          refine j_ifT C rfl (show fw_cb _ (bI false) 0 = true by decide) ?_
          exact j_aret C E rfl rfl (by decide) (by decide) ⟨rfl, none, rfl, Or.inl ⟨rfl, rfl⟩⟩
    · have hk : tK (sT s i) = 0 := Classical.not_not.mp hk
      dsimp only at E
      rw [if_pos hk] at E
      refine j_callS C rfl (fc_V_V_isSlot V (by decide)) (m_V_isSlot _ hT y) rfl rfl (nle rfl) (by decide) (by decide) ?_
      rintro v w' ⟨rfl, rfl⟩
      cases hy : ixO 4 y with
      | none =>
        rw [hy] at E
        refine j_ifT C rfl (by decide) ?_
        exact j_aret C E rfl rfl (by decide) (by decide) ⟨rfl, none, rfl, Or.inl ⟨rfl, rfl⟩⟩
      | some q =>
        rw [hy] at E
        obtain ⟨hq, rfl⟩ := ixO_lt (by decide) hy
        refine j_ifF C rfl (show fw_cb _ (bI true) 0 = false by decide) ?_
        refine j_get C rfl (fg_V_H_slots V) e0 rfl ?_
        refine j_aaldI C rfl e3 hT.2.1 q rfl hq (by decide) ?_
        obtain ⟨b, hb1, hb2⟩ := e4 q hq
        rw [hb1]
        refine j_callV C rfl (fc_V_V_countsAs V (by decide)) (m_V_countsAs _ hT R hb2) rfl rfl R.o (by rw [hT.1]; rfl) (nle rfl) (by decide) (by decide) ?_
        rintro v w' ⟨rfl, b', rfl, hb'⟩
        refine j_goto C rfl ?_
        exact j_aret C E rfl rfl (by decide) (by decide) ⟨rfl, _, rfl, Or.inr ⟨b', _, rfl, rfl, hb'⟩⟩
theorem m_V_what (l : Launch) (hT : TOK T) (R : Rp w c s) (x y : Int32) : Ct l T y_V_what W_V_what rm_V_what [.inr (some (cO c)), .inl x, .inl y] w (fun v w' => w' = w ∧ v = some (.inl (whatS s x y))) := by
  refine ct_V_what rfl (nle rfl) ?_
  intro X hl C E
  have V := hv_V_what hT
  unfold whatS at E
  refine j_callV C rfl (fc_V_V_heldAt V (by decide)) (m_V_heldAt _ hT R x y) rfl rfl R.o (by rw [hT.1]; rfl) (nle rfl) (by decide) (by decide) ?_
  rintro v w' ⟨rfl, o, rfl, ho⟩
  rcases ho with ⟨rfl, h⟩ | ⟨a, r, rfl, h, ha⟩ <;> rw [h] at E
  · refine j_ifnn C rfl (fun _ h => by cases h) (fun _ => ?_)
    refine j_goto C rfl ?_
    exact j_iret C E rfl (Or.inl rfl) (by decide) (by decide) ⟨rfl, rfl⟩
  · refine j_ifnn C rfl (fun _ _ => ?_) (fun h => by cases h)
    refine j_get C rfl (fg_V_R_sort V) ha rfl ?_
    exact j_iret C E rfl (Or.inl rfl) (by decide) (by decide) ⟨rfl, rfl⟩
theorem m_V_which (l : Launch) (hT : TOK T) (R : Rp w c s) (x y : Int32) : Ct l T y_V_which W_V_which rm_V_which [.inr (some (cO c)), .inl x, .inl y] w (fun v w' => w' = w ∧ v = some (.inl (whichS s x y))) := by
  refine ct_V_which rfl (nle rfl) ?_
  intro X hl C E
  have V := hv_V_which hT
  unfold whichS at E
  refine j_callV C rfl (fc_V_V_heldAt V (by decide)) (m_V_heldAt _ hT R x y) rfl rfl R.o (by rw [hT.1]; rfl) (nle rfl) (by decide) (by decide) ?_
  rintro v w' ⟨rfl, o, rfl, ho⟩
  rcases ho with ⟨rfl, h⟩ | ⟨a, r, rfl, h, ha⟩ <;> rw [h] at E
  · refine j_ifnn C rfl (fun _ h => by cases h) (fun _ => ?_)
    refine j_goto C rfl ?_
    exact j_iret C E rfl (Or.inl rfl) (by decide) (by decide) ⟨rfl, rfl⟩
  · refine j_ifnn C rfl (fun _ _ => ?_) (fun h => by cases h)
    refine j_get C rfl (fg_V_R_index V) ha rfl ?_
    exact j_iret C E rfl (Or.inl rfl) (by decide) (by decide) ⟨rfl, rfl⟩
end VIEWS
