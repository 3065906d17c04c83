/-! findWrapper, wrap. -/
def isW (s : St) (m : Rf) (mb : Nat) (inw : Int32) (i : Nat) : Bool := decide (tK (sT s i) = 10 ∧ tO (sT s i) = some mb ∧ tI (sT s i) = inw ∧ cnt s (tD (sT s i)) = m)
/-- the first of n - d, .., n - 1 with P -/
def fFrom (P : Nat → Bool) (n : Nat) : Nat → Option Nat
  | 0 => none
  | d + 1 => if P (n - (d + 1)) = true then some (n - (d + 1)) else fFrom P n d
def findW (s : St) (m : Rf) (mb : Nat) (inw : Int32) : Option Nat := fFrom (isW s m mb inw) (sN s) (sN s)
theorem fFrom_lt {P : Nat → Bool} {n : Nat} : ∀ {d i : Nat}, d ≤ n → fFrom P n d = some i → i < n ∧ P i = true
  | 0, _, _, h => by cases h
  | d + 1, i, hd, h => by
    unfold fFrom at h
    by_cases hp : P (n - (d + 1)) = true
    · rw [if_pos hp] at h; cases h; exact ⟨by omega, hp⟩
    · rw [if_neg hp] at h; exact fFrom_lt (by omega) h
/-- wrapping -/
def wrapS (s : St) (r : Rf) (mb : Nat) (inw : Int32) : St × Rf :=
  if (cnt s r).1 = 2 ∨ (cnt s r).1 = 3 then
    match (match kOf s 10 (cnt s r) with | some i => if tO (sT s i) = some mb then some i else none | none => none) with
    | some i => (s, if tI (sT s i) = inw then cnt s r else tD (sT s i))
    | none => match findW s (cnt s r) mb inw with
      | some i => (s, (2, nI i))
      | none => ((mkW s (cnt s r) mb inw).1, rTo (mkW s (cnt s r) mb inw).2)
  else (s, cnt s r)
section WRAP
variable {T : fw_T} {w : fw_W} {c : Cfg} {s : St}
theorem ow_iff (R : Rp w c s) {i mb : Nat} (hi : i < sN s) (hmb : mb < sN s) : (tO (sT s i)).map (cT c) = some (cT c mb) ↔ tO (sT s i) = some mb := by
  obtain ⟨ek, -⟩ := R.aT hi
  constructor
  · intro h
    cases ho : tO (sT s i) with
    | none => rw [ho] at h; cases h
    | some o =>
      rw [ho] at h
      have h1 : cT c o = cT c mb := Option.some.inj h
      obtain ⟨bh, lf, R, -⟩ := R
      rw [R.tinj (ek.1 o ho) hmb h1]
  · intro h; rw [h]; rfl
set_option maxHeartbeats 2000000 in
theorem m_V_findWrapper (l : Launch) (hT : TOK T) (R : Rp w c s) {a mb : Nat} {m : Rf} {inw : Int32} (ha : IsR w a m) (hmb : mb < sN s) : Ct l T y_V_findWrapper W_V_findWrapper rm_V_findWrapper [.inr (some (cO c)), .inr (some a), .inr (some (cT c mb)), .inl inw] w (fun v w' => w' = w ∧ v = some (.inr ((findW s m mb inw).map (cT c)))) := by
  refine ct_V_findWrapper rfl (nle rfl) ?_
  intro X hl C E
  have V := hv_V_findWrapper hT
  have hn := R.n40
  have loop : ∀ (d p : Nat) (z5 z6 : Option fw_V), p + d = sN s → fFrom (isW s m mb inw) (sN s) d = findW s m mb inw → J T G_V_findWrapper X 3 [some (.inr (some (cO c))), some (.inr (some a)), some (.inr (some (cT c mb))), some (.inl inw), some (.inl (nI p)), z5, z6] [] w 0 0 := by
    intro d
    induction d with
    | zero =>
      intro p z5 z6 hp hq
      have hp : p = sN s := by omega
      subst hp
      refine j_get C rfl (fg_V_V_thingCount V) R.o rfl ?_
      refine j_icmpT C rfl (fw_cb_iff.mpr (nI_le (Nat.le_refl _) (by omega))) ?_
      exact j_aret C E rfl rfl (by decide) (by decide) ⟨rfl, by rw [← hq]; rfl⟩
    | succ d ih =>
      intro p z5 z6 hp hq
      have hpn : p < sN s := by omega
      have hpd : sN s - (d + 1) = p := by omega
      unfold fFrom at hq
      rw [hpd] at hq
      refine j_get C rfl (fg_V_V_thingCount V) R.o rfl ?_
      refine j_icmp C rfl (fun h => absurd h (nI_ge hpn (by omega))) (fun _ => ?_)
      refine j_callV C rfl (fc_V_V_thingAt V (by decide)) (m_V_thingAt _ hT R (nI p)) rfl rfl R.o (by rw [hT.1]; rfl) (nle rfl) (by decide) (by decide) ?_
      rintro v w' ⟨rfl, rfl⟩
      rw [ixO_some (by omega) hpn]
      obtain ⟨ek, sf, hd, f, e0, e1, e2, -⟩ := R.aT hpn
      have next : isW s m mb inw p = false → ∀ z6, J T G_V_findWrapper X 84 [some (.inr (some (cO c))), some (.inr (some a)), some (.inr (some (cT c mb))), some (.inl inw), some (.inl (nI p)), some (.inr (some (cT c p))), z6] [] w' 0 0 := fun hf z6 => by
        rw [hf, if_neg (by decide)] at hq
        refine j_goto C rfl ?_
        have := ih (p + 1) (some (.inr (some (cT c p)))) z6 (by omega) hq
        rw [nI_succ] at this
        exact this
      refine j_ifnull C rfl (fun h => by cases h) (fun _ _ => ?_)
      refine j_get C rfl (fg_V_H_kind V) e0 rfl ?_
      refine j_icmp C rfl (fun h => ?_) (fun h => ?_)
      · refine j_to C 51 rfl ?_
        refine j_ifT C rfl (by decide) ?_
        exact next (decide_eq_false (fun q => h q.1)) _
      have hk : tK (sT s p) = 10 := Classical.not_not.mp h
      refine j_get C rfl (fg_V_H_owner V) e0 rfl ?_
      refine j_acmp C rfl (fun h => ?_) (fun h => ?_)
      · refine j_to C 51 rfl ?_
        refine j_ifT C rfl (by decide) ?_
        exact next (decide_eq_false (fun q => h ((ow_iff R hpn hmb).mpr q.2.1))) _
      have ho : tO (sT s p) = some mb := (ow_iff R hpn hmb).mp (Classical.not_not.mp h)
      refine j_goto C rfl ?_
      refine j_ifF C rfl (by decide) ?_
      refine j_get C rfl (fg_V_H_inward V) e0 rfl ?_
      refine j_icmp C rfl (fun h => ?_) (fun h => ?_)
      · exact next (decide_eq_false (fun q => h q.2.2.1)) _
      have hin : tI (sT s p) = inw := Classical.not_not.mp h
      refine j_get C rfl (fg_V_H_held V) e0 rfl ?_
      refine j_callV C rfl (fc_V_V_countsAs V (by decide)) (m_V_countsAs _ hT R e2) rfl rfl R.o (by rw [hT.1]; rfl) (nle rfl) (by decide) (by decide) ?_
      rintro v w' ⟨rfl, b, rfl, hb⟩
      refine j_callV C rfl (fc_V_R_isSame V (by decide)) (m_R_isSame _ hT hb ha) rfl rfl hb (by rw [hT.1]; rfl) (nle rfl) (by decide) (by decide) ?_
      rintro v w' ⟨rfl, rfl⟩
      by_cases hs : cnt s (tD (sT s p)) = m
      · rw [if_pos hs]
        refine j_ifF C rfl (by decide) ?_
        have hW : isW s m mb inw p = true := decide_eq_true ⟨hk, ho, hin, hs⟩
        rw [if_pos hW] at hq
        exact j_aret C E rfl rfl (by decide) (by decide) ⟨rfl, by rw [← hq]⟩
      · rw [if_neg hs]
        refine j_ifT C rfl (by decide) ?_
        exact next (decide_eq_false (fun q => hs q.2.2.2)) _
  refine j_to C 3 rfl ?_
  exact loop (sN s) 0 none none (by omega) rfl
set_option maxHeartbeats 2000000 in
theorem m_V_wrap (l : Launch) (hT : TOK T) (R : Rp w c s) {a mb : Nat} {r : Rf} {inw : Int32} (ha : IsR w a r) (hmb : mb < sN s) (hz : inw = 0 ∨ inw = 1) : Ct l T y_V_wrap W_V_wrap rm_V_wrap [.inr (some (cO c)), .inr (some a), .inr (some (cT c mb)), .inl inw] w (fun v w' => ∃ c' b, CX s c c' ∧ v = some (.inr (some b)) ∧ IsR w' b (wrapS s r mb inw).2 ∧ Rp w' c' (wrapS s r mb inw).1 ∧ RM w w') := by
  refine ct_V_wrap rfl (nle rfl) ?_
  intro X hl C E
  have V := hv_V_wrap hT
  have hn := R.n40
  refine j_callV C rfl (fc_V_V_countsAs V (by decide)) (m_V_countsAs _ hT R ha) rfl rfl R.o (by rw [hT.1]; rfl) (nle rfl) (by decide) (by decide) ?_
  rintro v w' ⟨rfl, b, rfl, hb⟩
  have rest : ((cnt s r).1 = 2 ∨ (cnt s r).1 = 3) → J T G_V_wrap X 28 [some (.inr (some (cO c))), some (.inr (some a)), some (.inr (some (cT c mb))), some (.inl inw), some (.inr (some b)), none, none] [] w' 0 0 := by
    intro h23
    refine j_callV C rfl (fc_V_V_thingOfKind V (by decide)) (m_V_thingOfKind _ hT R 10 hb) rfl rfl R.o (by rw [hT.1]; rfl) (nle rfl) (by decide) (by decide) ?_
    rintro v w' ⟨rfl, rfl⟩
    have find : ∀ (z : Option Nat), (match kOf s 10 (cnt s r) with | some i => if tO (sT s i) = some mb then some i else none | none => none) = none → J T G_V_wrap X 72 [some (.inr (some (cO c))), some (.inr (some a)), some (.inr (some (cT c mb))), some (.inl inw), some (.inr (some b)), some (.inr z), none] [] w' 0 0 := by
      intro z hnone
      refine j_callV C rfl (fc_V_V_findWrapper V (by decide)) (m_V_findWrapper _ hT R (inw := inw) hb hmb) rfl rfl R.o (by rw [hT.1]; rfl) (nle rfl) (by decide) (by decide) ?_
      rintro v w' ⟨rfl, rfl⟩
      cases hf : findW s (cnt s r) mb inw with
      | some i =>
        have hi : i < sN s := (fFrom_lt (Nat.le_refl _) hf).1
        refine j_ifnn C rfl (fun _ _ => ?_) (fun h => by cases h)
        refine j_callV C rfl (fc_V_V_referenceTo V (by decide)) (m_V_referenceTo _ hT R (o := some i) (fun x h => by cases h; exact hi)) rfl rfl R.o (by rw [hT.1]; rfl) (nle rfl) (by decide) (by decide) ?_
        rintro v w' ⟨rfl, b', rfl, hb'⟩
        have e : wrapS s r mb inw = (s, (2, nI i)) := by unfold wrapS; rw [if_pos h23, hnone, hf]
        rw [e] at E
        exact j_aret C E rfl rfl (by decide) (by decide) ⟨c, b', Cext.rf, rfl, hb', R, RM.rf⟩
      | none =>
        refine j_ifnn C rfl (fun _ h => by cases h) (fun _ => ?_)
        refine j_callV C rfl (fc_V_V_makeWrapper V (by decide)) (m_V_makeWrapper _ hT R hb hmb hz) rfl rfl R.o (by rw [hT.1]; rfl) (nle rfl) (by decide) (by decide) ?_
        rintro v w1 ⟨c', hc, rfl, R1, hrm⟩
        refine j_goto C rfl ?_
        have ho : cO c = cO c' := congrArg (fun z => z.1) hc.1.symm
        have e : wrapS s r mb inw = ((mkW s (cnt s r) mb inw).1, rTo (mkW s (cnt s r) mb inw).2) := by unfold wrapS; rw [if_pos h23, hnone, hf]
        rw [e] at E
        have hlt : ∀ x, (mkW s (cnt s r) mb inw).2 = some x → x < sN (mkW s (cnt s r) mb inw).1 := by
          intro x hx
          unfold mkW at hx ⊢
          by_cases h40 : sN s < 40
          · rw [if_pos h40] at hx ⊢; cases hx; exact Nat.lt_succ_self _
          · rw [if_neg h40] at hx; cases hx
        rw [ho]
        refine j_callV C rfl (fc_V_V_referenceTo V (by decide)) (m_V_referenceTo _ hT R1 hlt) rfl rfl R1.o (by rw [hT.1]; rfl) (nle rfl) (by decide) (by decide) ?_
        rintro v w' ⟨rfl, b', rfl, hb'⟩
        exact j_aret C E rfl rfl (by decide) (by decide) ⟨c', b', hc, rfl, hb', R1, hrm⟩
    cases hk : kOf s 10 (cnt s r) with
    | none =>
      refine j_ifnull C rfl (fun _ => ?_) (fun _ h => by cases h)
      exact find none (by rw [hk])
    | some i =>
      have hi : i < sN s := (kOf_lt hn hk).1
      obtain ⟨ek, sf, hd, f, e0, e1, e2, -⟩ := R.aT hi
      refine j_ifnull C rfl (fun h => by cases h) (fun _ _ => ?_)
      refine j_get C rfl (fg_V_H_owner V) e0 rfl ?_
      refine j_acmp C rfl (fun h => ?_) (fun h => ?_)
      · exact find _ (by rw [hk]; exact if_neg (fun q => h ((ow_iff R hi hmb).mpr q)))
      have ho : tO (sT s i) = some mb := (ow_iff R hi hmb).mp (Classical.not_not.mp h)
      have e : wrapS s r mb inw = (s, if tI (sT s i) = inw then cnt s r else tD (sT s i)) := by unfold wrapS; rw [if_pos h23, hk]; dsimp only; rw [if_pos ho]
      rw [e] at E
      refine j_get C rfl (fg_V_H_inward V) e0 rfl ?_
      refine j_icmp C rfl (fun h => ?_) (fun h => ?_)
      · refine j_get C rfl (fg_V_H_held V) e0 rfl ?_
        exact j_aret C E rfl rfl (by decide) (by decide) ⟨c, hd, Cext.rf, rfl, by dsimp only; rw [if_neg (show ¬ tI (sT s i) = inw from h)]; exact e2, R, RM.rf⟩
      · refine j_goto C rfl ?_
        exact j_aret C E rfl rfl (by decide) (by decide) ⟨c, b, Cext.rf, rfl, by dsimp only; rw [if_pos (Classical.not_not.mp (show ¬ ¬ tI (sT s i) = inw from h))]; exact hb, R, RM.rf⟩
  refine j_get C rfl (fg_V_R_sort V) hb rfl ?_
  refine j_icmp C rfl (fun h => rest (Or.inl h)) (fun h => ?_)
  refine j_get C rfl (fg_V_R_sort V) hb rfl ?_
  refine j_icmp C rfl (fun h => rest (Or.inr h)) (fun h' => ?_)
  have e : wrapS s r mb inw = (s, cnt s r) := by unfold wrapS; rw [if_neg (fun q => q.elim h h')]
  rw [e] at E
  exact j_aret C E rfl rfl (by decide) (by decide) ⟨c, b, Cext.rf, rfl, hb, R, RM.rf⟩
end WRAP
