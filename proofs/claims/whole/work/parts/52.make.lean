/-! make, and the wrappers. -/
def RM (w w' : fw_W) : Prop := ∀ a r, IsR w a r → IsR w' a r
theorem RM.rf {w : fw_W} : RM w w := fun _ _ h => h
theorem RM.tr {w w' w'' : fw_W} (h : RM w w') (h' : RM w' w'') : RM w w'' := fun a r q => h' a r (h a r q)
abbrev CX (s : St) (c c' : Cfg) : Prop := Cext (sN s) (sK s) c c'
abbrev newT (kd hm : Int32) (ow : Option Nat) : Th := (kd, hm, ow, fun _ => rN, rN, none, 0, 0, 0)
def make (s : St) (kd hm : Int32) (ow : Option Nat) : St × Option Nat := if sN s < 40 then ((sN s + 1, va_up (sT s) (sN s) (newT kd hm ow), s.2.2), some (sN s)) else (s, none)
theorem Rp.setT {w : fw_W} {c : Cfg} {s : St} (R : Rp w c s) {i : Nat} (hi : i < sN s) {t : Th} {sf hd : Nat} (h0 : okT (sN s) t) (h1 : IsR w sf (2, nI i)) (h2 : IsR w hd (tD t)) (h3 : tS t = tS (sT s i)) : Rp (va_up w (cT c i) (some (cellT c i t sf hd))) c (sN s, va_up (sT s) i t, s.2.2) := by
  obtain ⟨bh, lf, R, h⟩ := R
  exact ⟨bh, lf, R.setT hi h0 h1 h2 h3, h⟩
theorem nT_ref {c : Cfg} {i : Nat} {t : Th} {sf hd : Nat} : ∀ l, cellT c i t sf hd ≠ .inr (kR, l) := fun l h => by simp [cellT, kT, kR] at h
theorem nM_ref {c : Cfg} {j : Nat} {m : Ms} {b an : Option Nat} {pr tg ar : Nat} : ∀ l, cellM c j m b pr tg ar an ≠ .inr (kR, l) := fun l h => by simp [cellM, kM, kR] at h
theorem RM.up {w : fw_W} {a : Nat} {e : fw_E} {y : Option fw_E} (ha : w a = some e) (hne : ∀ l, e ≠ .inr (kR, l)) : RM w (va_up w a y) := fun _ _ h => h.up ha hne
theorem RM.new {w : fw_W} {q : Nat} {e : fw_E} (hq : w q = none) : RM w (va_up w q (some e)) := fun _ _ h => h.new hq
section MAKE
variable {T : fw_T} {w : fw_W} {c : Cfg} {s : St}
set_option maxHeartbeats 2000000 in
theorem m_V_make (l : Launch) (hT : TOK T) (R : Rp w c s) (kd hm : Int32) (ow : Option Nat) (how : ∀ i, ow = some i → i < sN s) : Ct l T y_V_make W_V_make rm_V_make [.inr (some (cO c)), .inl kd, .inl hm, .inr (ow.map (cT c))] w (fun v w' => ∃ c', CX s c c' ∧ v = some (.inr ((make s kd hm ow).2.map (cT c'))) ∧ Rp w' c' (make s kd hm ow).1 ∧ RM w w') := by
  refine ct_V_make rfl (nle rfl) ?_
  intro X hl C E
  have V := hv_V_make hT
  have hn := R.n40
  refine j_get C rfl (fg_V_V_thingCount V) R.o rfl ?_
  by_cases h40 : sN s < 40
  · refine j_icmpT C rfl (fw_cb_iff.mpr (show nI (sN s) < nI 40 from nI_lt h40 (by decide))) ?_
    refine j_new C rfl (fn_V_H V) (by decide) (by decide) (fun q hq => ?_)
    refine j_get C rfl (fg_V_V_thingCount V) (up_new R.o hq) rfl ?_
    refine j_get C rfl (fg_V_V_nothing V) (up_new R.o hq) rfl ?_
    refine j_callI C rfl (fc_V_H_init V (by decide)) (m_H_init _ hT (x := nI (sN s)) (kd := kd) (hm := hm) (ow := ow.map (cT c)) (va_up_self _ _ _) (R.nothing.new hq)) rfl rfl (nle rfl) (by decide) (by decide) ?_
    rintro r w1 ⟨rfl, qs, sf, f, hqs, hm1, hb, hs, hf, hsf⟩
    have hmono : ∀ a e, w a = some e → w1 a = some e := fun a e h => hm1 a e (ne_new h hq) (up_new h hq)
    have hqs0 : w qs = none := by
      cases h : w qs with
      | none => rfl
      | some e => rw [up_new h hq] at hqs; cases hqs
    obtain ⟨bh, lf, R, hL, hW⟩ := R
    have hN := R.2.1
    have RK := R.mono hmono
    refine j_get C rfl (fg_V_V_things V) RK.1 rfl ?_
    refine j_get C rfl (fg_V_V_thingCount V) RK.1 rfl ?_
    refine j_aastI C rfl RK.2.2.2.1 hT.2.2.1 (sN s) rfl h40 (by decide) (put_obj hT hb rfl) ?_
    have hcTA : (Sum.inl (aT, 40, Sum.inr (va_up (fun i => if i < sN s then some (cT c i) else none) (sN s) (some q))) : fw_E) = cellTA (cAddT c (sN s) q qs) (sN s + 1) := by
      unfold cellTA
      congr 4
      funext i
      by_cases h1 : i = sN s
      · subst h1
        rw [va_up_self, if_pos (by omega)]
        exact congrArg some (va_up_self _ _ _).symm
      · rw [va_up_ne _ _ h1]
        by_cases h2 : i < sN s
        · rw [if_pos h2, if_pos (by omega)]
          exact congrArg some (va_up_ne _ _ h1).symm
        · rw [if_neg h2, if_neg (by omega)]
    rw [hcTA]
    have o2 : va_up w1 (cTA c) (some (cellTA (cAddT c (sN s) q qs) (sN s + 1))) (cO c) = some (cellO c (sN s) (sK s)) := up_ne RK.2.2.2.1 RK.1 (by simp [cellTA, cellO])
    refine j_get C rfl (fg_V_V_thingCount V) o2 rfl ?_
    refine j_putE C rfl (fp_V_V_thingCount V) o2 (nlt rfl) (fit_i _) (cellO (cAddT c (sN s) q qs) (sN s + 1) (sK s)) (by unfold cellO; rw [← nI_1]; rfl) ?_
    have hct : cellT (cAddT c (sN s) q qs) (sN s) (newT kd hm ow) sf (cN c) = .inr (kT, [.inl (nI (sN s)), .inl kd, .inl hm, .inr (ow.map (cT c)), .inr (some sf), .inr (some qs), .inr (some (cN c)), .inr none, .inl 0, .inl 0, .inl 0]) := by
      have e1 : ow.map (cT (cAddT c (sN s) q qs)) = ow.map (cT c) := map_ext (fun x hx => va_up_ne _ _ (by have := how x hx; omega))
      have e2 : cS (cAddT c (sN s) q qs) (sN s) = qs := va_up_self _ _ _
      unfold cellT
      rw [e2, show tO (newT kd hm ow) = ow from rfl, e1]
      rfl
    have RP := RK.pushT h40 (t := newT kd hm ow) (q := q) (qs := qs) (sf := sf) (hd := cN c) (f := f) (by rw [hct]; exact hb) ⟨how, fun o h => by cases h⟩ hsf (hmono _ _ hN) hs (fun p hp => ⟨cN c, hf p hp, hmono _ _ hN⟩) (fun i hi e => by
      obtain ⟨_, _, _, _, _, _, _, g3, _⟩ := R.aT hi
      rw [e, hqs0] at g3
      cases g3)
    refine j_aret C E rfl rfl (by decide) (by decide) ⟨cAddT c (sN s) q qs, cAddT_ext q qs, ?_, ?_, ?_⟩
    · unfold make; rw [if_pos h40]; exact congrArg (fun z => some (Sum.inr (some z))) (va_up_self _ _ _).symm
    · unfold make; rw [if_pos h40]; exact ⟨bh, lf, RP, hL, hW⟩
    · exact fun a r h => ((show IsR w1 a r from hmono _ _ h).up RK.2.2.2.1 (fun l h => by simp [cellTA] at h)).up o2 (fun l h => by simp [cellO, kV, kR] at h)
  · refine j_icmp C rfl (fun h => absurd h (nI_nlt (show 40 ≤ sN s by omega) (by omega))) (fun _ => ?_)
    exact j_aret C E rfl rfl (by decide) (by decide) ⟨c, Cext.rf, by unfold make; rw [if_neg h40]; rfl, by unfold make; rw [if_neg h40]; exact R, RM.rf⟩
abbrev wrT (hm : Int32) (mb : Nat) (m : Rf) (inw : Int32) : Th := (10, hm, some mb, fun _ => rN, m, none, 0, inw, 0)
def mkW (s : St) (m : Rf) (mb : Nat) (inw : Int32) : St × Option Nat := if sN s < 40 then ((sN s + 1, va_up (sT s) (sN s) (wrT (tH (sT s mb)) mb m inw), s.2.2), some (sN s)) else (s, none)
theorem fit_z {x : Int32} (h : x = 0 ∨ x = 1) : fw_fit .boolean (.inl x) := by
  rcases h with rfl | rfl
  · exact fit_z0
  · exact fit_z1
set_option maxHeartbeats 2000000 in
theorem m_V_makeWrapper (l : Launch) (hT : TOK T) (R : Rp w c s) {a mb : Nat} {m : Rf} {inw : Int32} (ha : IsR w a m) (hmb : mb < sN s) (hz : inw = 0 ∨ inw = 1) : Ct l T y_V_makeWrapper W_V_makeWrapper rm_V_makeWrapper [.inr (some (cO c)), .inr (some a), .inr (some (cT c mb)), .inl inw] w (fun v w' => ∃ c', CX s c c' ∧ v = some (.inr ((mkW s m mb inw).2.map (cT c'))) ∧ Rp w' c' (mkW s m mb inw).1 ∧ RM w w') := by
  refine ct_V_makeWrapper rfl (nle rfl) ?_
  intro X hl C E
  have V := hv_V_makeWrapper hT
  obtain ⟨ek, sf, hd, f, e0, -⟩ := R.aT hmb
  refine j_get C rfl (fg_V_H_home V) e0 rfl ?_
  refine j_callV C rfl (fc_V_V_make V (by decide)) (m_V_make _ hT R 10 (tH (sT s mb)) (some mb) (fun i h => by cases h; exact hmb)) rfl rfl R.o (by rw [hT.1]; rfl) (nle rfl) (by decide) (by decide) ?_
  rintro v w1 ⟨c', hc, rfl, R1, hrm⟩
  unfold make at R1 ⊢
  by_cases h40 : sN s < 40
  · rw [if_pos h40] at R1 ⊢
    refine j_ifnull C rfl (fun h => by cases h) (fun _ _ => ?_)
    obtain ⟨fk, sf', hd', f', g0, g1, g2, g3, g4⟩ := R1.aT (i := sN s) (Nat.lt_succ_self _)
    have hs : sT (sN s + 1, va_up (sT s) (sN s) (newT 10 (tH (sT s mb)) (some mb)), s.2.2) (sN s) = newT 10 (tH (sT s mb)) (some mb) := va_up_self _ _ _
    rw [hs] at g0
    refine j_putE C rfl (fp_V_H_held V) g0 (nlt rfl) (fit_o _ _) (cellT c' (sN s) (10, tH (sT s mb), some mb, fun _ => rN, m, none, 0, 0, 0) sf' a) rfl ?_
    refine j_putE C rfl (fp_V_H_inward V) (va_up_self _ _ _) (nlt rfl) (fit_z hz) (cellT c' (sN s) (wrT (tH (sT s mb)) mb m inw) sf' a) rfl ?_
    rw [bx_uu]
    have R2 := R1.setT (i := sN s) (Nat.lt_succ_self _) (t := wrT (tH (sT s mb)) mb m inw) (sf := sf') (hd := a) ⟨fun o h => by cases h; exact Nat.lt_succ_of_lt hmb, fun o h => by cases h⟩ g1 (hrm a m ha) (by rw [hs])
    refine j_aret C E rfl rfl (by decide) (by decide) ⟨c', hc, ?_, ?_, hrm.tr (RM.up g0 nT_ref)⟩
    · unfold mkW; rw [if_pos h40]
    · unfold mkW; rw [if_pos h40]
      have e : va_up (sT (sN s + 1, va_up (sT s) (sN s) (newT 10 (tH (sT s mb)) (some mb)), s.2.2)) (sN s) (wrT (tH (sT s mb)) mb m inw) = va_up (sT s) (sN s) (wrT (tH (sT s mb)) mb m inw) := bx_uu _ _ _ _
      rw [e] at R2
      exact R2
  · rw [if_neg h40] at R1 ⊢
    refine j_ifnull C rfl (fun _ => ?_) (fun a ha => by cases ha)
    exact j_aret C E rfl rfl (by decide) (by decide) ⟨c', hc, by unfold mkW; rw [if_neg h40], by unfold mkW; rw [if_neg h40]; exact R1, hrm⟩
end MAKE
