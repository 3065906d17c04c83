/-! detail, next; cell, number, introduce. -/
section HOST
variable {T : fw_T} {w : fw_W} {c : Cfg} {s : St}
theorem m_V_firstDetail (l : Launch) (hT : TOK T) (R : Rp w c s) (hV : rvOK s) {i : Nat} (hi : i < sN s) : Ct l T y_V_firstDetail W_V_firstDetail rm_V_firstDetail [.inr (some (cT c i))] w (fun v w' => w' = w ∧ v = some (.inl (d1S s i))) := by
  refine ct_V_firstDetail rfl (nle rfl) ?_
  intro X hl C E
  have V := hv_V_firstDetail hT
  obtain ⟨ek, sf, hd, f, e0, -⟩ := R.aT hi
  unfold d1S at E
  refine j_get C rfl (fg_V_H_kind V) e0 rfl ?_
  generalize hk : tK (sT s i) = κ at E
  have rev : (κ = 1 ∨ κ = 9) → J T G_V_firstDetail X 40 [some (.inr (some (cT c i)))] [] w 0 0 := fun h => by
    rw [if_pos h] at E
    refine j_get C rfl (fg_V_H_revoked V) e0 rfl ?_
    rcases (hV i hi).1 with q | q <;> rw [q] at E ⊢
    · refine j_ifT C rfl (by decide) ?_
      exact j_iret C E rfl (Or.inl rfl) (by decide) (by decide) ⟨rfl, rfl⟩
    · refine j_ifF C rfl (by decide) ?_
      refine j_goto C rfl ?_
      exact j_iret C E rfl (Or.inl rfl) (by decide) (by decide) ⟨rfl, rfl⟩
  by_cases h1 : κ = 1
  · subst h1
    refine j_lsw (tgt := 40) (o := 36) C rfl (by decide) (by decide) (by decide) ?_
    exact rev (Or.inl rfl)
  by_cases h8 : κ = 8
  · subst h8
    rw [if_neg (by decide), if_pos rfl] at E
    refine j_lsw (tgt := 53) (o := 49) C rfl (by decide) (by decide) (by decide) ?_
    refine j_get C rfl (fg_V_H_balance V) e0 rfl ?_
    exact j_iret C E rfl (Or.inl rfl) (by decide) (by decide) ⟨rfl, rfl⟩
  by_cases h9 : κ = 9
  · subst h9
    refine j_lsw (tgt := 40) (o := 36) C rfl (by decide) (by decide) (by decide) ?_
    exact rev (Or.inr rfl)
  · rw [if_neg (fun q => q.elim h1 h9), if_neg h8] at E
    refine j_lsw (tgt := 58) (o := 54) C rfl (by decide) (by show Op.lookupswitch.offset [(1, 36), (8, 49), (9, 36)] 54 κ.toInt = 54; rw [lv_osw h1 (by decide), lv_osw h8 (by decide), lv_osw h9 (by decide)]; rfl) (by decide) ?_
    refine j_get C rfl (fg_V_H_owner V) e0 rfl ?_
    cases hto : tO (sT s i) with
    | none =>
      rw [hto] at E
      refine j_ifnn C rfl (fun _ h => by cases h) (fun _ => ?_)
      refine j_goto C rfl ?_
      exact j_iret C E rfl (Or.inl rfl) (by decide) (by decide) ⟨rfl, rfl⟩
    | some o =>
      rw [hto] at E
      refine j_ifnn C rfl (fun _ _ => ?_) (fun h => by cases h)
      unfold cellT at e0
      rw [hto] at e0
      refine j_get C rfl (fg_V_H_owner V) e0 rfl ?_
      obtain ⟨ek', sf', hd', f', g0, -⟩ := R.aT (ek.1 o hto)
      refine j_get C rfl (fg_V_H_number V) g0 rfl ?_
      exact j_iret C E rfl (Or.inl rfl) (by decide) (by decide) ⟨rfl, rfl⟩
theorem m_V_secondDetail (l : Launch) (hT : TOK T) (R : Rp w c s) (hV : rvOK s) {i : Nat} (hi : i < sN s) : Ct l T y_V_secondDetail W_V_secondDetail rm_V_secondDetail [.inr (some (cT c i))] w (fun v w' => w' = w ∧ v = some (.inl (d2S s i))) := by
  refine ct_V_secondDetail rfl (nle rfl) ?_
  intro X hl C E
  have V := hv_V_secondDetail hT
  obtain ⟨ek, sf, hd, f, e0, -⟩ := R.aT hi
  unfold d2S at E
  refine j_get C rfl (fg_V_H_kind V) e0 rfl ?_
  generalize hk : tK (sT s i) = κ at E
  by_cases h1 : κ = 1
  · subst h1
    rw [if_pos rfl] at E
    refine j_lsw (tgt := 40) (o := 36) C rfl (by decide) (by decide) (by decide) ?_
    refine j_get C rfl (fg_V_H_facet V) e0 rfl ?_
    cases hto : tF (sT s i) with
    | none =>
      rw [hto] at E
      refine j_ifnn C rfl (fun _ h => by cases h) (fun _ => ?_)
      refine j_goto C rfl ?_
      exact j_iret C E rfl (Or.inl rfl) (by decide) (by decide) ⟨rfl, rfl⟩
    | some o =>
      rw [hto] at E
      refine j_ifnn C rfl (fun _ _ => ?_) (fun h => by cases h)
      unfold cellT at e0
      rw [hto] at e0
      refine j_get C rfl (fg_V_H_facet V) e0 rfl ?_
      obtain ⟨ek', sf', hd', f', g0, -⟩ := R.aT (ek.2 o hto)
      refine j_get C rfl (fg_V_H_number V) g0 rfl ?_
      exact j_iret C E rfl (Or.inl rfl) (by decide) (by decide) ⟨rfl, rfl⟩
  by_cases h8 : κ = 8
  · subst h8
    rw [if_neg (by decide), if_pos rfl] at E
    refine j_lsw (tgt := 59) (o := 55) C rfl (by decide) (by decide) (by decide) ?_
    refine j_get C rfl (fg_V_H_owner V) e0 rfl ?_
    cases hto : tO (sT s i) with
    | none =>
      rw [hto] at E
      refine j_ifnn C rfl (fun _ h => by cases h) (fun _ => ?_)
      refine j_goto C rfl ?_
      exact j_iret C E rfl (Or.inl rfl) (by decide) (by decide) ⟨rfl, rfl⟩
    | some o =>
      rw [hto] at E
      refine j_ifnn C rfl (fun _ _ => ?_) (fun h => by cases h)
      unfold cellT at e0
      rw [hto] at e0
      refine j_get C rfl (fg_V_H_owner V) e0 rfl ?_
      obtain ⟨ek', sf', hd', f', g0, -⟩ := R.aT (ek.1 o hto)
      refine j_get C rfl (fg_V_H_number V) g0 rfl ?_
      exact j_iret C E rfl (Or.inl rfl) (by decide) (by decide) ⟨rfl, rfl⟩
  by_cases h10 : κ = 10
  · subst h10
    rw [if_neg (by decide), if_neg (by decide), if_pos rfl] at E
    refine j_lsw (tgt := 78) (o := 74) C rfl (by decide) (by decide) (by decide) ?_
    refine j_get C rfl (fg_V_H_inward V) e0 rfl ?_
    rcases (hV i hi).2 with q | q <;> rw [q] at E ⊢
    · refine j_ifT C rfl (by decide) ?_
      exact j_iret C E rfl (Or.inl rfl) (by decide) (by decide) ⟨rfl, rfl⟩
    · refine j_ifF C rfl (by decide) ?_
      refine j_goto C rfl ?_
      exact j_iret C E rfl (Or.inl rfl) (by decide) (by decide) ⟨rfl, rfl⟩
  · rw [if_neg h1, if_neg h8, if_neg h10] at E
    refine j_lsw (tgt := 91) (o := 87) C rfl (by decide) (by show Op.lookupswitch.offset [(1, 36), (8, 55), (10, 74)] 87 κ.toInt = 87; rw [lv_osw h1 (by decide), lv_osw h8 (by decide), lv_osw h10 (by decide)]; rfl) (by decide) ?_
    exact j_iret C E rfl (Or.inl rfl) (by decide) (by decide) ⟨rfl, rfl⟩
theorem nI_inj {a b : Nat} (ha : a < 2 ^ 31) (hb : b < 2 ^ 31) (h : nI a = nI b) : a = b := (nI_eq ha hb).mp h
theorem m_V_detail (l : Launch) (hT : TOK T) (R : Rp w c s) (hV : rvOK s) (x y : Int32) : Ct l T y_V_detail W_V_detail rm_V_detail [.inr (some (cO c)), .inl x, .inl y] w (fun v w' => w' = w ∧ v = some (.inl (detailS s x y))) := by
  refine ct_V_detail rfl (nle rfl) ?_
  intro X hl C E
  have V := hv_V_detail hT
  have hn := R.n40
  unfold detailS at E
  refine j_callV C rfl (fc_V_V_thingAt V (by decide)) (m_V_thingAt _ hT R x) rfl rfl R.o (by rw [hT.1]; rfl) (nle rfl) (by decide) (by decide) ?_
  rintro v w' ⟨rfl, rfl⟩
  cases hx : ixO (sN s) x with
  | none =>
    rw [hx] at E
    refine j_ifnull C rfl (fun _ => ?_) (fun _ h => by cases h)
    exact j_iret C E rfl (Or.inl rfl) (by decide) (by decide) ⟨rfl, rfl⟩
  | some i =>
    rw [hx] at E
    have hi := (ixO_lt (by omega) hx).1
    refine j_ifnull C rfl (fun h => by cases h) (fun _ _ => ?_)
    rcases ixO_cases 2 (by decide) y with ⟨h, e⟩ | ⟨h0, h, e⟩ | ⟨p, hp, rfl, h0, h, e⟩ <;> rw [e] at E
    · refine j_ifT C rfl (fw_cb_iff.mpr h) ?_
      exact j_iret C E rfl (Or.inl rfl) (by decide) (by decide) ⟨rfl, rfl⟩
    · refine j_if C rfl (fun q => absurd q h0) (fun _ => ?_)
      refine j_icmp C rfl (fun q => ?_) (fun _ => ?_)
      · exfalso
        have q : y ≤ 1 := q
        rw [Int32.le_iff_toInt_le] at q h
        have : (nI 2).toInt = 2 := by decide
        have : (1 : Int32).toInt = 1 := by decide
        omega
      · exact j_iret C E rfl (Or.inl rfl) (by decide) (by decide) ⟨rfl, rfl⟩
    · refine j_if C rfl (fun q => absurd q h0) (fun _ => ?_)
      refine j_icmpT C rfl (fw_cb_iff.mpr (show nI p ≤ nI 1 from nI_le (by omega) (by decide))) ?_
      by_cases hp0 : p = 0
      · subst hp0
        dsimp only at E
        rw [if_pos rfl] at E
        refine j_ifF C rfl (by decide) ?_
        refine j_callS C rfl (fc_V_V_firstDetail V (by decide)) (m_V_firstDetail _ hT R hV hi) rfl rfl (nle rfl) (by decide) (by decide) ?_
        rintro v w' ⟨rfl, rfl⟩
        refine j_goto C rfl ?_
        exact j_iret C E rfl (Or.inl rfl) (by decide) (by decide) ⟨rfl, rfl⟩
      · dsimp only at E
        rw [if_neg hp0] at E
        refine j_if C rfl (fun _ => ?_) (fun q => absurd (nI_inj (a := p) (b := 0) (by omega) (by decide) (Classical.not_not.mp q)) hp0)
        refine j_callS C rfl (fc_V_V_secondDetail V (by decide)) (m_V_secondDetail _ hT R hV hi) rfl rfl (nle rfl) (by decide) (by decide) ?_
        rintro v w' ⟨rfl, rfl⟩
        exact j_iret C E rfl (Or.inl rfl) (by decide) (by decide) ⟨rfl, rfl⟩
theorem Rp.LW (R : Rp w c s) : LnW (sK s) (sL s) := by
  obtain ⟨bh, lf, R, hL, hW⟩ := R
  exact hW
theorem Rp.len (R : Rp w c s) (i : Nat) : (sL s i).length ≤ 200 := Nat.le_trans (ln_len (R.LW.1 i) (R.LW.2.1 i)) R.k200
set_option maxHeartbeats 1000000 in
theorem m_L_withBefore (l : Launch) (hT : TOK T) (R : Rp w c s) {i : Nat} (hi : i < 4 + sK s) (x : Int32) : Ct l T y_L_withBefore W_L_withBefore rm_L_withBefore [.inr (some (cL c i)), .inl x] w (fun v w' => w' = w ∧ v = some (.inr ((match ixO (sL s i).length x with | none => none | some p => (sL s i)[p]?).map (cM c)))) := by
  refine ct_L_withBefore rfl (nle rfl) ?_
  intro X hl C E
  have V := hv_L_withBefore hT
  have hlen := R.len i
  have hline := R.line hi
  rcases ixO_cases (sL s i).length (by omega) x with ⟨h, e⟩ | ⟨h0, h, e⟩ | ⟨p, hp, rfl, h0, h, e⟩ <;> rw [e] at E
  · refine j_ifT C rfl (fw_cb_iff.mpr h) ?_
    exact j_aret C E rfl rfl (by decide) (by decide) ⟨rfl, rfl⟩
  · refine j_if C rfl (fun q => absurd q h0) (fun _ => ?_)
    refine j_get C rfl (fg_L_L_length V) hline rfl ?_
    refine j_icmp C rfl (fun q => ?_) (fun _ => ?_)
    · exfalso
      have q : x < nI (sL s i).length := q
      rw [Int32.lt_iff_toInt_lt] at q
      rw [Int32.le_iff_toInt_le] at h
      omega
    · exact j_aret C E rfl rfl (by decide) (by decide) ⟨rfl, rfl⟩
  · refine j_if C rfl (fun q => absurd q h0) (fun _ => ?_)
    refine j_get C rfl (fg_L_L_length V) hline rfl ?_
    refine j_icmpT C rfl (fw_cb_iff.mpr (nI_lt hp (by omega))) ?_
    refine j_get C rfl (fg_L_L_first V) hline rfl ?_
    have loop : ∀ (d q : Nat), q + d = p → J T G_L_withBefore X 21 [some (.inr (some (cL c i))), some (.inl (nI p)), some (.inr (((sL s i)[q]?).map (cM c))), some (.inl (nI q))] [] w 0 0 := by
      intro d
      induction d with
      | zero =>
        intro q hq
        have hq : q = p := by omega
        subst hq
        refine j_icmpT C rfl (fw_cb_iff.mpr (nI_le (Nat.le_refl _) (by omega))) ?_
        exact j_aret C E rfl rfl (by decide) (by decide) ⟨rfl, rfl⟩
      | succ d ih =>
        intro q hq
        refine j_icmp C rfl (fun z => absurd z (nI_ge (show q < p by omega) (by omega))) (fun _ => ?_)
        have hqg : (sL s i)[q]? = some ((sL s i)[q]'(by omega)) := List.getElem?_eq_getElem _
        rw [hqg]
        refine j_ifnull C rfl (fun z => by cases z) (fun _ _ => ?_)
        obtain ⟨bh, lf, RK, hL, hW⟩ := id R
        have hmem : (sL s i)[q]'(by omega) < sK s := hW.2.1 i _ (List.mem_of_getElem? hqg)
        obtain ⟨ek, pr, tg, ar, an, e0, -⟩ := RK.aM hmem
        rw [(hL i hi).2 q _ hqg] at e0
        refine j_get C rfl (fg_L_M_behind V) e0 rfl ?_
        refine j_goto C rfl ?_
        have := ih (q + 1) (by omega)
        rw [nI_succ] at this
        exact this
    refine j_to C 21 rfl ?_
    have := loop p 0 (by omega)
    rw [show (sL s i)[0]? = (sL s i).head? from List.head?_eq_getElem?.symm] at this
    exact this
theorem m_V_next (l : Launch) (hT : TOK T) (R : Rp w c s) (x y : Int32) : Ct l T y_V_next W_V_next rm_V_next [.inr (some (cO c)), .inl x, .inl y] w (fun v w' => w' = w ∧ v = some (.inl (nextS s x y))) := by
  refine ct_V_next rfl (nle rfl) ?_
  intro X hl C E
  have V := hv_V_next hT
  unfold nextS at E
  refine j_callS C rfl (fc_V_V_isVat V (by decide)) (m_V_isVat _ hT x) rfl rfl (nle rfl) (by decide) (by decide) ?_
  rintro v w' ⟨rfl, rfl⟩
  cases hx : ixO 3 x with
  | none =>
    rw [hx] at E
    refine j_ifF C rfl (by decide) ?_
    exact j_iret C E rfl (Or.inl rfl) (by decide) (by decide) ⟨rfl, rfl⟩
  | some q =>
    rw [hx] at E
    dsimp only at E
    obtain ⟨hq, rfl⟩ := ixO_lt (by decide) hx
    have hlen := R.len q
    refine j_ifT C rfl (show fw_cb _ (bI true) 0 = true by decide) ?_
    refine j_get C rfl (fg_V_V_queues V) R.o rfl ?_
    obtain ⟨f, q1, q2⟩ := R.q
    refine j_aaldI C rfl q1 hT.2.2.2.2.1 q rfl hq (by decide) ?_
    rw [q2 q hq]
    refine j_callV C rfl (fc_V_L_withBefore V (by decide)) (m_L_withBefore _ hT R (i := q) (by omega) y) rfl rfl (R.line (i := q) (by omega)) (by rw [hT.1]; rfl) (nle rfl) (by decide) (by decide) ?_
    rintro v w' ⟨rfl, rfl⟩
    cases hy : ixO (sL s q).length y with
    | none =>
      rw [hy] at E
      refine j_ifnn C rfl (fun _ h => by cases h) (fun _ => ?_)
      refine j_goto C rfl ?_
      exact j_iret C E rfl (Or.inl rfl) (by decide) (by decide) ⟨rfl, rfl⟩
    | some p =>
      rw [hy] at E
      have hp := (ixO_lt (by omega) hy).1
      have hpg : (sL s q)[p]? = some ((sL s q)[p]'hp) := List.getElem?_eq_getElem _
      have hgd : (sL s q).getD p 0 = (sL s q)[p]'hp := by rw [List.getD_eq_getElem?_getD, hpg]; rfl
      dsimp only at E ⊢
      rw [hgd] at E
      rw [hpg]
      refine j_ifnn C rfl (fun _ _ => ?_) (fun h => by cases h)
      have hmem : (sL s q)[p]'hp < sK s := R.LW.2.1 q _ (List.mem_of_getElem? hpg)
      obtain ⟨b, pr, tg, ar, an, m0, -⟩ := R.msg hmem
      refine j_get C rfl (fg_V_M_number V) m0 rfl ?_
      exact j_iret C E rfl (Or.inl rfl) (by decide) (by decide) ⟨rfl, rfl⟩
end HOST
