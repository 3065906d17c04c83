/-! The class's state as a value, and the smallest methods of the class. -/
abbrev St : Type := Nat × (Nat → Th) × Nat × (Nat → Ms) × (Nat → List Nat)
abbrev sN (s : St) : Nat := s.1
abbrev sT (s : St) : Nat → Th := s.2.1
abbrev sK (s : St) : Nat := s.2.2.1
abbrev sM (s : St) : Nat → Ms := s.2.2.2.1
abbrev sL (s : St) : Nat → List Nat := s.2.2.2.2
def Rp (w : fw_W) (c : Cfg) (s : St) : Prop := RepL w c (sN s) (sT s) (sK s) (sM s) (sL s)
theorem Rp.mono {w w' : fw_W} {c : Cfg} {s : St} (R : Rp w c s) (hm : ∀ a e, w a = some e → w' a = some e) : Rp w' c s := by
  obtain ⟨bh, lf, R, h⟩ := R
  exact ⟨bh, lf, R.mono hm, h⟩
theorem Rp.grow {w : fw_W} {c : Cfg} {s : St} (R : Rp w c s) {q : Nat} {e : fw_E} (hq : w q = none) : Rp (va_up w q (some e)) c s := R.mono (fun _ _ h => up_new h hq)
theorem Rp.o {w : fw_W} {c : Cfg} {s : St} (R : Rp w c s) : w (cO c) = some (cellO c (sN s) (sK s)) := by
  obtain ⟨bh, lf, R, h⟩ := R
  exact R.1
theorem Rp.nothing {w : fw_W} {c : Cfg} {s : St} (R : Rp w c s) : IsR w (cN c) rN := by
  obtain ⟨bh, lf, R, h⟩ := R
  exact R.2.1
theorem Rp.broken {w : fw_W} {c : Cfg} {s : St} (R : Rp w c s) : IsR w (cB c) rB := by
  obtain ⟨bh, lf, R, h⟩ := R
  exact R.2.2.1
theorem Rp.n40 {w : fw_W} {c : Cfg} {s : St} (R : Rp w c s) : sN s ≤ 40 := by
  obtain ⟨bh, lf, R, h⟩ := R
  exact R.n40
theorem Rp.k200 {w : fw_W} {c : Cfg} {s : St} (R : Rp w c s) : sK s ≤ 200 := by
  obtain ⟨bh, lf, R, h⟩ := R
  exact R.k200
theorem Rp.aT {w : fw_W} {c : Cfg} {s : St} (R : Rp w c s) {i : Nat} (h : i < sN s) : ThOK w c (sN s) i (sT s i) := by
  obtain ⟨bh, lf, R, -⟩ := R
  exact R.aT h
theorem Rp.aM {w : fw_W} {c : Cfg} {s : St} (R : Rp w c s) {j : Nat} (h : j < sK s) : ∃ b, MsOK w c (sN s) (sK s) j (sM s j) b := by
  obtain ⟨bh, lf, R, -⟩ := R
  exact ⟨_, R.aM h⟩
/-- the index that an int is, below n -/
def ixO (n : Nat) (x : Int32) : Option Nat := if 0 ≤ x ∧ x < nI n then some x.toNatClampNeg else none
theorem ixO_some {n i : Nat} (hn : n < 2 ^ 31) (h : i < n) : ixO n (nI i) = some i := by
  unfold ixO
  rw [if_pos ⟨nI_pos' (by omega), nI_lt h hn⟩, nI_clamp (by omega)]
theorem ixO_neg {n : Nat} {x : Int32} (h : x < 0) : ixO n x = none := by
  unfold ixO
  rw [if_neg]
  rintro ⟨h1, -⟩
  rw [Int32.lt_iff_toInt_lt] at h
  rw [Int32.le_iff_toInt_le] at h1
  omega
theorem ixO_big {n : Nat} {x : Int32} (h : nI n ≤ x) : ixO n x = none := by
  unfold ixO
  rw [if_neg]
  rintro ⟨-, h1⟩
  rw [Int32.lt_iff_toInt_lt] at h1
  rw [Int32.le_iff_toInt_le] at h
  omega
theorem ixO_cases (n : Nat) (hn : n < 2 ^ 31) (x : Int32) : (x < 0 ∧ ixO n x = none) ∨ (¬ x < 0 ∧ nI n ≤ x ∧ ixO n x = none) ∨ ∃ i, i < n ∧ x = nI i ∧ ¬ x < 0 ∧ ¬ nI n ≤ x ∧ ixO n x = some i := by
  rcases pk_ix x hn with h | h | ⟨i, h1, h2⟩
  · exact Or.inl ⟨h, ixO_neg h⟩
  · by_cases h0 : x < 0
    · exact Or.inl ⟨h0, ixO_neg h0⟩
    · exact Or.inr (Or.inl ⟨h0, h, ixO_big h⟩)
  · subst h2
    exact Or.inr (Or.inr ⟨i, h1, rfl, nI_pos (by omega), nI_ge h1 hn, ixO_some hn h1⟩)
section BASE
variable {T : fw_T} {w : fw_W} {c : Cfg} {s : St}
theorem m_V_thingAt (l : Launch) (hT : TOK T) (R : Rp w c s) (x : Int32) : Ct l T y_V_thingAt W_V_thingAt rm_V_thingAt [.inr (some (cO c)), .inl x] w (fun r w' => w' = w ∧ r = some (.inr ((ixO (sN s) x).map (cT c)))) := by
  refine ct_V_thingAt rfl (nle rfl) ?_
  intro X hl C E
  have V := hv_V_thingAt hT
  have hn := R.n40
  have ho := R.o
  rcases ixO_cases (sN s) (by omega) x with ⟨h, e⟩ | ⟨h0, h, e⟩ | ⟨i, hi, rfl, h0, h, e⟩ <;> rw [e] at E
  · refine j_ifT C rfl (fw_cb_iff.mpr h) ?_
    exact j_aret C E rfl rfl (by decide) (by decide) ⟨rfl, rfl⟩
  · refine j_if C rfl (fun q => absurd q h0) (fun _ => ?_)
    refine j_get C rfl (fg_V_V_thingCount V) ho rfl ?_
    refine j_icmpT C rfl (fw_cb_iff.mpr h) ?_
    exact j_aret C E rfl rfl (by decide) (by decide) ⟨rfl, rfl⟩
  · refine j_if C rfl (fun q => absurd q h0) (fun _ => ?_)
    refine j_get C rfl (fg_V_V_thingCount V) ho rfl ?_
    refine j_icmp C rfl (fun q => absurd q h) (fun _ => ?_)
    refine j_get C rfl (fg_V_V_things V) ho rfl ?_
    have hta : w (cTA c) = some (cellTA c (sN s)) := by obtain ⟨bh, lf, R, -⟩ := R; exact R.2.2.2.1
    refine j_aaldI C rfl hta hT.2.2.1 i rfl (by omega) (by decide) ?_
    rw [if_pos hi]
    refine j_goto C rfl ?_
    exact j_aret C E rfl rfl (by decide) (by decide) ⟨rfl, rfl⟩
theorem m_V_messageAt (l : Launch) (hT : TOK T) (R : Rp w c s) (x : Int32) : Ct l T y_V_messageAt W_V_messageAt rm_V_messageAt [.inr (some (cO c)), .inl x] w (fun r w' => w' = w ∧ r = some (.inr ((ixO (sK s) x).map (cM c)))) := by
  refine ct_V_messageAt rfl (nle rfl) ?_
  intro X hl C E
  have V := hv_V_messageAt hT
  have hn := R.k200
  have ho := R.o
  rcases ixO_cases (sK s) (by omega) x with ⟨h, e⟩ | ⟨h0, h, e⟩ | ⟨i, hi, rfl, h0, h, e⟩ <;> rw [e] at E
  · refine j_ifT C rfl (fw_cb_iff.mpr h) ?_
    exact j_aret C E rfl rfl (by decide) (by decide) ⟨rfl, rfl⟩
  · refine j_if C rfl (fun q => absurd q h0) (fun _ => ?_)
    refine j_get C rfl (fg_V_V_sentCount V) ho rfl ?_
    refine j_icmpT C rfl (fw_cb_iff.mpr h) ?_
    exact j_aret C E rfl rfl (by decide) (by decide) ⟨rfl, rfl⟩
  · refine j_if C rfl (fun q => absurd q h0) (fun _ => ?_)
    refine j_get C rfl (fg_V_V_sentCount V) ho rfl ?_
    refine j_icmp C rfl (fun q => absurd q h) (fun _ => ?_)
    refine j_get C rfl (fg_V_V_sent V) ho rfl ?_
    have hta : w (cMA c) = some (cellMA c (sK s)) := by obtain ⟨bh, lf, R, -⟩ := R; exact R.2.2.2.2.1
    refine j_aaldI C rfl hta hT.2.2.2.1 i rfl (by omega) (by decide) ?_
    rw [if_pos hi]
    refine j_goto C rfl ?_
    exact j_aret C E rfl rfl (by decide) (by decide) ⟨rfl, rfl⟩
/-- a truth value as an int -/
def bI (b : Bool) : Int32 := if b = true then 1 else 0
theorem bI_01 (b : Bool) : bI b = 0 ∨ bI b = 1 := by cases b <;> simp [bI]
theorem m_V_isVat (l : Launch) (hT : TOK T) (x : Int32) : Ct l T y_V_isVat W_V_isVat rm_V_isVat [.inl x] w (fun r w' => w' = w ∧ r = some (.inl (bI (ixO 3 x).isSome))) := by
  refine ct_V_isVat rfl (nle rfl) ?_
  intro X hl C E
  rcases ixO_cases 3 (by omega) x with ⟨h, e⟩ | ⟨h0, h, e⟩ | ⟨i, hi, rfl, h0, h, e⟩ <;> rw [e] at E
  · refine j_ifT C rfl (fw_cb_iff.mpr h) ?_
    exact j_iret C E rfl (Or.inr ⟨rfl, Or.inl rfl⟩) (by decide) (by decide) ⟨rfl, rfl⟩
  · refine j_if C rfl (fun q => absurd q h0) (fun _ => ?_)
    refine j_icmpT C rfl (fw_cb_iff.mpr h) ?_
    exact j_iret C E rfl (Or.inr ⟨rfl, Or.inl rfl⟩) (by decide) (by decide) ⟨rfl, rfl⟩
  · refine j_if C rfl (fun q => absurd q h0) (fun _ => ?_)
    refine j_icmp C rfl (fun q => absurd q h) (fun _ => ?_)
    refine j_goto C rfl ?_
    exact j_iret C E rfl (Or.inr ⟨rfl, Or.inr rfl⟩) (by decide) (by decide) ⟨rfl, rfl⟩
theorem m_V_isSlot (l : Launch) (hT : TOK T) (x : Int32) : Ct l T y_V_isSlot W_V_isSlot rm_V_isSlot [.inl x] w (fun r w' => w' = w ∧ r = some (.inl (bI (ixO 4 x).isSome))) := by
  refine ct_V_isSlot rfl (nle rfl) ?_
  intro X hl C E
  rcases ixO_cases 4 (by omega) x with ⟨h, e⟩ | ⟨h0, h, e⟩ | ⟨i, hi, rfl, h0, h, e⟩ <;> rw [e] at E
  · refine j_ifT C rfl (fw_cb_iff.mpr h) ?_
    exact j_iret C E rfl (Or.inr ⟨rfl, Or.inl rfl⟩) (by decide) (by decide) ⟨rfl, rfl⟩
  · refine j_if C rfl (fun q => absurd q h0) (fun _ => ?_)
    refine j_icmpT C rfl (fw_cb_iff.mpr h) ?_
    exact j_iret C E rfl (Or.inr ⟨rfl, Or.inl rfl⟩) (by decide) (by decide) ⟨rfl, rfl⟩
  · refine j_if C rfl (fun q => absurd q h0) (fun _ => ?_)
    refine j_icmp C rfl (fun q => absurd q h) (fun _ => ?_)
    refine j_goto C rfl ?_
    exact j_iret C E rfl (Or.inr ⟨rfl, Or.inr rfl⟩) (by decide) (by decide) ⟨rfl, rfl⟩
theorem m_V_numeral (l : Launch) (hT : TOK T) (x : Int32) : Ct l T y_V_numeral W_V_numeral rm_V_numeral [.inl x] w (fun r w' => ∃ q, w q = none ∧ w' = va_up w q (some (.inr (kR, [.inl 1, .inl x]))) ∧ r = some (.inr (some q))) := by
  refine ct_V_numeral rfl (nle rfl) ?_
  intro X hl C E
  have V := hv_V_numeral hT
  refine j_new C rfl (fn_V_R V) (by decide) (by decide) (fun q hq => ?_)
  refine j_callI C rfl (fc_V_R_init V (by decide)) (m_R_init _ hT (s := 1) (x := x) (va_up_self _ _ _)) rfl rfl (nle rfl) (by decide) (by decide) ?_
  rintro r w' ⟨rfl, rfl⟩
  rw [bx_uu]
  exact j_aret C E rfl rfl (by decide) (by decide) ⟨q, hq, rfl, rfl⟩
end BASE
