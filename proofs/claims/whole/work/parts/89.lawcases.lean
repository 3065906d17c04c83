/-! The law's cases, by program (wip/whole/genlaw.py). -/
section LWC
variable {T : fw_T} {nm : String} {X : fw_X} {w : fw_W} {k n sc N a b B : Nat} {xs : Nat → Int32} {i : Int32}
set_option maxRecDepth 20000 in
set_option maxHeartbeats 4000000 in
theorem lw_cell (hT : TOK T) (C : fw_ok T (G_W nm) X) (hX : va_X sc N xs (xS X) (xS X).heap) (hbl : sc < (xS X).heap.size) (hbA : ¬ xF X sc) (hi : InS i N) (I : LwI a b B w) (hB : B + 200 < 2 ^ 31) (hk : k + 30 ≤ 600000) (hn : n + 170 ≤ 7302250) (kk : ∀ (w' : fw_W) (k' n' : Nat), LwI a b (B + 200) w' → k' ≤ k + 30 → n' ≤ n + 170 → J T (G_W nm) X 661 (Lw sc a b i) [] w' k' n') : J T (G_W nm) X 124 (Lw sc a b i) [] w k n := by
  have V := hv_W hT nm
  obtain ⟨wC, wM, c, s, A, M, rfl, dj, rfl, R, RD, I⟩ := I
  refine j_sld C hX hbl hbA rfl hi.1 ?_
  refine j_callU C rfl (fc_W_V_cell V ⟨nle rfl, nle rfl⟩) dj (m_V_cell (xL X) hT R _) rfl rfl R.o (by rw [hT.1]; rfl) (nle rfl) (rk hk rfl) (rk hn rfl) ?_
  rintro r w' ⟨c', hc, rfl, R'⟩ dj'
  rw [fw_un_comm dj']
  refine j_sld C hX hbl hbA rfl hi.1 ?_
  refine j_callU C rfl (fc_W_D_cell V ⟨nle rfl, nle rfl⟩) dj'.symm (m_D_cell (xL X) hT I _ _ RD) rfl rfl RD.1 (by rw [hT.1]; rfl) (nle rfl) (rk2 hk rfl) (rk2 hn rfl) ?_
  rintro r w'' ⟨M', ⟨rfl, I'⟩, RD'⟩ dj''
  refine j_icmpT C rfl (decide_eq_true rfl) ?_
  exact kk _ _ _ ⟨_, _, c', _, A, M', fw_un_comm dj'', dj''.symm, congrArg Prod.fst hc.1, R', RD', (I'.up (Nat.le_add_right _ _))⟩ (rk2 (Nat.le_refl _) rfl) (rk2 (Nat.le_refl _) rfl)
set_option maxRecDepth 20000 in
set_option maxHeartbeats 4000000 in
theorem lw_number (hT : TOK T) (C : fw_ok T (G_W nm) X) (hX : va_X sc N xs (xS X) (xS X).heap) (hbl : sc < (xS X).heap.size) (hbA : ¬ xF X sc) (hi : InS i N) (I : LwI a b B w) (hB : B + 200 < 2 ^ 31) (hk : k + 30 ≤ 600000) (hn : n + 170 ≤ 7302250) (kk : ∀ (w' : fw_W) (k' n' : Nat), LwI a b (B + 200) w' → k' ≤ k + 30 → n' ≤ n + 170 → J T (G_W nm) X 661 (Lw sc a b i) [] w' k' n') : J T (G_W nm) X 147 (Lw sc a b i) [] w k n := by
  have V := hv_W hT nm
  obtain ⟨wC, wM, c, s, A, M, rfl, dj, rfl, R, RD, I⟩ := I
  refine j_sld C hX hbl hbA rfl hi.1 ?_
  refine j_sld C hX hbl hbA rfl hi.2.1 ?_
  refine j_sld C hX hbl hbA rfl hi.2.2.1 ?_
  refine j_callU C rfl (fc_W_V_number V ⟨nle rfl, nle rfl⟩) dj (m_V_number (xL X) hT R _ _ _) rfl rfl R.o (by rw [hT.1]; rfl) (nle rfl) (rk hk rfl) (rk hn rfl) ?_
  rintro r w' ⟨c', hc, rfl, R'⟩ dj'
  rw [fw_un_comm dj']
  refine j_sld C hX hbl hbA rfl hi.1 ?_
  refine j_sld C hX hbl hbA rfl hi.2.1 ?_
  refine j_sld C hX hbl hbA rfl hi.2.2.1 ?_
  refine j_callU C rfl (fc_W_D_number V ⟨nle rfl, nle rfl⟩) dj'.symm (m_D_number (xL X) hT I _ _ _ _ RD) rfl rfl RD.1 (by rw [hT.1]; rfl) (nle rfl) (rk2 hk rfl) (rk2 hn rfl) ?_
  rintro r w'' ⟨M', ⟨rfl, I'⟩, RD'⟩ dj''
  refine j_icmpT C rfl (decide_eq_true rfl) ?_
  exact kk _ _ _ ⟨_, _, c', _, A, M', fw_un_comm dj'', dj''.symm, congrArg Prod.fst hc.1, R', RD', (I'.up (Nat.le_add_right _ _))⟩ (rk2 (Nat.le_refl _) rfl) (rk2 (Nat.le_refl _) rfl)
set_option maxRecDepth 20000 in
set_option maxHeartbeats 4000000 in
theorem lw_introduce (hT : TOK T) (C : fw_ok T (G_W nm) X) (hX : va_X sc N xs (xS X) (xS X).heap) (hbl : sc < (xS X).heap.size) (hbA : ¬ xF X sc) (hi : InS i N) (I : LwI a b B w) (hB : B + 200 < 2 ^ 31) (hk : k + 30 ≤ 600000) (hn : n + 170 ≤ 7302250) (kk : ∀ (w' : fw_W) (k' n' : Nat), LwI a b (B + 200) w' → k' ≤ k + 30 → n' ≤ n + 170 → J T (G_W nm) X 661 (Lw sc a b i) [] w' k' n') : J T (G_W nm) X 190 (Lw sc a b i) [] w k n := by
  have V := hv_W hT nm
  obtain ⟨wC, wM, c, s, A, M, rfl, dj, rfl, R, RD, I⟩ := I
  refine j_sld C hX hbl hbA rfl hi.1 ?_
  refine j_sld C hX hbl hbA rfl hi.2.1 ?_
  refine j_sld C hX hbl hbA rfl hi.2.2.1 ?_
  refine j_callU C rfl (fc_W_V_introduce V ⟨nle rfl, nle rfl⟩) dj (m_V_introduce (xL X) hT R _ _ _) rfl rfl R.o (by rw [hT.1]; rfl) (nle rfl) (rk hk rfl) (rk hn rfl) ?_
  rintro r w' ⟨c', hc, rfl, R'⟩ dj'
  rw [fw_un_comm dj']
  refine j_sld C hX hbl hbA rfl hi.1 ?_
  refine j_sld C hX hbl hbA rfl hi.2.1 ?_
  refine j_sld C hX hbl hbA rfl hi.2.2.1 ?_
  refine j_callU C rfl (fc_W_D_introduce V ⟨nle rfl, nle rfl⟩) dj'.symm (m_D_introduce (xL X) hT I _ _ _ _ RD) rfl rfl RD.1 (by rw [hT.1]; rfl) (nle rfl) (rk2 hk rfl) (rk2 hn rfl) ?_
  rintro r w'' ⟨M', ⟨rfl, I'⟩, RD'⟩ dj''
  refine j_icmpT C rfl (decide_eq_true rfl) ?_
  exact kk _ _ _ ⟨_, _, c', _, A, M', fw_un_comm dj'', dj''.symm, congrArg Prod.fst hc.1, R', RD', (I'.up (Nat.le_add_right _ _))⟩ (rk2 (Nat.le_refl _) rfl) (rk2 (Nat.le_refl _) rfl)
set_option maxRecDepth 20000 in
set_option maxHeartbeats 4000000 in
theorem lw_send (hT : TOK T) (C : fw_ok T (G_W nm) X) (hX : va_X sc N xs (xS X) (xS X).heap) (hbl : sc < (xS X).heap.size) (hbA : ¬ xF X sc) (hi : InS i N) (I : LwI a b B w) (hB : B + 200 < 2 ^ 31) (hk : k + 30 ≤ 600000) (hn : n + 170 ≤ 7302250) (kk : ∀ (w' : fw_W) (k' n' : Nat), LwI a b (B + 200) w' → k' ≤ k + 30 → n' ≤ n + 170 → J T (G_W nm) X 661 (Lw sc a b i) [] w' k' n') : J T (G_W nm) X 233 (Lw sc a b i) [] w k n := by
  have V := hv_W hT nm
  obtain ⟨wC, wM, c, s, A, M, rfl, dj, rfl, R, RD, I⟩ := I
  refine j_sld C hX hbl hbA rfl hi.1 ?_
  refine j_sld C hX hbl hbA rfl hi.2.1 ?_
  refine j_sld C hX hbl hbA rfl hi.2.2.1 ?_
  refine j_sld C hX hbl hbA rfl hi.2.2.2.1 ?_
  refine j_sld C hX hbl hbA rfl hi.2.2.2.2 ?_
  refine j_callU C rfl (fc_W_V_send V ⟨nle rfl, nle rfl⟩) dj (m_V_send (xL X) hT R I.good _ _ _ _ _) rfl rfl R.o (by rw [hT.1]; rfl) (nle rfl) (rk hk rfl) (rk hn rfl) ?_
  rintro r w' ⟨c', hc, rfl, R'⟩ dj'
  rw [fw_un_comm dj']
  refine j_sld C hX hbl hbA rfl hi.1 ?_
  refine j_sld C hX hbl hbA rfl hi.2.1 ?_
  refine j_sld C hX hbl hbA rfl hi.2.2.1 ?_
  refine j_sld C hX hbl hbA rfl hi.2.2.2.1 ?_
  refine j_sld C hX hbl hbA rfl hi.2.2.2.2 ?_
  refine j_callU C rfl (fc_W_D_send V ⟨nle rfl, nle rfl⟩) dj'.symm (m_D_send (xL X) hT I hB _ _ _ _ _ _ RD) rfl rfl RD.1 (by rw [hT.1]; rfl) (nle rfl) (rk2 hk rfl) (rk2 hn rfl) ?_
  rintro r w'' ⟨M', ⟨rfl, I'⟩, RD'⟩ dj''
  refine j_icmpT C rfl (decide_eq_true rfl) ?_
  exact kk _ _ _ ⟨_, _, c', _, A, M', fw_un_comm dj'', dj''.symm, congrArg Prod.fst hc.1, R', RD', I'⟩ (rk2 (Nat.le_refl _) rfl) (rk2 (Nat.le_refl _) rfl)
set_option maxRecDepth 20000 in
set_option maxHeartbeats 4000000 in
theorem lw_turn (hT : TOK T) (C : fw_ok T (G_W nm) X) (hX : va_X sc N xs (xS X) (xS X).heap) (hbl : sc < (xS X).heap.size) (hbA : ¬ xF X sc) (hi : InS i N) (I : LwI a b B w) (hB : B + 200 < 2 ^ 31) (hk : k + 30 ≤ 600000) (hn : n + 170 ≤ 7302250) (kk : ∀ (w' : fw_W) (k' n' : Nat), LwI a b (B + 200) w' → k' ≤ k + 30 → n' ≤ n + 170 → J T (G_W nm) X 661 (Lw sc a b i) [] w' k' n') : J T (G_W nm) X 296 (Lw sc a b i) [] w k n := by
  have V := hv_W hT nm
  obtain ⟨wC, wM, c, s, A, M, rfl, dj, rfl, R, RD, I⟩ := I
  refine j_sld C hX hbl hbA rfl hi.1 ?_
  refine j_callU C rfl (fc_W_V_turn V ⟨nle rfl, nle rfl⟩) dj (m_V_turn (xL X) hT R I.good _) rfl rfl R.o (by rw [hT.1]; rfl) (nle rfl) (rk hk rfl) (rk hn rfl) ?_
  rintro r w' ⟨c', hc, rfl, R'⟩ dj'
  rw [fw_un_comm dj']
  refine j_sld C hX hbl hbA rfl hi.1 ?_
  refine j_callU C rfl (fc_W_D_turn V ⟨nle rfl, nle rfl⟩) dj'.symm (m_D_turn (xL X) hT I hB _ _ RD) rfl rfl RD.1 (by rw [hT.1]; rfl) (nle rfl) (rk2 hk rfl) (rk2 hn rfl) ?_
  rintro r w'' ⟨M', ⟨rfl, I'⟩, RD'⟩ dj''
  refine j_icmpT C rfl (decide_eq_true rfl) ?_
  exact kk _ _ _ ⟨_, _, c', _, A, M', fw_un_comm dj'', dj''.symm, congrArg Prod.fst hc.1, R', RD', I'⟩ (rk2 (Nat.le_refl _) rfl) (rk2 (Nat.le_refl _) rfl)
set_option maxRecDepth 20000 in
set_option maxHeartbeats 4000000 in
theorem lw_objects (hT : TOK T) (C : fw_ok T (G_W nm) X) (hX : va_X sc N xs (xS X) (xS X).heap) (hbl : sc < (xS X).heap.size) (hbA : ¬ xF X sc) (hi : InS i N) (I : LwI a b B w) (hB : B + 200 < 2 ^ 31) (hk : k + 30 ≤ 600000) (hn : n + 170 ≤ 7302250) (kk : ∀ (w' : fw_W) (k' n' : Nat), LwI a b (B + 200) w' → k' ≤ k + 30 → n' ≤ n + 170 → J T (G_W nm) X 661 (Lw sc a b i) [] w' k' n') : J T (G_W nm) X 319 (Lw sc a b i) [] w k n := by
  have V := hv_W hT nm
  obtain ⟨wC, wM, c, s, A, M, rfl, dj, rfl, R, RD, I⟩ := I
  refine j_callU C rfl (fc_W_V_objects V ⟨nle rfl, nle rfl⟩) dj (m_V_objects (xL X) hT R) rfl rfl R.o (by rw [hT.1]; rfl) (nle rfl) (rk hk rfl) (rk hn rfl) ?_
  rintro r w' ⟨rfl, rfl⟩ dj'
  rw [fw_un_comm dj']
  refine j_callU C rfl (fc_W_D_objects V ⟨nle rfl, nle rfl⟩) dj'.symm (m_D_objects (xL X) hT I _ RD) rfl rfl RD.1 (by rw [hT.1]; rfl) (nle rfl) (rk2 hk rfl) (rk2 hn rfl) ?_
  rintro r w'' ⟨M', ⟨rfl, I'⟩, RD'⟩ dj''
  refine j_icmpT C rfl (decide_eq_true rfl) ?_
  exact kk _ _ _ ⟨_, _, c, s, A, M', fw_un_comm dj'', dj''.symm, rfl, R, RD', (I'.up (Nat.le_add_right _ _))⟩ (rk2 (Nat.le_refl _) rfl) (rk2 (Nat.le_refl _) rfl)
set_option maxRecDepth 20000 in
set_option maxHeartbeats 4000000 in
theorem lw_kind (hT : TOK T) (C : fw_ok T (G_W nm) X) (hX : va_X sc N xs (xS X) (xS X).heap) (hbl : sc < (xS X).heap.size) (hbA : ¬ xF X sc) (hi : InS i N) (I : LwI a b B w) (hB : B + 200 < 2 ^ 31) (hk : k + 30 ≤ 600000) (hn : n + 170 ≤ 7302250) (kk : ∀ (w' : fw_W) (k' n' : Nat), LwI a b (B + 200) w' → k' ≤ k + 30 → n' ≤ n + 170 → J T (G_W nm) X 661 (Lw sc a b i) [] w' k' n') : J T (G_W nm) X 332 (Lw sc a b i) [] w k n := by
  have V := hv_W hT nm
  obtain ⟨wC, wM, c, s, A, M, rfl, dj, rfl, R, RD, I⟩ := I
  refine j_sld C hX hbl hbA rfl hi.1 ?_
  refine j_callU C rfl (fc_W_V_kind V ⟨nle rfl, nle rfl⟩) dj (m_V_kind (xL X) hT R _) rfl rfl R.o (by rw [hT.1]; rfl) (nle rfl) (rk hk rfl) (rk hn rfl) ?_
  rintro r w' ⟨rfl, rfl⟩ dj'
  rw [fw_un_comm dj']
  refine j_sld C hX hbl hbA rfl hi.1 ?_
  refine j_callU C rfl (fc_W_D_kind V ⟨nle rfl, nle rfl⟩) dj'.symm (m_D_kind (xL X) hT I _ _ RD) rfl rfl RD.1 (by rw [hT.1]; rfl) (nle rfl) (rk2 hk rfl) (rk2 hn rfl) ?_
  rintro r w'' ⟨M', ⟨rfl, I'⟩, RD'⟩ dj''
  refine j_icmpT C rfl (decide_eq_true rfl) ?_
  exact kk _ _ _ ⟨_, _, c, s, A, M', fw_un_comm dj'', dj''.symm, rfl, R, RD', (I'.up (Nat.le_add_right _ _))⟩ (rk2 (Nat.le_refl _) rfl) (rk2 (Nat.le_refl _) rfl)
set_option maxRecDepth 20000 in
set_option maxHeartbeats 4000000 in
theorem lw_home (hT : TOK T) (C : fw_ok T (G_W nm) X) (hX : va_X sc N xs (xS X) (xS X).heap) (hbl : sc < (xS X).heap.size) (hbA : ¬ xF X sc) (hi : InS i N) (I : LwI a b B w) (hB : B + 200 < 2 ^ 31) (hk : k + 30 ≤ 600000) (hn : n + 170 ≤ 7302250) (kk : ∀ (w' : fw_W) (k' n' : Nat), LwI a b (B + 200) w' → k' ≤ k + 30 → n' ≤ n + 170 → J T (G_W nm) X 661 (Lw sc a b i) [] w' k' n') : J T (G_W nm) X 355 (Lw sc a b i) [] w k n := by
  have V := hv_W hT nm
  obtain ⟨wC, wM, c, s, A, M, rfl, dj, rfl, R, RD, I⟩ := I
  refine j_sld C hX hbl hbA rfl hi.1 ?_
  refine j_callU C rfl (fc_W_V_home V ⟨nle rfl, nle rfl⟩) dj (m_V_home (xL X) hT R _) rfl rfl R.o (by rw [hT.1]; rfl) (nle rfl) (rk hk rfl) (rk hn rfl) ?_
  rintro r w' ⟨rfl, rfl⟩ dj'
  rw [fw_un_comm dj']
  refine j_sld C hX hbl hbA rfl hi.1 ?_
  refine j_callU C rfl (fc_W_D_home V ⟨nle rfl, nle rfl⟩) dj'.symm (m_D_home (xL X) hT I _ _ RD) rfl rfl RD.1 (by rw [hT.1]; rfl) (nle rfl) (rk2 hk rfl) (rk2 hn rfl) ?_
  rintro r w'' ⟨M', ⟨rfl, I'⟩, RD'⟩ dj''
  refine j_icmpT C rfl (decide_eq_true rfl) ?_
  exact kk _ _ _ ⟨_, _, c, s, A, M', fw_un_comm dj'', dj''.symm, rfl, R, RD', (I'.up (Nat.le_add_right _ _))⟩ (rk2 (Nat.le_refl _) rfl) (rk2 (Nat.le_refl _) rfl)
set_option maxRecDepth 20000 in
set_option maxHeartbeats 4000000 in
theorem lw_what (hT : TOK T) (C : fw_ok T (G_W nm) X) (hX : va_X sc N xs (xS X) (xS X).heap) (hbl : sc < (xS X).heap.size) (hbA : ¬ xF X sc) (hi : InS i N) (I : LwI a b B w) (hB : B + 200 < 2 ^ 31) (hk : k + 30 ≤ 600000) (hn : n + 170 ≤ 7302250) (kk : ∀ (w' : fw_W) (k' n' : Nat), LwI a b (B + 200) w' → k' ≤ k + 30 → n' ≤ n + 170 → J T (G_W nm) X 661 (Lw sc a b i) [] w' k' n') : J T (G_W nm) X 378 (Lw sc a b i) [] w k n := by
  have V := hv_W hT nm
  obtain ⟨wC, wM, c, s, A, M, rfl, dj, rfl, R, RD, I⟩ := I
  refine j_sld C hX hbl hbA rfl hi.1 ?_
  refine j_sld C hX hbl hbA rfl hi.2.1 ?_
  refine j_callU C rfl (fc_W_V_what V ⟨nle rfl, nle rfl⟩) dj (m_V_what (xL X) hT R _ _) rfl rfl R.o (by rw [hT.1]; rfl) (nle rfl) (rk hk rfl) (rk hn rfl) ?_
  rintro r w' ⟨rfl, rfl⟩ dj'
  rw [fw_un_comm dj']
  refine j_sld C hX hbl hbA rfl hi.1 ?_
  refine j_sld C hX hbl hbA rfl hi.2.1 ?_
  refine j_callU C rfl (fc_W_D_what V ⟨nle rfl, nle rfl⟩) dj'.symm (m_D_what (xL X) hT I _ _ _ RD) rfl rfl RD.1 (by rw [hT.1]; rfl) (nle rfl) (rk2 hk rfl) (rk2 hn rfl) ?_
  rintro r w'' ⟨M', ⟨rfl, I'⟩, RD'⟩ dj''
  refine j_icmpT C rfl (decide_eq_true rfl) ?_
  exact kk _ _ _ ⟨_, _, c, s, A, M', fw_un_comm dj'', dj''.symm, rfl, R, RD', (I'.up (Nat.le_add_right _ _))⟩ (rk2 (Nat.le_refl _) rfl) (rk2 (Nat.le_refl _) rfl)
set_option maxRecDepth 20000 in
set_option maxHeartbeats 4000000 in
theorem lw_which (hT : TOK T) (C : fw_ok T (G_W nm) X) (hX : va_X sc N xs (xS X) (xS X).heap) (hbl : sc < (xS X).heap.size) (hbA : ¬ xF X sc) (hi : InS i N) (I : LwI a b B w) (hB : B + 200 < 2 ^ 31) (hk : k + 30 ≤ 600000) (hn : n + 170 ≤ 7302250) (kk : ∀ (w' : fw_W) (k' n' : Nat), LwI a b (B + 200) w' → k' ≤ k + 30 → n' ≤ n + 170 → J T (G_W nm) X 661 (Lw sc a b i) [] w' k' n') : J T (G_W nm) X 411 (Lw sc a b i) [] w k n := by
  have V := hv_W hT nm
  obtain ⟨wC, wM, c, s, A, M, rfl, dj, rfl, R, RD, I⟩ := I
  refine j_sld C hX hbl hbA rfl hi.1 ?_
  refine j_sld C hX hbl hbA rfl hi.2.1 ?_
  refine j_callU C rfl (fc_W_V_which V ⟨nle rfl, nle rfl⟩) dj (m_V_which (xL X) hT R _ _) rfl rfl R.o (by rw [hT.1]; rfl) (nle rfl) (rk hk rfl) (rk hn rfl) ?_
  rintro r w' ⟨rfl, rfl⟩ dj'
  rw [fw_un_comm dj']
  refine j_sld C hX hbl hbA rfl hi.1 ?_
  refine j_sld C hX hbl hbA rfl hi.2.1 ?_
  refine j_callU C rfl (fc_W_D_which V ⟨nle rfl, nle rfl⟩) dj'.symm (m_D_which (xL X) hT I _ _ _ RD) rfl rfl RD.1 (by rw [hT.1]; rfl) (nle rfl) (rk2 hk rfl) (rk2 hn rfl) ?_
  rintro r w'' ⟨M', ⟨rfl, I'⟩, RD'⟩ dj''
  refine j_icmpT C rfl (decide_eq_true rfl) ?_
  exact kk _ _ _ ⟨_, _, c, s, A, M', fw_un_comm dj'', dj''.symm, rfl, R, RD', (I'.up (Nat.le_add_right _ _))⟩ (rk2 (Nat.le_refl _) rfl) (rk2 (Nat.le_refl _) rfl)
set_option maxRecDepth 20000 in
set_option maxHeartbeats 4000000 in
theorem lw_detail (hT : TOK T) (C : fw_ok T (G_W nm) X) (hX : va_X sc N xs (xS X) (xS X).heap) (hbl : sc < (xS X).heap.size) (hbA : ¬ xF X sc) (hi : InS i N) (I : LwI a b B w) (hB : B + 200 < 2 ^ 31) (hk : k + 30 ≤ 600000) (hn : n + 170 ≤ 7302250) (kk : ∀ (w' : fw_W) (k' n' : Nat), LwI a b (B + 200) w' → k' ≤ k + 30 → n' ≤ n + 170 → J T (G_W nm) X 661 (Lw sc a b i) [] w' k' n') : J T (G_W nm) X 444 (Lw sc a b i) [] w k n := by
  have V := hv_W hT nm
  obtain ⟨wC, wM, c, s, A, M, rfl, dj, rfl, R, RD, I⟩ := I
  refine j_sld C hX hbl hbA rfl hi.1 ?_
  refine j_sld C hX hbl hbA rfl hi.2.1 ?_
  refine j_callU C rfl (fc_W_V_detail V ⟨nle rfl, nle rfl⟩) dj (m_V_detail (xL X) hT R I.good.rv _ _) rfl rfl R.o (by rw [hT.1]; rfl) (nle rfl) (rk hk rfl) (rk hn rfl) ?_
  rintro r w' ⟨rfl, rfl⟩ dj'
  rw [fw_un_comm dj']
  refine j_sld C hX hbl hbA rfl hi.1 ?_
  refine j_sld C hX hbl hbA rfl hi.2.1 ?_
  refine j_callU C rfl (fc_W_D_detail V ⟨nle rfl, nle rfl⟩) dj'.symm (m_D_detail (xL X) hT I _ _ _ RD) rfl rfl RD.1 (by rw [hT.1]; rfl) (nle rfl) (rk2 hk rfl) (rk2 hn rfl) ?_
  rintro r w'' ⟨M', ⟨rfl, I'⟩, RD'⟩ dj''
  refine j_icmpT C rfl (decide_eq_true rfl) ?_
  exact kk _ _ _ ⟨_, _, c, s, A, M', fw_un_comm dj'', dj''.symm, rfl, R, RD', (I'.up (Nat.le_add_right _ _))⟩ (rk2 (Nat.le_refl _) rfl) (rk2 (Nat.le_refl _) rfl)
set_option maxRecDepth 20000 in
set_option maxHeartbeats 4000000 in
theorem lw_messages (hT : TOK T) (C : fw_ok T (G_W nm) X) (hX : va_X sc N xs (xS X) (xS X).heap) (hbl : sc < (xS X).heap.size) (hbA : ¬ xF X sc) (hi : InS i N) (I : LwI a b B w) (hB : B + 200 < 2 ^ 31) (hk : k + 30 ≤ 600000) (hn : n + 170 ≤ 7302250) (kk : ∀ (w' : fw_W) (k' n' : Nat), LwI a b (B + 200) w' → k' ≤ k + 30 → n' ≤ n + 170 → J T (G_W nm) X 661 (Lw sc a b i) [] w' k' n') : J T (G_W nm) X 477 (Lw sc a b i) [] w k n := by
  have V := hv_W hT nm
  obtain ⟨wC, wM, c, s, A, M, rfl, dj, rfl, R, RD, I⟩ := I
  refine j_callU C rfl (fc_W_V_messages V ⟨nle rfl, nle rfl⟩) dj (m_V_messages (xL X) hT R) rfl rfl R.o (by rw [hT.1]; rfl) (nle rfl) (rk hk rfl) (rk hn rfl) ?_
  rintro r w' ⟨rfl, rfl⟩ dj'
  rw [fw_un_comm dj']
  refine j_callU C rfl (fc_W_D_messages V ⟨nle rfl, nle rfl⟩) dj'.symm (m_D_messages (xL X) hT I _ RD) rfl rfl RD.1 (by rw [hT.1]; rfl) (nle rfl) (rk2 hk rfl) (rk2 hn rfl) ?_
  rintro r w'' ⟨M', ⟨rfl, I'⟩, RD'⟩ dj''
  refine j_icmpT C rfl (decide_eq_true rfl) ?_
  exact kk _ _ _ ⟨_, _, c, s, A, M', fw_un_comm dj'', dj''.symm, rfl, R, RD', (I'.up (Nat.le_add_right _ _))⟩ (rk2 (Nat.le_refl _) rfl) (rk2 (Nat.le_refl _) rfl)
set_option maxRecDepth 20000 in
set_option maxHeartbeats 4000000 in
theorem lw_place (hT : TOK T) (C : fw_ok T (G_W nm) X) (hX : va_X sc N xs (xS X) (xS X).heap) (hbl : sc < (xS X).heap.size) (hbA : ¬ xF X sc) (hi : InS i N) (I : LwI a b B w) (hB : B + 200 < 2 ^ 31) (hk : k + 30 ≤ 600000) (hn : n + 170 ≤ 7302250) (kk : ∀ (w' : fw_W) (k' n' : Nat), LwI a b (B + 200) w' → k' ≤ k + 30 → n' ≤ n + 170 → J T (G_W nm) X 661 (Lw sc a b i) [] w' k' n') : J T (G_W nm) X 490 (Lw sc a b i) [] w k n := by
  have V := hv_W hT nm
  obtain ⟨wC, wM, c, s, A, M, rfl, dj, rfl, R, RD, I⟩ := I
  refine j_sld C hX hbl hbA rfl hi.1 ?_
  refine j_callU C rfl (fc_W_V_place V ⟨nle rfl, nle rfl⟩) dj (m_V_place (xL X) hT R _) rfl rfl R.o (by rw [hT.1]; rfl) (nle rfl) (rk hk rfl) (rk hn rfl) ?_
  rintro r w' ⟨rfl, rfl⟩ dj'
  rw [fw_un_comm dj']
  refine j_sld C hX hbl hbA rfl hi.1 ?_
  refine j_callU C rfl (fc_W_D_place V ⟨nle rfl, nle rfl⟩) dj'.symm (m_D_place (xL X) hT I _ _ RD) rfl rfl RD.1 (by rw [hT.1]; rfl) (nle rfl) (rk2 hk rfl) (rk2 hn rfl) ?_
  rintro r w'' ⟨M', ⟨rfl, I'⟩, RD'⟩ dj''
  refine j_icmpT C rfl (decide_eq_true rfl) ?_
  exact kk _ _ _ ⟨_, _, c, s, A, M', fw_un_comm dj'', dj''.symm, rfl, R, RD', (I'.up (Nat.le_add_right _ _))⟩ (rk2 (Nat.le_refl _) rfl) (rk2 (Nat.le_refl _) rfl)
set_option maxRecDepth 20000 in
set_option maxHeartbeats 4000000 in
theorem lw_result (hT : TOK T) (C : fw_ok T (G_W nm) X) (hX : va_X sc N xs (xS X) (xS X).heap) (hbl : sc < (xS X).heap.size) (hbA : ¬ xF X sc) (hi : InS i N) (I : LwI a b B w) (hB : B + 200 < 2 ^ 31) (hk : k + 30 ≤ 600000) (hn : n + 170 ≤ 7302250) (kk : ∀ (w' : fw_W) (k' n' : Nat), LwI a b (B + 200) w' → k' ≤ k + 30 → n' ≤ n + 170 → J T (G_W nm) X 661 (Lw sc a b i) [] w' k' n') : J T (G_W nm) X 513 (Lw sc a b i) [] w k n := by
  have V := hv_W hT nm
  obtain ⟨wC, wM, c, s, A, M, rfl, dj, rfl, R, RD, I⟩ := I
  refine j_sld C hX hbl hbA rfl hi.1 ?_
  refine j_callU C rfl (fc_W_V_result V ⟨nle rfl, nle rfl⟩) dj (m_V_result (xL X) hT R _) rfl rfl R.o (by rw [hT.1]; rfl) (nle rfl) (rk hk rfl) (rk hn rfl) ?_
  rintro r w' ⟨rfl, rfl⟩ dj'
  rw [fw_un_comm dj']
  refine j_sld C hX hbl hbA rfl hi.1 ?_
  refine j_callU C rfl (fc_W_D_result V ⟨nle rfl, nle rfl⟩) dj'.symm (m_D_result (xL X) hT I _ _ RD) rfl rfl RD.1 (by rw [hT.1]; rfl) (nle rfl) (rk2 hk rfl) (rk2 hn rfl) ?_
  rintro r w'' ⟨M', ⟨rfl, I'⟩, RD'⟩ dj''
  refine j_icmpT C rfl (decide_eq_true rfl) ?_
  exact kk _ _ _ ⟨_, _, c, s, A, M', fw_un_comm dj'', dj''.symm, rfl, R, RD', (I'.up (Nat.le_add_right _ _))⟩ (rk2 (Nat.le_refl _) rfl) (rk2 (Nat.le_refl _) rfl)
set_option maxRecDepth 20000 in
set_option maxHeartbeats 4000000 in
theorem lw_value (hT : TOK T) (C : fw_ok T (G_W nm) X) (hX : va_X sc N xs (xS X) (xS X).heap) (hbl : sc < (xS X).heap.size) (hbA : ¬ xF X sc) (hi : InS i N) (I : LwI a b B w) (hB : B + 200 < 2 ^ 31) (hk : k + 30 ≤ 600000) (hn : n + 170 ≤ 7302250) (kk : ∀ (w' : fw_W) (k' n' : Nat), LwI a b (B + 200) w' → k' ≤ k + 30 → n' ≤ n + 170 → J T (G_W nm) X 661 (Lw sc a b i) [] w' k' n') : J T (G_W nm) X 536 (Lw sc a b i) [] w k n := by
  have V := hv_W hT nm
  obtain ⟨wC, wM, c, s, A, M, rfl, dj, rfl, R, RD, I⟩ := I
  refine j_sld C hX hbl hbA rfl hi.1 ?_
  refine j_callU C rfl (fc_W_V_value V ⟨nle rfl, nle rfl⟩) dj (m_V_value (xL X) hT R _) rfl rfl R.o (by rw [hT.1]; rfl) (nle rfl) (rk hk rfl) (rk hn rfl) ?_
  rintro r w' ⟨rfl, rfl⟩ dj'
  rw [fw_un_comm dj']
  refine j_sld C hX hbl hbA rfl hi.1 ?_
  refine j_callU C rfl (fc_W_D_value V ⟨nle rfl, nle rfl⟩) dj'.symm (m_D_value (xL X) hT I _ _ RD) rfl rfl RD.1 (by rw [hT.1]; rfl) (nle rfl) (rk2 hk rfl) (rk2 hn rfl) ?_
  rintro r w'' ⟨M', ⟨rfl, I'⟩, RD'⟩ dj''
  refine j_icmpT C rfl (decide_eq_true rfl) ?_
  exact kk _ _ _ ⟨_, _, c, s, A, M', fw_un_comm dj'', dj''.symm, rfl, R, RD', (I'.up (Nat.le_add_right _ _))⟩ (rk2 (Nat.le_refl _) rfl) (rk2 (Nat.le_refl _) rfl)
set_option maxRecDepth 20000 in
set_option maxHeartbeats 4000000 in
theorem lw_queued (hT : TOK T) (C : fw_ok T (G_W nm) X) (hX : va_X sc N xs (xS X) (xS X).heap) (hbl : sc < (xS X).heap.size) (hbA : ¬ xF X sc) (hi : InS i N) (I : LwI a b B w) (hB : B + 200 < 2 ^ 31) (hk : k + 30 ≤ 600000) (hn : n + 170 ≤ 7302250) (kk : ∀ (w' : fw_W) (k' n' : Nat), LwI a b (B + 200) w' → k' ≤ k + 30 → n' ≤ n + 170 → J T (G_W nm) X 661 (Lw sc a b i) [] w' k' n') : J T (G_W nm) X 559 (Lw sc a b i) [] w k n := by
  have V := hv_W hT nm
  obtain ⟨wC, wM, c, s, A, M, rfl, dj, rfl, R, RD, I⟩ := I
  refine j_sld C hX hbl hbA rfl hi.1 ?_
  refine j_callU C rfl (fc_W_V_queued V ⟨nle rfl, nle rfl⟩) dj (m_V_queued (xL X) hT R _) rfl rfl R.o (by rw [hT.1]; rfl) (nle rfl) (rk hk rfl) (rk hn rfl) ?_
  rintro r w' ⟨rfl, rfl⟩ dj'
  rw [fw_un_comm dj']
  refine j_sld C hX hbl hbA rfl hi.1 ?_
  refine j_callU C rfl (fc_W_D_queued V ⟨nle rfl, nle rfl⟩) dj'.symm (m_D_queued (xL X) hT I _ _ RD) rfl rfl RD.1 (by rw [hT.1]; rfl) (nle rfl) (rk2 hk rfl) (rk2 hn rfl) ?_
  rintro r w'' ⟨M', ⟨rfl, I'⟩, RD'⟩ dj''
  refine j_icmpT C rfl (decide_eq_true rfl) ?_
  exact kk _ _ _ ⟨_, _, c, s, A, M', fw_un_comm dj'', dj''.symm, rfl, R, RD', (I'.up (Nat.le_add_right _ _))⟩ (rk2 (Nat.le_refl _) rfl) (rk2 (Nat.le_refl _) rfl)
set_option maxRecDepth 20000 in
set_option maxHeartbeats 4000000 in
theorem lw_next (hT : TOK T) (C : fw_ok T (G_W nm) X) (hX : va_X sc N xs (xS X) (xS X).heap) (hbl : sc < (xS X).heap.size) (hbA : ¬ xF X sc) (hi : InS i N) (I : LwI a b B w) (hB : B + 200 < 2 ^ 31) (hk : k + 30 ≤ 600000) (hn : n + 170 ≤ 7302250) (kk : ∀ (w' : fw_W) (k' n' : Nat), LwI a b (B + 200) w' → k' ≤ k + 30 → n' ≤ n + 170 → J T (G_W nm) X 661 (Lw sc a b i) [] w' k' n') : J T (G_W nm) X 582 (Lw sc a b i) [] w k n := by
  have V := hv_W hT nm
  obtain ⟨wC, wM, c, s, A, M, rfl, dj, rfl, R, RD, I⟩ := I
  refine j_sld C hX hbl hbA rfl hi.1 ?_
  refine j_sld C hX hbl hbA rfl hi.2.1 ?_
  refine j_callU C rfl (fc_W_V_next V ⟨nle rfl, nle rfl⟩) dj (m_V_next (xL X) hT R _ _) rfl rfl R.o (by rw [hT.1]; rfl) (nle rfl) (rk hk rfl) (rk hn rfl) ?_
  rintro r w' ⟨rfl, rfl⟩ dj'
  rw [fw_un_comm dj']
  refine j_sld C hX hbl hbA rfl hi.1 ?_
  refine j_sld C hX hbl hbA rfl hi.2.1 ?_
  refine j_callU C rfl (fc_W_D_next V ⟨nle rfl, nle rfl⟩) dj'.symm (m_D_next (xL X) hT I _ _ _ RD) rfl rfl RD.1 (by rw [hT.1]; rfl) (nle rfl) (rk2 hk rfl) (rk2 hn rfl) ?_
  rintro r w'' ⟨M', ⟨rfl, I'⟩, RD'⟩ dj''
  refine j_icmpT C rfl (decide_eq_true rfl) ?_
  exact kk _ _ _ ⟨_, _, c, s, A, M', fw_un_comm dj'', dj''.symm, rfl, R, RD', (I'.up (Nat.le_add_right _ _))⟩ (rk2 (Nat.le_refl _) rfl) (rk2 (Nat.le_refl _) rfl)
set_option maxRecDepth 20000 in
set_option maxHeartbeats 4000000 in
theorem lw_waiting (hT : TOK T) (C : fw_ok T (G_W nm) X) (hX : va_X sc N xs (xS X) (xS X).heap) (hbl : sc < (xS X).heap.size) (hbA : ¬ xF X sc) (hi : InS i N) (I : LwI a b B w) (hB : B + 200 < 2 ^ 31) (hk : k + 30 ≤ 600000) (hn : n + 170 ≤ 7302250) (kk : ∀ (w' : fw_W) (k' n' : Nat), LwI a b (B + 200) w' → k' ≤ k + 30 → n' ≤ n + 170 → J T (G_W nm) X 661 (Lw sc a b i) [] w' k' n') : J T (G_W nm) X 615 (Lw sc a b i) [] w k n := by
  have V := hv_W hT nm
  obtain ⟨wC, wM, c, s, A, M, rfl, dj, rfl, R, RD, I⟩ := I
  refine j_sld C hX hbl hbA rfl hi.1 ?_
  refine j_callU C rfl (fc_W_V_waiting V ⟨nle rfl, nle rfl⟩) dj (m_V_waiting (xL X) hT R _) rfl rfl R.o (by rw [hT.1]; rfl) (nle rfl) (rk hk rfl) (rk hn rfl) ?_
  rintro r w' ⟨rfl, rfl⟩ dj'
  rw [fw_un_comm dj']
  refine j_sld C hX hbl hbA rfl hi.1 ?_
  refine j_callU C rfl (fc_W_D_waiting V ⟨nle rfl, nle rfl⟩) dj'.symm (m_D_waiting (xL X) hT I _ _ RD) rfl rfl RD.1 (by rw [hT.1]; rfl) (nle rfl) (rk2 hk rfl) (rk2 hn rfl) ?_
  rintro r w'' ⟨M', ⟨rfl, I'⟩, RD'⟩ dj''
  refine j_icmpT C rfl (decide_eq_true rfl) ?_
  exact kk _ _ _ ⟨_, _, c, s, A, M', fw_un_comm dj'', dj''.symm, rfl, R, RD', (I'.up (Nat.le_add_right _ _))⟩ (rk2 (Nat.le_refl _) rfl) (rk2 (Nat.le_refl _) rfl)
set_option maxRecDepth 20000 in
set_option maxHeartbeats 4000000 in
theorem lw_notes (hT : TOK T) (C : fw_ok T (G_W nm) X) (hX : va_X sc N xs (xS X) (xS X).heap) (hbl : sc < (xS X).heap.size) (hbA : ¬ xF X sc) (hi : InS i N) (I : LwI a b B w) (hB : B + 200 < 2 ^ 31) (hk : k + 30 ≤ 600000) (hn : n + 170 ≤ 7302250) (kk : ∀ (w' : fw_W) (k' n' : Nat), LwI a b (B + 200) w' → k' ≤ k + 30 → n' ≤ n + 170 → J T (G_W nm) X 661 (Lw sc a b i) [] w' k' n') : J T (G_W nm) X 638 (Lw sc a b i) [] w k n := by
  have V := hv_W hT nm
  obtain ⟨wC, wM, c, s, A, M, rfl, dj, rfl, R, RD, I⟩ := I
  refine j_sld C hX hbl hbA rfl hi.1 ?_
  refine j_callU C rfl (fc_W_V_notes V ⟨nle rfl, nle rfl⟩) dj (m_V_notes (xL X) hT R _) rfl rfl R.o (by rw [hT.1]; rfl) (nle rfl) (rk hk rfl) (rk hn rfl) ?_
  rintro r w' ⟨rfl, rfl⟩ dj'
  rw [fw_un_comm dj']
  refine j_sld C hX hbl hbA rfl hi.1 ?_
  refine j_callU C rfl (fc_W_D_notes V ⟨nle rfl, nle rfl⟩) dj'.symm (m_D_notes (xL X) hT I _ _ RD) rfl rfl RD.1 (by rw [hT.1]; rfl) (nle rfl) (rk2 hk rfl) (rk2 hn rfl) ?_
  rintro r w'' ⟨M', ⟨rfl, I'⟩, RD'⟩ dj''
  refine j_icmpT C rfl (decide_eq_true rfl) ?_
  exact kk _ _ _ ⟨_, _, c, s, A, M', fw_un_comm dj'', dj''.symm, rfl, R, RD', (I'.up (Nat.le_add_right _ _))⟩ (rk2 (Nat.le_refl _) rfl) (rk2 (Nat.le_refl _) rfl)
set_option maxRecDepth 20000 in
set_option maxHeartbeats 4000000 in
theorem lw_step (hT : TOK T) (C : fw_ok T (G_W nm) X) (hX : va_X sc N xs (xS X) (xS X).heap) (hbl : sc < (xS X).heap.size) (hbA : ¬ xF X sc) (h0 : vp_in i N) (hi : InS i N) (I : LwI a b B w) (hB : B + 200 < 2 ^ 31) (hk : k + 30 ≤ 600000) (hn : n + 170 ≤ 7302250) (kk : ∀ (w' : fw_W) (k' n' : Nat), LwI a b (B + 200) w' → k' ≤ k + 30 → n' ≤ n + 170 → J T (G_W nm) X 661 (Lw sc a b i) [] w' k' n') : J T (G_W nm) X 27 (Lw sc a b i) [] w k n := by
  refine j_sld C hX hbl hbA rfl h0 ?_
  generalize xs i.toNatClampNeg = y
  by_cases h0 : y &&& 31 = 0
  · refine j_tsw (tgt := 124) (o := 91) C rfl (by rw [h0]; decide) (by rw [h0]; decide) (by rw [h0]; rfl) (by decide) ?_
    exact lw_cell hT C hX hbl hbA hi I hB hk hn kk
  by_cases h1 : y &&& 31 = 1
  · refine j_tsw (tgt := 147) (o := 114) C rfl (by rw [h1]; decide) (by rw [h1]; decide) (by rw [h1]; rfl) (by decide) ?_
    exact lw_number hT C hX hbl hbA hi I hB hk hn kk
  by_cases h2 : y &&& 31 = 2
  · refine j_tsw (tgt := 190) (o := 157) C rfl (by rw [h2]; decide) (by rw [h2]; decide) (by rw [h2]; rfl) (by decide) ?_
    exact lw_introduce hT C hX hbl hbA hi I hB hk hn kk
  by_cases h3 : y &&& 31 = 3
  · refine j_tsw (tgt := 233) (o := 200) C rfl (by rw [h3]; decide) (by rw [h3]; decide) (by rw [h3]; rfl) (by decide) ?_
    exact lw_send hT C hX hbl hbA hi I hB hk hn kk
  by_cases h4 : y &&& 31 = 4
  · refine j_tsw (tgt := 296) (o := 263) C rfl (by rw [h4]; decide) (by rw [h4]; decide) (by rw [h4]; rfl) (by decide) ?_
    exact lw_turn hT C hX hbl hbA hi I hB hk hn kk
  by_cases h5 : y &&& 31 = 5
  · refine j_tsw (tgt := 319) (o := 286) C rfl (by rw [h5]; decide) (by rw [h5]; decide) (by rw [h5]; rfl) (by decide) ?_
    exact lw_objects hT C hX hbl hbA hi I hB hk hn kk
  by_cases h6 : y &&& 31 = 6
  · refine j_tsw (tgt := 332) (o := 299) C rfl (by rw [h6]; decide) (by rw [h6]; decide) (by rw [h6]; rfl) (by decide) ?_
    exact lw_kind hT C hX hbl hbA hi I hB hk hn kk
  by_cases h7 : y &&& 31 = 7
  · refine j_tsw (tgt := 355) (o := 322) C rfl (by rw [h7]; decide) (by rw [h7]; decide) (by rw [h7]; rfl) (by decide) ?_
    exact lw_home hT C hX hbl hbA hi I hB hk hn kk
  by_cases h8 : y &&& 31 = 8
  · refine j_tsw (tgt := 378) (o := 345) C rfl (by rw [h8]; decide) (by rw [h8]; decide) (by rw [h8]; rfl) (by decide) ?_
    exact lw_what hT C hX hbl hbA hi I hB hk hn kk
  by_cases h9 : y &&& 31 = 9
  · refine j_tsw (tgt := 411) (o := 378) C rfl (by rw [h9]; decide) (by rw [h9]; decide) (by rw [h9]; rfl) (by decide) ?_
    exact lw_which hT C hX hbl hbA hi I hB hk hn kk
  by_cases h10 : y &&& 31 = 10
  · refine j_tsw (tgt := 444) (o := 411) C rfl (by rw [h10]; decide) (by rw [h10]; decide) (by rw [h10]; rfl) (by decide) ?_
    exact lw_detail hT C hX hbl hbA hi I hB hk hn kk
  by_cases h11 : y &&& 31 = 11
  · refine j_tsw (tgt := 477) (o := 444) C rfl (by rw [h11]; decide) (by rw [h11]; decide) (by rw [h11]; rfl) (by decide) ?_
    exact lw_messages hT C hX hbl hbA hi I hB hk hn kk
  by_cases h12 : y &&& 31 = 12
  · refine j_tsw (tgt := 490) (o := 457) C rfl (by rw [h12]; decide) (by rw [h12]; decide) (by rw [h12]; rfl) (by decide) ?_
    exact lw_place hT C hX hbl hbA hi I hB hk hn kk
  by_cases h13 : y &&& 31 = 13
  · refine j_tsw (tgt := 513) (o := 480) C rfl (by rw [h13]; decide) (by rw [h13]; decide) (by rw [h13]; rfl) (by decide) ?_
    exact lw_result hT C hX hbl hbA hi I hB hk hn kk
  by_cases h14 : y &&& 31 = 14
  · refine j_tsw (tgt := 536) (o := 503) C rfl (by rw [h14]; decide) (by rw [h14]; decide) (by rw [h14]; rfl) (by decide) ?_
    exact lw_value hT C hX hbl hbA hi I hB hk hn kk
  by_cases h15 : y &&& 31 = 15
  · refine j_tsw (tgt := 559) (o := 526) C rfl (by rw [h15]; decide) (by rw [h15]; decide) (by rw [h15]; rfl) (by decide) ?_
    exact lw_queued hT C hX hbl hbA hi I hB hk hn kk
  by_cases h16 : y &&& 31 = 16
  · refine j_tsw (tgt := 582) (o := 549) C rfl (by rw [h16]; decide) (by rw [h16]; decide) (by rw [h16]; rfl) (by decide) ?_
    exact lw_next hT C hX hbl hbA hi I hB hk hn kk
  by_cases h17 : y &&& 31 = 17
  · refine j_tsw (tgt := 615) (o := 582) C rfl (by rw [h17]; decide) (by rw [h17]; decide) (by rw [h17]; rfl) (by decide) ?_
    exact lw_waiting hT C hX hbl hbA hi I hB hk hn kk
  by_cases h18 : y &&& 31 = 18
  · refine j_tsw (tgt := 638) (o := 605) C rfl (by rw [h18]; decide) (by rw [h18]; decide) (by rw [h18]; rfl) (by decide) ?_
    exact lw_notes hT C hX hbl hbA hi I hB hk hn kk
  have n0 := ne_int (k := 0) (z := 0) (by decide) h0
  have n1 := ne_int (k := 1) (z := 1) (by decide) h1
  have n2 := ne_int (k := 2) (z := 2) (by decide) h2
  have n3 := ne_int (k := 3) (z := 3) (by decide) h3
  have n4 := ne_int (k := 4) (z := 4) (by decide) h4
  have n5 := ne_int (k := 5) (z := 5) (by decide) h5
  have n6 := ne_int (k := 6) (z := 6) (by decide) h6
  have n7 := ne_int (k := 7) (z := 7) (by decide) h7
  have n8 := ne_int (k := 8) (z := 8) (by decide) h8
  have n9 := ne_int (k := 9) (z := 9) (by decide) h9
  have n10 := ne_int (k := 10) (z := 10) (by decide) h10
  have n11 := ne_int (k := 11) (z := 11) (by decide) h11
  have n12 := ne_int (k := 12) (z := 12) (by decide) h12
  have n13 := ne_int (k := 13) (z := 13) (by decide) h13
  have n14 := ne_int (k := 14) (z := 14) (by decide) h14
  have n15 := ne_int (k := 15) (z := 15) (by decide) h15
  have n16 := ne_int (k := 16) (z := 16) (by decide) h16
  have n17 := ne_int (k := 17) (z := 17) (by decide) h17
  have n18 := ne_int (k := 18) (z := 18) (by decide) h18
  refine j_tsd (tgt := 661) C rfl (by omega) (by decide) ?_
  obtain ⟨wC, wM, c, s, A, M, e, dj, h1, R, RD, I⟩ := I
  exact kk _ _ _ ⟨wC, wM, c, s, A, M, e, dj, h1, R, RD, I.up (Nat.le_add_right _ _)⟩ (Nat.le_add_right _ _) (Nat.le_add_right _ _)
end LWC
