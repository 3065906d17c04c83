section FWR4
variable {T : fw_T} {G : fw_G} {X : fw_X} {w : fw_W} {k n : Nat}
theorem j_aaldI (C : fw_ok T G X) {pc pc' len nx tg t N a : Nat} {v i : Int32} {Cn : String} {f : Nat → Option Nat} {L L' : List (Option fw_V)} {S S' : List fw_V} (h : fw_go (fw_from (gT G) pc) L S = some ((pc', .aaload, len, nx, tg, v), L', .inl i :: .inr (some a) :: S')) (hw : w a = some (.inl (t, N, .inr f))) (ht : fw_ar T t (.object Cn)) (q : Nat) (hi : i = nI q) (hq : q < N) (hN : N < 2147483648)
    (kk : J T G X nx L' (.inr (f q) :: S') w k n) : J T G X pc L S w k n := by
  subst hi
  refine j_aald C h hw ht (vp_in_nI hq (by omega)) ?_
  rw [nI_clamp (by omega)]
  exact kk
theorem j_aastI (C : fw_ok T G X) {pc pc' len nx tg t N a : Nat} {v i : Int32} {r : Option Nat} {Cn : String} {f : Nat → Option Nat} {L L' : List (Option fw_V)} {S S' : List fw_V} (h : fw_go (fw_from (gT G) pc) L S = some ((pc', .aastore, len, nx, tg, v), L', .inr r :: .inl i :: .inr (some a) :: S')) (hw : w a = some (.inl (t, N, .inr f))) (ht : fw_ar T t (.object Cn)) (q : Nat) (hi : i = nI q) (hq : q < N) (hN : N < 2147483648) (hr : fw_put T w Cn r)
    (kk : J T G X nx L' S' (va_up w a (some (.inl (t, N, .inr (va_up f q r))))) k n) : J T G X pc L S w k n := by
  subst hi
  refine j_aast C h hw ht (vp_in_nI hq (by omega)) hr ?_
  rw [nI_clamp (by omega)]
  exact kk
theorem j_ialdI (C : fw_ok T G X) {pc pc' len nx tg t N a : Nat} {v i : Int32} {f : Nat → Int32} {L L' : List (Option fw_V)} {S S' : List fw_V} (h : fw_go (fw_from (gT G) pc) L S = some ((pc', .iaload, len, nx, tg, v), L', .inl i :: .inr (some a) :: S')) (hw : w a = some (.inl (t, N, .inl f))) (ht : fw_ar T t .int) (q : Nat) (hi : i = nI q) (hq : q < N) (hN : N < 2147483648)
    (kk : J T G X nx L' (.inl (f q) :: S') w k n) : J T G X pc L S w k n := by
  subst hi
  refine j_iald C h hw ht (vp_in_nI hq (by omega)) ?_
  rw [nI_clamp (by omega)]
  exact kk
theorem j_iastI (C : fw_ok T G X) {pc pc' len nx tg t N a : Nat} {v i x : Int32} {f : Nat → Int32} {L L' : List (Option fw_V)} {S S' : List fw_V} (h : fw_go (fw_from (gT G) pc) L S = some ((pc', .iastore, len, nx, tg, v), L', .inl x :: .inl i :: .inr (some a) :: S')) (hw : w a = some (.inl (t, N, .inl f))) (ht : fw_ar T t .int) (q : Nat) (hi : i = nI q) (hq : q < N) (hN : N < 2147483648)
    (kk : J T G X nx L' S' (va_up w a (some (.inl (t, N, .inl (va_up f q x))))) k n) : J T G X pc L S w k n := by
  subst hi
  refine j_iast C h hw ht (vp_in_nI hq (by omega)) ?_
  rw [nI_clamp (by omega)]
  exact kk
def fw_cb (c : Jvm.ClassFile.Cond) (x y : Int32) : Bool := match c with
  | .eq => decide (x = y)
  | .ne => !decide (x = y)
  | .lt => decide (x < y)
  | .ge => decide (y ≤ x)
  | .gt => decide (y < x)
  | .le => decide (x ≤ y)
theorem fw_cb_iff {c : Jvm.ClassFile.Cond} {x y : Int32} : fw_cb c x y = true ↔ fw_cmp c x y := by cases c <;> simp [fw_cb, fw_cmp]
theorem j_icmpT (C : fw_ok T G X) {pc pc' len nx tg : Nat} {v x y : Int32} {cd : Jvm.ClassFile.Cond} {o : Int} {L L' : List (Option fw_V)} {S S' : List fw_V} (h : fw_go (fw_from (gT G) pc) L S = some ((pc', .if_icmp cd o, len, nx, tg, v), L', .inl y :: .inl x :: S')) (hb : fw_cb cd x y = true) (kt : J T G X tg L' S' w k n) : J T G X pc L S w k n := j_icmp C h (fun _ => kt) (fun q => absurd (fw_cb_iff.mp hb) q)
theorem j_icmpF (C : fw_ok T G X) {pc pc' len nx tg : Nat} {v x y : Int32} {cd : Jvm.ClassFile.Cond} {o : Int} {L L' : List (Option fw_V)} {S S' : List fw_V} (h : fw_go (fw_from (gT G) pc) L S = some ((pc', .if_icmp cd o, len, nx, tg, v), L', .inl y :: .inl x :: S')) (hb : fw_cb cd x y = false) (kf : J T G X nx L' S' w k n) : J T G X pc L S w k n := j_icmp C h (fun q => by rw [fw_cb_iff.mpr q] at hb; cases hb) (fun _ => kf)
theorem j_ifT (C : fw_ok T G X) {pc pc' len nx tg : Nat} {v x : Int32} {cd : Jvm.ClassFile.Cond} {o : Int} {L L' : List (Option fw_V)} {S S' : List fw_V} (h : fw_go (fw_from (gT G) pc) L S = some ((pc', .ifCond cd o, len, nx, tg, v), L', .inl x :: S')) (hb : fw_cb cd x 0 = true) (kt : J T G X tg L' S' w k n) : J T G X pc L S w k n := j_if C h (fun _ => kt) (fun q => absurd (fw_cb_iff.mp hb) q)
theorem j_ifF (C : fw_ok T G X) {pc pc' len nx tg : Nat} {v x : Int32} {cd : Jvm.ClassFile.Cond} {o : Int} {L L' : List (Option fw_V)} {S S' : List fw_V} (h : fw_go (fw_from (gT G) pc) L S = some ((pc', .ifCond cd o, len, nx, tg, v), L', .inl x :: S')) (hb : fw_cb cd x 0 = false) (kf : J T G X nx L' S' w k n) : J T G X pc L S w k n := j_if C h (fun q => by rw [fw_cb_iff.mpr q] at hb; cases hb) (fun _ => kf)
theorem put_ref {T : fw_T} (hT : TOK T) {w : fw_W} {b : Nat} {r : Rf} (h : IsR w b r) : fw_put T w R_R (some b) := Or.inr ⟨b, kR, 2, F_R, _, rfl, h, by rw [hT.1]; rfl⟩
theorem put_obj {T : fw_T} (hT : TOK T) {w : fw_W} {b ci N : Nat} {s : String} {Tb : u_T} {fs : List fw_V} (h : w b = some (.inr (ci, fs))) (hc : cls[ci]? = some (s, Tb, N)) : fw_put T w s (some b) := Or.inr ⟨b, ci, N, Tb, _, rfl, h, by rw [hT.1]; exact hc⟩
end FWR4
