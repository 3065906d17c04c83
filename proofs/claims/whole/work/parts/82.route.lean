/-! Routing, as a whole, on both sides. -/
section RT2
variable {ph : Nat → Rf} {s : St} {M : Md} {B : Nat}
theorem LX.mono {w : Nat → Rf} {ex : Nat → Prop} {ln : Nat → List Nat} {B' : Nat} (h : LX ph s M ex ln w B) (hB : B ≤ B') : LX ph s M ex ln w B' := by
  obtain ⟨h1, h2, h3, S, a, b⟩ := h
  exact ⟨h1, h2, h3, S, by omega, b⟩
theorem LI.mono {B' : Nat} (h : LI ph s M B) (hB : B ≤ B') : LI ph s M B' := ⟨h.1, h.2.mono hB⟩
theorem settleAll (S : Sm ph s M) {j : Nat} (hj : j < sK s) (h : LX ph s M (fun i => i = j) (sL s) w0 B) (h3 : sL s 3 = []) (hN : mN (sM s j) = none) {r a : Rf} (hra : RA ph (sN s) (sK s) r a) (hB : B + 200 < 2 ^ 31) {f : Nat} (hf : 199 ≤ f) : Cas (sK s) (fun M' => ∃ ph', Sm ph' (rAll f (settleS s j r)) M' ∧ LI ph' (rAll f (settleS s j r)) M' (B + 200)) 200 (mSettle M j a (can ph a)) := by
  have k200 := S.k200
  obtain ⟨S1, h1, h21, hVx, hxj, hjl⟩ := settle_ok S hj h hN hra
  have h21 : ¬ (mSettle M j a (can ph a)).2 21 j = 0 := by rw [h21]; decide
  generalize stX ph j r = xd at *
  generalize phS ph j xd = ph1 at *
  generalize mSettle M j a (can ph a) = M1 at *
  have hl3 : sL (settleS s j r) 3 = sL s (4 + j) := by
    show va_up (va_up (sL s) 3 (sL s 3 ++ sL s (4 + j))) (4 + j) [] 3 = _
    rw [va_up_ne _ _ (by omega), va_up_self, h3]; rfl
  have hl4 : sL (settleS s j r) (4 + j) = [] := va_up_self _ _ _
  have hlo : ∀ i, i ≠ 3 → i ≠ 4 + j → sL (settleS s j r) i = sL s i := fun i a b => by
    show va_up (va_up (sL s) 3 (sL s 3 ++ sL s (4 + j))) (4 + j) [] i = _
    rw [va_up_ne _ _ b, va_up_ne _ _ a]
  by_cases hx : xd.1 = 2 ∨ xd.1 = 3
  · have hlen : (sL s (4 + j)).length ≤ 199 := by
      have hnd : (sL s (4 + j)).Nodup := (h1.1.2 (4 + j)).imp (fun {a b} q e => by subst e; exact Int32.lt_irrefl q)
      have := ln_len (l := j :: sL s (4 + j)) (k := sK s) (List.nodup_cons.mpr ⟨hjl _, hnd⟩) (fun e he => by
        rcases List.mem_cons.mp he with rfl | he
        · exact hj
        · exact ((h1.1.1 _ e).mp he).1)
      simp only [List.length_cons] at this
      omega
    have hfun : va_up (va_up (sL (settleS s j r)) 3 []) (4 + j) (sL s (4 + j)) = sL s := by
      funext i
      by_cases h4 : i = 4 + j
      · subst h4; rw [va_up_self]
      · rw [va_up_ne _ _ h4]
        by_cases hi : i = 3
        · subst hi; rw [va_up_self, h3]
        · rw [va_up_ne _ _ hi]; exact hlo i hi h4
    have := casA (ph := ph1) (jj := j) (xd := xd) hx hxj (sL s (4 + j)) (settleS s j r) M1 B f S1 hVx (fun q => vR_eq hVx.1 q) hl3 hl4 (by rw [hfun]; exact h1) hj h21 (by omega) (by omega)
    exact Cas.mono (fun M' ⟨ph', a1, a2⟩ => ⟨ph', a1, a2.mono (by omega)⟩) (by omega) this
  · have hs : settleS s j r = stC (settleS s j r) (sL s) j [] (sL s (4 + j)) := by
      refine Prod.ext rfl (Prod.ext rfl (Prod.ext rfl (Prod.ext (funext fun m => show sM (settleS s j r) m = (if m ∈ [] then mAns (sM (settleS s j r) m) rB else sM (settleS s j r) m) from (if_neg List.not_mem_nil).symm) (funext fun i => ?_))))
      show sL (settleS s j r) i = if i = 3 then sL s (4 + j) else if i = 4 + j ∨ (4 ≤ i ∧ i - 4 ∈ []) then [] else sL s i
      by_cases hi : i = 3
      · subst hi; rw [if_pos rfl]; exact hl3
      · rw [if_neg hi]
        by_cases h4 : i = 4 + j
        · subst h4; rw [if_pos (Or.inl rfl)]; exact hl4
        · rw [if_neg (fun q => q.elim h4 (fun z => by cases z.2))]; exact hlo i hi h4
    have hnd : (sL s (4 + j)).Nodup := (h1.1.2 (4 + j)).imp (fun {a b} q e => by subst e; exact Int32.lt_irrefl q)
    obtain ⟨D, hD, hI⟩ := casC_cl S1 h1 hjl hj (fun q => hx (Or.inl q)) (fun q => hx (Or.inr q)) f [] (sL s (4 + j)) ⟨hnd, trivial, fun m hm => ⟨j, Or.inl rfl, hm⟩, fun x hx m hm => Or.inr (by rcases hx with rfl | hx; exact hm; cases hx)⟩ (by show sK s ≤ _; simp only [List.length_nil]; omega)
    rw [← hs] at hD
    have := casC_md S1 h1 h3 hj h21 hjl (fun q => hx (Or.inl q)) (fun q => hx (Or.inr q)) hI (sK s) [] M1 ME.rf List.nodup_nil (fun e he => by cases he) (Nat.zero_add _)
    rw [hD]
    exact Cas.mono (fun M' ⟨ph', a1, a2⟩ => ⟨ph', a1, a2.mono (by omega)⟩) k200 this
theorem routeOk (S : Sm ph s M) {j : Nat} (hj : j < sK s) (h : LX ph s M (fun i => i = j) (sL s) w0 B) (h3 : sL s 3 = []) (hN : mN (sM s j) = none) (hB : B + 200 < 2 ^ 31) : Cas (sK s) (fun M' => ∃ ph', Sm ph' (rAll 199 (routeS s j)) M' ∧ LI ph' (rAll 199 (routeS s j)) M' (B + 200)) 200 (mDir M j (can ph (mT (sM s j)))) := by
  have k200 := S.k200
  have n40 := S.n40
  have hmm := S.m hj
  have hV := hmm.2.2.1.1.can S.hp k200
  have htE := S.tOfE hmm.2.2.1.1
  have haE := S.aOfE hmm.2.2.1.1
  generalize hct : can ph (mT (sM s j)) = xd at *
  have step : ∀ (p x : Int32) (i0 : Nat), (p = 1 ∨ p = 2) → (if p = 1 then some x.toNatClampNeg else if p = 2 then some (4 + x.toNatClampNeg) else none) = some i0 → ((p = 1 ∧ (can ph (mT (sM s j))).1 = 2 ∧ ∃ v, v < 3 ∧ x = nI v) ∨ (p = 2 ∧ ∃ y, y < sK s ∧ x = nI y ∧ can ph (mT (sM s j)) = w0 y)) → i0 ≠ 3 → mDir M j xd = mStand (mHold M xd.1 xd.2) j p x → routeS s j = (sN s, sT s, sK s, va_up (sM s) j (mPl (sM s j) p), va_up (sL s) i0 (sL s i0 ++ [j])) → Cas (sK s) (fun M' => ∃ ph', Sm ph' (rAll 199 (routeS s j)) M' ∧ LI ph' (rAll 199 (routeS s j)) M' (B + 200)) 200 (mDir M j xd) := by
    intro p x i0 hp hloc hPL hi3 hdir hrt
    rw [hdir, hrt]
    obtain ⟨S', h'⟩ := stand_ok (sl := va_up (sL s) i0 (sL s i0 ++ [j])) (a := xd.1) (b := xd.2) S hj h (by omega) hN hp hloc hPL
    have hl3 : va_up (sL s) i0 (sL s i0 ++ [j]) 3 = [] := by rw [va_up_ne _ _ (Ne.symm hi3)]; exact h3
    have hLI : LI ph (sN s, sT s, sK s, va_up (sM s) j (mPl (sM s j) p), va_up (sL s) i0 (sL s i0 ++ [j])) (mStand (mHold M xd.1 xd.2) j p x) (B + 1) := ⟨hl3, h'⟩
    rw [rAll_nil (s := (sN s, sT s, sK s, va_up (sM s) j (mPl (sM s j) p), va_up (sL s) i0 (sL s i0 ++ [j]))) hl3]
    have hrn := hLI.relNone S'
    have hpr := h'.pre S'
    refine Cas.mono (n := 0) (fun M' q => q) (by omega) ⟨hpr, hrn, ph, S', hLI.mono (by omega)⟩
  by_cases h2 : xd.1 = 2
  · obtain ⟨i, hi, e⟩ := hV.2.1 h2
    obtain ⟨v, hv, ev⟩ := (S.gd i hi).2.2
    have hhm := (S.tt hi).2.2.1
    refine step 1 (nI v) v (Or.inl rfl) (by rw [if_pos rfl, nI_clamp (by omega)]) (Or.inl ⟨rfl, by rw [hct]; exact h2, v, hv, rfl⟩) (by omega) ?_ ?_
    · unfold mDir; rw [if_pos h2, e, nI_clamp (by omega), hhm, ev]
    · unfold routeS
      rw [show tOf s (mT (sM s j)) = some i by rw [htE, if_pos h2, e, nI_clamp (by omega)]]
      dsimp only
      rw [ev, nI_clamp (by omega)]
  · by_cases h3' : xd.1 = 3
    · obtain ⟨y, hy, rfl⟩ := vR_eq hV.1 h3'
      refine step 2 (nI y) (4 + y) (Or.inr rfl) (by rw [nI_clamp (by omega)]; rfl) (Or.inr ⟨rfl, y, hy, rfl, hct⟩) (by omega) rfl ?_
      unfold routeS
      rw [show tOf s (mT (sM s j)) = none by rw [htE]; rfl, show aOf s (mT (sM s j)) = some y by rw [haE, if_pos h3', show ((3, nI y) : Rf).2.toNatClampNeg = y from nI_clamp (by omega)]]
    · have := settleAll S hj h h3 hN (r := rB) (a := rB) (RR.same VV.brk).a hB (f := 199) (Nat.le_refl _)
      rw [can_n (r := rB) (by decide)] at this
      rw [show mDir M j xd = mSettle M j rB rB by unfold mDir; rw [if_neg h2, if_neg h3']]
      rw [show routeS s j = settleS s j rB by unfold routeS; rw [show tOf s (mT (sM s j)) = none by rw [htE, if_neg h2], show aOf s (mT (sM s j)) = none by rw [haE, if_neg h3']]]
      exact this
end RT2
section DRO
variable {T : fw_T} {b : Nat} {A : Nat → Nat} {M : Md} {ph : Nat → Rf} {k : Nat} {Q : Md → Prop}
theorem m_D_route (l : Launch) (hT : TOK T) (hc : CH k ph (dAns M)) (hk : k ≤ 200) {m n : Nat} (hm : m < k) (hv : vR k (M.2 16 m, M.2 17 m)) (ho : (can ph (M.2 16 m, M.2 17 m)).1 = 2 → ∃ i, i < 40 ∧ (can ph (M.2 16 m, M.2 17 m)).2 = nI i) (hC : Cas k Q n (mDir M m (can ph (M.2 16 m, M.2 17 m)))) : CtD l T y_D_route W_D_route rm_D_route b A [.inr (some b), .inl (nI m)] M (fun r M' => r = none ∧ Q M') := by
  intro w R
  refine ct_D_route rfl (nle rfl) ?_
  intro X hl C E
  have V := hv_D_route hT
  suffices JD T G_D_route X b A 0 [some (.inr (some b)), some (.inl (nI m)), none] [] M from this w R
  have loop : ∀ n M', Cas k Q n M' → JD T G_D_route X b A 10 [some (.inr (some b)), some (.inl (nI m)), some (.inl (iO (relN k M')))] [] M' := by
    intro n
    induction n with
    | zero =>
      rintro M' ⟨-, h2, h3⟩
      rw [h2]
      refine jd_ifT C rfl rfl ?_
      exact jd_vret C E rfl rfl ⟨rfl, h3⟩
    | succ n ih =>
      rintro M' ⟨h1, h⟩
      rcases h with ⟨h2, h3⟩ | ⟨x, ph', h2, c1, c2, c3, c4⟩
      · rw [h2]
        refine jd_ifT C rfl rfl ?_
        exact jd_vret C E rfl rfl ⟨rfl, h3⟩
      · rw [h2]
        have hx := (mnF_some h2).1
        refine jd_ifF C rfl (Bool.eq_false_iff.mpr fun q => nI_pos (n := x) (by omega) (fw_cb_iff.mp q)) ?_
        refine jd_call C hT rfl (fc_D_D_direct V (by decide)) (m_D_direct _ hT c1 hk (m := x) (by omega) c2 c3) (As := [.inl (nI x)]) rfl rfl rfl (nle rfl) rfl rfl ?_
        rintro r M2 ⟨rfl, rfl⟩
        have hp : LoopPre k (mDir M' x (can ph' (M'.2 16 x, M'.2 17 x))) := by cases n <;> exact c4.1
        refine jd_call C hT rfl (fc_D_D_released V (by decide)) (m_D_released _ hT hp.1 hk hp.2) (As := []) rfl rfl rfl (nle rfl) rfl rfl ?_
        rintro r M2 ⟨rfl, rfl⟩
        refine jd_goto C rfl ?_
        exact ih _ c4
  refine jd_call C hT rfl (fc_D_D_direct V (by decide)) (m_D_direct _ hT hc hk (m := m) (by omega) hv ho) (As := [.inl (nI m)]) rfl rfl rfl (nle rfl) rfl rfl ?_
  rintro r M2 ⟨rfl, rfl⟩
  have hp : LoopPre k (mDir M m (can ph (M.2 16 m, M.2 17 m))) := by cases n <;> exact hC.1
  refine jd_call C hT rfl (fc_D_D_released V (by decide)) (m_D_released _ hT hp.1 hk hp.2) (As := []) rfl rfl rfl (nle rfl) rfl rfl ?_
  rintro r M2 ⟨rfl, rfl⟩
  exact jd_to C 10 rfl (loop n _ hC)
end DRO
