/-! THE RELATION KEPT: act -/
def RK (σ ρ : sS) (ns na : Nat) : Prop := na ≤ 60 ∧ okA σ ∧ R6 σ ns na ∧ gA σ 16 = gA ρ 8 ∧ gA σ 17 = gA ρ 9 ∧ gA σ 18 = gA ρ 10 ∧ gA σ 19 = gA ρ 11 ∧ gA σ 20 = gA ρ 12
section PP
variable {σ ρ : sS} {n ns na : Nat}
theorem RelN.rk (h : RelN σ ρ n ns na) : RK σ ρ ns na := ⟨h.a60, h.okc, h.r6, h.r1.2.2.2.2.2.1, h.r1.2.2.2.2.2.2.1, h.r1.2.2.2.2.2.2.2.1, h.r1.2.2.2.2.2.2.2.2.1, h.r1.2.2.2.2.2.2.2.2.2.1⟩
theorem RK.of {σ' ρ' : sS} (h : RK σ ρ ns na) (a : eqS σ σ') (e8 : gA ρ' 8 = gA ρ 8) (e9 : gA ρ' 9 = gA ρ 9) (e10 : gA ρ' 10 = gA ρ 10) (e11 : gA ρ' 11 = gA ρ 11) (e12 : gA ρ' 12 = gA ρ 12) : RK σ' ρ' ns na := by
  obtain ⟨h1, h2, h3, h4, h5, h6, h7, h8⟩ := h
  have c16 := a.1 16 (by decide) (by decide) (by decide) (by decide) (by decide)
  have c17 := a.1 17 (by decide) (by decide) (by decide) (by decide) (by decide)
  have c18 := a.1 18 (by decide) (by decide) (by decide) (by decide) (by decide)
  have c19 := a.1 19 (by decide) (by decide) (by decide) (by decide) (by decide)
  have c20 := a.1 20 (by decide) (by decide) (by decide) (by decide) (by decide)
  refine ⟨h1, h2.of c16 c17 c18 c19, h3.up c16 c17 c18 c19 (Nat.le_refl _) c20, ?_, ?_, ?_, ?_, ?_⟩
  · rw [c16, e8, h4]
  · rw [c17, e9, h5]
  · rw [c18, e10, h6]
  · rw [c19, e11, h7]
  · rw [c20, e12, h8]
theorem know_itK (h : RK σ ρ ns na) {s : Nat} (hs : s < 8) {W : Int64} {w : Int32} (hW : ∀ k, k < na → btL W k = isKnownR ρ n w k) : ∀ k, k ≤ na → Kn (stC σ) s k (itr (addStep W) k (forgetC σ)) (itr (fkStep n w s) k (false, fk0 ρ)).2 (itr (fkStep n w s) k (false, fk0 ρ)).1
  | 0, _ => Kn_0 σ ρ _ hs
  | k + 1, hk => by
    have ih := know_itK h hs hW k (by omega)
    obtain ⟨h60, okc, hr6, q8, q9, q10, q11, q12⟩ := h
    have eτ := eqK_it σ W k
    have eυ := eqR_fkI ρ n w s k
    rw [itr_s, itr_s]
    generalize itr (addStep W) k (forgetC σ) = τ at ih eτ ⊢
    generalize itr (fkStep n w s) k (false, fk0 ρ) = q at ih eυ ⊢
    obtain ⟨f, υ⟩ := q
    have a16 : gA τ 16 = gA σ 16 := eτ.1 16 (by decide) (by decide) (by decide)
    have a17 : gA τ 17 = gA σ 17 := eτ.1 17 (by decide) (by decide) (by decide)
    have a18 : gA τ 18 = gA σ 18 := eτ.1 18 (by decide) (by decide) (by decide)
    have a19 : gA τ 19 = gA σ 19 := eτ.1 19 (by decide) (by decide) (by decide)
    have a20 : gA τ 20 = gA σ 20 := eτ.1 20 (by decide) (by decide) (by decide)
    have ek : kdC τ k = kdC σ k := by unfold kdC; rw [a16]
    have es : stC τ k = stC σ k := by unfold stC; rw [a17]
    have ed : doC τ k = doC σ k := by unfold doC; rw [a18]
    have eo : otC τ k = otC σ k := by unfold otC; rw [a19]
    have hkd := (okc.1 k (by omega)).2
    have hst := (okc.2.1 k (by omega)).2
    have hdo := (okc.2.2.1 k (by omega)).2
    have hot := (okc.2.2.2 k (by omega)).2
    have h4 := (hr6 k (by omega)).2.1
    have hT := Kn_T (k := k) ih
    have eυ' : eqR ρ (fkT k υ) := eυ.trans (eqR_fkT k υ)
    have rk : kdR (fkT k υ) k = kdC σ k := by unfold kdR kdC; rw [eυ'.1 8 (by decide), q8]
    have rs : stR υ k = stC σ k := by unfold stR stC; rw [eυ.1 9 (by decide), q9]
    have rd : doR (fkT k υ) k = doC σ k := by unfold doR doC; rw [eυ'.1 10 (by decide), q10]
    have ro' : otR (fkT k υ) k = otC σ k := by unfold otR otC; rw [eυ'.1 11 (by decide), q11]
    have r12 : gA (fkT k υ) 12 = gA τ 20 := by rw [a20, q12]; exact eυ'.1 12 (by decide)
    unfold addStep fkStep
    rw [hW k (by omega), rs, isKnown_eq ρ (fkT k υ) eυ' n w k]
    by_cases cs : stC σ k = s
    · rw [if_pos cs]
      by_cases ck : isKnownR ρ n w k = true
      · rw [if_pos ck, show (if isKnownR ρ n w k = true ∧ agreesC τ k = true then takeC (pL τ 1 (gL τ 1 ||| oneL k)) k else τ) = if agreesC τ k = true then takeC (pL τ 1 (gL τ 1 ||| oneL k)) k else τ by
          by_cases z : agreesC τ k = true
          · rw [if_pos ⟨ck, z⟩, if_pos z]
          · rw [if_neg (fun q => z q.2), if_neg z]]
        exact Kn_same hT hs (by omega) (es.trans cs) cs (by rw [ed]; exact hdo) (by rw [ek]; exact hkd) (by rw [ek, eo]; exact hot.2) (fun z => by
          rw [ek] at z
          rw [eo]
          exact ⟨(h4 z).1, (h4 z).2.2.1.trans cs⟩) (rk.trans ek.symm) (rd.trans ed.symm) (ro'.trans eo.symm) r12
      · rw [if_neg ck, if_neg (fun q => ck q.1)]
        exact hT
    · rw [if_neg cs]
      by_cases ck : isKnownR ρ n w k = true ∧ agreesC τ k = true
      · rw [if_pos ck]
        exact Kn_other hT hs (by omega) es cs hst (by rw [ed]; exact hdo) (by rw [ek]; exact hkd) (by rw [ek, eo]; exact hot.2) (fun z => by
          rw [ek] at z
          rw [eo]
          exact ⟨(h4 z).1, (h4 z).2.2.1⟩)
      · rw [if_neg ck]
        exact hT
theorem know_eqK (h : RK σ ρ ns na) {s : Nat} (hs : s < 8) {W : Int64} {w : Int32} (hW : ∀ k, k < na → btL W k = isKnownR ρ n w k) : Kn (stC σ) s na (addUpC σ na W) (fkS ρ n na w s) (fkC ρ n na w s).1 := know_itK h hs hW na (Nat.le_refl _)
/-- the new act, before anybody knows it -/
theorem act5_21 {s a : Nat} {kd b x y : Int32} : gA (act5 σ na kd s a b x y) 21 = upd (gA σ 21) na (gI σ 0) := by
  unfold act5 act3 act2
  dsimp only
  split <;> split <;> rfl
theorem act5_22 {s a : Nat} {kd b x y : Int32} : gA (act5 σ na kd s a b x y) 22 = upd (gA σ 22) na (y ||| one a) := by
  unfold act5 act3 act2
  dsimp only
  split <;> split <;> rfl
theorem act5_b {s a : Nat} {kd b x y : Int32} (k : Nat) : gB (act5 σ na kd s a b x y) k = if k = 23 then vp_updL (gB σ 23) s (gB σ 23 s ||| oneL na) else gB σ k := by
  unfold act5 act3 act2
  dsimp only
  split <;> split <;> rfl
theorem act5_l {s a : Nat} {kd b x y : Int32} (k : Nat) : gL (act5 σ na kd s a b x y) k = gL σ k := by
  unfold act5 act3 act2
  dsimp only
  split <;> split <;> rfl
theorem act5_rel (h : RelN σ ρ n ns na) (h60 : na < 60) {s a : Nat} {kd b x y : Int32} (hs : s < ns) (ha : a < n) (hd : isDoableB σ kd s a b x = true) (hA : isActB ρ n kd (nI s) (nI a) b x y = true) : RelN (act5 σ na kd s a b x y) (act5Q ρ na kd s a b x y) n ns (na + 1) := by
  have h8 := h.s8
  have h16 := h.n16
  have hic := IC_act5 (y := y) h.ic h60 (show s < 8 by omega) (show a < 16 by omega) hd
  have hir := IR_act5 (y := y) h.ir h60 (show s < 8 by omega) (show a < 16 by omega) hA
  obtain ⟨j, hj, rfl⟩ := doable_kd hd
  have hz := h.ic.2.2.2.2.2.2.2.1 na (Nat.le_refl _)
  have eHand : (isHandB (nI j) = true) ↔ (inB (nI j) 1 3 = true) := (isHand_nI hj).trans (inB13 hj).symm
  have e4 : (nI j = 4) ↔ j = 4 := nI_eq (b := 4) (by omega) (by decide)
  have eA : ∀ k, k ≠ 16 → k ≠ 17 → k ≠ 18 → k ≠ 19 → k ≠ 20 → k ≠ 21 → k ≠ 22 → gA (act5 σ na (nI j) s a b x y) k = gA σ k := fun k h1 h2 h3 h4 h5 h6 h7 => act5_a k h1 h2 h3 h4 h5 h6 h7
  have hst : ∀ k, stC (act5 σ na (nI j) s a b x y) k = if k = na then s else stC σ k := fun k => by
    unfold stC
    rw [act5_17]
    by_cases e : k = na
    · subst e; rw [upd_s, if_pos rfl, ix_nI (by omega)]
    · rw [upd_n e, if_neg e]
  have hkd : ∀ k, kdC (act5 σ na (nI j) s a b x y) k = if k = na then j else kdC σ k := fun k => by
    unfold kdC
    rw [act5_16]
    by_cases e : k = na
    · subst e; rw [upd_s, if_pos rfl, ix_nI (by omega)]
    · rw [upd_n e, if_neg e]
  have hdo : ∀ k, doC (act5 σ na (nI j) s a b x y) k = if k = na then a else doC σ k := fun k => by
    unfold doC
    rw [act5_18]
    by_cases e : k = na
    · subst e; rw [upd_s, if_pos rfl, ix_nI (by omega)]
    · rw [upd_n e, if_neg e]
  have hot : ∀ k, k ≠ na → otC (act5 σ na (nI j) s a b x y) k = otC σ k := fun k e => by
    unfold otC
    rw [act5_19]
    split
    · rw [upd_n e]
    · rfl
  refine ⟨hic, hir, ?_, ?_, h.r3.up ((act5_i 3).trans rfl) ((act5_i 4).trans rfl) rfl rfl, ?_, ⟨?_, ?_, ?_⟩, ?_, ?_, ?_⟩
  · obtain ⟨r9, r10, r13, r14, r15, r16, r17, r18, r19, r20, r21, r22, r29, r30⟩ := h.r1
    unfold R1
    rw [eA 9 (by decide) (by decide) (by decide) (by decide) (by decide) (by decide) (by decide), eA 10 (by decide) (by decide) (by decide) (by decide) (by decide) (by decide) (by decide), eA 13 (by decide) (by decide) (by decide) (by decide) (by decide) (by decide) (by decide), eA 14 (by decide) (by decide) (by decide) (by decide) (by decide) (by decide) (by decide), eA 15 (by decide) (by decide) (by decide) (by decide) (by decide) (by decide) (by decide), eA 29 (by decide) (by decide) (by decide) (by decide) (by decide) (by decide) (by decide), eA 30 (by decide) (by decide) (by decide) (by decide) (by decide) (by decide) (by decide), act5_16, act5_17, act5_18, act5_19, act5_20, act5_21, act5_22, r9, r10, r13, r14, r15, r16, r17, r18, r21, r22, r29, r30, h.r2.1]
    refine ⟨rfl, rfl, rfl, rfl, rfl, rfl, rfl, rfl, ?_, ?_, rfl, rfl, rfl, rfl⟩
    · show _ = upd (gA ρ 11) na (if inB (nI j) 1 3 = true ∨ nI j = 4 then b else 0)
      rw [← r19]
      by_cases c : isHandB (nI j) = true ∨ nI j = 4
      · rw [if_pos c, if_pos (c.imp_left eHand.mp)]
      · rw [if_neg c, if_neg (fun q => c (q.imp_left eHand.mpr)), ← hz.1, upd_self]
    · show _ = upd (gA ρ 12) na (if inB (nI j) 1 3 = true ∨ nI j = 5 then x else 0)
      rw [← r20]
      by_cases c : isHandB (nI j) = true ∨ nI j = 5
      · rw [if_pos c, if_pos (c.imp_left eHand.mp)]
      · rw [if_neg c, if_neg (fun q => c (q.imp_left eHand.mpr)), ← hz.2, upd_self]
  · have := h.r2
    unfold R2 at this ⊢
    rw [act5_i 0, act5_i 1]
    exact this
  · exact h.r4.up ((act5_b 11).trans rfl) (eA 12 (by decide) (by decide) (by decide) (by decide) (by decide) (by decide) (by decide)) rfl (fun _ c => c) (fun _ _ c => c) (Nat.le_refl _) (Nat.le_succ _)
  · intro k
    rw [act5_l]
    exact h.r5.1 k
  · intro k hk
    exact h.r5.2.1 k (by omega)
  · intro S k hS
    rw [act5_b, if_pos rfl, hst]
    by_cases e : S = s
    · subst e
      rw [pk_uLs, btL_or, btL_one (by omega), h.r5.2.2 S k hS]
      by_cases c : k = na
      · subst c
        rw [if_pos rfl, decide_eq_true (p := k = k) rfl, Bool.or_true, decide_eq_true (Nat.lt_succ_self k), decide_eq_true (p := S = S) rfl]; rfl
      · rw [if_neg c, decide_eq_false c, Bool.or_false]
        congr 1
        exact decide_eq_decide.mpr (by omega)
    · rw [pk_uLn e, h.r5.2.2 S k hS]
      by_cases c : k = na
      · subst c
        rw [if_pos rfl, decide_eq_false (Nat.lt_irrefl k), Bool.false_and, decide_eq_false (show ¬ s = S from fun q => e q.symm), Bool.and_false]
      · rw [if_neg c]
        congr 1
        exact decide_eq_decide.mpr (by omega)
  · intro k hk
    rw [hst, hkd]
    by_cases c : k = na
    · subst c
      rw [if_pos rfl, if_pos rfl]
      refine ⟨hs, fun z => ?_, fun z => ?_⟩
      · subst z
        have hp := doable_freed hd
        unfold isPledgeB at hp
        rw [Bool.and_eq_true, Bool.and_eq_true, Bool.and_eq_true, decide_eq_true_iff, decide_eq_true_iff, decide_eq_true_iff] at hp
        obtain ⟨p1, p2, p3, p4⟩ := hp
        obtain ⟨B, hB, rfl⟩ := isIn_nI (n := k) (by omega) (by rw [← h.ca]; exact p1)
        rw [ix_nI (by omega)] at p2 p3 p4
        have eo : otC (act5 σ k (nI 4) s a (nI B) x y) k = B := by
          unfold otC
          rw [act5_19, if_pos (Or.inr (show nI 4 = 4 by decide)), upd_s, ix_nI (by omega)]
        rw [eo, hkd, hst, hdo, hdo, if_neg (by omega), if_neg (by omega), if_neg (by omega), if_pos rfl]
        exact ⟨hB, p2, p3, p4⟩
      · obtain ⟨-, -, z1, z2⟩ := doable_hand z hd
        obtain ⟨m, hm, e⟩ := nI_of2 (x := x) (M := 12) (n := 12) (by decide) (nlt0 z1) (nlt.mp z2)
        refine ⟨m, ?_, hm⟩
        rw [act5_20, if_pos (Or.inl ((isHand_nI hj).mpr z)), upd_s]
        exact e
    · rw [if_neg c, if_neg c]
      obtain ⟨g1, g2, g3⟩ := h.r6 k (by omega)
      refine ⟨g1, fun z => ?_, fun z => ?_⟩
      · obtain ⟨z1, z2, z3, z4⟩ := g2 z
        rw [hot k c, hkd, hst, hdo, hdo, if_neg (by omega), if_neg (by omega), if_neg (by omega), if_neg c]
        exact ⟨z1, z2, z3, z4⟩
      · obtain ⟨m, e, hm⟩ := g3 z
        refine ⟨m, ?_, hm⟩
        rw [act5_20]
        split
        · rw [upd_n c]; exact e
        · exact e
  · unfold R7
    rw [eA 14 (by decide) (by decide) (by decide) (by decide) (by decide) (by decide) (by decide)]
    exact h.r7
  · exact h.r8.up (eA 27 (by decide) (by decide) (by decide) (by decide) (by decide) (by decide) (by decide)) (eA 28 (by decide) (by decide) (by decide) (by decide) (by decide) (by decide) (by decide)) rfl
end PP
