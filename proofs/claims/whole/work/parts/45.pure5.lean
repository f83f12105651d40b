/-! THE RELATION KEPT: dies, kept, sheets -/
theorem wipe_v (p : Nat) (υ : sS) (q : Nat) : ∀ i, gA (itr (wipeStep p) i υ) 4 q = if 60 * p ≤ q ∧ q < 60 * p + i then 0 else gA υ 4 q
  | 0 => by rw [if_neg (by omega)]; rfl
  | i + 1 => by
    rw [itr_s]
    show upd (gA (itr (wipeStep p) i υ) 4) (60 * p + i) 0 q = _
    by_cases c : q = 60 * p + i
    · rw [c, upd_s, if_pos (by omega)]
    · rw [upd_n c, wipe_v p υ q i]
      by_cases z : 60 * p ≤ q ∧ q < 60 * p + i
      · rw [if_pos z, if_pos (by omega)]
      · rw [if_neg z, if_neg (by omega)]
theorem wipe_A (p : Nat) (υ : sS) {k : Nat} (hk : k ≠ 4) : ∀ i, gA (itr (wipeStep p) i υ) k = gA υ k
  | 0 => rfl
  | i + 1 => by
    rw [itr_s, ← wipe_A p υ hk i]
    unfold wipeStep
    rw [gA_pA, if_neg hk]
theorem wipe_I (p : Nat) (υ : sS) (k : Nat) : ∀ i, gI (itr (wipeStep p) i υ) k = gI υ k
  | 0 => rfl
  | i + 1 => by
    rw [itr_s, ← wipe_I p υ k i]
    rfl
section PP
variable {σ ρ : sS} {n ns na : Nat}
theorem IC_bury (h : IC σ n ns na) (p : Nat) : IC (buryC σ p) n ns na := IC_of h rfl rfl rfl rfl rfl rfl rfl rfl rfl
theorem dies_kn (ρ : sS) (p q k : Nat) (hk : k < 60) : knR (diesS ρ p) q k = if q = p then false else knR ρ q k := by
  unfold knR diesS
  rw [wipe_v]
  show (!decide ((if 60 * p ≤ 60 * q + k ∧ 60 * q + k < 60 * p + 60 then 0 else gA ρ 4 (60 * q + k)) ≤ 0)) = _
  by_cases c : q = p
  · rw [if_pos c, if_pos (by omega)]; rfl
  · rw [if_neg c, if_neg (by omega)]
theorem dies_lv (ρ : sS) (p q : Nat) : lvR (diesS ρ p) q = if q = p then false else lvR ρ q := by
  unfold lvR diesS
  rw [wipe_A _ _ (by decide)]
  show (!decide (upd (gA ρ 2) p (b2i false) q = 0)) = _
  by_cases c : q = p
  · rw [if_pos c, c, upd_s]; rfl
  · rw [if_neg c, upd_n c]
theorem dies_old (ρ : sS) (p q : Nat) : oldR (diesS ρ p) q = if q = p then false else oldR ρ q := by
  have e : oldR (diesS ρ p) q = (lvR (diesS ρ p) q && !decide (gA ρ 1 q < 40)) := by
    unfold oldR lvR
    rw [show gA (diesS ρ p) 1 = gA ρ 1 from wipe_A p _ (by decide) 60]
  rw [e, dies_lv]
  by_cases c : q = p
  · rw [if_pos c, if_pos c]; rfl
  · rw [if_neg c, if_neg c]; rfl
theorem bury_rel (h : RelN σ ρ n ns na) {p : Nat} (hp : p < n) : RelN (buryC σ p) (diesS ρ p) n ns na := by
  have h16 := h.n16
  have eA : ∀ k, k ≠ 2 → k ≠ 4 → gA (diesS ρ p) k = gA ρ k := fun k h2 h4 => by
    unfold diesS
    rw [wipe_A _ _ h4, gA_pA, if_neg h2]
  have eI : ∀ k, gI (diesS ρ p) k = gI ρ k := fun k => wipe_I p _ k 60
  have e4 : ∀ q k, k < 60 → gA (diesS ρ p) 4 (60 * q + k) = if q = p then 0 else gA ρ 4 (60 * q + k) := fun q k hk => by
    unfold diesS
    rw [wipe_v]
    show (if 60 * p ≤ 60 * q + k ∧ 60 * q + k < 60 * p + 60 then (0 : Int32) else gA ρ 4 (60 * q + k)) = _
    by_cases c : q = p
    · rw [if_pos c, if_pos (by omega)]
    · rw [if_neg c, if_neg (by omega)]
  refine ⟨IC_bury h.ic p, IR_dies p h.ir, ?_, ?_, ⟨?_, ?_, ?_⟩, ⟨?_, ?_, ?_, ?_⟩, h.r5.up rfl rfl rfl (eA 15 (by decide) (by decide)), h.r6.up rfl rfl rfl rfl (Nat.le_refl _), h.r7, h.r8.up rfl rfl (eA 22 (by decide) (by decide))⟩
  · have := h.r1
    unfold R1 at this ⊢
    rw [eA 1 (by decide) (by decide), eA 3 (by decide) (by decide), eA 5 (by decide) (by decide), eA 6 (by decide) (by decide), eA 7 (by decide) (by decide), eA 8 (by decide) (by decide), eA 9 (by decide) (by decide), eA 10 (by decide) (by decide), eA 11 (by decide) (by decide), eA 12 (by decide) (by decide), eA 13 (by decide) (by decide), eA 14 (by decide) (by decide), eA 23 (by decide) (by decide), eA 24 (by decide) (by decide)]
    exact this
  · have := h.r2
    unfold R2 at this ⊢
    rw [eI 1, eI 4, eA 1 (by decide) (by decide)]
    exact this
  · intro q hq
    show bt (gI σ 3 &&& (one p ^^^ (-1))) q = _
    rw [bt_and, bt_not _ _ hq, bt_one (by omega), h.r3.1 q hq, dies_lv]
    by_cases c : q = p
    · rw [if_pos c, decide_eq_true c]; exact Bool.and_false _
    · rw [if_neg c, decide_eq_false c]; exact Bool.and_true _
  · intro q hq
    show bt (gI σ 4 &&& (one p ^^^ (-1))) q = _
    rw [bt_and, bt_not _ _ hq, bt_one (by omega), h.r3.2.1 q hq, dies_old]
    by_cases c : q = p
    · rw [if_pos c, decide_eq_true c]; exact Bool.and_false _
    · rw [if_neg c, decide_eq_false c]; exact Bool.and_true _
  · intro q hq
    unfold diesS
    rw [wipe_A _ _ (by decide)]
    show upd (gA ρ 2) p (b2i false) q = 0
    rw [upd_n (by omega)]
    exact h.r3.2.2 q hq
  · intro q k hq
    show btL (vp_updL (gB σ 11) p 0 q) k = _
    by_cases k60 : k < 60
    · rw [dies_kn _ _ _ _ k60, decide_eq_true k60, Bool.true_and]
      by_cases c : q = p
      · rw [if_pos c, c, pk_uLs, btL_0]
      · rw [if_neg c, pk_uLn c, h.kn hq k60]
    · rw [decide_eq_false k60, Bool.false_and]
      by_cases c : q = p
      · rw [c, pk_uLs, btL_0]
      · rw [pk_uLn c, h.r4.1 q k hq, decide_eq_false k60]; rfl
  · intro q k hq hk e
    rw [dies_kn _ _ _ _ hk] at e
    rw [e4 q k hk]
    by_cases c : q = p
    · rw [if_pos c] at e; cases e
    · rw [if_neg c] at e ⊢
      obtain ⟨d, e1, e2, e3⟩ := h.r4.2.1 q k hq hk e
      refine ⟨d, e1, e2, Nat.le_trans e3 (cnt_mono (fun i _ z => ?_))⟩
      rw [dies_kn _ _ _ _ hk, dies_lv]
      by_cases ci : i = p
      · rw [if_pos ci, if_pos ci]; rfl
      · rw [if_neg ci, if_neg ci]; exact z
  · intro q k hq hk e
    rw [dies_kn _ _ _ _ hk] at e
    rw [e4 q k hk]
    by_cases c : q = p
    · rw [if_pos c]
    · rw [if_neg c] at e ⊢
      exact h.r4.2.2.1 q k hq hk e
  · intro q k hq hk e
    rw [dies_kn _ _ _ _ hk] at e
    by_cases c : q = p
    · rw [if_pos c] at e; cases e
    · rw [if_neg c] at e
      rw [dies_lv, if_neg c]
      exact h.r4.2.2.2 q k hq hk e
theorem dies_rel (h : RelN σ ρ n ns na) (w : Int32) : SR (diesR σ n w) (diesQ ρ n na w) := by
  unfold diesR diesQ
  rw [h.inP]
  by_cases c : isIn w (gI ρ 0) = true
  · rw [if_pos c, if_pos c]
    obtain ⟨p, hp, rfl⟩ := h.pI c
    have h16 := h.n16
    have h60 := h.a60
    have hb := bury_rel h hp
    rw [ix_nI (by omega), h.alv (by omega)]
    by_cases c2 : gA ρ 2 p = 0
    · rw [if_pos c2, if_neg (by unfold lvR; rw [decide_eq_true c2]; decide)]; exact h.same _
    · rw [if_neg c2, if_pos (by unfold lvR; rw [decide_eq_false c2]; rfl)]
      refine ⟨?_, n, ns, na, hb⟩
      show pop64 (anyC σ n &&& (anyC (buryC σ p) n ^^^ (-1))) = nI (forgR (diesS ρ p) n na) - nI (forgR ρ n na)
      have hm : ∀ k, k < 60 → knownByR (diesS ρ p) n k ≤ knownByR ρ n k := fun k hk => cnt_mono (fun i _ e => by
        rw [dies_kn _ _ _ _ hk] at e
        by_cases ci : i = p
        · rw [if_pos ci] at e; cases e
        · rw [if_neg ci] at e; exact e)
      have hd := cnt_diff (f := fun k => decide (knownByR ρ n k = 0)) (g := fun k => decide (knownByR (diesS ρ p) n k = 0)) (n := na) (fun i hi e => decide_eq_true (by
        have := hm i (by omega)
        have := of_decide_eq_true e
        omega))
      rw [show forgR (diesS ρ p) n na = forgR ρ n na + cnt (fun i => decide (knownByR (diesS ρ p) n i = 0) && !decide (knownByR ρ n i = 0)) na from hd, pk_sub (by omega), Nat.add_sub_cancel_left, pop64_eq, cnt_cut (show na ≤ 64 by omega) (fun i a b => by rw [btL_and, h.any_hi a]; rfl), cnt_congr (fun k hk => by
        rw [btL_and, btL_not _ _ (by omega), h.any (show k < 60 by omega), hb.any (show k < 60 by omega), Bool.not_not, Bool.and_comm])]
  · rw [if_neg c, if_neg c]; exact h.same _
/-- kept -/
theorem kept_one (h : RelN σ ρ n ns na) {s p : Nat} (hs : s < 8) (hp : p < n) : (aliveC σ (nI p) && subL (gB σ 23 s &&& anyC σ n) (gB σ 11 p)) = keptOne ρ n na s p := by
  have h16 := h.n16
  have h60 := h.a60
  unfold keptOne
  rw [itr_and (fun k => !decide (stR ρ k = s) || (decide (knownByR ρ n k = 0) || knR ρ p k)), h.alv (by omega)]
  show (lvR ρ p && _) = (lvR ρ p && _)
  congr 1
  refine bool_ext (subL_t.trans (Iff.trans ⟨fun z i hi => ?_, fun z i hi e => ?_⟩ allN_t.symm))
  · cases e1 : decide (stR ρ i = s) with
    | false => rfl
    | true =>
      cases e2 : decide (knownByR ρ n i = 0) with
      | true => rfl
      | false =>
        have := z i (by omega) (by rw [btL_and, h.any (by omega), e2, h.r5.2.2 s i hs, decide_eq_true hi, h.st, e1]; rfl)
        rw [h.kn (by omega) (by omega)] at this
        rw [this]; rfl
  · rw [btL_and, h.r5.2.2 s i hs, Bool.and_eq_true, Bool.and_eq_true] at e
    have hi2 : i < na := of_decide_eq_true e.1.1
    have hst : stR ρ i = s := by rw [← h.st]; exact of_decide_eq_true e.1.2
    have := z i hi2
    rw [h.any (by omega)] at e
    have e2 : decide (knownByR ρ n i = 0) = false := by
      have := e.2
      revert this
      cases decide (knownByR ρ n i = 0) <;> simp
    rw [decide_eq_true hst, e2] at this
    rw [h.kn (by omega) (by omega)]
    exact this
theorem kept_rel (h : RelN σ ρ n ns na) (s : Int32) : keptV σ n s = keptW ρ n na s := by
  unfold keptV keptW
  rw [h.inS]
  by_cases c : isIn s (gI ρ 2) = true
  · rw [if_pos c, if_pos c]
    obtain ⟨j, hj, rfl⟩ := h.sI c
    have := h.s8
    rw [ix_nI (by omega)]
    unfold knowersC
    rw [cnt_congr (fun p hp => kept_one h (by omega) hp)]
  · rw [if_neg c, if_neg c]
/-- sheets -/
theorem sheet_mk {σ' ρ' : sS} (h : RelN σ ρ n ns na) (eA : ∀ k, k < 27 → gA σ' k = gA σ k) (eI : ∀ k, gI σ' k = gI σ k) (eB : ∀ k, gB σ' k = gB σ k) (eL : ∀ k, gL σ' k = gL σ k) (fA : ∀ k, k < 22 → gA ρ' k = gA ρ k) (fI : ∀ k, gI ρ' k = gI ρ k)
    (e29 : gA σ' 29 = gA ρ' 23) (e30 : gA σ' 30 = gA ρ' 24) (hS : okS σ') (h8 : R8 σ' ρ') : RelN σ' ρ' n ns na := by
  have hSR : okSR ρ' := fun k hk => by
    have := hS k hk
    unfold lnC at this
    unfold lnR
    rw [← e29]; exact this
  refine ⟨?_, ?_, ?_, ?_, ?_, ?_, ?_, ?_, ?_, h8⟩
  · have k := h.ic
    exact ⟨(eI 2).trans k.1, k.2.1, (eI 5).trans k.2.2.1, k.2.2.2.1, (eI 6).trans k.2.2.2.2.1, k.2.2.2.2.2.1, k.2.2.2.2.2.2.1.of (eA 16 (by decide)) (eA 17 (by decide)) (eA 18 (by decide)) (eA 19 (by decide)), by rw [eA 19 (by decide), eA 20 (by decide)]; exact k.2.2.2.2.2.2.2.1, hS⟩
  · have k := h.ir
    refine ⟨(fI 0).trans k.1, k.2.1, (fI 2).trans k.2.2.1, k.2.2.2.1, (fI 3).trans k.2.2.2.2.1, k.2.2.2.2.2.1, ?_, by rw [fA 2 (by decide)]; exact k.2.2.2.2.2.2.2.1, hSR⟩
    have := k.2.2.2.2.2.2.1
    unfold okAR kdR stR doR otR at this ⊢
    rw [fA 8 (by decide), fA 9 (by decide), fA 10 (by decide), fA 11 (by decide)]
    exact this
  · have := h.r1
    unfold R1 at this ⊢
    rw [eA 9 (by decide), eA 10 (by decide), eA 13 (by decide), eA 14 (by decide), eA 15 (by decide), eA 16 (by decide), eA 17 (by decide), eA 18 (by decide), eA 19 (by decide), eA 20 (by decide), eA 21 (by decide), eA 22 (by decide)]
    rw [fA 1 (by decide), fA 3 (by decide), fA 5 (by decide), fA 6 (by decide), fA 7 (by decide), fA 8 (by decide), fA 9 (by decide), fA 10 (by decide), fA 11 (by decide), fA 12 (by decide), fA 13 (by decide), fA 14 (by decide)]
    obtain ⟨a1, a2, a3, a4, a5, a6, a7, a8, a9, a10, a11, a12, -⟩ := this
    exact ⟨a1, a2, a3, a4, a5, a6, a7, a8, a9, a10, a11, a12, e29, e30⟩
  · have := h.r2
    unfold R2 at this ⊢
    rw [eI 0, eI 1, fI 1, fI 4, fA 1 (by decide)]
    exact this
  · exact h.r3.up (eI 3) (eI 4) (fA 1 (by decide)) (fA 2 (by decide))
  · exact h.r4.same (eB 11) (eA 12 (by decide)) (fA 4 (by decide)) (fA 2 (by decide))
  · exact h.r5.up (eL 0) (eB 23) (eA 17 (by decide)) (fA 15 (by decide))
  · exact h.r6.up (eA 16 (by decide)) (eA 17 (by decide)) (eA 18 (by decide)) (eA 19 (by decide)) (Nat.le_refl _) (eA 20 (by decide))
  · unfold R7; rw [eA 14 (by decide)]; exact h.r7
theorem isSheet_eq (x : Int32) : isSheetB x = inB x 0 3 := by
  have e := inB_lt (x := x) (N := 3) (by decide)
  rw [show nI 3 = 3 by decide] at e
  rw [e]
  unfold isSheetB isIn
  rw [show nI (3 + 1) = 4 by decide]
theorem isSheet_nI {x : Int32} (h : isSheetB x = true) : ∃ j, j < 4 ∧ x = nI j := by
  rw [isSheet_eq] at h
  exact isIn_nI (by decide) (inB3 h)
theorem renew_A (s : Nat) (υ : sS) {k : Nat} (hk : k ≠ 30) : ∀ i, gA (itr (renewStep s) i υ) k = gA υ k
  | 0 => rfl
  | i + 1 => by
    rw [itr_s, ← renew_A s υ hk i]
    unfold renewStep
    rw [gA_pA, if_neg hk]
theorem rn_A (s : Nat) (υ : sS) {k : Nat} (hk : k ≠ 24) : ∀ i, gA (itr (rnStep s) i υ) k = gA υ k
  | 0 => rfl
  | i + 1 => by
    rw [itr_s, ← rn_A s υ hk i]
    unfold rnStep
    rw [gA_pA, if_neg hk]
theorem renew_I (s : Nat) (υ : sS) : ∀ i, (itr (renewStep s) i υ).2 = υ.2
  | 0 => rfl
  | i + 1 => by rw [itr_s, ← renew_I s υ i]; rfl
theorem rn_I (s : Nat) (υ : sS) : ∀ i, (itr (rnStep s) i υ).2 = υ.2
  | 0 => rfl
  | i + 1 => by rw [itr_s, ← rn_I s υ i]; rfl
theorem renew_30 (s : Nat) {υ υ' : sS} (h : gA υ 30 = gA υ' 24) : ∀ i, gA (itr (renewStep s) i υ) 30 = gA (itr (rnStep s) i υ') 24
  | 0 => h
  | i + 1 => by
    rw [itr_s, itr_s]
    show upd (gA (itr (renewStep s) i υ) 30) (s * 36 + i) 0 = upd (gA (itr (rnStep s) i υ') 24) (36 * s + i) 0
    rw [renew_30 s h i, Nat.mul_comm]
theorem sheet_rel (h : RelN σ ρ n ns na) (sh la x : Int32) : SR (sheetR σ sh la x) (sheetQ ρ sh la x) := by
  unfold sheetR sheetQ
  by_cases c : isSheetB sh = true ∧ isLaneB la = true ∧ x ≤ 36
  · rw [if_pos c, if_pos (show isShQ sh la = true ∧ x ≤ 36 from ⟨by unfold isShQ; rw [← isSheet_eq, c.1]; exact c.2.1, c.2.2⟩)]
    by_cases c2 : 0 ≤ x
    · rw [if_pos c2, if_pos c2]
      refine ⟨rfl, n, ns, na, ?_⟩
      obtain ⟨s, hs, rfl⟩ := isSheet_nI c.1
      obtain ⟨X, hX, rfl⟩ := nI_of2 (x := x) (M := 36) (n := 36) (by decide) (nlt.mpr c2) c.2.2
      rw [ix_nI (by omega)]
      unfold renewC
      have hI : ∀ (υ : sS) i, (itr (renewStep s) i υ).2 = υ.2 := fun υ i => renew_I s υ i
      have hJ : ∀ (υ : sS) i, (itr (rnStep s) i υ).2 = υ.2 := fun υ i => rn_I s υ i
      refine sheet_mk h (fun k hk => ?_) (fun k => ?_) (fun k => ?_) (fun k => ?_) (fun k hk => ?_) (fun k => ?_) ?_ ?_ ?_ ?_
      · rw [renew_A _ _ (by omega), gA_pA, if_neg (by omega), gA_pA, if_neg (by omega), gA_pA, if_neg (by omega)]
      · unfold gI; rw [hI]; rfl
      · unfold gB; rw [hI]; rfl
      · unfold gL; rw [hI]; rfl
      · rw [rn_A _ _ (by omega), gA_pA, if_neg (by omega), gA_pA, if_neg (by omega)]
      · unfold gI; rw [hJ]; rfl
      · rw [renew_A _ _ (by decide), rn_A _ _ (by decide)]
        show upd (gA σ 29) s (nI X) = upd (gA ρ 23) s (nI X)
        rw [h.r1.2.2.2.2.2.2.2.2.2.2.2.2.1]
      · exact renew_30 s (by exact h.r1.2.2.2.2.2.2.2.2.2.2.2.2.2) 36
      · intro k hk
        unfold lnC
        rw [renew_A _ _ (by decide)]
        show upd (gA σ 29) s (nI X) k = nI (ix (upd (gA σ 29) s (nI X) k)) ∧ ix (upd (gA σ 29) s (nI X) k) ≤ 36
        by_cases z : k = s
        · rw [z, upd_s, ix_nI (by omega)]; exact ⟨rfl, hX⟩
        · rw [upd_n z]; exact h.ic.2.2.2.2.2.2.2.2 k hk
      · intro j hj
        rw [renew_A _ _ (by decide), renew_A _ _ (by decide), rn_A _ _ (by decide)]
        show (upd (gA σ 27) s (b2i true) j = 0 ∧ upd (gA ρ 22) s la j = -1) ∨ (upd (gA σ 27) s (b2i true) j = 1 ∧ upd (gA ρ 22) s la j = upd (gA σ 28) s la j ∧ 0 ≤ upd (gA σ 28) s la j)
        by_cases z : j = s
        · rw [z, upd_s, upd_s, upd_s]
          exact Or.inr ⟨rfl, rfl, nlt.mp (inB_t.mp (show inB la 0 2 = true from c.2.1)).1⟩
        · rw [upd_n z, upd_n z, upd_n z]; exact h.r8 j hj
    · rw [if_neg c2, if_neg c2]; exact h.same _
  · rw [if_neg c, if_neg (fun q => c (by
      have := q.1
      unfold isShQ at this
      rw [← isSheet_eq, Bool.and_eq_true] at this
      exact ⟨this.1, this.2, q.2⟩))]
    exact h.same _
theorem drop_rel (h : RelN σ ρ n ns na) (sh : Int32) : SR (dropR σ sh) (dropQ ρ sh) := by
  unfold dropR dropQ
  rw [← isSheet_eq]
  by_cases c : isSheetB sh = true
  · rw [if_pos c, if_pos c]
    obtain ⟨s, hs, rfl⟩ := isSheet_nI c
    rw [ix_nI (by omega)]
    rcases h.r8 s hs with ⟨e1, e2⟩ | ⟨e1, e2, e3⟩
    · rw [if_pos e1, e2, if_neg (by decide)]; exact h.same _
    · rw [e1, e2, if_neg (by decide), if_pos e3]
      refine ⟨by show gA σ 29 s = gA ρ 23 s; rw [h.r1.2.2.2.2.2.2.2.2.2.2.2.2.1], n, ns, na, sheet_mk h (fun k hk => ?_) (fun k => rfl) (fun k => rfl) (fun k => rfl) (fun k hk => ?_) (fun k => rfl) h.r1.2.2.2.2.2.2.2.2.2.2.2.2.1 h.r1.2.2.2.2.2.2.2.2.2.2.2.2.2 h.ic.2.2.2.2.2.2.2.2 ?_⟩
      · rw [gA_pA, if_neg (by omega)]
      · rw [gA_pA, if_neg (by omega)]
      · intro j hj
        show (upd (gA σ 27) s (b2i false) j = 0 ∧ upd (gA ρ 22) s (-1) j = -1) ∨ (upd (gA σ 27) s (b2i false) j = 1 ∧ upd (gA ρ 22) s (-1) j = gA σ 28 j ∧ 0 ≤ gA σ 28 j)
        by_cases z : j = s
        · rw [z, upd_s, upd_s]; exact Or.inl ⟨rfl, rfl⟩
        · rw [upd_n z, upd_n z]; exact h.r8 j hj
  · rw [if_neg c, if_neg c]; exact h.same _
/-- narrowing -/
theorem nar_bv (x : BitVec 32) (k : Nat) (h0 : 0 < k) (hk : k < 32) : (x.signExtend k).signExtend 32 = (x <<< (32 - k)).sshiftRight (32 - k) := by
  apply BitVec.eq_of_getLsbD_eq
  intro i hi
  rw [BitVec.getLsbD_signExtend, BitVec.getLsbD_sshiftRight, BitVec.msb_eq_getLsbD_last, BitVec.msb_eq_getLsbD_last, BitVec.getLsbD_signExtend, BitVec.getLsbD_signExtend, BitVec.getLsbD_shiftLeft, BitVec.getLsbD_shiftLeft]
  rw [decide_eq_true hi, decide_eq_false (show ¬ 32 ≤ i by omega)]
  by_cases c : i < k
  · rw [if_pos c, if_pos (show i < 32 from hi), if_pos (show 32 - k + i < 32 by omega), decide_eq_true c, decide_eq_true (show 32 - k + i < 32 by omega), decide_eq_false (show ¬ 32 - k + i < 32 - k by omega), show 32 - k + i - (32 - k) = i by omega]
    rfl
  · rw [if_neg c, if_neg (show ¬ 32 - k + i < 32 by omega), if_pos (show k - 1 < 32 by omega), decide_eq_true (show k - 1 < k by omega), decide_eq_true (show 32 - 1 < 32 by omega), decide_eq_false (show ¬ 32 - 1 < 32 - k by omega), show 32 - 1 - (32 - k) = k - 1 by omega]
    rfl
theorem nar_8 (v : Int32) : v.toInt8.toInt32 = (v <<< (24 &&& 31)) >>> (24 &&& 31) := by
  apply Int32.toBitVec_inj.mp
  rw [Int32.toBitVec_shiftRight, Int32.toBitVec_shiftLeft, show ((24 &&& 31 : Int32).toBitVec.smod 32) = 24#32 by decide]
  exact nar_bv v.toBitVec 8 (by decide) (by decide)
theorem nar_16 (v : Int32) : v.toInt16.toInt32 = (v <<< (16 &&& 31)) >>> (16 &&& 31) := by
  apply Int32.toBitVec_inj.mp
  rw [Int32.toBitVec_shiftRight, Int32.toBitVec_shiftLeft, show ((16 &&& 31 : Int32).toBitVec.smod 32) = 16#32 by decide]
  exact nar_bv v.toBitVec 16 (by decide) (by decide)
theorem nar_eq (la v : Int32) : (if la = 0 then v.toInt8.toInt32 else if la = 1 then v.toInt16.toInt32 else v) = narQ la v := by
  unfold narQ
  rw [nar_8, nar_16]
theorem shB (sh la : Int32) : (isSheetB sh = true ∧ isLaneB la = true) ↔ isShQ sh la = true := by
  unfold isShQ
  rw [← isSheet_eq, Bool.and_eq_true]
  exact Iff.rfl
theorem lane_pos {la : Int32} (h : isLaneB la = true) : 0 ≤ la := nlt.mp (inB_t.mp (show inB la 0 2 = true from h)).1
/-- a sheet that refuses -/
theorem refuse_rel (h : RelN σ ρ n ns na) (sh la : Int32) (c : isShQ sh la = true) : refuseC σ sh la = if gA ρ 22 (ix sh) = la then 0 else if 0 ≤ gA ρ 22 (ix sh) then -12 else -11 := by
  obtain ⟨c1, c2⟩ := (shB sh la).mpr c
  unfold refuseC
  rw [if_pos (show isSheetB sh = true ∧ isLaneB la = true from ⟨c1, c2⟩)]
  obtain ⟨s, hs, rfl⟩ := isSheet_nI c1
  rw [ix_nI (by omega)]
  rcases h.r8 s hs with ⟨e1, e2⟩ | ⟨e1, e2, e3⟩
  · rw [if_pos e1, e2, if_neg (fun q => by have := lane_pos c2; rw [← q] at this; exact absurd this (by decide)), if_neg (by decide)]
  · rw [e1, e2, if_neg (by decide), if_pos e3]
theorem item_rel (h : RelN σ ρ n ns na) (sh la i v : Int32) : SR (itemR σ sh la i v) (itemQ ρ sh la i v) := by
  unfold itemR itemQ
  by_cases c : isShQ sh la = true
  · rw [if_pos c, refuse_rel h sh la c]
    obtain ⟨c1, c2⟩ := (shB sh la).mpr c
    obtain ⟨s, hs, rfl⟩ := isSheet_nI c1
    rw [ix_nI (by omega)]
    by_cases cl : gA ρ 22 s = la
    · rw [if_pos cl, if_pos cl, if_pos rfl]
      obtain ⟨l1, l2⟩ := h.ic.2.2.2.2.2.2.2.2 s hs
      have e29 : gA ρ 23 s = gA σ 29 s := by rw [h.r1.2.2.2.2.2.2.2.2.2.2.2.2.1]
      rw [e29]
      by_cases ci : isIn i (gA σ 29 s) = true
      · rw [if_pos ci]
        have hh := ci
        unfold isIn at hh
        rw [Bool.and_eq_true, Bool.not_eq_true', Bool.not_eq_true', decide_eq_false_iff_not, decide_eq_false_iff_not] at hh
        rw [if_neg hh.1, if_pos (Int32.not_le.mp hh.2)]
        have hla : gA σ 28 s = la := by
          rcases h.r8 s hs with ⟨e1, e2⟩ | ⟨e1, e2, e3⟩
          · rw [e2] at cl
            have := lane_pos c2
            rw [← cl] at this
            exact absurd this (by decide)
          · rw [← e2]; exact cl
        refine ⟨rfl, n, ns, na, sheet_mk h (fun k hk => ?_) (fun k => rfl) (fun k => rfl) (fun k => rfl) (fun k hk => ?_) (fun k => rfl) h.r1.2.2.2.2.2.2.2.2.2.2.2.2.1 ?_ h.ic.2.2.2.2.2.2.2.2 h.r8⟩
        · unfold writeC
          rw [gA_pA, if_neg (by omega)]
        · rw [gA_pA, if_neg (by omega)]
        · unfold writeC
          show upd (gA σ 30) (s * 36 + ix i) _ = upd (gA ρ 24) (36 * s + ix i) _
          rw [hla, nar_eq, Nat.mul_comm, h.r1.2.2.2.2.2.2.2.2.2.2.2.2.2]
      · rw [if_neg ci]
        have hh : ¬ (¬ i < 0 ∧ i < gA σ 29 s) := fun q => ci (by
          unfold isIn
          rw [decide_eq_false q.1, decide_eq_false (Int32.not_le.mpr q.2)]; rfl)
        by_cases c0 : i < 0
        · rw [if_pos c0]; exact h.same _
        · rw [if_neg c0, if_neg (fun q => hh ⟨c0, q⟩)]; exact h.same _
    · rw [if_neg cl, if_neg cl]
      by_cases c3 : 0 ≤ gA ρ 22 s
      · rw [if_pos c3, if_pos c3, if_neg (by decide)]; exact h.same _
      · rw [if_neg c3, if_neg c3, if_neg (by decide)]; exact h.same _
  · rw [if_neg c]
    have : refuseC σ sh la = -1 := by
      unfold refuseC
      rw [if_neg (fun q => c ((shB sh la).mp q))]
    rw [this, if_neg (by decide)]
    exact h.same _
end PP
