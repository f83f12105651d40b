/-! THE RELATION KEPT: act (2): the witnesses, those of old who agree; acts out of sheets -/
theorem upd_id {f : Nat → Int32} {i : Nat} {x : Int32} (h : f i = x) : upd f i x = f := by subst h; exact upd_self f i
theorem cqD_A (k p : Nat) (τ : sS) {j : Nat} (hj : j ≠ 4) : gA (cqD k p τ) j = gA τ j := by
  unfold cqD
  rw [gA_pA, if_neg hj]
theorem cqD_it_A (k : Nat) (τ : sS) {j : Nat} (hj : j ≠ 4) : ∀ i, gA (itr (cqD k) i τ) j = gA τ j
  | 0 => rfl
  | i + 1 => by rw [itr_s, cqD_A _ _ _ hj, cqD_it_A k τ hj i]
theorem cqD_it_I (k : Nat) (τ : sS) : ∀ i, (itr (cqD k) i τ).2 = τ.2
  | 0 => rfl
  | i + 1 => by rw [itr_s, ← cqD_it_I k τ i]; rfl
theorem cqD_row (k : Nat) (τ : sS) (hk : k < 60) {p : Nat} : ∀ i j, gA (itr (cqD k) (p + 1 + i) τ) 4 (60 * p + j) = gA (itr (cqD k) (p + 1) τ) 4 (60 * p + j) ∨ 60 ≤ j
  | 0, j => Or.inl rfl
  | i + 1, j => by
    rcases Nat.lt_or_ge j 60 with c | c
    · left
      have := (cqD_row k τ hk (p := p) i j).resolve_right (by omega)
      rw [show p + 1 + (i + 1) = (p + 1 + i) + 1 by omega, itr_s, ← this]
      show upd (gA (itr (cqD k) (p + 1 + i) τ) 4) (60 * (p + 1 + i) + k) _ (60 * p + j) = _
      rw [upd_n (by omega)]
    · exact Or.inr c
theorem eqR_cqD {τ υ : sS} (e : eqR τ υ) (k p : Nat) : eqR (cqD k p τ) (cqD k p υ) := by
  refine ⟨fun j hj => ?_, fun j hj => e.2 j hj⟩
  by_cases c : j = 4
  · subst c
    show upd (gA υ 4) (60 * p + k) (if bitR (gA υ 14 k) p = 1 then 1 else 0) = upd (gA τ 4) (60 * p + k) (if bitR (gA τ 14 k) p = 1 then 1 else 0)
    rw [e.1 4 (by decide), e.1 14 (by decide)]
  · rw [cqD_A _ _ _ c, cqD_A _ _ _ c]; exact e.1 j hj
section PP
variable {σ ρ : sS} {n ns na : Nat}
theorem wit_22 (n k : Nat) (σ : sS) : ∀ i, gA (itr (witStep n k) i σ) 22 = gA σ 22
  | 0 => rfl
  | i + 1 => by
    rw [itr_s, ← wit_22 n k σ i]
    generalize itr (witStep n k) i σ = τ
    unfold witStep
    split
    · rfl
    · unfold hearC
      split <;> rfl
theorem wit_16 (n k : Nat) (σ : sS) : ∀ i, gA (itr (witStep n k) i σ) 16 = gA σ 16
  | 0 => rfl
  | i + 1 => by
    rw [itr_s, ← wit_16 n k σ i]
    generalize itr (witStep n k) i σ = τ
    unfold witStep
    split
    · rfl
    · unfold hearC
      split <;> rfl
theorem wit_it (h : RelN σ ρ n ns na) {k : Nat} (hk : k < na) (h0 : ∀ p, p < 16 → knR ρ p k = false) (hl : ∀ p, p < 32 → bt (gA ρ 14 k) p = true → lvR ρ p = true) :
    ∀ i, i ≤ n → RelN (itr (witStep n k) i σ) (itr (cqD k) i ρ) n ns na ∧ ∀ p, i ≤ p → p < 16 → knR (itr (cqD k) i ρ) p k = false
  | 0, _ => ⟨h, fun p _ hp => h0 p hp⟩
  | i + 1, hi => by
    obtain ⟨a, b⟩ := wit_it h hk h0 hl i (by omega)
    have h16 := h.n16
    have h60 := h.a60
    have e22 := wit_22 n k σ i
    have e14 := cqD_it_A k ρ (j := 14) (by decide) i
    have e2 := cqD_it_A k ρ (j := 2) (by decide) i
    rw [itr_s, itr_s]
    generalize itr (witStep n k) i σ = x at a e22 ⊢
    generalize itr (cqD k) i ρ = y at a b e14 e2 ⊢
    have hi0 := b i (Nat.le_refl _) (by omega)
    have z0 := (a.kn0 (p := i) (k := k) (by omega) (by omega)).mpr hi0
    refine ⟨?_, fun p hp hp16 => ?_⟩
    · unfold witStep
      rw [e22, h.r1.2.2.2.2.2.2.2.2.2.2.2.1]
      by_cases c : bt (gA ρ 14 k) i = true
      · rw [if_neg (fun q => by have := (and_one (show i < 32 by omega)).mp q; rw [c] at this; cases this)]
        have hv := hear_rel a (t := i) (k := k) (D := 0) (by omega) hk (by
          have := hl i (by omega) c
          unfold lvR at this ⊢
          rw [e2]; exact this) (Nat.zero_le _)
        have e : cqD k i y = hvR y i k (nI (0 + 1)) := by
          unfold cqD hvR
          rw [if_pos z0, e14, if_pos ((bitR_1 _ (by omega)).mpr c)]
          rfl
        rw [e]
        exact hv
      · rw [if_pos ((and_one (show i < 32 by omega)).mpr (Bool.eq_false_iff.mpr c))]
        have e : cqD k i y = y := by
          unfold cqD
          rw [e14, if_neg (fun q => c ((bitR_1 _ (by omega)).mp q)), upd_id z0, pA_self]
        rw [e]
        exact a
    · have := b p (by omega) hp16
      unfold knR at this ⊢
      show (!decide (upd (gA y 4) (60 * i + k) _ (60 * p + k) ≤ 0)) = false
      rw [upd_n (by omega)]
      exact this
theorem old_eq {ρ υ : sS} (e1 : gA υ 1 = gA ρ 1) (e2 : gA υ 2 = gA ρ 2) : oldR υ = oldR ρ := by
  funext p
  unfold oldR
  rw [e1, e2]
theorem cv_rel {σ6 ρ5 : sS} {k s : Nat} (hk : k < na) (hs : s < 8) (h6 : RelN σ6 (itr (cqD k) n ρ5) n ns na) (hst : stC σ6 k = s) :
    ∀ i, i ≤ n → (itr (cvStep n na k) i (0, σ6)).1 = (itr (cqStep n na s k) i (0, ρ5)).1 ∧ eqR (itr (cqD k) i ρ5) (itr (cqStep n na s k) i (0, ρ5)).2
  | 0, _ => ⟨rfl, eqR.refl _⟩
  | i + 1, hi => by
    obtain ⟨a, b⟩ := cv_rel hk hs h6 hst i (by omega)
    have eK := cv_it σ6 n na k i
    have h16 := h6.n16
    have h60 := h6.a60
    have bb : eqR (itr (cqD k) (i + 1) ρ5) (cqD k i (itr (cqStep n na s k) i (0, ρ5)).2) := eqR_cqD b k i
    have hrow : ∀ j, j < 60 → gA (itr (cqD k) n ρ5) 4 (60 * i + j) = gA (itr (cqD k) (i + 1) ρ5) 4 (60 * i + j) := fun j hj => by
      have := (cqD_row k ρ5 (by omega) (p := i) (n - (i + 1)) j).resolve_right (by omega)
      rwa [show i + 1 + (n - (i + 1)) = n by omega] at this
    have hA : ∀ j, j ≠ 4 → gA (itr (cqD k) (i + 1) ρ5) j = gA (itr (cqD k) n ρ5) j := fun j hj => by rw [cqD_it_A _ _ hj, cqD_it_A _ _ hj]
    rw [itr_s, itr_s]
    generalize itr (cvStep n na k) i (0, σ6) = x at a eK ⊢
    generalize itr (cqStep n na s k) i (0, ρ5) = y at a b bb ⊢
    have r2 := h6.scrC eK.s
    have ho : oldC x.2 (nI i) = oldR (cqD k i y.2) i := by
      rw [r2.old (by omega)]
      exact congrFun (old_eq ((hA 1 (by decide)).symm.trans (bb.1 1 (by decide)).symm) ((hA 2 (by decide)).symm.trans (bb.1 2 (by decide)).symm)) i
    have hkn : ∀ j, j < 60 → knR (itr (cqD k) n ρ5) i j = knR (cqD k i y.2) i j := fun j hj => by
      unfold knR
      rw [bb.1 4 (by decide), hrow j hj]
    have hh : heardC x.2 n i k = knR (cqD k i y.2) i k := (r2.heard (by omega) (by omega)).trans (hkn k (by omega))
    unfold cvStep cqStep
    rw [ho, hh]
    by_cases c1 : oldR (cqD k i y.2) i = true
    · rw [if_pos c1]
      by_cases c2 : knR (cqD k i y.2) i k = true
      · rw [if_pos c2, if_pos ⟨c1, c2⟩]
        have hrk : RK x.2 (cqD k i y.2) ns na := r2.rk.of (eqS.refl _) ((bb.1 8 (by decide)).trans (hA 8 (by decide))) ((bb.1 9 (by decide)).trans (hA 9 (by decide))) ((bb.1 10 (by decide)).trans (hA 10 (by decide))) ((bb.1 11 (by decide)).trans (hA 11 (by decide))) ((bb.1 12 (by decide)).trans (hA 12 (by decide)))
        have hkk := know_eqK (n := n) hrk hs (W := gB x.2 11 i) (w := nI i) (fun j hj => by
          unfold isKnownR
          rw [if_neg (ix_nonneg (by omega)), ix_nI (by omega), r2.kn (by omega) (by omega)]
          exact hkn j (by omega))
        have h16' : stC x.2 k = s := by
          unfold stC
          rw [eK.1 17 (by decide) (by decide) (by decide)]
          exact hst
        have hb := (hkk.2.2.2.2.1 k hk h16').1
        refine ⟨?_, bb.trans (eqR_fk _ _ _ _ _)⟩
        show (if btL (gL (addUpC x.2 na (gB x.2 11 i)) 1) k = true then x.1 + 1 else x.1) = y.1 + (if gA (fkS (cqD k i y.2) n na (nI i) s) 16 k = 0 then 0 else 1)
        rw [hb, a]
        by_cases c3 : gA (fkS (cqD k i y.2) n na (nI i) s) 16 k = 0
        · rw [if_pos c3, decide_eq_true c3, if_neg (by decide)]; rfl
        · rw [if_neg c3, decide_eq_false c3, if_pos (by decide)]
      · rw [if_neg c2, if_neg (fun q => c2 q.2)]
        exact ⟨a, bb⟩
    · rw [if_neg c1, if_neg (fun q => c1 q.1)]
      exact ⟨a, bb⟩
theorem strong_rel (h : RelN σ ρ n ns na) {k : Nat} (hk : k < na) (h0 : gA ρ 15 k = 0) (c : Bool) : RelN (if c = true then pL σ 0 (gL σ 0 ||| oneL k) else σ) (pA ρ 15 (upd (gA ρ 15) k (b2i c))) n ns na := by
  have h60 := h.a60
  cases c with
  | false =>
    rw [if_neg Bool.false_ne_true, show b2i false = 0 from rfl, upd_id h0, pA_self]
    exact h
  | true =>
    rw [if_pos rfl]
    refine ⟨IC_of h.ic rfl rfl rfl rfl rfl rfl rfl rfl rfl, IR_of h.ir rfl rfl rfl rfl rfl rfl rfl rfl rfl, h.r1, h.r2, h.r3.up rfl rfl rfl rfl, h.r4.same rfl rfl rfl rfl, ⟨?_, ?_, h.r5.2.2⟩, h.r6.up rfl rfl rfl rfl (Nat.le_refl _), h.r7, h.r8.up rfl rfl rfl⟩
    · intro j
      show btL (gL σ 0 ||| oneL k) j = (decide (j < 60) && !decide (upd (gA ρ 15) k (b2i true) j = 0))
      rw [btL_or, btL_one (by omega), h.r5.1 j]
      by_cases e : j = k
      · subst e
        rw [upd_s, decide_eq_true (p := j = j) rfl, Bool.or_true, decide_eq_true (show j < 60 by omega)]; rfl
      · rw [upd_n e, decide_eq_false e, Bool.or_false]
    · intro j hj
      show upd (gA ρ 15) k (b2i true) j = 0
      rw [upd_n (by omega)]
      exact h.r5.2.1 j hj
theorem old_pop (h : RelN σ ρ n ns na) : pop32 (gI σ 4) = nI (oldManyR ρ n) := by
  have h16 := h.n16
  unfold oldManyR
  rw [pop32_eq, cnt_cut (show n ≤ 32 by omega) (fun i a b => by
    rw [h.r3.2.1 i b]
    cases e : oldR ρ i
    · rfl
    · have := h.lv_lt (old_lv e); omega), cnt_congr (fun p hp => h.r3.2.1 p (by omega))]
theorem actS_rel (h : RelN σ ρ n ns na) (h60 : na < 60) {s a : Nat} {kd b x y : Int32} (hs : s < ns) (ha : a < n) (hla : lvR ρ a = true) (hy : ∀ p, p < 32 → bt y p = true → lvR ρ p = true) (hd : isDoableB σ kd s a b x = true) (hA : isActB ρ n kd (nI s) (nI a) b x y = true) : RelN (actS σ n na kd s a b x y) (actSQ ρ n na kd s a b x y) n ns (na + 1) := by
  have h8 := h.s8
  have h16 := h.n16
  have h5 := act5_rel (y := y) h h60 hs ha hd hA
  have k16 : gA (act5 σ na kd s a b x y) 16 = upd (gA σ 16) na kd := act5_16
  have k17 : gA (act5 σ na kd s a b x y) 17 = upd (gA σ 17) na (nI s) := act5_17
  have q14 : gA (act5Q ρ na kd s a b x y) 14 na = y ||| one a := upd_s
  have q15 : gA (act5Q ρ na kd s a b x y) 15 na = 0 := h.r5.2.1 na (Nat.le_refl _)
  have q4 : gA (act5Q ρ na kd s a b x y) 4 = gA ρ 4 := rfl
  have q2 : gA (act5Q ρ na kd s a b x y) 2 = gA ρ 2 := rfl
  unfold actS actSQ
  dsimp only
  generalize act5 σ na kd s a b x y = σ5 at h5 k16 k17 ⊢
  generalize act5Q ρ na kd s a b x y = ρ5 at h5 q14 q15 q4 q2 ⊢
  obtain ⟨h6, -⟩ := wit_it h5 (k := na) (Nat.lt_succ_self _) (fun p hp => by
    cases e : knR ρ5 p na with
    | false => rfl
    | true =>
      have e' : knR ρ p na = true := by unfold knR at e ⊢; rw [q4] at e; exact e
      have := (h.kn_lt hp h60 e').2
      omega) (fun p hp e => by
    rw [q14, bt_or, bt_one (by omega)] at e
    have hl : lvR ρ p = true := by
      rcases Bool.or_eq_true _ _ ▸ e with q | q
      · exact hy p hp q
      · rw [of_decide_eq_true q]; exact hla
    unfold lvR at hl ⊢
    rw [q2]; exact hl) n (Nat.le_refl _)
  have w16 := wit_16 n na σ5 n
  generalize itr (witStep n na) n σ5 = σ6 at h6 w16 ⊢
  have hst : stC σ6 na = s := by
    unfold stC
    rw [h6.r1.2.2.2.2.2.2.1, cqD_it_A _ _ (by decide), ← h5.r1.2.2.2.2.2.2.1, k17, upd_s, ix_nI (by omega)]
  obtain ⟨c1, c2⟩ := cv_rel (k := na) (s := s) (Nat.lt_succ_self _) (by omega) h6 hst n (Nat.le_refl _)
  have hle := cv_le σ6 n (na + 1) na n
  have eK := cv_it σ6 n (na + 1) na n
  have hc : eqK σ6 (convS σ6 n (na + 1) na) := by
    unfold convS
    split
    · exact eqK.refl _
    · exact eK
  have h7 : RelN (convS σ6 n (na + 1) na) (cqC ρ5 n (na + 1) na s).2 n ns (na + 1) := h6.scr hc.s c2
  have z15 : gA (cqC ρ5 n (na + 1) na s).2 15 na = 0 := by
    have : gA (cqC ρ5 n (na + 1) na s).2 15 = gA ρ5 15 := (c2.1 15 (by decide)).trans (cqD_it_A _ _ (by decide) n)
    rw [this]; exact q15
  have hstr : convB σ6 n (na + 1) na = strQ kd (cqC ρ5 n (na + 1) na s).1 (oldManyR (cqC ρ5 n (na + 1) na s).2 n) := by
    obtain ⟨j, hj, rfl⟩ := doable_kd hd
    have hkd : kdC σ6 na = j := by
      unfold kdC
      rw [w16, k16, upd_s, ix_nI (by omega)]
    have e6 : (nI j = 6) ↔ j = 6 := nI_eq (b := 6) (by omega) (by decide)
    unfold convB strQ
    rw [hkd]
    by_cases k6 : j = 6
    · rw [if_pos k6, decide_eq_true (e6.mpr k6)]; rfl
    · rw [if_neg k6, decide_eq_false (fun q => k6 (e6.mp q)), Bool.not_false, Bool.true_and]
      have r8 : RelN (cvC σ6 n (na + 1) na).2 (cqC ρ5 n (na + 1) na s).2 n ns (na + 1) := h6.scr eK.s c2
      have ec : (cvC σ6 n (na + 1) na).1 = (cqC ρ5 n (na + 1) na s).1 := c1
      have hle' : (cqC ρ5 n (na + 1) na s).1 ≤ 16 := by rw [← ec]; exact Nat.le_trans hle h16
      have hom : oldManyR (cqC ρ5 n (na + 1) na s).2 n ≤ 16 := Nat.le_trans (cnt_le _ _) h16
      rw [old_pop r8, ec]
      generalize (cqC ρ5 n (na + 1) na s).1 = C at hle' ⊢
      generalize oldManyR (cqC ρ5 n (na + 1) na s).2 n = O at hom ⊢
      congr 1
      apply decide_eq_decide.mpr
      by_cases o2 : 2 ≤ O
      · rw [if_neg (show ¬ nI O < 2 from fun q => by have := (nI_ltI (b := 2) (by omega) (by decide)).mp q; omega), if_pos o2]
        exact nI_ltI (b := 2) (by omega) (by decide)
      · rw [if_pos (show nI O < 2 from (nI_ltI (b := 2) (by omega) (by decide)).mpr (by omega)), if_neg o2]
        exact nI_ltI (by omega) (by omega)
  rw [← hstr]
  exact strong_rel h7 (Nat.lt_succ_self _) z15 _
/-- what may be done -/
theorem nI_3 {m : Nat} (h : m < 100) : (nI m = 3) ↔ m = 3 := nI_eq (b := 3) (by omega) (by decide)
theorem pledge_eq (h : RelN σ ρ n ns na) {S A : Nat} (hS : S < 8) (hA : A < 16) (b : Int32) : isPledgeB σ b S A = (isIn b (gI ρ 3) && (decide (gA ρ 8 (ix b) = 3) && (decide (gA ρ 9 (ix b) = nI S) && decide (gA ρ 10 (ix b) = nI A)))) := by
  unfold isPledgeB
  rw [h.inA]
  cases c : isIn b (gI ρ 3) with
  | false => rfl
  | true =>
    obtain ⟨B, hB, rfl⟩ := h.aI c
    have h60 := h.a60
    rw [ix_nI (by omega), ← h.r1.2.2.2.2.2.1, ← h.r1.2.2.2.2.2.2.1, ← h.r1.2.2.2.2.2.2.2.1]
    obtain ⟨o1, o2, o3, -⟩ := h.okc
    obtain ⟨a1, a2⟩ := o1 B (by omega)
    obtain ⟨b1, b2⟩ := o2 B (by omega)
    obtain ⟨d1, d2⟩ := o3 B (by omega)
    rw [a1, b1, d1, decide_eq_decide.mpr (nI_3 (m := kdC σ B) (by omega)), decide_eq_decide.mpr (nI_eq (a := stC σ B) (b := S) (by omega) (by omega)), decide_eq_decide.mpr (nI_eq (a := doC σ B) (b := A) (by omega) (by omega))]
theorem inB_06 {j : Nat} (hj : j < 7) : inB (nI j) 0 6 = true := by
  rcases (show j = 0 ∨ j = 1 ∨ j = 2 ∨ j = 3 ∨ j = 4 ∨ j = 5 ∨ j = 6 by omega) with rfl | rfl | rfl | rfl | rfl | rfl | rfl <;> decide
theorem doable_eq (h : RelN σ ρ n ns na) {j S A : Nat} (hj : j < 7) (hS : S < 8) (hA : A < 16) (b x : Int32) : isDoableB σ (nI j) S A b x = (if inB (nI j) 1 3 = true then aliveR ρ b && (!decide (nI A = b) && inB x 1 12)
     else if nI j = 4 then isIn b (gI ρ 3) && (decide (gA ρ 8 (ix b) = 3) && (decide (gA ρ 9 (ix b) = nI S) && decide (gA ρ 10 (ix b) = nI A)))
     else !decide (nI j = 5) || inB x 1 20) := by
  have hand : (aliveC σ b && (!decide (b = nI A) && (!decide (x < 1) && !decide (12 < x)))) = (aliveR ρ b && (!decide (nI A = b) && inB x 1 12)) := by
    rw [h.alvW, decide_eq_decide.mpr (eq_comm (a := b) (b := nI A))]
    rfl
  unfold isDoableB
  rcases (show j = 0 ∨ j = 1 ∨ j = 2 ∨ j = 3 ∨ j = 4 ∨ j = 5 ∨ j = 6 by omega) with rfl | rfl | rfl | rfl | rfl | rfl | rfl
  · rw [if_pos rfl, if_neg (by decide), if_neg (by decide), decide_eq_false (show ¬ nI 0 = 5 by decide)]; rfl
  · rw [if_neg (by decide), if_pos (Or.inl rfl), if_pos (by decide)]; exact hand
  · rw [if_neg (by decide), if_pos (Or.inr (Or.inl rfl)), if_pos (by decide)]; exact hand
  · rw [if_neg (by decide), if_pos (Or.inr (Or.inr rfl)), if_pos (by decide)]; exact hand
  · rw [if_neg (by decide), if_neg (by decide), if_pos rfl, if_neg (by decide), if_pos (by decide)]; exact pledge_eq h hS hA b
  · rw [if_neg (by decide), if_neg (by decide), if_neg (by decide), if_pos rfl, if_neg (by decide), if_neg (by decide), decide_eq_true (show nI 5 = 5 by decide)]; rfl
  · rw [if_neg (by decide), if_neg (by decide), if_neg (by decide), if_neg (by decide), if_pos rfl, if_neg (by decide), if_neg (by decide), decide_eq_false (show ¬ nI 6 = 5 by decide)]; rfl
theorem act_iff (h : RelN σ ρ n ns na) (kd s a b x y : Int32) : isActB ρ n kd s a b x y = true ↔ (isIn s (gI σ 5) = true ∧ aliveC σ a = true ∧ allAliveC σ y = true) ∧ isDoableB σ kd (ix s) (ix a) b x = true := by
  unfold isActB
  rw [h.inS, h.alvW a]
  have h8 := h.s8
  have h16 := h.n16
  constructor
  · intro q
    split at q
    · rename_i c
      obtain ⟨c1, c2, c3, c4, c5⟩ := c
      obtain ⟨j, hj, rfl⟩ := inB6 c1
      obtain ⟨S, hS, rfl⟩ := h.sI c2
      obtain ⟨A, hA, rfl⟩ := h.pI (aliveR_in c3)
      refine ⟨⟨c2, c3, by rw [h.allA]; exact decide_eq_true c5⟩, ?_⟩
      rw [ix_nI (n := S) (by omega), ix_nI (n := A) (by omega), doable_eq h hj (by omega) (by omega)]
      exact q
    · cases q
  · rintro ⟨⟨c2, c3, c5⟩, q⟩
    obtain ⟨j, hj, rfl⟩ := doable_kd q
    obtain ⟨S, hS, rfl⟩ := h.sI c2
    obtain ⟨A, hA, rfl⟩ := h.pI (aliveR_in c3)
    rw [ix_nI (n := S) (by omega), ix_nI (n := A) (by omega), doable_eq h hj (by omega) (by omega)] at q
    rw [if_pos (show inB (nI j) 0 6 = true ∧ isIn (nI S) (gI ρ 2) = true ∧ aliveR ρ (nI A) = true ∧ ¬ y < 0 ∧ (y &&& (livBitsR ρ n ^^^ (-1))) = 0 from ⟨inB_06 hj, c2, c3, h.y_pos c5, of_decide_eq_true (by rw [← h.allA]; exact c5)⟩)]
    exact q
theorem act_rel2 (h : RelN σ ρ n ns na) (kd s a b x y : Int32) : (actR σ n na kd s a b x y).1 = (actQ ρ n na kd s a b x y).1 ∧ ((actR σ n na kd s a b x y).1 < 0 → RelN (actR σ n na kd s a b x y).2 (actQ ρ n na kd s a b x y).2 n ns na) ∧ (¬ (actR σ n na kd s a b x y).1 < 0 → RelN (actR σ n na kd s a b x y).2 (actQ ρ n na kd s a b x y).2 n ns (na + 1)) := by
  have hi := act_iff h kd s a b x y
  have h60 := h.a60
  have h8 := h.s8
  have h16 := h.n16
  unfold actR actQ
  by_cases c : isActB ρ n kd s a b x y = true
  · obtain ⟨k1, k2⟩ := hi.mp c
    rw [if_pos c, if_pos k1, if_pos k2]
    by_cases c6 : na < 60
    · rw [if_pos c6, if_neg (by omega)]
      refine ⟨rfl, fun q => absurd q (ix_nonneg (by omega)), fun _ => ?_⟩
      obtain ⟨f1, f2, f3, -, -⟩ := isAct_f c
      obtain ⟨S, hS, rfl⟩ := h.sI f2
      obtain ⟨A, hA, rfl⟩ := h.pI (aliveR_in f3)
      rw [ix_nI (n := S) (by omega), ix_nI (n := A) (by omega)] at k2 ⊢
      refine actS_rel h c6 hS hA (by rw [← h.alv (by omega)]; exact k1.2.1) (fun p hp e => ?_) k2 c
      have := of_decide_eq_true (show decide ((y &&& (livBitsR ρ n ^^^ (-1))) = 0) = true by rw [← h.allA]; exact k1.2.2)
      have := sub_32.mp this p hp e
      rw [← h.liv, h.r3.1 p hp] at this
      exact this
    · rw [if_neg c6, if_pos (by omega)]
      exact ⟨rfl, fun _ => h, fun q => absurd (show (-3 : Int32) < 0 by decide) q⟩
  · rw [if_neg c]
    by_cases k1 : isIn s (gI σ 5) = true ∧ aliveC σ a = true ∧ allAliveC σ y = true
    · rw [if_pos k1, if_neg (fun q => c (hi.mpr ⟨k1, q⟩))]
      exact ⟨rfl, fun _ => h, fun q => absurd (show (-1 : Int32) < 0 by decide) q⟩
    · rw [if_neg k1]
      exact ⟨rfl, fun _ => h, fun q => absurd (show (-1 : Int32) < 0 by decide) q⟩
theorem act_rel (h : RelN σ ρ n ns na) (kd s a b x y : Int32) : SR (actR σ n na kd s a b x y) (actQ ρ n na kd s a b x y) := by
  obtain ⟨a1, a2, a3⟩ := act_rel2 h kd s a b x y
  by_cases c : (actR σ n na kd s a b x y).1 < 0
  · exact ⟨a1, n, ns, na, a2 c⟩
  · exact ⟨a1, n, ns, na + 1, a3 c⟩
end PP
theorem acts_it {n ns sh fr : Nat} : ∀ (c d na at_ : Nat) (σ ρ : sS), RelN σ ρ n ns na → at_ = 36 * sh + fr + 6 * d → (actsL n sh fr c d na σ).1 = (actsO n c d at_ na ρ).1 ∧ ∃ na', RelN (actsL n sh fr c d na σ).2 (actsO n c d at_ na ρ).2 n ns na'
  | 0, d, na, at_, σ, ρ, h, _ => ⟨rfl, na, h⟩
  | c + 1, d, na, at_, σ, ρ, h, e => by
    have e30 : gA σ 30 = gA ρ 24 := h.r1.2.2.2.2.2.2.2.2.2.2.2.2.2
    have ef : fromR σ n na sh (fr + d * 6) = actR σ n na (gA ρ 24 at_) (gA ρ 24 (at_ + 1)) (gA ρ 24 (at_ + 2)) (gA ρ 24 (at_ + 3)) (gA ρ 24 (at_ + 4)) (gA ρ 24 (at_ + 5)) := by
      unfold fromR
      rw [e30, show sh * 36 + (fr + d * 6) = at_ by omega]
    obtain ⟨a1, a2, a3⟩ := act_rel2 h (gA ρ 24 at_) (gA ρ 24 (at_ + 1)) (gA ρ 24 (at_ + 2)) (gA ρ 24 (at_ + 3)) (gA ρ 24 (at_ + 4)) (gA ρ 24 (at_ + 5))
    rw [← ef] at a1 a2 a3
    have eQ : itAt ρ n na at_ = actQ ρ n na (gA ρ 24 at_) (gA ρ 24 (at_ + 1)) (gA ρ 24 (at_ + 2)) (gA ρ 24 (at_ + 3)) (gA ρ 24 (at_ + 4)) (gA ρ 24 (at_ + 5)) := rfl
    rw [← eQ] at a1 a2 a3
    unfold actsL actsO
    by_cases k : (fromR σ n na sh (fr + d * 6)).1 < 0
    · rw [if_pos k, if_pos (show (itAt ρ n na at_).1 < 0 by rw [← a1]; exact k)]
      exact ⟨rfl, na, a2 k⟩
    · rw [if_neg k, if_neg (show ¬ (itAt ρ n na at_).1 < 0 by rw [← a1]; exact k)]
      exact acts_it c (d + 1) (na + 1) (at_ + 6) _ _ (a3 k) (by omega)
section PP
variable {σ ρ : sS} {n ns na : Nat}
theorem acts_rel (h : RelN σ ρ n ns na) (sh la fr x : Int32) : SR (actsR σ n na sh la fr x) (actsQ ρ n na sh la fr x) := by
  unfold actsR actsQ
  by_cases c1 : x < 0
  · rw [if_pos c1, if_neg (fun q => (inB_t.mp q.2).1 c1)]; exact h.same _
  rw [if_neg c1]
  by_cases c2 : x ≤ 6
  · rw [if_pos c2]
    by_cases c : isShQ sh la = true
    · rw [if_pos (show isShQ sh la = true ∧ inB x 0 6 = true from ⟨c, inB_t.mpr ⟨c1, nlt.mpr c2⟩⟩), refuse_rel h sh la c]
      obtain ⟨b1, b2⟩ := (shB sh la).mpr c
      obtain ⟨s, hs, rfl⟩ := isSheet_nI b1
      obtain ⟨X, hX, rfl⟩ := nI_of2 (x := x) (M := 6) (n := 6) (by decide) c1 c2
      rw [ix_nI (n := s) (by omega), ix_nI (n := X) (by omega)]
      by_cases cl : gA ρ 22 s = la
      · rw [if_pos cl, if_pos cl, if_pos rfl]
        have e29 : gA ρ 23 s = gA σ 29 s := by rw [h.r1.2.2.2.2.2.2.2.2.2.2.2.2.1]
        rw [e29, Nat.mul_comm 6 X]
        by_cases f0 : fr < 0
        · rw [if_pos f0, if_neg (fun q => (inB_t.mp q).1 f0)]; exact h.same _
        · rw [if_neg f0]
          by_cases f1 : fr ≤ gA σ 29 s - nI (X * 6)
          · rw [if_pos f1, if_pos (inB_t.mpr ⟨f0, nlt.mpr f1⟩)]
            obtain ⟨a1, na', a2⟩ := acts_it (sh := s) (fr := ix fr) X 0 na (36 * s + ix fr) σ ρ h (by omega)
            exact ⟨congrArg nI a1, n, ns, na', a2⟩
          · rw [if_neg f1, if_neg (fun q => f1 (nlt.mp (inB_t.mp q).2))]; exact h.same _
      · rw [if_neg cl, if_neg cl]
        by_cases c3 : 0 ≤ gA ρ 22 s
        · rw [if_pos c3, if_pos c3, if_neg (by decide)]; exact h.same _
        · rw [if_neg c3, if_neg c3, if_neg (by decide)]; exact h.same _
    · rw [if_neg (show ¬ (isShQ sh la = true ∧ inB x 0 6 = true) from fun q => c q.1)]
      have : refuseC σ sh la = -1 := by
        unfold refuseC
        rw [if_neg (fun q => c ((shB sh la).mp q))]
      rw [this, if_neg (by decide)]
      exact h.same _
  · rw [if_neg c2, if_neg (fun q => c2 (nlt.mp (inB_t.mp q.2).2))]; exact h.same _
end PP
