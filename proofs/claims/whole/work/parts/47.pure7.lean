/-! THE RELATION KEPT: parts, bound, holds, owner, worth, wealth -/
theorem allOld_bits (σ : sS) {k : Nat} (hk : k < 64) : ∀ i, btL (itr (fun i a => if oldC σ (nI i) = true then a &&& gB σ 11 i else a) i (-1)) k = allN (fun p => !oldC σ (nI p) || btL (gB σ 11 p) k) i
  | 0 => by rw [itr_0, btL_m1, decide_eq_true hk]; rfl
  | i + 1 => by
    have ih := allOld_bits σ hk i
    rw [itr_s]
    show btL (if oldC σ (nI i) = true then itr (fun i a => if oldC σ (nI i) = true then a &&& gB σ 11 i else a) i (-1) &&& gB σ 11 i else itr (fun i a => if oldC σ (nI i) = true then a &&& gB σ 11 i else a) i (-1)) k = (allN (fun p => !oldC σ (nI p) || btL (gB σ 11 p) k) i && (!oldC σ (nI i) || btL (gB σ 11 i) k))
    cases e : oldC σ (nI i) with
    | true => rw [if_pos rfl, btL_and, ih]; rfl
    | false => rw [if_neg (by decide), ih]; exact (Bool.and_true _).symm
theorem allN_congr {f g : Nat → Bool} : ∀ {n : Nat}, (∀ i, i < n → f i = g i) → allN f n = allN g n
  | 0, _ => rfl
  | n + 1, h => by
    show (allN f n && f n) = (allN g n && g n)
    rw [allN_congr (fun i hi => h i (by omega)), h n (by omega)]
section PP
variable {σ ρ : sS} {n ns na : Nat}
theorem RelN.old0 (h : RelN σ ρ n ns na) : gI σ 4 = 0 ↔ oldManyR ρ n = 0 := by
  have h16 := h.n16
  unfold oldManyR
  rw [cnt_zero]
  refine ⟨fun e i hi => by rw [← h.r3.2.1 i (by omega), e, bt_0], fun e => bt_ext (fun i hi => ?_)⟩
  rw [bt_0, h.r3.2.1 i hi]
  by_cases c : i < n
  · exact e i c
  · cases z : oldR ρ i
    · rfl
    · exact absurd (h.lv_lt (old_lv z)) c
theorem agreed_bits (h : RelN σ ρ n ns na) {k : Nat} (hk : k < na) : btL (gL σ 0 &&& allOldC σ n) k = knownAll ρ n k := by
  have h16 := h.n16
  have h60 := h.a60
  unfold knownAll
  rw [itr_and (fun p => !oldR ρ p || knR ρ p k), btL_and, h.r5.1 k, decide_eq_true (show k < 60 by omega), Bool.true_and, Bool.and_assoc]
  congr 1
  unfold allOldC
  by_cases c : gI σ 4 = 0
  · rw [if_pos c, btL_0, decide_eq_true (h.old0.mp c)]; rfl
  · rw [if_neg c, decide_eq_false (fun q => c (h.old0.mpr q)), allOld_bits σ (by omega)]
    show _ = allN _ n
    exact allN_congr (fun p hp => by rw [h.old (by omega), h.kn (by omega) (by omega)])
theorem ix_nonneg {p : Nat} (hp : p < 1000) : ¬ nI p < 0 := nI_pos (by omega)
/-- whose knowledge: class and reference agree -/
theorem person_bits (h : RelN σ ρ n ns na) {p : Nat} (hp : p < 16) {k : Nat} (hk : k < na) : btL (gB σ 11 p) k = isKnownR ρ n (nI p) k := by
  have h60 := h.a60
  unfold isKnownR
  rw [if_neg (ix_nonneg (by omega)), ix_nI (by omega), h.kn hp (by omega)]
theorem m1_neg : (-1 : Int32) < 0 := by decide
theorem inW {w : Int32} {n : Nat} (hn : n ≤ 16) : inB w (-1) (nI n - 1) = true ↔ w = -1 ∨ isIn w (nI n) = true := by
  rw [inB_t]
  constructor
  · rintro ⟨a, b⟩
    by_cases c : w < 0
    · left
      apply Int32.toInt_inj.mp
      have z1 : (0 : Int32).toInt = 0 := by decide
      have z2 : (-1 : Int32).toInt = -1 := by decide
      rw [Int32.lt_iff_toInt_lt, z1] at c
      rw [Int32.lt_iff_toInt_lt, z2] at a
      rw [z2]
      omega
    · right
      rw [← inB_pred (by omega)]
      exact inB_t.mpr ⟨c, b⟩
  · rintro (e | e)
    · subst e
      refine ⟨by decide, ?_⟩
      rw [Int32.lt_iff_toInt_lt, pred_toInt (by omega), show (-1 : Int32).toInt = -1 by decide]
      omega
    · rw [← inB_pred (by omega)] at e
      have := inB_t.mp e
      refine ⟨fun q => this.1 ?_, this.2⟩
      rw [Int32.lt_iff_toInt_lt] at q ⊢
      rw [show (-1 : Int32).toInt = -1 by decide] at q
      rw [show (0 : Int32).toInt = 0 by decide]
      omega
theorem look_rel (h : RelN σ ρ n ns na) (w : Int32) : lookV σ w = agR ρ n w ∧ eqK σ (lookS σ n na w) ∧ (0 ≤ agR ρ n w → agR ρ n w = 0 ∧ lookS σ n na w = addUpC σ na (knownToC σ n w) ∧ ∀ k, k < na → btL (knownToC σ n w) k = isKnownR ρ n w k) := by
  have h16 := h.n16
  unfold lookV agR lookS knownToC
  by_cases c1 : w = -1
  · subst c1
    rw [if_pos rfl, if_pos ((inW h16).mpr (Or.inl rfl)), if_pos m1_neg, if_pos (Or.inl rfl), if_pos rfl]
    refine ⟨rfl, eqK_addUp _ _ _, fun _ => ⟨rfl, rfl, fun k hk => ?_⟩⟩
    rw [agreed_bits h hk]
    unfold isKnownR
    rw [if_pos m1_neg]
  · rw [if_neg c1, if_neg c1]
    by_cases c2 : isIn w (gI σ 2) = true
    · have c2' := c2
      rw [h.cn] at c2'
      obtain ⟨p, hp, rfl⟩ := isIn_nI (n := n) (by omega) c2'
      rw [if_pos c2, if_pos c2, if_pos ((inW h16).mpr (Or.inr c2')), if_neg (ix_nonneg (by omega)), ix_nI (by omega), h.alv (by omega)]
      by_cases c3 : gA ρ 2 p = 0
      · have : lvR ρ p = false := by unfold lvR; rw [decide_eq_true c3]; rfl
        rw [this, if_pos c3, if_neg (by decide), if_neg (fun z => z.elim c1 (fun q => Bool.false_ne_true q.2))]
        exact ⟨rfl, eqK.refl σ, fun q => absurd q (by decide)⟩
      · have : lvR ρ p = true := by unfold lvR; rw [decide_eq_false c3]; rfl
        rw [this, if_neg c3, if_pos rfl, if_pos (Or.inr ⟨c2, rfl⟩)]
        exact ⟨rfl, eqK_addUp _ _ _, fun _ => ⟨rfl, rfl, fun k hk => person_bits h (by omega) hk⟩⟩
    · rw [if_neg c2, if_neg (show ¬ (w = -1 ∨ isIn w (gI σ 2) = true ∧ aliveC σ w = true) from fun z => z.elim c1 (fun q => c2 q.1)), if_neg (show ¬ (inB w (-1) (nI n - 1) = true) from fun q => ((inW h16).mp q).elim c1 (fun z => c2 (by rw [h.cn]; exact z)))]
      exact ⟨rfl, eqK.refl σ, fun q => absurd q (by decide)⟩
theorem look_kn (h : RelN σ ρ n ns na) {w : Int32} (c : 0 ≤ agR ρ n w) {s : Nat} (hs : s < 8) : Kn (stC σ) s na (lookS σ n na w) (fkS ρ n na w s) (fkC ρ n na w s).1 := by
  obtain ⟨-, -, k⟩ := look_rel h w
  obtain ⟨-, e, hW⟩ := k c
  rw [e]
  exact know_eq h hs hW
theorem ag_0 {ρ : sS} {n : Nat} {w : Int32} (c : ¬ 0 ≤ agR ρ n w) : ¬ agR ρ n w = 0 := fun q => c (by rw [q]; decide)
theorem parts_rel (h : RelN σ ρ n ns na) (w s o : Int32) : SR (partsR σ n na 24 w s o) (partsQ ρ n na 18 w s o) := by
  unfold partsR partsQ
  rw [h.inS, h.inP]
  obtain ⟨lv, le, lk⟩ := look_rel h w
  by_cases c : isIn s (gI ρ 2) = true ∧ isIn o (gI ρ 0) = true
  · rw [if_pos c, if_pos c, lv]
    obtain ⟨S, hS, rfl⟩ := h.sI c.1
    obtain ⟨O, hO, rfl⟩ := h.pI c.2
    have := h.s8
    have := h.n16
    rw [ix_nI (by omega), ix_nI (by omega)]
    by_cases ca : 0 ≤ agR ρ n w
    · rw [if_pos ca, if_pos (lk ca).1]
      exact ⟨(look_kn h ca (by omega)).1 O (by omega), n, ns, na, h.scr le.s (eqR_fk _ _ _ _ _)⟩
    · rw [if_neg ca, if_neg (ag_0 ca)]
      exact ⟨rfl, n, ns, na, h.scrC le.s⟩
  · rw [if_neg c, if_neg c]; exact h.same _
theorem bound_rel (h : RelN σ ρ n ns na) (w s o : Int32) : SR (partsR σ n na 25 w s o) (partsQ ρ n na 19 w s o) := by
  unfold partsR partsQ
  rw [h.inS, h.inP]
  obtain ⟨lv, le, lk⟩ := look_rel h w
  by_cases c : isIn s (gI ρ 2) = true ∧ isIn o (gI ρ 0) = true
  · rw [if_pos c, if_pos c, lv]
    obtain ⟨S, hS, rfl⟩ := h.sI c.1
    obtain ⟨O, hO, rfl⟩ := h.pI c.2
    have := h.s8
    have := h.n16
    rw [ix_nI (by omega), ix_nI (by omega)]
    by_cases ca : 0 ≤ agR ρ n w
    · rw [if_pos ca, if_pos (lk ca).1]
      exact ⟨(look_kn h ca (by omega)).2.1 O (by omega), n, ns, na, h.scr le.s (eqR_fk _ _ _ _ _)⟩
    · rw [if_neg ca, if_neg (ag_0 ca)]
      exact ⟨rfl, n, ns, na, h.scrC le.s⟩
  · rw [if_neg c, if_neg c]; exact h.same _
theorem holds_rel (h : RelN σ ρ n ns na) (w k : Int32) : SR (holdsR σ n na w k) (holdsQ ρ n na w k) := by
  unfold holdsR holdsQ
  rw [h.inA]
  obtain ⟨lv, le, lk⟩ := look_rel h w
  by_cases c : isIn k (gI ρ 3) = true
  · rw [if_pos c, if_pos c, lv]
    obtain ⟨j, hj, rfl⟩ := h.aI c
    have h60 := h.a60
    rw [ix_nI (by omega)]
    have h2 := h.scrC le.s
    by_cases ca : 0 ≤ agR ρ n w
    · rw [if_pos ca, if_pos (lk ca).1, ((look_rel h2 w).2.2 ca).2.2 j hj]
      by_cases ck : isKnownR ρ n w j = true
      · rw [if_pos ck, if_pos ck]
        have hst := (h.okc.2.1 j (by omega)).2
        have := (look_kn h ca hst).2.2.2.2.1 j hj rfl
        rw [← h.st]
        refine ⟨?_, n, ns, na, h.scr le.s (eqR_fk _ _ _ _ _)⟩
        show b2i (btL (gL (lookS σ n na w) 1) j) = _
        rw [this.1]
      · rw [if_neg ck, if_neg ck]
        exact ⟨rfl, n, ns, na, h2⟩
    · rw [if_neg ca, if_neg (ag_0 ca)]
      exact ⟨rfl, n, ns, na, h2⟩
  · rw [if_neg c, if_neg c]; exact h.same _
theorem own_it {τ υ : sS} {s : Nat} (e : ∀ p, p < 16 → gA τ 24 (s * 16 + p) = gA υ 18 p) : ∀ i, i ≤ 16 → (itr (ownStep τ s) i (0, -4)).2 = itr (owStep υ) i (-4) ∧ (itr (ownStep τ s) i (0, -4)).1 = if 0 ≤ itr (owStep υ) i (-4) then gA υ 18 (ix (itr (owStep υ) i (-4))) else 0
  | 0, _ => ⟨rfl, by rw [itr_0, itr_0, if_neg (by decide)]⟩
  | i + 1, hi => by
    obtain ⟨a, b⟩ := own_it e i (by omega)
    rw [itr_s, itr_s]
    generalize itr (ownStep τ s) i (0, -4) = q at a b ⊢
    generalize itr (owStep υ) i (-4) = x at a b ⊢
    unfold ownStep owStep
    rw [e i (by omega), ← b]
    by_cases c : gA υ 18 i ≤ q.1
    · rw [if_pos c, if_pos c]; exact ⟨a, b⟩
    · rw [if_neg c, if_neg c]
      refine ⟨rfl, ?_⟩
      rw [if_pos (nI_pos' (by omega)), ix_nI (by omega)]
theorem owner_rel (h : RelN σ ρ n ns na) (w s : Int32) : SR (ownerR σ n na w s) (ownerQ ρ n na w s) := by
  unfold ownerR ownerQ
  rw [h.inS]
  obtain ⟨lv, le, lk⟩ := look_rel h w
  by_cases c : isIn s (gI ρ 2) = true
  · rw [if_pos c, if_pos c, lv]
    obtain ⟨S, hS, rfl⟩ := h.sI c
    have := h.s8
    rw [ix_nI (by omega)]
    by_cases ca : 0 ≤ agR ρ n w
    · rw [if_pos ca, if_pos (lk ca).1]
      exact ⟨(own_it (look_kn h ca (by omega)).1 n h.n16).1, n, ns, na, h.scr le.s (eqR_fk _ _ _ _ _)⟩
    · rw [if_neg ca, if_neg (ag_0 ca)]
      exact ⟨rfl, n, ns, na, h.scrC le.s⟩
  · rw [if_neg c, if_neg c]; exact h.same _
theorem worth_eq (h : RelN σ ρ n ns na) {τ υ : sS} {s : Nat} (e1 : gA τ 13 = gA σ 13) (e2 : gA υ 5 = gA ρ 5) (e : gA τ 26 s = gI υ 5 + 5 * gI υ 6) : worthC τ s = worthQ υ s := by
  unfold worthC worthQ
  rw [e1, e2, h.r1.2.2.1, e, Int32.add_assoc]
theorem worth_rel (h : RelN σ ρ n ns na) (w s : Int32) : SR (worthR σ n na w s) (worthR2 ρ n na w s) := by
  unfold worthR worthR2
  rw [h.inS]
  obtain ⟨lv, le, lk⟩ := look_rel h w
  by_cases c : isIn s (gI ρ 2) = true
  · rw [if_pos c, if_pos c, lv]
    obtain ⟨S, hS, rfl⟩ := h.sI c
    have := h.s8
    rw [ix_nI (by omega)]
    by_cases ca : 0 ≤ agR ρ n w
    · rw [if_pos ca, if_pos (lk ca).1]
      exact ⟨worth_eq h (le.1 13 (by decide) (by decide) (by decide)) ((eqR_fk ρ n na w S).1 5 (by decide)) (look_kn h ca (by omega)).2.2.1, n, ns, na, h.scr le.s (eqR_fk _ _ _ _ _)⟩
    · rw [if_neg ca, if_neg (ag_0 ca)]
      exact ⟨rfl, n, ns, na, h.scrC le.s⟩
  · rw [if_neg c, if_neg c]; exact h.same _
theorem ag_eq {ρ υ : sS} (e : eqR ρ υ) (n : Nat) (w : Int32) : agR υ n w = agR ρ n w := by
  unfold agR
  rw [e.1 2 (by decide)]
theorem wealth_it (h : RelN σ ρ n ns na) {w : Int32} (ca : 0 ≤ agR ρ n w) {o : Nat} (ho : o < 16) : ∀ i, i ≤ ns → itr (weStep (lookS σ n na w) o) i 0 = (itr (weStepQ n na w o) i (0, ρ)).1
  | 0, _ => rfl
  | i + 1, hi => by
    have ih := wealth_it h ca ho i (by omega)
    have e := we_eqR ρ n na w o i
    have := h.s8
    rw [itr_s, itr_s, ih]
    generalize itr (weStepQ n na w o) i (0, ρ) = q at e ⊢
    have h2 := h.scrR e
    have k := look_kn h2 (w := w) (by rw [ag_eq e]; exact ca) (s := i) (by omega)
    show q.1 + worthC (lookS σ n na w) i * gA (lookS σ n na w) 24 (i * 16 + o) / 12 = q.1 + (worthQ (fkS q.2 n na w i) i * gA (fkS q.2 n na w i) 18 o) / 12
    rw [k.1 o ho, worth_eq h2 ((look_rel h w).2.1.1 13 (by decide) (by decide) (by decide)) ((eqR_fk q.2 n na w i).1 5 (by decide)) k.2.2.1]
theorem wealth_rel (h : RelN σ ρ n ns na) (w o : Int32) : SR (wealthR σ n ns na w o) (wealthQ ρ n ns na w o) := by
  unfold wealthR wealthQ
  rw [h.inP]
  obtain ⟨lv, le, lk⟩ := look_rel h w
  by_cases c : isIn o (gI ρ 0) = true
  · rw [if_pos c, if_pos c, lv]
    obtain ⟨O, hO, rfl⟩ := h.pI c
    have := h.n16
    rw [ix_nI (by omega)]
    by_cases ca : 0 ≤ agR ρ n w
    · rw [if_pos ca, if_pos (lk ca).1]
      exact ⟨wealth_it h ca (by omega) ns (Nat.le_refl _), n, ns, na, h.scr le.s (we_eqR _ _ _ _ _ _)⟩
    · rw [if_neg ca, if_neg (ag_0 ca)]
      exact ⟨rfl, n, ns, na, h.scrC le.s⟩
  · rw [if_neg c, if_neg c]; exact h.same _
end PP
