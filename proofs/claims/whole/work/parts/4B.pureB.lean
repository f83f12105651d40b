/-! THE RELATION KEPT: split -/
def foO (o : Nat → Bool) : Nat → Option Nat
  | 0 => none
  | i + 1 => match foO o i with
    | some f => some f
    | none => if o i = true then some i else none
def dO (v : Nat → Nat → Int32) (s f p : Nat) : Bool := !allN (fun q => decide (v f (s * 16 + q) = v p (s * 16 + q))) 16
def unO (o : Nat → Bool) (v : Nat → Nat → Int32) (s : Nat) : Nat → Bool
  | 0 => false
  | i + 1 => unO o v s i || (o i && (match foO o i with
    | some f => dO v s f i
    | none => false))
theorem fo_no {o : Nat → Bool} {i : Nat} (c : ¬ o i = true) : foO o (i + 1) = foO o i := by
  show (match foO o i with | some f => some f | none => if o i = true then some i else none) = foO o i
  cases foO o i with
  | none => exact if_neg c
  | some f => rfl
theorem fo_some {o : Nat → Bool} {i f : Nat} (c : foO o i = some f) : foO o (i + 1) = some f := by
  show (match foO o i with | some f => some f | none => if o i = true then some i else none) = some f
  rw [c]
theorem fo_new {o : Nat → Bool} {i : Nat} (c : foO o i = none) (d : o i = true) : foO o (i + 1) = some i := by
  show (match foO o i with | some f => some f | none => if o i = true then some i else none) = some i
  rw [c]
  exact if_pos d
theorem un_no {o : Nat → Bool} {v : Nat → Nat → Int32} {s i : Nat} (c : ¬ o i = true) : unO o v s (i + 1) = unO o v s i := by
  show (unO o v s i || (o i && _)) = _
  rw [Bool.eq_false_iff.mpr c, Bool.false_and, Bool.or_false]
theorem un_new {o : Nat → Bool} {v : Nat → Nat → Int32} {s i : Nat} (c : foO o i = none) : unO o v s (i + 1) = unO o v s i := by
  show (unO o v s i || (o i && (match foO o i with | some f => dO v s f i | none => false))) = _
  rw [c, Bool.and_false, Bool.or_false]
theorem un_some {o : Nat → Bool} {v : Nat → Nat → Int32} {s i f : Nat} (c : foO o i = some f) (d : o i = true) : unO o v s (i + 1) = (unO o v s i || dO v s f i) := by
  show (unO o v s i || (o i && (match foO o i with | some f => dO v s f i | none => false))) = _
  rw [c, d, Bool.true_and]
/-- the class's comparing, bit by bit -/
theorem unlike_bits (τ : sS) {t : Nat} : ∀ i, i ≤ 128 → bt (itr (unlikeStep τ) i 0) t = !allN (fun j => !decide (j / 16 = t) || decide (gA τ 6 j = gA τ 24 j)) i
  | 0, _ => bt_0 t
  | i + 1, hi => by
    have ih := unlike_bits τ (t := t) i (by omega)
    rw [itr_s]
    show bt (unlikeStep τ i (itr (unlikeStep τ) i 0)) t = !(allN (fun j => !decide (j / 16 = t) || decide (gA τ 6 j = gA τ 24 j)) i && (!decide (i / 16 = t) || decide (gA τ 6 i = gA τ 24 i)))
    unfold unlikeStep
    by_cases c : gA τ 6 i = gA τ 24 i
    · rw [if_pos c, decide_eq_true c, Bool.or_true, Bool.and_true]; exact ih
    · rw [if_neg c, decide_eq_false c, Bool.or_false, bt_or, bt_one (show i / 16 < 32 by omega)]
      rw [show decide (t = i / 16) = decide (i / 16 = t) from decide_eq_decide.mpr eq_comm, Bool.not_and, Bool.not_not, ← ih]
      rfl
theorem unlike_v {v : Nat → Nat → Int32} {f p : Nat} {τ : sS} (h6 : ∀ j, j < 128 → gA τ 6 j = v f j) (h24 : ∀ j, j < 128 → gA τ 24 j = v p j) (t : Nat) : bt (unlikeC τ) t = (decide (t < 8) && dO v t f p) := by
  unfold unlikeC dO
  rw [unlike_bits τ 128 (Nat.le_refl _)]
  by_cases c : t < 8
  · rw [decide_eq_true c, Bool.true_and]
    refine congrArg Bool.not (bool_ext ?_)
    rw [allN_t, allN_t]
    constructor
    · intro h q hq
      have := h (t * 16 + q) (by omega)
      rw [show (t * 16 + q) / 16 = t by omega, decide_eq_true (p := t = t) rfl, Bool.not_true, Bool.false_or, h6 _ (by omega), h24 _ (by omega)] at this
      exact this
    · intro h j hj
      by_cases e : j / 16 = t
      · have := h (j % 16) (by omega)
        rw [show t * 16 + j % 16 = j by omega] at this
        rw [h6 j hj, h24 j hj, this, Bool.or_true]
      · rw [decide_eq_false e]; rfl
  · rw [decide_eq_false c, Bool.false_and]
    have : allN (fun j => !decide (j / 16 = t) || decide (gA τ 6 j = gA τ 24 j)) 128 = true := allN_t.mpr (fun j hj => by rw [decide_eq_false (show ¬ j / 16 = t by omega)]; rfl)
    rw [this]; rfl
/-- the reference's -/
theorem sp1_v (any : Bool) {s : Nat} (hs : s < 8) (z : Int32 × sS) : ∀ i, i ≤ 16 → gA (itr (sp1 any s) i z).2 18 = gA z.2 18 ∧ (∀ q, gA (itr (sp1 any s) i z).2 20 q = if any = false ∧ q < i then gA z.2 18 q else gA z.2 20 q) ∧ ∀ t, bt (itr (sp1 any s) i z).1 t = (bt z.1 t || (decide (t = s) && (any && !allN (fun q => decide (gA z.2 20 q = gA z.2 18 q)) i)))
  | 0, _ => ⟨rfl, fun q => by rw [if_neg (fun k => Nat.not_lt_zero q k.2)]; rfl, fun t => by
    show bt z.1 t = (bt z.1 t || (decide (t = s) && (any && !true)))
    rw [Bool.not_true, Bool.and_false, Bool.and_false, Bool.or_false]⟩
  | i + 1, hi => by
    obtain ⟨a, b, c⟩ := sp1_v any hs z i (by omega)
    rw [itr_s]
    generalize itr (sp1 any s) i z = y at a b c ⊢
    refine ⟨a, fun q => ?_, fun t => ?_⟩
    · show upd (gA y.2 20) i (if any = true then gA y.2 20 i else gA y.2 18 i) q = _
      by_cases e : q = i
      · subst e
        rw [upd_s]
        cases any with
        | true => rw [if_pos rfl, b q, if_neg (fun k => Bool.noConfusion k.1), if_neg (fun k => Bool.noConfusion k.1)]
        | false => rw [if_neg Bool.false_ne_true, if_pos ⟨rfl, Nat.lt_succ_self q⟩, a]
      · rw [upd_n e, b q]
        by_cases k : any = false ∧ q < i
        · rw [if_pos k, if_pos ⟨k.1, Nat.lt_succ_of_lt k.2⟩]
        · rw [if_neg k, if_neg (fun z => k ⟨z.1, by have := z.2; omega⟩)]
    · show bt (if any = true then (if gA y.2 18 i = gA y.2 20 i then y.1 ||| 0 else y.1 ||| one s) else y.1 ||| 0) t = (bt z.1 t || (decide (t = s) && (any && !(allN (fun q => decide (gA z.2 20 q = gA z.2 18 q)) i && decide (gA z.2 20 i = gA z.2 18 i)))))
      cases any with
      | false =>
        rw [if_neg Bool.false_ne_true, bt_or, bt_0, Bool.or_false, c t]
        rfl
      | true =>
        have c' := c t
        rw [Bool.true_and] at c' ⊢
        have e20 : gA y.2 20 i = gA z.2 20 i := by rw [b i, if_neg (fun k => Bool.noConfusion k.1)]
        rw [if_pos rfl, a, e20]
        by_cases e : gA z.2 18 i = gA z.2 20 i
        · rw [if_pos e, bt_or, bt_0, Bool.or_false, c', decide_eq_true e.symm, Bool.and_true]
        · rw [if_neg e, bt_or, bt_one (by omega), c', decide_eq_false (show ¬ gA z.2 20 i = gA z.2 18 i from fun k => e k.symm), Bool.and_false, Bool.not_false, Bool.and_true, Bool.or_assoc]
          cases decide (t = s) <;> cases allN (fun q => decide (gA z.2 20 q = gA z.2 18 q)) i <;> rfl
section PP
variable {σ ρ : sS} {n ns na : Nat}
theorem adv_any (h : RelN σ ρ n ns na) {τ : sS} (e : eqS σ τ) {p j : Nat} (hp : p < 16) (hj : j < 128) : gA (advS τ na p) 24 j = gA (advS σ na p) 24 j := by
  have a := adv_eq h hp (s := j / 16) (by omega) (a := j % 16) (by omega)
  have b := adv_eq (h.scrC e) hp (s := j / 16) (by omega) (a := j % 16) (by omega)
  rw [show j / 16 * 16 + j % 16 = j by omega] at a b
  rw [a, b]
theorem fk_any (h : RelN σ ρ n ns na) {υ : sS} (e : eqR ρ υ) {p s q : Nat} (hp : p < 16) (hs : s < 8) (hq : q < 16) : gA (fkS υ n na (nI p) s) 18 q = gA (advS σ na p) 24 (s * 16 + q) := (adv_eq (h.scrR e) hp hs hq).symm
theorem fk_none (h : RelN σ ρ n ns na) (w : Int32) {s q : Nat} (hs : ns ≤ s) (hq : q < 16) : ∀ k, k ≤ na → gA (itr (fkStep n w s) k (false, fk0 ρ)).2 18 q = 0
  | 0, _ => by rw [itr_0, fk0_a, (fk1_v ρ q 16 hq).1]
  | k + 1, hk => by
    have ih := fk_none h w hs hq k (by omega)
    have e := eqR_fkI ρ n w s k
    rw [itr_s]
    generalize itr (fkStep n w s) k (false, fk0 ρ) = y at ih e ⊢
    unfold fkStep
    have : stR y.2 k = stC σ k := by rw [h.st]; unfold stR; rw [e.1 9 (by decide)]
    have := (h.r6 k (by omega)).1
    rw [if_neg (by omega)]
    exact ih
theorem sp_it (h : RelN σ ρ n ns na) : ∀ i, i ≤ n → eqS σ (itr (spStep2 na) i ((0, true), σ)).2 ∧ (itr (spStep2 na) i ((0, true), σ)).1.2 = (foO (oldR ρ) i).isNone ∧ (∀ f, foO (oldR ρ) i = some f → f < i ∧ ∀ j, j < 128 → gA (itr (spStep2 na) i ((0, true), σ)).2 6 j = gA (advS σ na f) 24 j) ∧ ∀ t, t < 32 → bt (itr (spStep2 na) i ((0, true), σ)).1.1 t = (decide (t < 8) && unO (oldR ρ) (fun p => gA (advS σ na p) 24) t i)
  | 0, _ => ⟨eqS.refl σ, rfl, fun f k => (by cases k), fun t _ => by rw [itr_0, bt_0]; exact (Bool.and_false _).symm⟩
  | i + 1, hi => by
    obtain ⟨a, b, c, d⟩ := sp_it h i (by omega)
    have h16 := h.n16
    rw [itr_s]
    generalize itr (spStep2 na) i ((0, true), σ) = q at a b c d ⊢
    have ho : oldC q.2 (nI i) = oldR ρ i := (h.scrC a).old (by omega)
    have ea : eqS σ (advS q.2 na i) := a.trans (eqK_addUp _ _ _).s
    have hv : ∀ j, j < 128 → gA (advS q.2 na i) 24 j = gA (advS σ na i) 24 j := fun j hj => adv_any h a (by omega) hj
    have h6 : gA (advS q.2 na i) 6 = gA q.2 6 := (eqK_addUp q.2 na _).1 6 (by decide) (by decide) (by decide)
    unfold spStep2
    rw [ho, b]
    by_cases co : oldR ρ i = true
    · rw [if_pos co]
      cases cf : foO (oldR ρ) i with
      | none =>
        rw [show (none : Option Nat).isNone = true from rfl, if_pos rfl]
        refine ⟨ea.trans ⟨fun k h6 _ _ _ _ => by rw [gA_pA, if_neg h6], fun _ _ => rfl, fun _ _ => rfl, rfl⟩, ?_, fun f k => ?_, fun t ht => ?_⟩
        · rw [fo_new cf co]; rfl
        · rw [fo_new cf co] at k
          cases k
          refine ⟨Nat.lt_succ_self _, fun j hj => ?_⟩
          show va_cpy (gA (advS q.2 na i) 24) (gA (advS q.2 na i) 6) 0 0 128 j = _
          unfold va_cpy
          rw [if_pos (by omega), Nat.zero_add, Nat.sub_zero]
          exact hv j hj
        · rw [un_new cf]; exact d t ht
      | some f =>
        rw [show (some f : Option Nat).isNone = false from rfl, if_neg Bool.false_ne_true]
        obtain ⟨c1, c2⟩ := c f cf
        refine ⟨ea, ?_, fun g k => ?_, fun t ht => ?_⟩
        · rw [fo_some cf]; rfl
        · rw [fo_some cf] at k
          cases k
          exact ⟨Nat.lt_succ_of_lt c1, fun j hj => (congrFun h6 j).trans (c2 j hj)⟩
        · rw [un_some cf co, bt_or, d t ht, unlike_v (v := fun p => gA (advS σ na p) 24) (f := f) (p := i) (fun j hj => (congrFun h6 j).trans (c2 j hj)) hv t]
          exact (Bool.and_or_distrib_left _ _ _).symm
    · rw [if_neg co, fo_no co]
      refine ⟨a, b, fun f k => ⟨Nat.lt_succ_of_lt (c f k).1, (c f k).2⟩, fun t ht => ?_⟩
      rw [un_no co]; exact d t ht
theorem sp2_it (h : RelN σ ρ n ns na) {υ0 : sS} (e0 : eqR ρ υ0) {s : Nat} (hs : s < 8) (b0 : Int32) : ∀ i, i ≤ n → (itr (sp2 n na s) i ((b0, false), υ0)).1.2 = (foO (oldR ρ) i).isSome ∧ (∀ f, foO (oldR ρ) i = some f → ∀ q, q < 16 → gA (itr (sp2 n na s) i ((b0, false), υ0)).2 20 q = gA (advS σ na f) 24 (s * 16 + q)) ∧ ∀ t, t < 32 → bt (itr (sp2 n na s) i ((b0, false), υ0)).1.1 t = (bt b0 t || (decide (t = s) && unO (oldR ρ) (fun p => gA (advS σ na p) 24) s i))
  | 0, _ => ⟨rfl, fun f k => (by cases k), fun t _ => by
    rw [itr_0]
    show bt b0 t = (bt b0 t || (decide (t = s) && false))
    rw [Bool.and_false, Bool.or_false]⟩
  | i + 1, hi => by
    obtain ⟨b, c, d⟩ := sp2_it h e0 hs b0 i (by omega)
    have e := e0.trans (eqR_sp2 n na s i ((b0, false), υ0))
    have h16 := h.n16
    rw [itr_s]
    generalize itr (sp2 n na s) i ((b0, false), υ0) = y at b c d e ⊢
    have ho : oldR y.2 i = oldR ρ i := by unfold oldR; rw [e.1 1 (by decide), e.1 2 (by decide)]
    have hv : ∀ q, q < 16 → gA (fkS y.2 n na (nI i) s) 18 q = gA (advS σ na i) 24 (s * 16 + q) := fun q hq => fk_any h e (by omega) hs hq
    have h20 : gA (fkS y.2 n na (nI i) s) 20 = gA y.2 20 := fkS_20 _ _ _ _ _
    unfold sp2
    rw [ho, b]
    by_cases co : oldR ρ i = true
    · rw [if_pos co]
      obtain ⟨-, k2, k3⟩ := sp1_v (foO (oldR ρ) i).isSome hs (y.1.1, fkS y.2 n na (nI i) s) 16 (Nat.le_refl _)
      cases cf : foO (oldR ρ) i with
      | none =>
        rw [cf] at k2 k3
        refine ⟨by rw [fo_new cf co]; rfl, fun f k => ?_, fun t ht => ?_⟩
        · rw [fo_new cf co] at k
          cases k
          intro q hq
          refine (k2 q).trans ?_
          rw [if_pos ⟨rfl, hq⟩]
          exact hv q hq
        · refine (k3 t).trans ?_
          rw [show (none : Option Nat).isSome = false from rfl, Bool.false_and, Bool.and_false, Bool.or_false, un_new cf]
          exact d t ht
      | some f =>
        rw [cf] at k2 k3
        refine ⟨by rw [fo_some cf]; rfl, fun g k => ?_, fun t ht => ?_⟩
        · rw [fo_some cf] at k
          cases k
          intro q hq
          refine (k2 q).trans ?_
          rw [if_neg (fun z => Bool.noConfusion z.1)]
          exact (congrFun h20 q).trans (c f cf q hq)
        · refine (k3 t).trans ?_
          have hx : allN (fun q => decide (gA (fkS y.2 n na (nI i) s) 20 q = gA (fkS y.2 n na (nI i) s) 18 q)) 16 = allN (fun q => decide (gA (advS σ na f) 24 (s * 16 + q) = gA (advS σ na i) 24 (s * 16 + q))) 16 := allN_congr (fun q hq => by rw [hv q hq, h20, c f cf q hq])
          show (bt y.1.1 t || (decide (t = s) && (true && !allN (fun q => decide (gA (fkS y.2 n na (nI i) s) 20 q = gA (fkS y.2 n na (nI i) s) 18 q)) 16))) = _
          rw [hx, Bool.true_and, d t ht, un_some cf co, Bool.or_assoc, ← Bool.and_or_distrib_left]
          rfl
    · rw [if_neg co, fo_no co]
      exact ⟨b, c, fun t ht => by rw [un_no co]; exact d t ht⟩
theorem sp3_it (h : RelN σ ρ n ns na) : ∀ i, i ≤ 8 → ∀ t, t < 32 → bt (itr (sp3 n na) i (0, ρ)).1 t = (decide (t < i) && unO (oldR ρ) (fun p => gA (advS σ na p) 24) t n)
  | 0, _, t, _ => by rw [itr_0, bt_0, decide_eq_false (Nat.not_lt_zero t)]; rfl
  | i + 1, hi, t, ht => by
    have ih := sp3_it h i (by omega) t ht
    have e := eqR_sp3 n na i (0, ρ)
    rw [itr_s]
    generalize itr (sp3 n na) i (0, ρ) = y at ih e ⊢
    refine ((sp2_it h e (s := i) (by omega) y.1 n (Nat.le_refl _)).2.2 t ht).trans ?_
    rw [ih]
    by_cases c : t = i
    · subst c
      rw [decide_eq_false (Nat.lt_irrefl t), decide_eq_true (p := t = t) rfl, decide_eq_true (Nat.lt_succ_self t)]; rfl
    · rw [decide_eq_false c, Bool.false_and, Bool.or_false]
      congr 1
      exact decide_eq_decide.mpr (by omega)
theorem un_none (h : RelN σ ρ n ns na) {s : Nat} (hs : ns ≤ s) (h8 : s < 8) : ∀ i, i ≤ n → unO (oldR ρ) (fun p => gA (advS σ na p) 24) s i = false
  | 0, _ => rfl
  | i + 1, hi => by
    have ih := un_none h hs h8 i (by omega)
    have h16 := h.n16
    have hf := (sp_it h i (by omega)).2.2.1
    by_cases co : oldR ρ i = true
    · cases cf : foO (oldR ρ) i with
      | none => rw [un_new cf]; exact ih
      | some f =>
        rw [un_some cf co, ih, Bool.false_or]
        have hfi := (hf f cf).1
        unfold dO
        rw [allN_t.mpr (fun q hq => decide_eq_true (by
          show gA (advS σ na f) 24 (s * 16 + q) = gA (advS σ na i) 24 (s * 16 + q)
          rw [adv_eq h (by omega) h8 hq, adv_eq h (by omega) h8 hq]
          exact (fk_none h _ hs hq na (Nat.le_refl _)).trans (fk_none h _ hs hq na (Nat.le_refl _)).symm))]
        rfl
    · rw [un_no co]; exact ih
def splitR (σ : sS) (n na : Nat) : Int32 × sS := ((splitC σ n na).1.1, (splitC σ n na).2)
theorem split_rel (h : RelN σ ρ n ns na) : SR (splitR σ n na) (splitQ ρ n ns na) := by
  obtain ⟨a, -, -, d⟩ := sp_it h n (Nat.le_refl _)
  refine ⟨?_, n, ns, na, h.scr a (eqR_sp3 n na ns (0, ρ))⟩
  have h8 := h.s8
  apply bt_ext
  intro t ht
  refine (d t ht).trans ((?_ : _ = _).trans (sp3_it h ns h8 t ht).symm)
  by_cases c : t < ns
  · rw [decide_eq_true c, decide_eq_true (show t < 8 by omega)]
  · rw [decide_eq_false c, Bool.false_and]
    by_cases c8 : t < 8
    · rw [un_none h (by omega) c8 n (Nat.le_refl _), Bool.and_false]
    · rw [decide_eq_false c8]; rfl
end PP
