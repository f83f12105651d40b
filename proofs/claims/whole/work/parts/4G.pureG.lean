/-! THE RELATION KEPT: fewest, teller (2): both search for the same -/
theorem tell_cong {σ τ : sS} (e1 : τ.1 = σ.1) (e2 : τ.2.1 = σ.2.1) (e3 : gB τ 11 = gB σ 11) (n na p s : Nat) : tellC τ n na p s = tellC σ n na p s := by
  have : tlStep τ n p s = tlStep σ n p s := by
    funext i a
    unfold tlStep stC heardC isBannedB kdC gA gI
    rw [e1, e2, e3]
  unfold tellC
  rw [this]
theorem fill_f (σ : sS) (n na s : Nat) : ∀ i, (itr (fillStep n na s) i σ).1 = σ.1 ∧ (itr (fillStep n na s) i σ).2.1 = σ.2.1 ∧ (itr (fillStep n na s) i σ).2.2.2 = σ.2.2.2 ∧ (∀ k, k ≠ 7 → gB (itr (fillStep n na s) i σ) k = gB σ k) ∧ ∀ w, w < i → gB (itr (fillStep n na s) i σ) 7 w = tellC σ n na w s
  | 0 => ⟨rfl, rfl, rfl, fun _ _ => rfl, fun w hw => absurd hw (Nat.not_lt_zero w)⟩
  | i + 1 => by
    obtain ⟨a, b, c, d, e⟩ := fill_f σ n na s i
    rw [itr_s]
    generalize itr (fillStep n na s) i σ = τ at a b c d e ⊢
    unfold fillStep
    refine ⟨a, b, c, fun k hk => ?_, fun w hw => ?_⟩
    · rw [gB_pB, if_neg hk]; exact d k hk
    · rw [gB_pB, if_pos rfl]
      by_cases q : w = i
      · subst q
        rw [pk_uLs]
        exact tell_cong a b (d 11 (by decide)) _ _ _ _
      · rw [pk_uLn q]
        exact e w (by omega)
theorem allLiv_bits (σ : sS) {k : Nat} (hk : k < 64) : ∀ i, btL (itr (fun i a => if aliveC σ (nI i) = true then a &&& gB σ 11 i else a) i (-1)) k = allN (fun p => !aliveC σ (nI p) || btL (gB σ 11 p) k) i
  | 0 => by rw [itr_0, btL_m1, decide_eq_true hk]; rfl
  | i + 1 => by
    have ih := allLiv_bits σ hk i
    rw [itr_s]
    show btL (if aliveC σ (nI i) = true then itr (fun i a => if aliveC σ (nI i) = true then a &&& gB σ 11 i else a) i (-1) &&& gB σ 11 i else itr (fun i a => if aliveC σ (nI i) = true then a &&& gB σ 11 i else a) i (-1)) k = (allN (fun p => !aliveC σ (nI p) || btL (gB σ 11 p) k) i && (!aliveC σ (nI i) || btL (gB σ 11 i) k))
    cases e : aliveC σ (nI i) with
    | true => rw [if_pos rfl, btL_and, ih]; rfl
    | false => rw [if_neg (by decide), ih]; exact (Bool.and_true _).symm
def rmv (j : Nat) (V : Nat → Nat) : Nat → Nat := fun t => if t < j then V t else V (t + 1)
theorem Va.rm {N m j : Nat} {V : Nat → Nat} (h : Va N 0 (m + 1) V) : Va N 0 m (rmv j V) := by
  refine ⟨fun t ht => ?_, fun t ht => ?_⟩
  · have h1 := h.1 t (by omega)
    have h2 := h.1 (t + 1) (by omega)
    unfold rmv
    by_cases c : t + 1 < j
    · rw [if_pos c, if_pos (by omega)]; exact h1
    · rw [if_neg c]
      by_cases c2 : t < j
      · rw [if_pos c2]; omega
      · rw [if_neg c2]; exact h2
  · unfold rmv
    by_cases c : t < j
    · rw [if_pos c]; exact h.2 t (by omega)
    · rw [if_neg c]; exact h.2 (t + 1) (by omega)
theorem Cv_rem {miss : Int64} {T : Nat → Int64} {m j : Nat} {V : Nat → Nat} (h : Cv miss T (m + 1) V) (hj : j ≤ m) (he : ∀ k, btL (T (V j)) k = false) : Cv miss T m (rmv j V) := by
  intro k hk e
  obtain ⟨t, h1, h2⟩ := h k hk e
  by_cases c : t < j
  · exact ⟨t, by omega, by unfold rmv; rw [if_pos c]; exact h2⟩
  · by_cases q : t = j
    · subst q; rw [he k] at h2; cases h2
    · refine ⟨t - 1, by omega, ?_⟩
      unfold rmv
      rw [if_neg (by omega), show t - 1 + 1 = t by omega]
      exact h2
section PP
variable {σ ρ : sS} {n ns na : Nat}
theorem known_all (h : RelN σ ρ n ns na) {k : Nat} (hk : k < 60) : knownByR ρ n k = livR ρ n ↔ allN (fun p => !lvR ρ p || knR ρ p k) n = true := by
  have h16 := h.n16
  have hd := cnt_diff (f := fun p => knR ρ p k) (g := fun p => lvR ρ p) (n := n) (fun p hp e => (h.r4.2.2.2 p k (by omega) hk e).1)
  have e1 : livR ρ n = cnt (fun p => lvR ρ p) n := rfl
  have e2 : knownByR ρ n k = cnt (fun p => knR ρ p k) n := rfl
  rw [e1, e2, hd, allN_t]
  constructor
  · intro q p hp
    have := cnt_zero.mp (show cnt (fun i => lvR ρ i && !knR ρ i k) n = 0 by omega) p hp
    revert this
    cases lvR ρ p <;> cases knR ρ p k <;> decide
  · intro q
    have : cnt (fun i => lvR ρ i && !knR ρ i k) n = 0 := cnt_zero.mpr (fun p hp => by
      have := q p hp
      revert this
      cases lvR ρ p <;> cases knR ρ p k <;> decide)
    omega
theorem miss_in (h : RelN σ ρ n ns na) {s k : Nat} (hs : s < 8) (hk : k < na) : btL (missC σ n s) k = !told0 ρ n s k := by
  have h60 := h.a60
  have h16 := h.n16
  unfold missC told0
  rw [btL_and, btL_and, btL_not _ _ (by omega), h.r5.2.2 s k hs, decide_eq_true hk, Bool.true_and, h.any (by omega), ← h.st]
  have ha : btL (allLivC σ n) k = decide (knownByR ρ n k = livR ρ n) := by
    unfold allLivC
    rw [allLiv_bits σ (by omega), allN_congr (f := fun p => !aliveC σ (nI p) || btL (gB σ 11 p) k) (g := fun p => !lvR ρ p || knR ρ p k) (fun p hp => by rw [h.alv (by omega), h.kn (by omega) (by omega)])]
    apply bool_ext
    rw [decide_eq_true_iff]
    exact (known_all h (by omega)).symm
  rw [ha]
  by_cases c : stC σ k = s
  · rw [if_pos c, decide_eq_true c, Bool.true_and, Bool.not_or]
  · rw [if_neg c, decide_eq_false c]; rfl
theorem miss_out (h : RelN σ ρ n ns na) {s k : Nat} (hs : s < 8) (hk : na ≤ k) : btL (missC σ n s) k = false := by
  unfold missC
  rw [btL_and, btL_and, h.r5.2.2 s k hs, decide_eq_false (by omega)]; rfl
theorem tell_dead (h : RelN σ ρ n ns na) {w s : Nat} (hw : w < 16) (hl : lvR ρ w = false) (k : Nat) : btL (tellC σ n na w s) k = false := by
  have h60 := h.a60
  rcases Nat.lt_or_ge k na with c | c
  · rw [tell_t h hw c]
    cases e : knR ρ w k with
    | false => rw [Bool.false_and, Bool.and_false]
    | true => rw [(h.r4.2.2.2 w k hw (by omega) e).1] at hl; cases hl
  · unfold tellC
    rw [tell_bits σ n w s na h60, decide_eq_false (by omega), Bool.false_and]
theorem PR_iff (h : RelN σ ρ n ns na) {s m : Nat} (hs : s < 8) {T : Nat → Int64} (hT : ∀ w, w < 16 → T w = tellC σ n na w s) {V : Nat → Nat} (hV : ∀ t, t < m → V t < 16) : PR ρ n na s m V ↔ (∀ t, t < m → lvR ρ (V t) = true) ∧ Cv (missC σ n s) T m V := by
  refine and_congr Iff.rfl ⟨fun q k hk e => ?_, fun q k hk => ?_⟩
  · rcases Nat.lt_or_ge k na with c | c
    · rw [miss_in h hs c, Bool.not_eq_true'] at e
      have es : stR ρ k = s := by
        unfold told0 at e
        by_cases z : stR ρ k = s
        · exact z
        · rw [if_neg z] at e; cases e
      rcases q k c with z | ⟨t, t1, t2, t3⟩
      · rw [e] at z; cases z
      · exact ⟨t, t1, by rw [hT _ (hV t t1), tell_t h (hV t t1) c, decide_eq_true es, t2, t3]; rfl⟩
    · rw [miss_out h hs c] at e; cases e
  · cases e : told0 ρ n s k with
    | true => exact Or.inl rfl
    | false =>
      have h60 := h.a60
      obtain ⟨t, t1, t2⟩ := q k (by omega) (by rw [miss_in h hs hk, e]; rfl)
      rw [hT _ (hV t t1), tell_t h (hV t t1) hk, Bool.and_eq_true, Bool.and_eq_true, Bool.not_eq_true'] at t2
      exact Or.inr ⟨t, t1, t2.2.2, t2.2.1⟩
theorem min_live (h : RelN σ ρ n ns na) {s : Nat} {miss : Int64} {T : Nat → Int64} (hT : ∀ w, w < 16 → T w = tellC σ n na w s) {f : Nat} (hmin : ∀ g, g < f → ∀ V, Va 16 0 g V → ¬ Cv miss T g V) {V : Nat → Nat} (v1 : Va 16 0 f V) (v2 : Cv miss T f V) : ∀ t, t < f → lvR ρ (V t) = true := by
  intro t ht
  cases e : lvR ρ (V t) with
  | true => rfl
  | false =>
    cases f with
    | zero => exact absurd ht (Nat.not_lt_zero t)
    | succ f =>
      have hV := (v1.2 t ht).1
      exact absurd (Cv_rem v2 (by omega) (fun k => by rw [hT _ hV]; exact tell_dead h hV e k)) (hmin f (Nat.lt_succ_self f) _ (v1.rm (j := t)))
theorem find_rel (h : RelN σ ρ n ns na) {s : Nat} (hs : s < 8) : (fewC σ n na s).1 = (ftQ ρ n na s).1 ∧ ((∃ f, f ≤ 4 ∧ (fewC σ n na s).1 = nI f ∧ ∀ t, t < f → gA (fewC σ n na s).2 8 t = gA (ftQ ρ n na s).2 21 t) ∨ (fewC σ n na s).1 = -4) ∧ RelN (fewC σ n na s).2 (ftQ ρ n na s).2 n ns na := by
  have h16 := h.n16
  obtain ⟨f1, f2, f3, f4, f5⟩ := fill_f σ n na s 16
  have eQ : eqR ρ (ftQ ρ n na s).2 := eqR_ftO n na s 5 0 ρ
  have hQ := fo_ok (ρ := ρ) (na := na) (s := s) h16 5 0 ρ (eqR.refl ρ) rfl (fun g hg => absurd hg (Nat.not_lt_zero g))
  have hno : ∀ g, g < 0 → ∀ V, Va 16 0 g V → ¬ Cv (missC σ n s) (gB (itr (fillStep n na s) 16 σ) 7) g V := fun g hg => absurd hg (Nat.not_lt_zero g)
  obtain ⟨e, hC⟩ := fw_ok (T := gB (itr (fillStep n na s) 16 σ) 7) (miss := missC σ n s) 5 0 (itr (fillStep n na s) 16 σ) rfl rfl hno
  have hT : ∀ w, w < 16 → gB (itr (fillStep n na s) 16 σ) 7 w = tellC σ n na w s := fun w hw => f5 w hw
  have eC : eqS σ (fewC σ n na s).2 := by
    have z : ∀ k, gI (fewC σ n na s).2 k = gI (itr (fillStep n na s) 16 σ) k := fun k => by unfold fewC gI; rw [e.2.1]
    have zb : ∀ k, gB (fewC σ n na s).2 k = gB (itr (fillStep n na s) 16 σ) k := fun k => by unfold fewC gB; rw [e.2.1]
    have zl : ∀ k, gL (fewC σ n na s).2 k = gL (itr (fillStep n na s) 16 σ) k := fun k => by unfold fewC gL; rw [e.2.1]
    refine ⟨fun k _ h8 _ _ _ => ?_, fun k _ => ?_, fun k hk => ?_, ?_⟩
    · exact (e.1 k h8).trans (by unfold gA; rw [f1])
    · rw [z]; unfold gI; rw [f2]
    · rw [zb]; exact f4 k hk
    · rw [zl]; unfold gL; rw [f3]
  have hr := h.scr eC eQ
  have hq : FO ρ n na s (ftQ ρ n na s) := hQ
  have hc : FW (gB (itr (fillStep n na s) 16 σ) 7) (missC σ n s) (fewC σ n na s) := hC
  generalize gB (itr (fillStep n na s) 16 σ) 7 = T at hT hc
  have toN : ∀ {g : Nat} {V : Nat → Nat}, Va n 0 g V → PR ρ n na s g V → Va 16 0 g V ∧ Cv (missC σ n s) T g V := fun {g V} v p => by
    have v' : Va 16 0 g V := v.wk h16 (Nat.le_refl _)
    exact ⟨v', ((PR_iff h hs hT (fun t ht => (v'.2 t ht).1)).mp p).2⟩
  generalize fewC σ n na s = r at hc hr ⊢
  generalize ftQ ρ n na s = q at hq hr ⊢
  rcases hc with ⟨f, c1, c2, c3, U, c4, c5, c6, c7⟩ | ⟨c1, c2⟩
  · have hl := min_live h hT c3 c4 c5
    have hva : Va n 0 f U := ⟨c4.1, fun t ht => ⟨h.lv_lt (hl t ht), Nat.zero_le _⟩⟩
    have hpr : PR ρ n na s f U := (PR_iff h hs hT (fun t ht => (c4.2 t ht).1)).mpr ⟨hl, c5⟩
    rcases hq with ⟨g, d1, d2, d3, d4, d5, d6, d7⟩ | ⟨d1, d2⟩
    · obtain ⟨w1, w2⟩ := toN d5 d6
      have efg : f = g := by
        rcases Nat.lt_trichotomy f g with z | z | z
        · exact absurd hpr (d3 f z U hva)
        · exact z
        · exact absurd w2 (c3 g z _ w1)
      subst efg
      have eq := leT_anti (c7 _ w1 w2) (d7 _ hva hpr)
      exact ⟨c2.trans d2.symm, Or.inl ⟨f, c1, c2, fun t ht => by rw [c6 t ht, (d4 t ht).1, eq t ht]⟩, hr⟩
    · exact absurd hpr (d2 f c1 U hva)
  · rcases hq with ⟨g, d1, d2, d3, d4, d5, d6, d7⟩ | ⟨d1, d2⟩
    · obtain ⟨w1, w2⟩ := toN d5 d6
      exact absurd w2 (c2 g d1 _ w1)
    · exact ⟨c1.trans d1.symm, Or.inr c1, hr⟩
theorem fewest_rel (h : RelN σ ρ n ns na) (s : Int32) : SR (fewestR σ n na s) (fewestQ ρ n na s) := by
  unfold fewestR fewestQ
  rw [h.inS]
  by_cases c : isIn s (gI ρ 2) = true
  · rw [if_pos c, if_pos c]
    obtain ⟨S, hS, rfl⟩ := h.sI c
    have h8 := h.s8
    rw [ix_nI (by omega)]
    obtain ⟨a, -, b⟩ := find_rel h (s := S) (by omega)
    exact ⟨a, n, ns, na, b⟩
  · rw [if_neg c, if_neg c]; exact h.same _
theorem teller_rel (h : RelN σ ρ n ns na) (s i : Int32) : SR (tellerR σ n na s i) (tellerQ ρ n na s i) := by
  unfold tellerR tellerQ
  rw [h.inS]
  by_cases c : isIn s (gI ρ 2) = true ∧ ¬ i < 0
  · rw [if_pos c, if_pos (show isIn s (gI ρ 2) = true ∧ 0 ≤ i from ⟨c.1, nlt.mp c.2⟩)]
    obtain ⟨S, hS, rfl⟩ := h.sI c.1
    have h8 := h.s8
    rw [ix_nI (by omega)]
    obtain ⟨a, d, b⟩ := find_rel h (s := S) (by omega)
    refine ⟨?_, n, ns, na, b⟩
    show (if (fewC σ n na S).1 = -4 then (-4 : Int32) else if (fewC σ n na S).1 ≤ i then -1 else if nI 4 ≤ i then -1 else gA (fewC σ n na S).2 8 (ix i)) = (if 0 ≤ (ftQ ρ n na S).1 then (if (ftQ ρ n na S).1 ≤ i then (-1 : Int32) else gA (ftQ ρ n na S).2 21 (ix i)) else -4)
    rw [← a]
    rcases d with ⟨f, f4, e, cells⟩ | e
    · rw [e, if_neg (fun q => by
        have := ix_nonneg (p := f) (by omega)
        rw [q] at this
        exact this (by decide)), if_pos (nI_pos' (by omega))]
      by_cases ci : nI f ≤ i
      · rw [if_pos ci, if_pos ci]
      · rw [if_neg ci, if_neg ci]
        obtain ⟨I, hI, rfl⟩ := rng_nI (x := i) (n := f) (by omega) c.2 (Int32.not_le.mp ci)
        rw [if_neg (show ¬ nI 4 ≤ nI I by rw [nI_leI (by omega) (by omega)]; omega), ix_nI (by omega)]
        exact cells I hI
    · rw [e, if_pos rfl, if_neg (by decide)]
  · rw [if_neg c, if_neg (show ¬ (isIn s (gI ρ 2) = true ∧ 0 ≤ i) from fun q => c ⟨q.1, nlt.mpr q.2⟩)]
    exact h.same _
end PP
