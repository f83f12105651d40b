/-! THE RELATION KEPT: feast -/
theorem hv_other (ρ : sS) {p k q : Nat} {v : Int32} (h : q ≠ 60 * p + k) : gA (hvR ρ p k v) 4 q = gA ρ 4 q := by
  unfold hvR
  split
  · exact upd_n h
  · split
    · rfl
    · exact upd_n h
/-- alike but for the depths of others than t -/
def FT (t : Nat) (ρ υ : sS) : Prop := (∀ q, q < 60 → gA υ 4 (60 * t + q) = gA ρ 4 (60 * t + q)) ∧ (∀ j, j ≠ 4 → gA υ j = gA ρ j) ∧ ∀ j, gI υ j = gI ρ j
theorem FT.refl (t : Nat) (ρ : sS) : FT t ρ ρ := ⟨fun _ _ => rfl, fun _ _ => rfl, fun _ => rfl⟩
theorem FT.trans {t : Nat} {ρ υ ω : sS} (h : FT t ρ υ) (k : FT t υ ω) : FT t ρ ω := ⟨fun q hq => (k.1 q hq).trans (h.1 q hq), fun j hj => (k.2.1 j hj).trans (h.2.1 j hj), fun j => (k.2.2 j).trans (h.2.2 j)⟩
theorem FT.hv {t p k : Nat} (ρ : sS) (v : Int32) (hp : p ≠ t) (hk : k < 60) : FT t ρ (hvR ρ p k v) := by
  refine ⟨fun q hq => hv_other ρ (by omega), fun j hj => ?_, fun j => ?_⟩
  · unfold hvR
    split
    · rw [gA_pA, if_neg hj]
    · split
      · rfl
      · rw [gA_pA, if_neg hj]
  · unfold hvR
    split
    · rfl
    · split <;> rfl
theorem hearC_same {σ : sS} {n t k : Nat} {D d : Nat} (hh : heardC σ n t k = true) (e : gA σ 12 (t * 60 + k) = nI d) (hd : d ≤ D) (hD : D < 100) : hearC σ n t k (nI D) = σ := by
  unfold hearC
  rw [if_pos ⟨hh, by rw [e, nI_ltI (by omega) (by omega)]; omega⟩]
section PP
variable {σ ρ : sS} {n ns na : Nat}
theorem spread_it (h : RelN σ ρ n ns na) {t k d : Nat} {th : Int32} (hk : k < na) (ht : t < n) (hth : ∀ p, p < 32 → bt th p = true → lvR ρ p = true) (htt : bt th t = true) (ck : knR ρ t k = true) (e1 : gA ρ 4 (60 * t + k) = nI (d + 1)) (e2 : gA σ 12 (t * 60 + k) = nI d) (e3 : d < 16) (c0 : Nat) :
    ∀ i, i ≤ n → c0 + (itr (spStep n k th (nI (d + 1))) i (0, σ)).1 = (itr (fe1 th t k) i (c0, ρ)).1 ∧ RelN (itr (spStep n k th (nI (d + 1))) i (0, σ)).2 (itr (fe1 th t k) i (c0, ρ)).2 n ns na ∧ FT t ρ (itr (fe1 th t k) i (c0, ρ)).2
  | 0, _ => ⟨Nat.add_zero _, h, FT.refl t ρ⟩
  | i + 1, hi => by
    obtain ⟨a, b, f⟩ := spread_it h hk ht hth htt ck e1 e2 e3 c0 i (by omega)
    have h16 := h.n16
    have h60 := h.a60
    rw [itr_s, itr_s]
    generalize itr (spStep n k th (nI (d + 1))) i (0, σ) = x at a b ⊢
    generalize itr (fe1 th t k) i (c0, ρ) = y at a b f ⊢
    have y1 : gA y.2 4 (60 * t + k) = nI (d + 1) := (f.1 k (by omega)).trans e1
    have yk : knR y.2 t k = true := knR_pos (d := d) (by omega) y1
    obtain ⟨d', z1, z2, z3, z4⟩ := b.d16 (p := t) (k := k) (by omega) (by omega) yk
    have ed : d' = d := by
      have := (nI_eq (by omega) (by omega)).mp (z1.symm.trans y1)
      omega
    subst ed
    unfold spStep fe1
    by_cases ci : i = t
    · subst ci
      rw [if_pos rfl, if_neg (fun q => by have := (and_one (show i < 32 by omega)).mp q; rw [htt] at this; cases this)]
      have hh : heardC x.2 n i k = true := (b.heard (by omega) (by omega)).trans yk
      rw [if_pos hh, hearC_same hh z2 (Nat.le_succ _) (by omega)]
      exact ⟨a, b, f⟩
    · rw [if_neg ci]
      by_cases cb : bt th i = true
      · rw [if_neg (fun q => by have := (and_one (show i < 32 by omega)).mp q; rw [cb] at this; cases this), if_pos ((bitR_1 th (by omega)).mpr cb)]
        have hl : lvR y.2 i = true := by
          have := hth i (by omega) cb
          unfold lvR at this ⊢
          rw [f.2.1 2 (by decide)]; exact this
        have hr := hear_rel b (t := i) (k := k) (D := d' + 1) (by omega) hk hl z4
        have hs : hearS y.2 t i k = hvR y.2 i k (nI (d' + 1 + 1)) := by rw [hearS_hv, y1, nI_1]
        have hf : FT t ρ (hvR y.2 i k (nI (d' + 1 + 1))) := f.trans (FT.hv y.2 _ ci (by omega))
        rw [hs, b.heard (by omega) (by omega)]
        unfold hearV
        cases e : knR y.2 i k with
        | true =>
          rw [if_pos rfl, decide_eq_false (fun q => by rw [(b.kn0 (by omega) (by omega)).mp q] at e; cases e), if_neg Bool.false_ne_true]
          exact ⟨a, hr, hf⟩
        | false =>
          rw [if_neg Bool.false_ne_true, decide_eq_true ((b.kn0 (by omega) (by omega)).mpr e), if_pos rfl]
          exact ⟨by show c0 + (x.1 + 1) = y.1 + 1; omega, hr, hf⟩
      · rw [if_pos ((and_one (show i < 32 by omega)).mpr (Bool.eq_false_iff.mpr cb)), if_neg (fun q => cb ((bitR_1 th (by omega)).mp q))]
        exact ⟨a, b, f⟩
theorem tell_bits (σ : sS) (n p s : Nat) {k : Nat} : ∀ i, i ≤ 60 → btL (itr (tlStep σ n p s) i 0) k = (decide (k < i) && (decide (stC σ k = s) && (heardC σ n p k && !isBannedB σ k)))
  | 0, _ => by rw [itr_0, btL_0, decide_eq_false (Nat.not_lt_zero k)]; rfl
  | i + 1, hi => by
    have ih := tell_bits σ n p s (k := k) i (by omega)
    rw [itr_s]
    generalize itr (tlStep σ n p s) i 0 = x at ih ⊢
    unfold tlStep
    by_cases c : stC σ i = s ∧ heardC σ n p i = true ∧ isBannedB σ i = false
    · rw [if_pos c, btL_or, btL_one (by omega), ih]
      by_cases e : k = i
      · subst e
        rw [decide_eq_true (p := k = k) rfl, decide_eq_true (Nat.lt_succ_self k), decide_eq_true c.1, c.2.1, c.2.2, Bool.or_true]; rfl
      · rw [decide_eq_false e, Bool.or_false]
        congr 1
        exact decide_eq_decide.mpr (by omega)
    · rw [if_neg c, ih]
      by_cases e : k = i
      · subst e
        rw [decide_eq_false (Nat.lt_irrefl k), Bool.false_and]
        symm
        apply Bool.eq_false_iff.mpr
        intro q
        simp only [Bool.and_eq_true, decide_eq_true_eq, Bool.not_eq_true'] at q
        exact c q.2
      · congr 1
        exact decide_eq_decide.mpr (by omega)
theorem tell_t (h : RelN σ ρ n ns na) {p s k : Nat} (hp : p < 16) (hk : k < na) : btL (tellC σ n na p s) k = (decide (stR ρ k = s) && (knR ρ p k && !banR2 ρ k)) := by
  have h60 := h.a60
  unfold tellC
  rw [tell_bits σ n p s na h60, decide_eq_true hk, Bool.true_and, h.st, h.heard hp (by omega), h.ban (by omega)]
theorem feast_it (h : RelN σ ρ n ns na) {t s : Nat} {th : Int32} (ht : t < n) (hth : ∀ p, p < 32 → bt th p = true → lvR ρ p = true) (htt : bt th t = true) :
    ∀ i, i ≤ na → (itr (feStep n t th (tellC σ n na t s)) i (0, σ)).1 = (itr (fe2 n th t s) i (0, ρ)).1 ∧ RelN (itr (feStep n t th (tellC σ n na t s)) i (0, σ)).2 (itr (fe2 n th t s) i (0, ρ)).2 n ns na ∧ FT t ρ (itr (fe2 n th t s) i (0, ρ)).2
  | 0, _ => ⟨rfl, h, FT.refl t ρ⟩
  | i + 1, hi => by
    obtain ⟨a, b, f⟩ := feast_it h ht hth htt (s := s) i (by omega)
    have h16 := h.n16
    have h60 := h.a60
    rw [itr_s, itr_s]
    generalize itr (feStep n t th (tellC σ n na t s)) i (0, σ) = x at a b ⊢
    generalize itr (fe2 n th t s) i (0, ρ) = y at a b f ⊢
    unfold feStep fe2
    have k1 : knR y.2 t i = knR ρ t i := by unfold knR; rw [f.1 i (by omega)]
    have k2 : stR y.2 i = stR ρ i := by unfold stR; rw [f.2.1 9 (by decide)]
    have k3 : banR2 y.2 i = banR2 ρ i := by unfold banR2 kdR; rw [f.2.1 8 (by decide), f.2.2 4]
    rw [tell_t h (by omega) (by omega), k1, k2, k3]
    by_cases c1 : stR ρ i = s
    · rw [if_pos c1, decide_eq_true c1, Bool.true_and]
      by_cases c2 : knR ρ t i = true
      · rw [if_pos c2, c2, Bool.true_and]
        by_cases c3 : banR2 ρ i = true
        · rw [if_pos c3, c3, if_neg (show ¬ (!true) = true by decide)]
          exact ⟨a, b, f⟩
        · rw [if_neg c3, Bool.eq_false_iff.mpr c3, if_pos (show (!false) = true from rfl)]
          obtain ⟨d, z1, z2, z3, -⟩ := b.d16 (p := t) (k := i) (by omega) (by omega) (k1.trans c2)
          have hth' : ∀ p, p < 32 → bt th p = true → lvR y.2 p = true := fun p hp e => by
            have := hth p hp e
            unfold lvR at this ⊢
            rw [f.2.1 2 (by decide)]; exact this
          obtain ⟨s1, s2, s3⟩ := spread_it b (t := t) (k := i) (d := d) (th := th) (by omega) ht hth' htt (k1.trans c2) z1 z2 z3 y.1 n (Nat.le_refl _)
          have e : spreadC x.2 n i t th = itr (spStep n i th (nI (d + 1))) n (0, x.2) := by unfold spreadC; rw [z2, nI_1]
          rw [e]
          refine ⟨?_, s2, f.trans s3⟩
          show x.1 + _ = _
          rw [a]
          exact s1
      · rw [if_neg c2, Bool.eq_false_iff.mpr c2, Bool.false_and, if_neg Bool.false_ne_true]
        exact ⟨a, b, f⟩
    · rw [if_neg c1, decide_eq_false c1, Bool.false_and, if_neg Bool.false_ne_true]
      exact ⟨a, b, f⟩
theorem feast_rel (h : RelN σ ρ n ns na) (th t s : Int32) : SR (feastR σ n na th t s) (feastQ ρ n na th t s) := by
  unfold feastR feastQ
  rw [h.inP, h.inS]
  by_cases c0 : th = 0
  · rw [if_pos c0, if_pos (by rw [c0]; decide)]; exact h.same _
  rw [if_neg c0]
  by_cases c1 : th < 1
  · rw [if_pos c1, if_neg (fun q => by
      have := h.y_pos q.1
      apply c0
      apply Int32.toInt_inj.mp
      rw [Int32.lt_iff_toInt_lt] at this c1
      rw [show (0 : Int32).toInt = 0 by decide] at this ⊢
      rw [show (1 : Int32).toInt = 1 by decide] at c1
      omega)]
    exact h.same _
  rw [if_neg c1, h.allA]
  by_cases c2 : (th &&& (livBitsR ρ n ^^^ (-1))) = 0 ∧ isIn t (gI ρ 0) = true ∧ isIn s (gI ρ 2) = true
  · rw [if_pos c2, if_pos (show decide ((th &&& (livBitsR ρ n ^^^ (-1))) = 0) = true ∧ isIn t (gI ρ 0) = true ∧ isIn s (gI ρ 2) = true from ⟨decide_eq_true c2.1, c2.2⟩)]
    obtain ⟨T, hT, rfl⟩ := h.pI c2.2.1
    obtain ⟨S, hS, rfl⟩ := h.sI c2.2.2
    have := h.s8
    have h16 := h.n16
    rw [ix_nI (n := T) (by omega), ix_nI (n := S) (by omega)]
    have hth : ∀ p, p < 32 → bt th p = true → lvR ρ p = true := fun p hp e => by
      have := sub_32.mp c2.1 p hp e
      rw [← h.liv, h.r3.1 p hp] at this
      exact this
    by_cases c3 : bt th T = true
    · rw [if_neg (fun q => by have := (and_one (show T < 32 by omega)).mp q; rw [c3] at this; cases this), if_neg (fun q => by have := (bitR_0 th (show T < 32 by omega)).mp q; rw [c3] at this; cases this)]
      obtain ⟨a, b, -⟩ := feast_it h hT hth c3 (s := S) na (Nat.le_refl _)
      exact ⟨congrArg nI a, n, ns, na, b⟩
    · rw [if_pos ((and_one (show T < 32 by omega)).mpr (Bool.eq_false_iff.mpr c3)), if_pos ((bitR_0 th (show T < 32 by omega)).mpr (Bool.eq_false_iff.mpr c3))]
      exact h.same _
  · rw [if_neg c2, if_neg (show ¬ (decide ((th &&& (livBitsR ρ n ^^^ (-1))) = 0) = true ∧ isIn t (gI ρ 0) = true ∧ isIn s (gI ρ 2) = true) from fun q => c2 ⟨of_decide_eq_true q.1, q.2⟩)]
    exact h.same _
end PP
