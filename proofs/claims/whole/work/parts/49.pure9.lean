/-! THE RELATION KEPT: quarrel -/
def phi (X : Nat) : Nat := if X < 16 then X + 1 else 61
theorem phi_s (X : Nat) : (X < 16 → phi X = X + 1) ∧ (¬ X < 16 → phi X = 61) := ⟨fun h => if_pos h, fun h => if_neg h⟩
def nr (X : Nat) (x y : Int32) : Prop := x = nI X ∧ (X < 16 ∨ X = 1000) ∧ y = nI (phi X)
theorem nr_eq {X Y : Nat} {x y u v : Int32} (h : nr X x u) (k : nr Y y v) : (x = y ↔ u = v) ∧ (y ≤ x ↔ v ≤ u) := by
  obtain ⟨rfl, h2, rfl⟩ := h
  obtain ⟨rfl, k2, rfl⟩ := k
  have p1 := phi_s X
  have p2 := phi_s Y
  have b1 : phi X < 100 := by omega
  have b2 : phi Y < 100 := by omega
  rw [nI_eq (by omega) (by omega), nI_eq (by omega) (by omega), nI_leI (by omega) (by omega), nI_leI (by omega) (by omega)]
  omega
theorem mn_ex {a b : Nat} (ha : a < 100000) (hb : b < 100000) : ∃ K, (if nI a < nI b then nI a else nI b) = nI K ∧ K ≤ a ∧ K ≤ b ∧ (K = a ∨ K = b) := by
  by_cases c : a < b
  · exact ⟨a, if_pos ((nI_ltI (by omega) (by omega)).mpr c), Nat.le_refl _, by omega, Or.inl rfl⟩
  · exact ⟨b, if_neg (fun z => c ((nI_ltI (by omega) (by omega)).mp z)), by omega, Nat.le_refl _, Or.inr rfl⟩
theorem sum_p (a b : Int32) : a - b + 1 = a + 1 - b := by rw [Int32.sub_eq_add_neg, Int32.sub_eq_add_neg, Int32.add_assoc, Int32.add_comm (-b), ← Int32.add_assoc]
theorem sum_m (a b : Int32) : a - b + (-1) = a - (b + 1) := by rw [Int32.sub_eq_add_neg, Int32.sub_eq_add_neg, Int32.neg_add, Int32.add_assoc, ← Int32.sub_eq_add_neg (-b)]
section PP
variable {σ ρ : sS} {n ns na : Nat}
theorem did_eq (h : RelN σ ρ n ns na) {s q i : Nat} (hi : i < 60) : didR ρ s q i = true ↔ didGot σ q i = true ∧ stC σ i = s := by
  unfold didR didGot
  have hk := (h.okc.1 i hi).2
  have e : isHandB (nI (kdC σ i)) = inB (nI (kdC σ i)) 1 3 := bool_ext ((isHand_nI hk).trans (inB13 hk).symm)
  rw [← h.kd, ← h.st, ← h.dd, ← h.ot, e, Bool.and_eq_true, decide_eq_true_iff]
  exact And.comm
theorem fn_A (υ : sS) (p s a : Nat) : ∀ i, (itr (fnStep p s a) i υ).1 = υ.1
  | 0 => rfl
  | i + 1 => by rw [itr_s, ← fn_A υ p s a i]; rfl
theorem hear_it (h : RelN σ ρ n ns na) {p s q : Nat} (hp : p < 16) {A : Int32} {A0 : Nat} (hA : nr A0 A (gI ρ 8)) : ∀ i, i ≤ na → ∃ H X, itr (hearStep σ n p s q) i 1000 = nI H ∧ (H < 16 ∨ H = 1000) ∧ nr X (if itr (hearStep σ n p s q) i 1000 < A then itr (hearStep σ n p s q) i 1000 else A) (gI (itr (fnStep p s q) i ρ) 8)
  | 0, _ => by
    refine ⟨1000, A0, show (1000 : Int32) = nI 1000 by decide, Or.inr rfl, ?_⟩
    obtain ⟨e, h2, -⟩ := id hA
    rw [itr_0, itr_0, if_neg (show ¬ (1000 : Int32) < A from fun z => by
      rw [e, show (1000 : Int32) = nI 1000 by decide, nI_ltI (by omega) (by omega)] at z
      omega)]
    exact hA
  | i + 1, hi => by
    obtain ⟨H, X, e1, e2, e3, e4, e5⟩ := hear_it h hp hA i (by omega)
    obtain ⟨a1, a2, a3⟩ := hA
    have h60 := h.a60
    have hr : eqR ρ (itr (fnStep p s q) i ρ) := eqR_fn p s q ρ i
    have h2 := h.scrR hr
    rw [itr_s, itr_s]
    generalize itr (fnStep p s q) i ρ = υ at e5 hr h2 ⊢
    generalize itr (hearStep σ n p s q) i 1000 = x at e1 e3 ⊢
    subst e1
    subst a1
    obtain ⟨X', x1, x2, x3, x4⟩ := mn_ex (a := H) (b := A0) (by omega) (by omega)
    have eX : X = X' := (nI_eq (by omega) (by omega)).mp (e3.symm.trans x1)
    subst eX
    unfold hearStep fnStep
    rw [gI_pI, if_pos rfl]
    by_cases cd : didR υ s q i = true
    · rw [if_pos cd]
      obtain ⟨d1, d2⟩ := (did_eq h2 (by omega)).mp cd
      rw [h.heard hp (by omega)]
      cases ck : knR ρ p i with
      | false =>
        have hz : gA υ 4 (60 * p + i) = 0 := by rw [hr.1 4 (by decide)]; exact (h.kn0 hp (by omega)).mpr ck
        rw [if_neg (show ¬ (didGot σ q i = true ∧ stC σ i = s ∧ false = true) from fun z => Bool.false_ne_true z.2.2), hz, if_pos (show (0 : Int32) ≤ 0 by decide)]
        exact ⟨H, X, rfl, e2, e3, e4, e5⟩
      | true =>
        obtain ⟨d, g1, g2, g3, -⟩ := h.d16 hp (show i < 60 by omega) ck
        have g1' : gA υ 4 (60 * p + i) = nI (d + 1) := by rw [hr.1 4 (by decide)]; exact g1
        rw [if_pos (show didGot σ q i = true ∧ stC σ i = s ∧ true = true from ⟨d1, d2, rfl⟩), g1', g2, if_neg (nI_nle (by omega) (by omega)), e5]
        obtain ⟨K, m1, m2, m3, m4⟩ := mn_ex (a := d) (b := H) (by omega) (by omega)
        obtain ⟨L, l1, l2, l3, l4⟩ := mn_ex (a := K) (b := A0) (by omega) (by omega)
        rw [m1, l1]
        have pX := phi_s X
        have pL := phi_s L
        refine ⟨K, L, rfl, by omega, rfl, by omega, ?_⟩
        have hle : (nI (phi X) ≤ nI (d + 1)) ↔ phi X ≤ d + 1 := nI_leI (by omega) (by omega)
        by_cases c : phi X ≤ d + 1
        · rw [if_pos (hle.mpr c)]
          congr 1
          omega
        · rw [if_neg (fun z => c (hle.mp z))]
          congr 1
          omega
    · rw [if_neg cd, if_neg (fun z => cd ((did_eq h2 (by omega)).mpr ⟨z.1, z.2.1⟩))]
      exact ⟨H, X, rfl, e2, e3, e4, e5⟩
theorem hear_new {τ u : sS} (r : RelN τ u n ns na) {i s b : Nat} (hi : i < 16) {A y : Int32} {X2 : Nat} (k : nr X2 A (gI u 8)) : ∃ X, nr X (if hearingC (advS τ na i) n na i s b < A then hearingC (advS τ na i) n na i s b else A) (gI (fnS (pI (fkS u n na (nI i) s) 7 y) na i s b) 8) := by
  have hu : RelN (advS τ na i) (pI (fkS u n na (nI i) s) 7 y) n ns na := r.scr (eqK_addUp _ _ _).s ((eqR_fk _ _ _ _ _).trans (eqR.i (by omega)))
  have e8 : gI (pI (fkS u n na (nI i) s) 7 y) 8 = gI u 8 := by
    rw [gI_pI, if_neg (by decide)]
    exact fkS_I u n na _ s (by decide) (by decide)
  obtain ⟨H, X, -, -, x3⟩ := hear_it hu (p := i) (s := s) (q := b) hi (A := A) (A0 := X2) (by rw [e8]; exact k) na (Nat.le_refl _)
  exact ⟨X, x3⟩
end PP
