/-! THE RELATION KEPT: quarrel (2) -/
def quP (σ : sS) (n na i s a : Nat) (x : Int32) : Int32 := if hearingC σ n na i s a < x then hearingC σ n na i s a else x
theorem qs_no {n na s a b i : Nat} {q : (Int32 × Int32 × Int32) × sS} (c : ¬ oldC q.2 (nI i) = true) : quStep n na s a b i q = q := if_neg c
theorem qs_z {n na s a b i : Nat} {q : (Int32 × Int32 × Int32) × sS} (c : oldC q.2 (nI i) = true) (c1 : advV q.2 na i s a b ≤ 0) (c2 : 0 ≤ advV q.2 na i s a b) : quStep n na s a b i q = (q.1, advS q.2 na i) := by
  unfold quStep; rw [if_pos c, if_pos c1, if_pos c2]
theorem qs_m {n na s a b i : Nat} {q : (Int32 × Int32 × Int32) × sS} (c : oldC q.2 (nI i) = true) (c1 : advV q.2 na i s a b ≤ 0) (c2 : ¬ 0 ≤ advV q.2 na i s a b) : quStep n na s a b i q = ((q.1.1 + (-1), q.1.2.1, quP (advS q.2 na i) n na i s b q.1.2.2), advS q.2 na i) := by
  unfold quStep; rw [if_pos c, if_pos c1, if_neg c2]; rfl
theorem qs_p {n na s a b i : Nat} {q : (Int32 × Int32 × Int32) × sS} (c : oldC q.2 (nI i) = true) (c1 : ¬ advV q.2 na i s a b ≤ 0) : quStep n na s a b i q = ((q.1.1 + 1, quP (advS q.2 na i) n na i s a q.1.2.1, q.1.2.2), advS q.2 na i) := by
  unfold quStep; rw [if_pos c, if_neg c1]; rfl
theorem fs_no {n na s a b i : Nat} {υ : sS} (c : ¬ oldR υ i = true) : fwStep n na s a b i υ = υ := if_neg c
theorem fs_le {n na s a b i : Nat} {υ : sS} (c : oldR υ i = true) (c1 : gA (fkS υ n na (nI i) s) 18 a ≤ gA (fkS υ n na (nI i) s) 18 b) : gI (fwStep n na s a b i υ) 7 = gI υ 7 ∧ gI (fwStep n na s a b i υ) 8 = gI υ 8 := by
  unfold fwStep; rw [if_pos c, if_pos c1]
  exact ⟨fkS_I υ n na _ s (by decide) (by decide), fkS_I υ n na _ s (by decide) (by decide)⟩
theorem fs_gt {n na s a b i : Nat} {υ : sS} (c : oldR υ i = true) (c1 : ¬ gA (fkS υ n na (nI i) s) 18 a ≤ gA (fkS υ n na (nI i) s) 18 b) : gI (fwStep n na s a b i υ) 7 = gI υ 7 + 1 ∧ gI (fwStep n na s a b i υ) 8 = gI (fnS (pI (fkS υ n na (nI i) s) 7 (gI (fkS υ n na (nI i) s) 7 + 1)) na i s a) 8 := by
  unfold fwStep; rw [if_pos c, if_neg c1]
  refine ⟨?_, rfl⟩
  unfold fnS
  rw [fw_7 _ na, gI_pI, if_pos rfl, fkS_I υ n na _ s (by decide) (by decide)]
def QI (i w1 w2 X1 X2 : Nat) (d x y : Int32) (g1 g2 e1 e2 : Int32) : Prop := w1 ≤ i ∧ w2 ≤ i ∧ d = nI w1 - nI w2 ∧ g1 = nI w1 ∧ g2 = nI w2 ∧ nr X1 x e1 ∧ nr X2 y e2
theorem QI.w {i w1 w2 X1 X2 : Nat} {d x y g1 g2 e1 e2 : Int32} (h : QI i w1 w2 X1 X2 d x y g1 g2 e1 e2) : QI (i + 1) w1 w2 X1 X2 d x y g1 g2 e1 e2 := ⟨Nat.le_succ_of_le h.1, Nat.le_succ_of_le h.2.1, h.2.2⟩
theorem QI.p {i w1 w2 X1 X2 X : Nat} {d x y g1 g2 e1 e2 x' e' : Int32} (h : QI i w1 w2 X1 X2 d x y g1 g2 e1 e2) (k : nr X x' e') : QI (i + 1) (w1 + 1) w2 X X2 (d + 1) x' y (g1 + 1) g2 e' e2 := by
  obtain ⟨h1, h2, rfl, rfl, rfl, h6, h7⟩ := h
  exact ⟨Nat.succ_le_succ h1, Nat.le_succ_of_le h2, by rw [sum_p, nI_1], nI_1 _, rfl, k, h7⟩
theorem QI.m {i w1 w2 X1 X2 X : Nat} {d x y g1 g2 e1 e2 y' e' : Int32} (h : QI i w1 w2 X1 X2 d x y g1 g2 e1 e2) (k : nr X y' e') : QI (i + 1) w1 (w2 + 1) X1 X (d + (-1)) x y' g1 (g2 + 1) e1 e' := by
  obtain ⟨h1, h2, rfl, rfl, rfl, h6, h7⟩ := h
  exact ⟨Nat.le_succ_of_le h1, Nat.succ_le_succ h2, by rw [sum_m, nI_1], rfl, nI_1 _, h6, k⟩
section PP
variable {σ ρ : sS} {n ns na : Nat}
theorem hear_new2 {τ u : sS} (r : RelN τ u n ns na) {i s b : Nat} (hi : i < 16) {A y : Int32} {X2 : Nat} (k : nr X2 A (gI u 8)) : ∃ X, nr X (quP (advS τ na i) n na i s b A) (gI (fnS (pI (fkS u n na (nI i) s) 7 y) na i s b) 8) := hear_new r hi k
theorem qu_step {q : (Int32 × Int32 × Int32) × sS} {u1 u2 : sS} {i s a b w1 w2 X1 X2 : Nat} (r1 : RelN q.2 u1 n ns na) (r2 : RelN q.2 u2 n ns na) (hi : i < 16) (hs : s < 8) (ha : a < 16) (hb : b < 16) (h : QI i w1 w2 X1 X2 q.1.1 q.1.2.1 q.1.2.2 (gI u1 7) (gI u2 7) (gI u1 8) (gI u2 8)) :
    ∃ w1 w2 X1 X2, QI (i + 1) w1 w2 X1 X2 (quStep n na s a b i q).1.1 (quStep n na s a b i q).1.2.1 (quStep n na s a b i q).1.2.2 (gI (fwStep n na s a b i u1) 7) (gI (fwStep n na s b a i u2) 7) (gI (fwStep n na s a b i u1) 8) (gI (fwStep n na s b a i u2) 8) := by
  have a1 := adv_le r1 (p := i) hi hs ha hb
  have a2 := adv_le r2 (p := i) hi hs ha hb
  have o1 := r1.old (p := i) (Nat.lt_of_lt_of_le hi (by decide))
  have o2 := r2.old (p := i) (Nat.lt_of_lt_of_le hi (by decide))
  by_cases c : oldC q.2 (nI i) = true
  · by_cases c1 : advV q.2 na i s a b ≤ 0
    · obtain ⟨f1, f2⟩ := fs_le (o1.symm.trans c) (a1.1.mp c1)
      rw [f1, f2]
      by_cases c2 : 0 ≤ advV q.2 na i s a b
      · obtain ⟨f3, f4⟩ := fs_le (o2.symm.trans c) (a2.2.mp c2)
        rw [f3, f4, qs_z c c1 c2]
        exact ⟨w1, w2, X1, X2, h.w⟩
      · obtain ⟨f3, f4⟩ := fs_gt (o2.symm.trans c) (fun z => c2 (a2.2.mpr z))
        rw [f3, f4, qs_m c c1 c2]
        obtain ⟨X, x3⟩ := hear_new2 r2 (i := i) (s := s) (b := b) (y := gI (fkS u2 n na (nI i) s) 7 + 1) hi h.2.2.2.2.2.2
        exact ⟨w1, w2 + 1, X1, X, h.m x3⟩
    · have c2 : 0 ≤ advV q.2 na i s a b := Int32.le_of_lt (Int32.not_le.mp c1)
      obtain ⟨f1, f2⟩ := fs_gt (o1.symm.trans c) (fun z => c1 (a1.1.mpr z))
      obtain ⟨f3, f4⟩ := fs_le (o2.symm.trans c) (a2.2.mp c2)
      rw [f1, f2, f3, f4, qs_p c c1]
      obtain ⟨X, x3⟩ := hear_new2 r1 (i := i) (s := s) (b := a) (y := gI (fkS u1 n na (nI i) s) 7 + 1) hi h.2.2.2.2.2.1
      exact ⟨w1 + 1, w2, X, X2, h.p x3⟩
  · rw [qs_no c, fs_no (fun z => c (o1.trans z)), fs_no (fun z => c (o2.trans z))]
    exact ⟨w1, w2, X1, X2, h.w⟩
theorem qu_it (h : RelN σ ρ n ns na) {s a b : Nat} (hs : s < 8) (ha : a < 16) (hb : b < 16) {υ1 υ2 : sS} (g1 : eqR ρ υ1) (g2 : eqR ρ υ2) (z1 : gI υ1 7 = 0) (z2 : gI υ2 7 = 0) (z3 : gI υ1 8 = 61) (z4 : gI υ2 8 = 61) : ∀ i, i ≤ n →
    ∃ w1 w2 X1 X2, QI i w1 w2 X1 X2 (itr (quStep n na s a b) i ((0, 1000, 1000), σ)).1.1 (itr (quStep n na s a b) i ((0, 1000, 1000), σ)).1.2.1 (itr (quStep n na s a b) i ((0, 1000, 1000), σ)).1.2.2 (gI (itr (fwStep n na s a b) i υ1) 7) (gI (itr (fwStep n na s b a) i υ2) 7) (gI (itr (fwStep n na s a b) i υ1) 8) (gI (itr (fwStep n na s b a) i υ2) 8)
  | 0, _ => ⟨0, 0, 1000, 1000, Nat.le_refl _, Nat.le_refl _, show (0 : Int32) = nI 0 - nI 0 by decide, z1.trans (show (0 : Int32) = nI 0 by decide), z2.trans (show (0 : Int32) = nI 0 by decide), ⟨show (1000 : Int32) = nI 1000 by decide, Or.inr rfl, z3.trans (by decide)⟩, ⟨show (1000 : Int32) = nI 1000 by decide, Or.inr rfl, z4.trans (by decide)⟩⟩
  | i + 1, hi => by
    obtain ⟨w1, w2, X1, X2, k⟩ := qu_it h hs ha hb g1 g2 z1 z2 z3 z4 i (Nat.le_of_succ_le hi)
    have h16 := h.n16
    have eK := quS_eqK σ n na s a b i
    have e1 : eqR ρ (itr (fwStep n na s a b) i υ1) := g1.trans (eqR.itr (eqR_fwStep n na s a b) i υ1)
    have e2 : eqR ρ (itr (fwStep n na s b a) i υ2) := g2.trans (eqR.itr (eqR_fwStep n na s b a) i υ2)
    rw [itr_s, itr_s, itr_s]
    exact qu_step (h.scr eK.s e1) (h.scr eK.s e2) (by omega) hs ha hb k
theorem sub0 {w1 w2 : Nat} (h1 : w1 ≤ 16) (h2 : w2 ≤ 16) : (nI w1 - nI w2 = 0 ↔ nI w1 = nI w2) ∧ (nI w1 - nI w2 ≤ 0 ↔ nI w1 ≤ nI w2) := by
  have e := pk_sub_toInt (a := w1) (b := w2) (by omega) (by omega)
  rw [nI_eq (by omega) (by omega), nI_leI (by omega) (by omega), Int32.le_iff_toInt_le, e, show (0 : Int32).toInt = 0 by decide]
  refine ⟨?_, by omega⟩
  rw [← Int32.toInt_inj, e, show (0 : Int32).toInt = 0 by decide]
  omega
theorem fw_s {σ0 : sS} (n na s a b : Nat) : fwS σ0 n na s a b = itr (fwStep n na s a b) n (pI (pI σ0 7 0) 8 61) := rfl
theorem quarrel_rel (h : RelN σ ρ n ns na) (s a b : Int32) : SR (quarrelR σ n na s a b) (quarrelQ ρ n na s a b) := by
  unfold quarrelR quarrelQ
  rw [h.inS, h.inP, h.inP]
  by_cases c : isIn s (gI ρ 2) = true ∧ isIn a (gI ρ 0) = true ∧ isIn b (gI ρ 0) = true ∧ ¬ ix a = ix b
  · rw [if_pos c, if_pos c]
    obtain ⟨S, hS, rfl⟩ := h.sI c.1
    obtain ⟨A, hA, rfl⟩ := h.pI c.2.1
    obtain ⟨B, hB, rfl⟩ := h.pI c.2.2.1
    have := h.s8
    have h16 := h.n16
    rw [ix_nI (n := S) (by omega), ix_nI (n := A) (by omega), ix_nI (n := B) (by omega)]
    have E1 : eqR ρ (fwS ρ n na S A B) := eqR_fw _ _ _ _ _ _
    have E2 : eqR ρ (qu2 ρ n na S A B) := E1.trans (eqR_fw _ _ _ _ _ _)
    have eK := quS_eqK σ n na S A B n
    obtain ⟨w1, w2, X1, X2, k1, k2, k3, k4, k5, k6, k7⟩ := qu_it h (s := S) (a := A) (b := B) (by omega) (by omega) (by omega) (υ1 := pI (pI ρ 7 0) 8 61) (υ2 := pI (pI (fwS ρ n na S A B) 7 0) 8 61) ((eqR.i (by omega)).trans (eqR.i (by omega))) ((E1.trans (eqR.i (by omega))).trans (eqR.i (by omega))) rfl rfl rfl rfl n (Nat.le_refl _)
    rw [← fw_s] at k4 k5 k6 k7
    refine ⟨?_, n, ns, na, h.scr eK.s E2⟩
    show (if (quC σ n na S A B).1.1 = 0 then (if (quC σ n na S A B).1.2.1 = (quC σ n na S A B).1.2.2 then (-4 : Int32) else if (quC σ n na S A B).1.2.2 ≤ (quC σ n na S A B).1.2.1 then nI B else nI A) else if (quC σ n na S A B).1.1 ≤ 0 then nI B else nI A) = (if gI (fwS ρ n na S A B) 7 = gI (qu2 ρ n na S A B) 7 then (if gI (fwS ρ n na S A B) 8 = gI (qu2 ρ n na S A B) 8 then (-4 : Int32) else if gI (qu2 ρ n na S A B) 8 ≤ gI (fwS ρ n na S A B) 8 then nI B else nI A) else if gI (fwS ρ n na S A B) 7 ≤ gI (qu2 ρ n na S A B) 7 then nI B else nI A)
    have k3' : (quC σ n na S A B).1.1 = nI w1 - nI w2 := k3
    have k4' : gI (fwS ρ n na S A B) 7 = nI w1 := k4
    have k5' : gI (qu2 ρ n na S A B) 7 = nI w2 := k5
    have k6' : nr X1 (quC σ n na S A B).1.2.1 (gI (fwS ρ n na S A B) 8) := k6
    have k7' : nr X2 (quC σ n na S A B).1.2.2 (gI (qu2 ρ n na S A B) 8) := k7
    have hz := sub0 (w1 := w1) (w2 := w2) (by omega) (by omega)
    obtain ⟨n1, n2⟩ := nr_eq k6' k7'
    rw [k3', k4', k5']
    by_cases d1 : nI w1 = nI w2
    · rw [if_pos (hz.1.mpr d1), if_pos d1]
      by_cases d2 : gI (fwS ρ n na S A B) 8 = gI (qu2 ρ n na S A B) 8
      · rw [if_pos d2, if_pos (n1.mpr d2)]
      · rw [if_neg d2, if_neg (fun z => d2 (n1.mp z))]
        by_cases d3 : gI (qu2 ρ n na S A B) 8 ≤ gI (fwS ρ n na S A B) 8
        · rw [if_pos d3, if_pos (n2.mpr d3)]
        · rw [if_neg d3, if_neg (fun z => d3 (n2.mp z))]
    · rw [if_neg (fun z => d1 (hz.1.mp z)), if_neg d1]
      by_cases d3 : nI w1 ≤ nI w2
      · rw [if_pos d3, if_pos (hz.2.mpr d3)]
      · rw [if_neg d3, if_neg (fun z => d3 (hz.2.mp z))]
  · rw [if_neg c, if_neg c]; exact h.same _
end PP
