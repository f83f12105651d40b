/-! THE RELATION KEPT: quarrel, weight, split -/
theorem ti_add {x y : Int32} {B C : Int} (h1 : -B ≤ x.toInt ∧ x.toInt ≤ B) (h2 : -C ≤ y.toInt ∧ y.toInt ≤ C) (hB : B ≤ 100000) (hC : C ≤ 100000) : (x + y).toInt = x.toInt + y.toInt := by
  rw [Int32.toInt_add, Int.bmod_def]
  omega
theorem ti_sub {x y : Int32} {B C : Int} (h1 : -B ≤ x.toInt ∧ x.toInt ≤ B) (h2 : -C ≤ y.toInt ∧ y.toInt ≤ C) (hB : B ≤ 100000) (hC : C ≤ 100000) : (x - y).toInt = x.toInt - y.toInt := by
  rw [Int32.toInt_sub, Int.bmod_def]
  omega
def Bd (f : Nat → Int32) (B : Int) : Prop := ∀ p, p < 16 → -B ≤ (f p).toInt ∧ (f p).toInt ≤ B
theorem Bd.up {f : Nat → Int32} {B C : Int} {d : Nat} {x : Int32} (h : Bd f B) (hc : B ≤ C) (hx : -C ≤ x.toInt ∧ x.toInt ≤ C) : Bd (upd f d x) C := by
  intro p hp
  by_cases c : p = d
  · subst c; rw [upd_s]; exact hx
  · rw [upd_n c]; have := h p hp; omega
theorem Bd.w {f : Nat → Int32} {B C : Int} (h : Bd f B) (hc : B ≤ C) : Bd f C := fun p hp => by have := h p hp; omega
theorem nI_bd {m : Nat} (hm : m ≤ 12) : -12 ≤ (nI m).toInt ∧ (nI m).toInt ≤ 12 := by rw [nI_toInt (by omega)]; omega
theorem Bd_add {f : Nat → Int32} {B : Int} {d m : Nat} (h : Bd f B) (hB : B ≤ 50000) (hd : d < 16) (hm : m ≤ 12) : Bd (upd f d (f d + nI m)) (B + 12) := by
  have e := h d hd
  have n := nI_bd hm
  exact h.up (by omega) (by rw [ti_add e n (by omega) (by omega)]; omega)
theorem Bd_sub {f : Nat → Int32} {B : Int} {d m : Nat} (h : Bd f B) (hB : B ≤ 50000) (hd : d < 16) (hm : m ≤ 12) : Bd (upd f d (f d - nI m)) (B + 12) := by
  have e := h d hd
  have n := nI_bd hm
  exact h.up (by omega) (by rw [ti_sub e n (by omega) (by omega)]; omega)
theorem hold_bd {υ : sS} {k : Nat} {f : Bool} {B : Int} (h1 : Bd (gA υ 18) B) (h2 : Bd (gA υ 19) B) (h0 : 0 ≤ B) (hB : B ≤ 10000) (hd : doR υ k < 16) (ho : ¬ kdR υ k = 4 → otR υ k < 16) (hn : kdR υ k = 1 ∨ kdR υ k = 2 ∨ kdR υ k = 3 → ∃ m, gA υ 12 k = nI m ∧ m ≤ 12) (h4 : kdR υ k = 4 → ∃ m, gA υ 12 (otR υ k) = nI m ∧ m ≤ 12) :
    Bd (gA (holdQ υ k f).2 18) (B + 24) ∧ Bd (gA (holdQ υ k f).2 19) (B + 24) := by
  have w1 := h1.w (show B ≤ B + 24 by omega)
  have w2 := h2.w (show B ≤ B + 24 by omega)
  unfold holdQ
  split
  · dsimp only
    split
    · exact ⟨w1, w2⟩
    · exact ⟨h1.up (by omega) (by rw [show (12 : Int32).toInt = 12 by decide]; omega), w2⟩
  split
  · rename_i c
    obtain ⟨m, e, hm⟩ := hn (by omega)
    have hot := ho (by omega)
    dsimp only
    split
    · exact ⟨w1, w2⟩
    · refine ⟨?_, w2⟩
      show Bd (upd (upd (gA υ 18) (doR υ k) (gA υ 18 (doR υ k) - gA υ 12 k)) (otR υ k) (upd (gA υ 18) (doR υ k) (gA υ 18 (doR υ k) - gA υ 12 k) (otR υ k) + gA υ 12 k)) (B + 24)
      rw [e]
      have := Bd_add (Bd_sub h1 (by omega) hd hm) (by omega) hot hm
      exact this.w (by omega)
  split
  · rename_i c
    obtain ⟨m, e, hm⟩ := hn (by omega)
    dsimp only
    split
    · exact ⟨w1, w2⟩
    · refine ⟨w1, ?_⟩
      show Bd (upd (gA υ 19) (doR υ k) (gA υ 19 (doR υ k) + gA υ 12 k)) (B + 24)
      rw [e]
      exact (Bd_add h2 (by omega) hd hm).w (by omega)
  split
  · rename_i c
    obtain ⟨m, e, hm⟩ := h4 c
    dsimp only
    split
    · exact ⟨w1, w2⟩
    split
    · refine ⟨w1, ?_⟩
      show Bd (upd (gA υ 19) (doR υ k) (gA υ 19 (doR υ k) - gA υ 12 (otR υ k))) (B + 24)
      rw [e]
      exact (Bd_sub h2 (by omega) hd hm).w (by omega)
    · exact ⟨w1, w2⟩
  split
  · exact ⟨w1, w2⟩
  · exact ⟨w1, w2⟩
section PP
variable {σ ρ : sS} {n ns na : Nat}
theorem fk_bd (h : RelN σ ρ n ns na) (w : Int32) (s : Nat) : ∀ k : Nat, k ≤ na → Bd (gA (itr (fkStep n w s) k (false, fk0 ρ)).2 18) (24 * (k : Int)) ∧ Bd (gA (itr (fkStep n w s) k (false, fk0 ρ)).2 19) (24 * (k : Int))
  | 0, _ => by
    refine ⟨fun p hp => ?_, fun p hp => ?_⟩
    · rw [itr_0, fk0_a, (fk1_v ρ p 16 hp).1]; decide
    · rw [itr_0, fk0_a, (fk1_v ρ p 16 hp).2]; decide
  | k + 1, hk => by
    obtain ⟨b1, b2⟩ := fk_bd h w s k (by omega)
    have e := eqR_fkI ρ n w s k
    have h60 := h.a60
    rw [itr_s]
    generalize itr (fkStep n w s) k (false, fk0 ρ) = q at b1 b2 e ⊢
    have e' : eqR ρ (fkT k q.2) := e.trans (eqR_fkT k q.2)
    have hw1 : Bd (gA q.2 18) (24 * ((k + 1 : Nat) : Int)) := b1.w (by omega)
    have hw2 : Bd (gA q.2 19) (24 * ((k + 1 : Nat) : Int)) := b2.w (by omega)
    have rk : kdR (fkT k q.2) k = kdC σ k := by rw [h.kd]; unfold kdR; rw [e'.1 8 (by decide)]
    have rd : doR (fkT k q.2) k = doC σ k := by rw [h.dd]; unfold doR; rw [e'.1 10 (by decide)]
    have ro' : otR (fkT k q.2) k = otC σ k := by rw [h.ot]; unfold otR; rw [e'.1 11 (by decide)]
    have r12 : gA (fkT k q.2) 12 = gA σ 20 := by rw [h.r1.2.2.2.2.2.2.2.2.2.1]; exact e'.1 12 (by decide)
    unfold fkStep
    split
    · split
      · have hh := hold_bd (υ := fkT k q.2) (k := k) (f := q.1) (B := 24 * (k : Int)) b1 b2 (by omega) (by omega) (by rw [rd]; exact (h.okc.2.2.1 k (by omega)).2) (by rw [rk, ro']; exact (h.okc.2.2.2 k (by omega)).2.2) (by rw [rk, r12]; exact (h.r6 k (by omega)).2.2) (by
          rw [rk, r12, ro']
          intro z
          obtain ⟨z1, z2, -⟩ := (h.r6 k (by omega)).2.1 z
          exact (h.r6 (otC σ k) (by omega)).2.2 (Or.inr (Or.inr z2)))
        exact ⟨hh.1.w (by omega), hh.2.w (by omega)⟩
      · exact ⟨hw1, hw2⟩
    · exact ⟨hw1, hw2⟩
theorem fkS_bd (h : RelN σ ρ n ns na) (w : Int32) (s : Nat) : Bd (gA (fkS ρ n na w s) 18) 1500 := (fk_bd h w s na (Nat.le_refl _)).1.w (by have := h.a60; omega)
/-- who has more: no wrap-around -/
theorem adv_cmp {x y : Int32} (h1 : -1500 ≤ x.toInt ∧ x.toInt ≤ 1500) (h2 : -1500 ≤ y.toInt ∧ y.toInt ≤ 1500) : (x - y ≤ 0 ↔ x ≤ y) ∧ (0 ≤ x - y ↔ y ≤ x) := by
  rw [Int32.le_iff_toInt_le, Int32.le_iff_toInt_le, Int32.le_iff_toInt_le, Int32.le_iff_toInt_le, ti_sub h1 h2 (by omega) (by omega), show (0 : Int32).toInt = 0 by decide]
  omega
theorem adv_eq (h : RelN σ ρ n ns na) {p s : Nat} (hp : p < 16) (hs : s < 8) {a : Nat} (ha : a < 16) : gA (advS σ na p) 24 (s * 16 + a) = gA (fkS ρ n na (nI p) s) 18 a := (know_eq h hs (fun k hk => person_bits h hp hk)).1 a ha
theorem adv_le (h : RelN σ ρ n ns na) {p s : Nat} (hp : p < 16) (hs : s < 8) {a b : Nat} (ha : a < 16) (hb : b < 16) :
    (advV σ na p s a b ≤ 0 ↔ gA (fkS ρ n na (nI p) s) 18 a ≤ gA (fkS ρ n na (nI p) s) 18 b) ∧ (0 ≤ advV σ na p s a b ↔ gA (fkS ρ n na (nI p) s) 18 b ≤ gA (fkS ρ n na (nI p) s) 18 a) := by
  unfold advV
  rw [adv_eq h hp hs ha, adv_eq h hp hs hb]
  exact adv_cmp (fkS_bd h _ _ a ha) (fkS_bd h _ _ b hb)
/-- what a reckoning leaves: the numbers but two, the row kept for comparing -/
theorem hold_I (υ : sS) (k : Nat) (f : Bool) {j : Nat} (h5 : j ≠ 5) (h6 : j ≠ 6) : gI (holdQ υ k f).2 j = gI υ j := by
  unfold holdQ
  split
  · dsimp only; split <;> rfl
  split
  · dsimp only; split
    · rfl
    · rw [gI_pA, gI_pI, if_neg h6]; rfl
  split
  · dsimp only; split <;> rfl
  split
  · dsimp only; split
    · rfl
    · split <;> rfl
  split
  · dsimp only; rw [gI_pA, gI_pI, if_neg h5]
  · rfl
theorem hold_20 (υ : sS) (k : Nat) (f : Bool) : gA (holdQ υ k f).2 20 = gA υ 20 := by
  unfold holdQ
  split
  · dsimp only; split <;> rfl
  split
  · dsimp only; split <;> rfl
  split
  · dsimp only; split <;> rfl
  split
  · dsimp only; split
    · rfl
    · split <;> rfl
  split
  · rfl
  · rfl
theorem fkI_I (υ : sS) (n : Nat) (w : Int32) (s : Nat) {j : Nat} (h5 : j ≠ 5) (h6 : j ≠ 6) : ∀ i, gI (itr (fkStep n w s) i (false, fk0 υ)).2 j = gI υ j
  | 0 => by
    rw [itr_0]
    unfold fk0
    rw [gI_pI, if_neg h6, gI_pI, if_neg h5]
    have : ∀ i, gI (itr fk1 i υ) j = gI υ j := fun i => by
      induction i with
      | zero => rfl
      | succ i ih => rw [itr_s, ← ih]; rfl
    exact this 16
  | i + 1 => by
    rw [itr_s, ← fkI_I υ n w s h5 h6 i]
    generalize itr (fkStep n w s) i (false, fk0 υ) = q
    unfold fkStep
    split
    · split
      · rw [hold_I _ _ _ h5 h6]; rfl
      · rfl
    · rfl
theorem fkI_20 (υ : sS) (n : Nat) (w : Int32) (s : Nat) : ∀ i, gA (itr (fkStep n w s) i (false, fk0 υ)).2 20 = gA υ 20
  | 0 => by
    rw [itr_0, fk0_a]
    have : ∀ i, gA (itr fk1 i υ) 20 = gA υ 20 := fun i => by
      induction i with
      | zero => rfl
      | succ i ih => rw [itr_s, ← ih]; rfl
    exact this 16
  | i + 1 => by
    rw [itr_s, ← fkI_20 υ n w s i]
    generalize itr (fkStep n w s) i (false, fk0 υ) = q
    unfold fkStep
    split
    · split
      · rw [hold_20]; rfl
      · rfl
    · rfl
theorem fkS_I (υ : sS) (n na : Nat) (w : Int32) (s : Nat) {j : Nat} (h5 : j ≠ 5) (h6 : j ≠ 6) : gI (fkS υ n na w s) j = gI υ j := fkI_I υ n w s h5 h6 na
theorem fkS_20 (υ : sS) (n na : Nat) (w : Int32) (s : Nat) : gA (fkS υ n na w s) 20 = gA υ 20 := fkI_20 υ n w s na
/-- weight -/
theorem fw_7 (υ : sS) (na p s a : Nat) : ∀ i, gI (itr (fnStep p s a) i υ) 7 = gI υ 7
  | 0 => rfl
  | i + 1 => by
    rw [itr_s, ← fw_7 υ na p s a i]
    rfl
theorem wt_it (h : RelN σ ρ n ns na) {s a b : Nat} (hs : s < 8) (ha : a < 16) (hb : b < 16) : ∀ i, i ≤ n → ∀ (υ0 : sS), eqR ρ υ0 → gI υ0 7 = 0 → gI (itr (fwStep n na s a b) i υ0) 7 = nI (itr (wtStep na s a b) i (0, σ)).1
  | 0, _, υ0, _, e0 => e0.trans (show (0 : Int32) = nI 0 by decide)
  | i + 1, hi, υ0, e, e0 => by
    have ih := wt_it h hs ha hb i (by omega) υ0 e e0
    have h16 := h.n16
    have eK := wtS_eqK σ na s a b i
    have eQ : eqR ρ (itr (fwStep n na s a b) i υ0) := e.trans (eqR.itr (eqR_fwStep n na s a b) i υ0)
    rw [itr_s, itr_s]
    generalize itr (fwStep n na s a b) i υ0 = υ at ih eQ ⊢
    generalize itr (wtStep na s a b) i (0, σ) = q at ih eK ⊢
    have h2 := h.scr eK.s eQ
    unfold fwStep wtStep
    rw [h2.old (by omega)]
    by_cases c : oldR υ i = true
    · rw [if_pos c, if_pos c]
      have hc := (adv_le h2 (p := i) (by omega) hs ha hb).1
      by_cases c2 : gA (fkS υ n na (nI i) s) 18 a ≤ gA (fkS υ n na (nI i) s) 18 b
      · rw [if_pos c2]
        show gI (fkS υ n na (nI i) s) 7 = nI (if advV q.2 na i s a b ≤ 0 then q.1 else q.1 + 1)
        rw [if_pos (hc.mpr c2), ← ih]
        exact fkS_I υ n na _ s (by decide) (by decide)
      · rw [if_neg c2]
        show gI (fnS (pI (fkS υ n na (nI i) s) 7 (gI (fkS υ n na (nI i) s) 7 + 1)) na i s a) 7 = nI (if advV q.2 na i s a b ≤ 0 then q.1 else q.1 + 1)
        rw [if_neg (fun z => c2 (hc.mp z))]
        unfold fnS
        rw [fw_7 _ na]
        show gI (fkS υ n na (nI i) s) 7 + 1 = _
        rw [fkS_I υ n na _ s (by decide) (by decide), ih, nI_1]
    · rw [if_neg c, if_neg c]; exact ih
theorem weight_rel (h : RelN σ ρ n ns na) (s a b : Int32) : SR (weightR σ n na s a b) (weightQ ρ n na s a b) := by
  unfold weightR weightQ
  rw [h.inS, h.inP, h.inP]
  by_cases c : isIn s (gI ρ 2) = true ∧ isIn a (gI ρ 0) = true ∧ isIn b (gI ρ 0) = true ∧ ¬ ix a = ix b
  · rw [if_pos c, if_pos c]
    obtain ⟨S, hS, rfl⟩ := h.sI c.1
    obtain ⟨A, hA, rfl⟩ := h.pI c.2.1
    obtain ⟨B, hB, rfl⟩ := h.pI c.2.2.1
    have := h.s8
    have := h.n16
    rw [ix_nI (by omega), ix_nI (by omega), ix_nI (by omega)]
    refine ⟨(wt_it h (by omega) (by omega) (by omega) n (Nat.le_refl _) (pI (pI ρ 7 0) 8 61) ((eqR.i (by omega)).trans (eqR.i (by omega))) rfl).symm, n, ns, na, h.scr (wtS_eqK _ _ _ _ _ n).s (eqR_fw _ _ _ _ _ _)⟩
  · rw [if_neg c, if_neg c]; exact h.same _
end PP
