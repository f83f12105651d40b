/-! THE RELATION of the class's state and the reference's, and what follows of it at once -/
def lvR (ρ : sS) (p : Nat) : Bool := !decide (gA ρ 2 p = 0)
def R1 (σ ρ : sS) : Prop := gA σ 9 = gA ρ 1 ∧ gA σ 10 = gA ρ 3 ∧ gA σ 13 = gA ρ 5 ∧ gA σ 14 = gA ρ 6 ∧ gA σ 15 = gA ρ 7 ∧ gA σ 16 = gA ρ 8 ∧ gA σ 17 = gA ρ 9 ∧ gA σ 18 = gA ρ 10 ∧ gA σ 19 = gA ρ 11 ∧ gA σ 20 = gA ρ 12 ∧ gA σ 21 = gA ρ 13 ∧ gA σ 22 = gA ρ 14 ∧ gA σ 29 = gA ρ 23 ∧ gA σ 30 = gA ρ 24
def R2 (σ ρ : sS) : Prop := gI σ 0 = gI ρ 1 ∧ gI σ 1 = gI ρ 4 ∧ ∃ t, gI σ 0 = nI t ∧ t ≤ 1000 ∧ ∀ p, ∃ a, gA ρ 1 p = nI a ∧ a ≤ 60 + t
def R3 (σ ρ : sS) (n : Nat) : Prop := (∀ p, p < 32 → bt (gI σ 3) p = lvR ρ p) ∧ (∀ p, p < 32 → bt (gI σ 4) p = oldR ρ p) ∧ ∀ p, n ≤ p → gA ρ 2 p = 0
def R4 (σ ρ : sS) (n na : Nat) : Prop := (∀ p k, p < 16 → btL (gB σ 11 p) k = (decide (k < 60) && knR ρ p k)) ∧ (∀ p k, p < 16 → k < 60 → knR ρ p k = true → ∃ d, gA ρ 4 (60 * p + k) = nI (d + 1) ∧ gA σ 12 (p * 60 + k) = nI d ∧ d + 1 ≤ cnt (fun q => knR ρ q k || !lvR ρ q) n) ∧
  (∀ p k, p < 16 → k < 60 → knR ρ p k = false → gA ρ 4 (60 * p + k) = 0) ∧ ∀ p k, p < 16 → k < 60 → knR ρ p k = true → lvR ρ p = true ∧ k < na
def R5 (σ ρ : sS) (na : Nat) : Prop := (∀ k, btL (gL σ 0) k = (decide (k < 60) && !decide (gA ρ 15 k = 0))) ∧ (∀ k, na ≤ k → gA ρ 15 k = 0) ∧ ∀ s k, s < 8 → btL (gB σ 23 s) k = (decide (k < na) && decide (stC σ k = s))
def R6 (σ : sS) (ns na : Nat) : Prop := ∀ k, k < na → stC σ k < ns ∧ (kdC σ k = 4 → otC σ k < k ∧ kdC σ (otC σ k) = 3 ∧ stC σ (otC σ k) = stC σ k ∧ doC σ (otC σ k) = doC σ k) ∧ (kdC σ k = 1 ∨ kdC σ k = 2 ∨ kdC σ k = 3 → ∃ m, gA σ 20 k = nI m ∧ m ≤ 12)
def R7 (σ : sS) : Prop := ∀ s, gA σ 14 s = -1 ∨ 0 ≤ gA σ 14 s
def R8 (σ ρ : sS) : Prop := ∀ j, j < 4 → (gA σ 27 j = 0 ∧ gA ρ 22 j = -1) ∨ (gA σ 27 j = 1 ∧ gA ρ 22 j = gA σ 28 j ∧ 0 ≤ gA σ 28 j)
def RelN (σ ρ : sS) (n ns na : Nat) : Prop := IC σ n ns na ∧ IR ρ n ns na ∧ R1 σ ρ ∧ R2 σ ρ ∧ R3 σ ρ n ∧ R4 σ ρ n na ∧ R5 σ ρ na ∧ R6 σ ns na ∧ R7 σ ∧ R8 σ ρ
section RR
variable {σ ρ : sS} {n ns na : Nat}
theorem RelN.ic (h : RelN σ ρ n ns na) : IC σ n ns na := h.1
theorem RelN.ir (h : RelN σ ρ n ns na) : IR ρ n ns na := h.2.1
theorem RelN.r1 (h : RelN σ ρ n ns na) : R1 σ ρ := h.2.2.1
theorem RelN.r2 (h : RelN σ ρ n ns na) : R2 σ ρ := h.2.2.2.1
theorem RelN.r3 (h : RelN σ ρ n ns na) : R3 σ ρ n := h.2.2.2.2.1
theorem RelN.r4 (h : RelN σ ρ n ns na) : R4 σ ρ n na := h.2.2.2.2.2.1
theorem RelN.r5 (h : RelN σ ρ n ns na) : R5 σ ρ na := h.2.2.2.2.2.2.1
theorem RelN.r6 (h : RelN σ ρ n ns na) : R6 σ ns na := h.2.2.2.2.2.2.2.1
theorem RelN.r7 (h : RelN σ ρ n ns na) : R7 σ := h.2.2.2.2.2.2.2.2.1
theorem RelN.r8 (h : RelN σ ρ n ns na) : R8 σ ρ := h.2.2.2.2.2.2.2.2.2
theorem RelN.n16 (h : RelN σ ρ n ns na) : n ≤ 16 := h.ic.2.1
theorem RelN.s8 (h : RelN σ ρ n ns na) : ns ≤ 8 := h.ic.2.2.2.1
theorem RelN.a60 (h : RelN σ ρ n ns na) : na ≤ 60 := h.ic.2.2.2.2.2.1
theorem RelN.cn (h : RelN σ ρ n ns na) : gI σ 2 = nI n := h.ic.1
theorem RelN.cs (h : RelN σ ρ n ns na) : gI σ 5 = nI ns := h.ic.2.2.1
theorem RelN.ca (h : RelN σ ρ n ns na) : gI σ 6 = nI na := h.ic.2.2.2.2.1
theorem RelN.rn (h : RelN σ ρ n ns na) : gI ρ 0 = nI n := h.ir.1
theorem RelN.rs (h : RelN σ ρ n ns na) : gI ρ 2 = nI ns := h.ir.2.2.1
theorem RelN.ra (h : RelN σ ρ n ns na) : gI ρ 3 = nI na := h.ir.2.2.2.2.1
theorem RelN.okc (h : RelN σ ρ n ns na) : okA σ := h.ic.2.2.2.2.2.2.1
theorem RelN.lv_lt (h : RelN σ ρ n ns na) {p : Nat} (k : lvR ρ p = true) : p < n := by
  rcases Nat.lt_or_ge p n with q | q
  · exact q
  · unfold lvR at k
    rw [h.r3.2.2 p q] at k
    exact absurd k (by decide)
theorem old_lv {p : Nat} (k : oldR ρ p = true) : lvR ρ p = true := (Bool.and_eq_true _ _ ▸ k).1
theorem isIn_dec {p m : Nat} (hp : p < 1000000) (hm : m < 1000000) : isIn (nI p) (nI m) = decide (p < m) := by
  unfold isIn
  rw [decide_eq_false (nI_pos (by omega)), decide_eq_decide.mpr (nI_leI (a := m) (b := p) (by omega) (by omega))]
  by_cases c : p < m
  · rw [decide_eq_true c, decide_eq_false (by omega)]; rfl
  · rw [decide_eq_false c, decide_eq_true (by omega)]; rfl
theorem dq {p : Prop} [Decidable p] {b : Bool} (h : p ↔ b = true) : decide p = b := by
  cases b with
  | true => exact decide_eq_true (h.mpr rfl)
  | false => exact decide_eq_false (fun q => by cases h.mp q)
theorem dqn {p : Prop} [Decidable p] {b : Bool} (h : p ↔ b = false) : (!decide p) = b := by
  cases b with
  | false => rw [decide_eq_true (h.mpr rfl)]; rfl
  | true => rw [decide_eq_false (fun q => by cases h.mp q)]; rfl
theorem dec_and_one {x : Int32} {p : Nat} (hp : p < 32) : (!decide ((x &&& one p) = 0)) = bt x p := dqn (and_one hp)
/-- living, elders -/
theorem RelN.alv (h : RelN σ ρ n ns na) {p : Nat} (hp : p < 32) : aliveC σ (nI p) = lvR ρ p := by
  unfold aliveC
  rw [h.cn, isIn_dec (by omega) (by have := h.n16; omega)]
  show (decide (p < n) && !decide ((gI σ 3 &&& one p) = 0)) = _
  rw [dec_and_one hp, h.r3.1 p hp]
  by_cases c : p < n
  · rw [decide_eq_true c]; rfl
  · rw [decide_eq_false c]
    cases e : lvR ρ p
    · rfl
    · exact absurd (h.lv_lt e) c
theorem RelN.old (h : RelN σ ρ n ns na) {p : Nat} (hp : p < 32) : oldC σ (nI p) = oldR ρ p := by
  unfold oldC
  rw [h.cn, isIn_dec (by omega) (by have := h.n16; omega)]
  show (decide (p < n) && !decide ((gI σ 4 &&& one p) = 0)) = _
  rw [dec_and_one hp, h.r3.2.1 p hp]
  by_cases c : p < n
  · rw [decide_eq_true c]; rfl
  · rw [decide_eq_false c]
    cases e : oldR ρ p
    · rfl
    · exact absurd (h.lv_lt (old_lv e)) c
theorem RelN.alvW (h : RelN σ ρ n ns na) (w : Int32) : aliveC σ w = aliveR ρ w := by
  have h16 := h.n16
  cases c : isIn w (gI σ 2) with
  | false =>
    unfold aliveC aliveR
    rw [c, h.rn, ← h.cn, c]
    rfl
  | true =>
    obtain ⟨p, hp, rfl⟩ := isIn_nI (n := n) (by omega) (by rw [← h.cn]; exact c)
    rw [h.alv (by omega)]
    unfold aliveR
    rw [h.rn, ← h.cn, c, ix_nI (by omega)]
    rfl
theorem RelN.oldW (h : RelN σ ρ n ns na) {w : Int32} (c : isIn w (gI ρ 0) = true) : oldC σ w = oldR ρ (ix w) := by
  have h16 := h.n16
  obtain ⟨p, hp, rfl⟩ := isIn_nI (n := n) (by omega) (by rw [← h.rn]; exact c)
  rw [h.old (by omega), ix_nI (by omega)]
/-- what is known -/
theorem RelN.kn (h : RelN σ ρ n ns na) {p k : Nat} (hp : p < 16) (hk : k < 60) : btL (gB σ 11 p) k = knR ρ p k := by
  rw [h.r4.1 p k hp, decide_eq_true hk]; rfl
theorem RelN.kn_lt (h : RelN σ ρ n ns na) {p k : Nat} (hp : p < 16) (hk : k < 60) (c : knR ρ p k = true) : p < n ∧ k < na := ⟨h.lv_lt (h.r4.2.2.2 p k hp hk c).1, (h.r4.2.2.2 p k hp hk c).2⟩
theorem RelN.heard (h : RelN σ ρ n ns na) {p k : Nat} (hp : p < 16) (hk : k < 60) : heardC σ n p k = knR ρ p k := by
  unfold heardC
  rw [h.kn hp hk]
  by_cases c : n ≤ p
  · rw [decide_eq_true c]
    cases e : knR ρ p k
    · rfl
    · have := (h.kn_lt hp hk e).1; omega
  · rw [decide_eq_false c]; rfl
theorem RelN.kd (h : RelN σ ρ n ns na) (k : Nat) : kdC σ k = kdR ρ k := by unfold kdC kdR; rw [h.r1.2.2.2.2.2.1]
theorem RelN.st (h : RelN σ ρ n ns na) (k : Nat) : stC σ k = stR ρ k := by unfold stC stR; rw [h.r1.2.2.2.2.2.2.1]
theorem RelN.dd (h : RelN σ ρ n ns na) (k : Nat) : doC σ k = doR ρ k := by unfold doC doR; rw [h.r1.2.2.2.2.2.2.2.1]
theorem RelN.ot (h : RelN σ ρ n ns na) (k : Nat) : otC σ k = otR ρ k := by unfold otC otR; rw [h.r1.2.2.2.2.2.2.2.2.1]
/-- the bits of a number: the arithmetic shift -/
theorem nI31 : ∀ p, p < 32 → ((nI p &&& 31).toBitVec.smod 32).toNat = p := by decide +kernel
theorem bt_1 (i : Nat) : bt 1 i = decide (i = 0) := by
  have := bt_one (l := 0) (by decide) i
  rwa [show one 0 = 1 by decide] at this
theorem bitR_eq (x : Int32) {p : Nat} (hp : p < 32) : bitR x p = if bt x p = true then 1 else 0 := by
  have e : ∀ i, bt (bitR x p) i = (decide (i = 0) && bt x p) := by
    intro i
    unfold bitR
    rw [bt_and, bt_1]
    by_cases c : i = 0
    · subst c
      have : bt (x >>> (nI p &&& 31)) 0 = bt x p := by
        unfold bt
        rw [Int32.toBitVec_shiftRight]
        show (x.toBitVec.sshiftRight ((nI p &&& 31).toBitVec.smod 32).toNat).getLsbD 0 = _
        rw [nI31 p hp, BitVec.getLsbD_sshiftRight]
        simp [hp]
      rw [this]; simp
    · simp [c]
  apply bt_ext
  intro i hi
  rw [e]
  cases bt x p
  · rw [if_neg (by decide), bt_0, Bool.and_false]
  · rw [if_pos rfl, bt_1, Bool.and_true]
theorem bitR_1 (x : Int32) {p : Nat} (hp : p < 32) : bitR x p = 1 ↔ bt x p = true := by
  rw [bitR_eq x hp]
  cases bt x p <;> decide
theorem bitR_0 (x : Int32) {p : Nat} (hp : p < 32) : bitR x p = 0 ↔ bt x p = false := by
  rw [bitR_eq x hp]
  cases bt x p <;> decide
theorem bt_31 {x : Int32} (h : x < 0) : bt x 31 = true := by
  unfold bt
  have := Int32.lt_iff_toInt_lt.mp h
  have e : x.toBitVec.msb = true := by
    rw [BitVec.msb_eq_toInt]
    exact decide_eq_true this
  rwa [BitVec.msb_eq_getLsbD_last] at e
theorem RelN.ban (h : RelN σ ρ n ns na) {k : Nat} (hk : k < 60) : isBannedB σ k = banR2 ρ k := by
  unfold isBannedB banR2
  have := (h.okc.1 k hk).2
  rw [dec_and_one (by omega), h.r2.2.1, h.kd]
  exact (dq (bitR_1 _ (by rw [← h.kd]; omega))).symm
/-- the living, as bits -/
theorem lb_bits (ρ : sS) {j : Nat} (hj : j < 32) : ∀ i, i ≤ 32 → bt (itr (lbStep ρ) i 0) j = (decide (j < i) && lvR ρ j)
  | 0, _ => by rw [itr_0, bt_0]; simp
  | i + 1, h => by
    have := lb_bits ρ hj i (by omega)
    rw [itr_s]
    show bt (if gA ρ 2 i = 0 then itr (lbStep ρ) i 0 ||| 0 else itr (lbStep ρ) i 0 ||| one i) j = _
    by_cases c : gA ρ 2 i = 0
    · rw [if_pos c, bt_or, bt_0, Bool.or_false, this]
      by_cases e : j = i
      · subst e
        have : lvR ρ j = false := by unfold lvR; rw [decide_eq_true c]; rfl
        rw [this]; simp
      · rw [show decide (j < i + 1) = decide (j < i) from decide_eq_decide.mpr (by omega)]
    · rw [if_neg c, bt_or, bt_one (by omega), this]
      by_cases e : j = i
      · subst e
        have : lvR ρ j = true := by unfold lvR; rw [decide_eq_false c]; rfl
        rw [this]; simp
      · rw [show decide (j < i + 1) = decide (j < i) from decide_eq_decide.mpr (by omega)]; simp [e]
theorem RelN.liv (h : RelN σ ρ n ns na) : gI σ 3 = livBitsR ρ n := by
  apply bt_ext
  intro i hi
  unfold livBitsR
  rw [h.r3.1 i hi, lb_bits ρ hi n (by have := h.n16; omega)]
  cases e : lvR ρ i
  · simp
  · rw [decide_eq_true (h.lv_lt e)]; rfl
theorem RelN.allA (h : RelN σ ρ n ns na) (y : Int32) : allAliveC σ y = decide ((y &&& (livBitsR ρ n ^^^ (-1))) = 0) := by
  unfold allAliveC; rw [h.liv]
theorem RelN.y_pos (h : RelN σ ρ n ns na) {y : Int32} (k : allAliveC σ y = true) : ¬ y < 0 := by
  intro c
  unfold allAliveC at k
  have := sub_32.mp (of_decide_eq_true k) 31 (by decide) (bt_31 c)
  rw [h.r3.1 31 (by decide)] at this
  have := h.lv_lt this
  have := h.n16
  omega
/-- the class's and the reference's checks of ranges -/
theorem inB_lt {x : Int32} {N : Nat} (hN : N < 1000) : inB x 0 (nI N) = isIn x (nI (N + 1)) := by
  have := inB_pred (x := x) (n := N + 1) (by omega)
  rwa [nI_pred] at this
/-- scratch: what a call writes for itself -/
def eqS (σ τ : sS) : Prop := (∀ k, k ≠ 6 → k ≠ 8 → k ≠ 24 → k ≠ 25 → k ≠ 26 → gA τ k = gA σ k) ∧ (∀ k, k ≠ 7 → gI τ k = gI σ k) ∧ (∀ k, k ≠ 7 → gB τ k = gB σ k) ∧ gL τ 0 = gL σ 0
theorem eqK.s {σ τ : sS} (h : eqK σ τ) : eqS σ τ := ⟨fun k _ _ a b c => h.1 k a b c, h.2.1, fun k _ => h.2.2.1 k, h.2.2.2 0 (by decide) (by decide)⟩
theorem eqS.refl (σ : sS) : eqS σ σ := ⟨fun _ _ _ _ _ _ => rfl, fun _ _ => rfl, fun _ _ => rfl, rfl⟩
theorem eqS.trans {σ τ υ : sS} (h : eqS σ τ) (k : eqS τ υ) : eqS σ υ := ⟨fun i a b c d e => (k.1 i a b c d e).trans (h.1 i a b c d e), fun i a => (k.2.1 i a).trans (h.2.1 i a), fun i a => (k.2.2.1 i a).trans (h.2.2.1 i a), k.2.2.2.trans h.2.2.2⟩
theorem eqS.IC {σ τ : sS} {n ns na : Nat} (e : eqS σ τ) (h : IC σ n ns na) : IC τ n ns na :=
  IC_of h (e.2.1 2 (by decide)) (e.2.1 5 (by decide)) (e.2.1 6 (by decide)) (e.1 16 (by decide) (by decide) (by decide) (by decide) (by decide)) (e.1 17 (by decide) (by decide) (by decide) (by decide) (by decide)) (e.1 18 (by decide) (by decide) (by decide) (by decide) (by decide)) (e.1 19 (by decide) (by decide) (by decide) (by decide) (by decide)) (e.1 20 (by decide) (by decide) (by decide) (by decide) (by decide)) (e.1 29 (by decide) (by decide) (by decide) (by decide) (by decide))
theorem RelN.scr {σ' ρ' : sS} (h : RelN σ ρ n ns na) (a : eqS σ σ') (b : eqR ρ ρ') : RelN σ' ρ' n ns na := by
  have cA : ∀ k, k ≠ 6 ∧ k ≠ 8 ∧ k ≠ 24 ∧ k ≠ 25 ∧ k ≠ 26 → gA σ' k = gA σ k := fun k ⟨h1, h2, h3, h4, h5⟩ => a.1 k h1 h2 h3 h4 h5
  refine ⟨a.IC h.ic, b.IR h.ir, ?_, ?_, ?_, ?_, ?_, ?_, ?_, ?_⟩
  · have := h.r1
    unfold R1 at this ⊢
    rw [cA 9 (by decide), cA 10 (by decide), cA 13 (by decide), cA 14 (by decide), cA 15 (by decide), cA 16 (by decide), cA 17 (by decide), cA 18 (by decide), cA 19 (by decide), cA 20 (by decide), cA 21 (by decide), cA 22 (by decide), cA 29 (by decide), cA 30 (by decide)]
    rw [b.1 1 (by decide), b.1 3 (by decide), b.1 5 (by decide), b.1 6 (by decide), b.1 7 (by decide), b.1 8 (by decide), b.1 9 (by decide), b.1 10 (by decide), b.1 11 (by decide), b.1 12 (by decide), b.1 13 (by decide), b.1 14 (by decide), b.1 23 (by decide), b.1 24 (by decide)]
    exact this
  · have := h.r2
    unfold R2 at this ⊢
    rw [a.2.1 0 (by decide), a.2.1 1 (by decide), b.2 1 (by decide), b.2 4 (by decide), b.1 1 (by decide)]
    exact this
  · have := h.r3
    unfold R3 oldR lvR at this ⊢
    rw [a.2.1 3 (by decide), a.2.1 4 (by decide), b.1 1 (by decide), b.1 2 (by decide)]
    exact this
  · have := h.r4
    unfold R4 knR lvR at this ⊢
    rw [a.2.2.1 11 (by decide), cA 12 (by decide), b.1 2 (by decide), b.1 4 (by decide)]
    exact this
  · have := h.r5
    unfold R5 stC at this ⊢
    rw [a.2.2.2, a.2.2.1 23 (by decide), cA 17 (by decide), b.1 15 (by decide)]
    exact this
  · have := h.r6
    unfold R6 stC kdC otC doC at this ⊢
    rw [cA 16 (by decide), cA 17 (by decide), cA 18 (by decide), cA 19 (by decide), cA 20 (by decide)]
    exact this
  · have := h.r7
    unfold R7 at this ⊢
    rw [cA 14 (by decide)]
    exact this
  · have := h.r8
    unfold R8 at this ⊢
    rw [cA 27 (by decide), cA 28 (by decide), b.1 22 (by decide)]
    exact this
theorem RelN.scrC {σ' : sS} (h : RelN σ ρ n ns na) (a : eqS σ σ') : RelN σ' ρ n ns na := h.scr a (eqR.refl ρ)
theorem RelN.scrR {ρ' : sS} (h : RelN σ ρ n ns na) (b : eqR ρ ρ') : RelN σ ρ' n ns na := h.scr (eqS.refl σ) b
end RR
