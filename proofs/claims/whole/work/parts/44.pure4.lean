/-! THE COUNTS OF BITS, of ints and longs; dies, told, kept, count -/
theorem nL_ush (w : Int64) {c : Int32} {k : Nat} (hk : k < 64) (hs : (c.toInt64.toUInt64 &&& Int64.toUInt64 63).toNat = k) : (ush w c).toBitVec.toNat = w.toBitVec.toNat / 2 ^ k := by
  show (w.toUInt64 >>> (c.toInt64.toUInt64 &&& Int64.toUInt64 63)).toNat = _
  rw [UInt64.toNat_shiftRight, hs, Nat.mod_eq_of_lt hk, Nat.shiftRight_eq_div_pow]
  rfl
theorem nL_add {x y : Int64} {X Y : Nat} (hx : x.toBitVec.toNat = X) (hy : y.toBitVec.toNat = Y) (h : X + Y < 18446744073709551616) : (x + y).toBitVec.toNat = X + Y := by
  rw [Int64.toBitVec_add, BitVec.toNat_add, hx, hy]
  exact Nat.mod_eq_of_lt h
theorem nL_and {x y : Int64} {X Y : Nat} (hx : x.toBitVec.toNat = X) (hy : y.toBitVec.toNat = Y) : (x &&& y).toBitVec.toNat = X &&& Y := by
  rw [Int64.toBitVec_and, BitVec.toNat_and, hx, hy]
theorem nL_sub {x y : Int64} {X Y : Nat} (hx : x.toBitVec.toNat = X) (hy : y.toBitVec.toNat = Y) (h : Y ≤ X) : (x - y).toBitVec.toNat = X - Y := by
  rw [Int64.toBitVec_sub, BitVec.toNat_sub_of_le (by rw [BitVec.le_def, hx, hy]; exact h), hx, hy]
theorem pop64_c (w : Int64) {W : Nat} (hWe : w.toBitVec.toNat = W) (hW : W < 18446744073709551616) : (lc6 (lc5 (lc4 (lc3 (lc2 (lc1 w)))))).toBitVec.toNat % 128 = sm 64 (bd W) := by
  have e1 : (lc1 w).toBitVec.toNat = W - (W / 2 &&& 6148914691236517205) := by
    have u : (ush w 1).toBitVec.toNat = W / 2 := by rw [nL_ush w (k := 1) (by decide) (by decide +kernel), hWe]
    have a := nL_and u (show (6148914691236517205 : Int64).toBitVec.toNat = 6148914691236517205 by decide +kernel)
    exact nL_sub hWe a (Nat.le_trans Nat.and_le_left (Nat.div_le_self _ _))
  have k1 : W - (W / 2 &&& 6148914691236517205) < 18446744073709551616 := Nat.lt_of_le_of_lt (Nat.sub_le _ _) hW
  generalize hw1 : W - (W / 2 &&& 6148914691236517205) = w1 at e1 k1
  have k2a : w1 &&& 3689348814741910323 ≤ 3689348814741910323 := Nat.and_le_right
  have k2b : w1 / 4 &&& 3689348814741910323 ≤ 3689348814741910323 := Nat.and_le_right
  have e2 : (lc2 (lc1 w)).toBitVec.toNat = (w1 &&& 3689348814741910323) + (w1 / 4 &&& 3689348814741910323) := by
    have m : (3689348814741910323 : Int64).toBitVec.toNat = 3689348814741910323 := by decide +kernel
    have u : (ush (lc1 w) 2).toBitVec.toNat = w1 / 4 := by rw [nL_ush (lc1 w) (k := 2) (by decide) (by decide +kernel), e1]
    exact nL_add (nL_and e1 m) (nL_and u m) (by omega)
  have k2 : (w1 &&& 3689348814741910323) + (w1 / 4 &&& 3689348814741910323) ≤ 7378697629483820646 := by omega
  generalize hw2 : (w1 &&& 3689348814741910323) + (w1 / 4 &&& 3689348814741910323) = w2 at e2 k2
  have e3 : (lc3 (lc2 (lc1 w))).toBitVec.toNat = (w2 + w2 / 16) &&& 1085102592571150095 := by
    have m : (1085102592571150095 : Int64).toBitVec.toNat = 1085102592571150095 := by decide +kernel
    have u : (ush (lc2 (lc1 w)) 4).toBitVec.toNat = w2 / 16 := by rw [nL_ush _ (k := 4) (by decide) (by decide +kernel), e2]
    exact nL_and (nL_add e2 u (by have := Nat.div_le_self w2 16; omega)) m
  have k3 : (w2 + w2 / 16) &&& 1085102592571150095 ≤ 1085102592571150095 := Nat.and_le_right
  generalize hw3 : (w2 + w2 / 16) &&& 1085102592571150095 = w3 at e3 k3
  have e4 : (lc4 (lc3 (lc2 (lc1 w)))).toBitVec.toNat = w3 + w3 / 256 := by
    have u : (ush (lc3 (lc2 (lc1 w))) 8).toBitVec.toNat = w3 / 256 := by rw [nL_ush _ (k := 8) (by decide) (by decide +kernel), e3]
    exact nL_add e3 u (by have := Nat.div_le_self w3 256; omega)
  have k4 : w3 + w3 / 256 ≤ 2170205185142300190 := by have := Nat.div_le_self w3 256; omega
  generalize hw4 : w3 + w3 / 256 = a at e4 k4
  have e5 : (lc5 (lc4 (lc3 (lc2 (lc1 w))))).toBitVec.toNat = a + a / 65536 := by
    have u : (ush (lc4 (lc3 (lc2 (lc1 w)))) 16).toBitVec.toNat = a / 65536 := by rw [nL_ush _ (k := 16) (by decide) (by decide +kernel), e4]
    exact nL_add e4 u (by have := Nat.div_le_self a 65536; omega)
  have k5 : a + a / 65536 ≤ 4340410370284600380 := by have := Nat.div_le_self a 65536; omega
  generalize hw5 : a + a / 65536 = b at e5 k5
  have e6 : (lc6 (lc5 (lc4 (lc3 (lc2 (lc1 w)))))).toBitVec.toNat = b + b / 4294967296 := by
    have u : (ush (lc5 (lc4 (lc3 (lc2 (lc1 w))))) 32).toBitVec.toNat = b / 4294967296 := by rw [nL_ush _ (k := 32) (by decide) (by decide +kernel), e5]
    exact nL_add e5 u (by have := Nat.div_le_self b 4294967296; omega)
  rw [e6]
  exact (pop64N hW hw1.symm hw2.symm hw3.symm hw4.symm hw5.symm rfl).1
theorem pop64_eq (w : Int64) : pop64 w = nI (cnt (btL w) 64) := by
  have key := pop64_c w rfl w.toBitVec.isLt
  rw [show sm 64 (bd w.toBitVec.toNat) = cnt (btL w) 64 from sm_cnt (btL w) 64] at key
  unfold pop64
  generalize lc6 (lc5 (lc4 (lc3 (lc2 (lc1 w))))) = z at key
  rw [pk_and _ (m := 127) 7 (by decide), ← key, Int64.toBitVec_toInt32, BitVec.signExtend_eq_setWidth_of_le _ (by decide), BitVec.toNat_setWidth]
  congr 1
  omega
theorem nI_add' {x y : Int32} {X Y : Nat} (hx : x.toBitVec.toNat = X) (hy : y.toBitVec.toNat = Y) (h : X + Y < 4294967296) : (x + y).toBitVec.toNat = X + Y := by
  rw [Int32.toBitVec_add, BitVec.toNat_add, hx, hy]
  exact Nat.mod_eq_of_lt h
theorem nI_and' {x y : Int32} {X Y : Nat} (hx : x.toBitVec.toNat = X) (hy : y.toBitVec.toNat = Y) : (x &&& y).toBitVec.toNat = X &&& Y := by
  rw [Int32.toBitVec_and, BitVec.toNat_and, hx, hy]
theorem nI_sub' {x y : Int32} {X Y : Nat} (hx : x.toBitVec.toNat = X) (hy : y.toBitVec.toNat = Y) (h : Y ≤ X) : (x - y).toBitVec.toNat = X - Y := by
  rw [Int32.toBitVec_sub, BitVec.toNat_sub_of_le (by rw [BitVec.le_def, hx, hy]; exact h), hx, hy]
theorem nI_ush' (x : Int32) {c : Int32} {k : Nat} (hk : k < 32) (hs : (c.toUInt32 &&& Int32.toUInt32 31).toNat = k) : (ushI x c).toBitVec.toNat = x.toBitVec.toNat / 2 ^ k := by
  show (x.toUInt32 >>> (c.toUInt32 &&& Int32.toUInt32 31)).toNat = _
  rw [UInt32.toNat_shiftRight, hs, Nat.mod_eq_of_lt hk, Nat.shiftRight_eq_div_pow]
  rfl
theorem pop32_eq (w : Int32) : pop32 w = nI (cnt (bt w) 32) := by
  have hW : w.toBitVec.toNat < 2 ^ 32 := w.toBitVec.isLt
  have hs : sm 32 (bd w.toBitVec.toNat) = cnt (bt w) 32 := sm_cnt (bt w) 32
  generalize hWe : w.toBitVec.toNat = W at hW hs
  have e1 : (ic1 w).toBitVec.toNat = W - (W / 2 &&& 1431655765) := by
    have u : (ushI w 1).toBitVec.toNat = W / 2 := by rw [nI_ush' w (k := 1) (by decide) (by decide +kernel), hWe]
    have a := nI_and' u (show (1431655765 : Int32).toBitVec.toNat = 1431655765 by decide +kernel)
    exact nI_sub' hWe a (Nat.le_trans Nat.and_le_left (Nat.div_le_self _ _))
  have k1 : W - (W / 2 &&& 1431655765) < 4294967296 := Nat.lt_of_le_of_lt (Nat.sub_le _ _) hW
  generalize hw1 : W - (W / 2 &&& 1431655765) = w1 at e1 k1
  have k2a : w1 &&& 858993459 ≤ 858993459 := Nat.and_le_right
  have k2b : w1 / 4 &&& 858993459 ≤ 858993459 := Nat.and_le_right
  have e2 : (ic2 (ic1 w)).toBitVec.toNat = (w1 &&& 858993459) + (w1 / 4 &&& 858993459) := by
    have m : (858993459 : Int32).toBitVec.toNat = 858993459 := by decide +kernel
    have u : (ushI (ic1 w) 2).toBitVec.toNat = w1 / 4 := by rw [nI_ush' (ic1 w) (k := 2) (by decide) (by decide +kernel), e1]
    exact nI_add' (nI_and' e1 m) (nI_and' u m) (by omega)
  have k2 : (w1 &&& 858993459) + (w1 / 4 &&& 858993459) ≤ 1717986918 := by omega
  generalize hw2 : (w1 &&& 858993459) + (w1 / 4 &&& 858993459) = w2 at e2 k2
  have e3 : (ic3 (ic2 (ic1 w))).toBitVec.toNat = (w2 + w2 / 16) &&& 252645135 := by
    have m : (252645135 : Int32).toBitVec.toNat = 252645135 := by decide +kernel
    have u : (ushI (ic2 (ic1 w)) 4).toBitVec.toNat = w2 / 16 := by rw [nI_ush' _ (k := 4) (by decide) (by decide +kernel), e2]
    exact nI_and' (nI_add' e2 u (by have := Nat.div_le_self w2 16; omega)) m
  have k3 : (w2 + w2 / 16) &&& 252645135 ≤ 252645135 := Nat.and_le_right
  generalize hw3 : (w2 + w2 / 16) &&& 252645135 = w3 at e3 k3
  have e4 : (ic4 (ic3 (ic2 (ic1 w)))).toBitVec.toNat = w3 + w3 / 256 := by
    have u : (ushI (ic3 (ic2 (ic1 w))) 8).toBitVec.toNat = w3 / 256 := by rw [nI_ush' _ (k := 8) (by decide) (by decide +kernel), e3]
    exact nI_add' e3 u (by have := Nat.div_le_self w3 256; omega)
  have k4 : w3 + w3 / 256 ≤ 505290270 := by have := Nat.div_le_self w3 256; omega
  generalize hw4 : w3 + w3 / 256 = a at e4 k4
  have e5 : (ic5 (ic4 (ic3 (ic2 (ic1 w))))).toBitVec.toNat = a + a / 65536 := by
    have u : (ushI (ic4 (ic3 (ic2 (ic1 w)))) 16).toBitVec.toNat = a / 65536 := by rw [nI_ush' _ (k := 16) (by decide) (by decide +kernel), e4]
    exact nI_add' e4 u (by have := Nat.div_le_self a 65536; omega)
  have key := pop32N hW hw1.symm hw2.symm hw3.symm hw4.symm rfl
  unfold pop32
  rw [pk_and _ (m := 63) 6 (by decide), e5, ← hs]
  exact congrArg nI key.1
/-- bits beyond an end -/
theorem cnt_cut {f : Nat → Bool} {m : Nat} : ∀ {n : Nat}, m ≤ n → (∀ i, m ≤ i → i < n → f i = false) → cnt f n = cnt f m
  | 0, h, _ => by rw [Nat.le_zero.mp h]
  | n + 1, h, k => by
    by_cases c : m = n + 1
    · rw [c]
    · rw [cnt_s, k n (by omega) (by omega), if_neg (by decide)]
      exact cnt_cut (by omega) (fun i a b => k i a (by omega))
theorem cnt_zero {f : Nat → Bool} : ∀ {n : Nat}, cnt f n = 0 ↔ ∀ i, i < n → f i = false
  | 0 => ⟨fun _ i hi => absurd hi (Nat.not_lt_zero i), fun _ => rfl⟩
  | n + 1 => by
    rw [cnt_s]
    refine ⟨fun h i hi => ?_, fun h => ?_⟩
    · cases e : f n with
      | true => rw [e, if_pos rfl] at h; omega
      | false =>
        rw [e, if_neg (by decide)] at h
        by_cases c : i = n
        · rw [c]; exact e
        · exact cnt_zero.mp h i (by omega)
    · rw [h n (by omega), if_neg (by decide), cnt_zero.mpr (fun i hi => h i (by omega))]
/-- those that come on -/
theorem cnt_diff {f g : Nat → Bool} : ∀ {n : Nat}, (∀ i, i < n → f i = true → g i = true) → cnt g n = cnt f n + cnt (fun i => g i && !f i) n
  | 0, _ => rfl
  | n + 1, h => by
    rw [cnt_s, cnt_s, cnt_s, cnt_diff (fun i hi => h i (by omega))]
    have := h n (by omega)
    have e3 : (if (g n && !f n) = true then 1 else 0) + (if f n = true then 1 else 0) = if g n = true then 1 else 0 := by
      revert this
      cases f n <;> cases g n <;> decide
    omega
theorem any_bits (σ : sS) (k : Nat) : ∀ i, btL (itr (fun i a => a ||| gB σ 11 i) i 0) k = !decide (cnt (fun p => btL (gB σ 11 p) k) i = 0)
  | 0 => btL_0 k
  | i + 1 => by
    rw [itr_s, btL_or, any_bits σ k i, cnt_s]
    cases e : btL (gB σ 11 i) k
    · rw [if_neg (by decide), Bool.or_false, Nat.add_zero]
    · rw [if_pos rfl, Bool.or_true, decide_eq_false (by omega)]; rfl
section PP
variable {σ ρ : sS} {n ns na : Nat}
theorem RelN.any (h : RelN σ ρ n ns na) {k : Nat} (hk : k < 60) : btL (anyC σ n) k = !decide (knownByR ρ n k = 0) := by
  unfold anyC knownByR
  have h16 := h.n16
  rw [any_bits, cnt_congr (fun p hp => h.kn (p := p) (by omega) hk)]
theorem RelN.any_hi (h : RelN σ ρ n ns na) {k : Nat} (hk : na ≤ k) : btL (anyC σ n) k = false := by
  unfold anyC
  have h16 := h.n16
  rw [any_bits, cnt_zero.mpr (fun p hp => ?_)]
  · rfl
  · rw [h.r4.1 p k (by omega)]
    by_cases c : k < 60
    · rw [decide_eq_true c, Bool.true_and]
      cases e : knR ρ p k
      · rfl
      · have := (h.kn_lt (by omega) c e).2; omega
    · rw [decide_eq_false c]; rfl
theorem RelN.pop_any (h : RelN σ ρ n ns na) : pop64 (anyC σ n) = nI (cnt (fun k => !decide (knownByR ρ n k = 0)) na) := by
  have h60 := h.a60
  rw [pop64_eq, cnt_cut (show na ≤ 64 by omega) (fun i a _ => h.any_hi a), cnt_congr (fun k hk => h.any (k := k) (by omega))]
theorem RelN.pop_kn (h : RelN σ ρ n ns na) {p : Nat} (hp : p < 16) : pop64 (gB σ 11 p) = nI (cnt (fun k => knR ρ p k) na) := by
  have h60 := h.a60
  rw [pop64_eq, cnt_cut (show na ≤ 64 by omega) (fun k a _ => ?_), cnt_congr (fun k hk => h.kn (k := k) hp (by omega))]
  rw [h.r4.1 p k hp]
  by_cases c : k < 60
  · rw [decide_eq_true c, Bool.true_and]
    cases e : knR ρ p k
    · rfl
    · have := (h.kn_lt hp c e).2; omega
  · rw [decide_eq_false c]; rfl
theorem told_rel (h : RelN σ ρ n ns na) (w what : Int32) : toldV σ w what = toldW ρ na w what := by
  unfold toldV toldW
  rw [h.inP]
  by_cases c : isIn w (gI ρ 0) = true
  · rw [if_pos c, if_pos c]
    obtain ⟨p, hp, rfl⟩ := h.pI c
    have h16 := h.n16
    rw [ix_nI (by omega), h.r1.1, h.alv (by omega), h.old (by omega), h.pop_kn (by omega)]
    rfl
  · rw [if_neg c, if_neg c]
theorem forg_eq (ρ : sS) (n na : Nat) : na = cnt (fun k => !decide (knownByR ρ n k = 0)) na + forgR ρ n na := by
  unfold forgR
  induction na with
  | zero => rfl
  | succ m ih =>
    rw [cnt_s, cnt_s]
    by_cases c : knownByR ρ n m = 0
    · rw [decide_eq_true c, if_neg (by decide), if_pos rfl]; omega
    · rw [decide_eq_false c, if_pos (by decide), if_neg (by decide)]; omega
theorem count_rel (h : RelN σ ρ n ns na) (w : Int32) : countV σ n ns na w = countW ρ n ns na w := by
  unfold countV countW
  have h16 := h.n16
  have h60 := h.a60
  have e1 : pop32 (gI σ 3) = nI (cnt (fun p => !decide (gA ρ 2 p = 0)) n) := by
    rw [pop32_eq, cnt_cut (show n ≤ 32 by omega) (fun i a b => by
      rw [h.r3.1 i b]
      unfold lvR
      rw [h.r3.2.2 i a]; rfl), cnt_congr (fun p hp => h.r3.1 p (by omega))]
    rfl
  have e2 : pop32 (gI σ 4) = nI (oldManyR ρ n) := by
    unfold oldManyR
    rw [pop32_eq, cnt_cut (show n ≤ 32 by omega) (fun i a b => by
      rw [h.r3.2.1 i b]
      cases e : oldR ρ i
      · rfl
      · have := h.lv_lt (old_lv e); omega), cnt_congr (fun p hp => h.r3.2.1 p (by omega))]
  have e5 : nI na - pop64 (anyC σ n) = nI (forgR ρ n na) := by
    have := forg_eq ρ n na
    rw [h.pop_any, pk_sub (by omega)]
    congr 1
    omega
  have e6 : pop64 (gL σ 0) = nI (cnt (fun k => !decide (gA ρ 15 k = 0)) na) := by
    rw [pop64_eq, cnt_cut (show na ≤ 64 by omega) (fun i a b => by
      rw [h.r5.1 i, h.r5.2.1 i a]
      cases decide (i < 60) <;> rfl), cnt_congr (fun k hk => by rw [h.r5.1 k, decide_eq_true (show k < 60 by omega), Bool.true_and])]
  have e7 : sunkC σ ns = cnt (fun s => !decide (0 ≤ gA ρ 6 s)) ns := by
    unfold sunkC
    refine cnt_congr (fun s _ => ?_)
    rw [← h.r1.2.2.2.1]
    rcases h.r7 s with q | q
    · rw [q]; rfl
    · rw [decide_eq_true q, decide_eq_false (fun z => by rw [z] at q; exact absurd q (by decide))]; rfl
  have e8 : crossC σ ns = cnt (fun s => !decide (gA ρ 7 s ≤ 0)) ns := by
    unfold crossC
    rw [h.r1.2.2.2.2.1]
  rw [e1, e2, e5, e6, e7, e8, h.r2.1]
end PP
