/-! BITS of ints and longs. (ts_bit, wb_cu, nf_sh and the like began as rows of kit/laws/BITS.to-paste.) -/
def bt (x : Int32) (i : Nat) : Bool := x.toBitVec.getLsbD i
def btL (x : Int64) (i : Nat) : Bool := x.toBitVec.getLsbD i
def one (k : Nat) : Int32 := (1 : Int32) <<< (nI k &&& 31)
def oneL (k : Nat) : Int64 := (1 : Int64) <<< ((nI k).toInt64 &&& 63)
theorem bt_ext {x y : Int32} (h : ∀ i, i < 32 → bt x i = bt y i) : x = y := Int32.toBitVec_inj.mp (BitVec.eq_of_getLsbD_eq (fun i hi => h i hi))
theorem btL_ext {x y : Int64} (h : ∀ i, i < 64 → btL x i = btL y i) : x = y := Int64.toBitVec_inj.mp (BitVec.eq_of_getLsbD_eq (fun i hi => h i hi))
theorem bt_or (x y : Int32) (i : Nat) : bt (x ||| y) i = (bt x i || bt y i) := by unfold bt; rw [Int32.toBitVec_or, BitVec.getLsbD_or]
theorem bt_and (x y : Int32) (i : Nat) : bt (x &&& y) i = (bt x i && bt y i) := by unfold bt; rw [Int32.toBitVec_and, BitVec.getLsbD_and]
theorem btL_or (x y : Int64) (i : Nat) : btL (x ||| y) i = (btL x i || btL y i) := by unfold btL; rw [Int64.toBitVec_or, BitVec.getLsbD_or]
theorem btL_and (x y : Int64) (i : Nat) : btL (x &&& y) i = (btL x i && btL y i) := by unfold btL; rw [Int64.toBitVec_and, BitVec.getLsbD_and]
theorem bt_big {x : Int32} {i : Nat} (h : 32 ≤ i) : bt x i = false := BitVec.getLsbD_of_ge _ _ h
theorem btL_big {x : Int64} {i : Nat} (h : 64 ≤ i) : btL x i = false := BitVec.getLsbD_of_ge _ _ h
theorem bt_0 (i : Nat) : bt 0 i = false := BitVec.getLsbD_zero
theorem btL_0 (i : Nat) : btL 0 i = false := BitVec.getLsbD_zero
theorem m1_bv : (-1 : Int32).toBitVec = BitVec.allOnes 32 := by decide
theorem m1L_bv : (-1 : Int64).toBitVec = BitVec.allOnes 64 := by decide
theorem bt_m1 (i : Nat) : bt (-1) i = decide (i < 32) := by unfold bt; rw [m1_bv, BitVec.getLsbD_allOnes]
theorem btL_m1 (i : Nat) : btL (-1) i = decide (i < 64) := by unfold btL; rw [m1L_bv, BitVec.getLsbD_allOnes]
theorem bt_not (x : Int32) (i : Nat) (hi : i < 32) : bt (x ^^^ (-1)) i = !bt x i := by
  unfold bt; rw [Int32.toBitVec_xor, BitVec.getLsbD_xor, m1_bv, BitVec.getLsbD_allOnes]; simp [hi]
theorem btL_not (x : Int64) (i : Nat) (hi : i < 64) : btL (x ^^^ (-1)) i = !btL x i := by
  unfold btL; rw [Int64.toBitVec_xor, BitVec.getLsbD_xor, m1L_bv, BitVec.getLsbD_allOnes]; simp [hi]
theorem one_bv : ∀ l, l < 32 → (one l).toBitVec = BitVec.twoPow 32 l := by decide +kernel
theorem oneL_bv : ∀ l, l < 64 → (oneL l).toBitVec = BitVec.twoPow 64 l := by decide +kernel
theorem bt_one {l : Nat} (hl : l < 32) (i : Nat) : bt (one l) i = decide (i = l) := by
  unfold bt; rw [one_bv l hl, BitVec.getLsbD_twoPow]; simp [hl, eq_comm]
theorem btL_one {l : Nat} (hl : l < 64) (i : Nat) : btL (oneL l) i = decide (i = l) := by
  unfold btL; rw [oneL_bv l hl, BitVec.getLsbD_twoPow]; simp [hl, eq_comm]
theorem u_tn {n : Nat} (h : n < 2 ^ 64) : (UInt64.ofNat n).toNat = n := Nat.mod_eq_of_lt h
theorem wb_cu : ∀ k, k < 64 → ((nI k).toInt64.toUInt64 &&& Int64.toUInt64 63) = UInt64.ofNat k := by decide +kernel
theorem ts_bit {w : Int64} {s : UInt64} {j : Nat} (hj : j < 64) (hs : s.toNat = j) : ((w.toUInt64 >>> s).toInt64 &&& 1) = 0 ↔ w.toBitVec.getLsbD j = false := by
  have e : (w.toUInt64 >>> s).toInt64.toBitVec = w.toBitVec >>> j := by
    apply BitVec.eq_of_toNat_eq
    show (w.toUInt64 >>> s).toNat = _
    rw [UInt64.toNat_shiftRight, hs, Nat.mod_eq_of_lt hj, BitVec.toNat_ushiftRight]
    rfl
  rw [← Int64.toBitVec_inj, Int64.toBitVec_and, e]
  show w.toBitVec >>> j &&& 1#64 = 0#64 ↔ _
  constructor
  · intro h
    have t := congrArg (fun x => x.getLsbD 0) h
    simpa using t
  · intro h
    apply BitVec.eq_of_getLsbD_eq
    intro i hi
    cases i with
    | zero => simp [h]
    | succ i => simp
theorem hb_eq (w : Int64) {k : Nat} (hk : k < 64) : ((w.toUInt64 >>> ((nI k).toInt64.toUInt64 &&& Int64.toUInt64 63)).toInt64 &&& 1) = 0 ↔ btL w k = false := by
  rw [wb_cu k hk]; exact ts_bit hk (u_tn (by omega))
theorem and_one {x : Int32} {k : Nat} (hk : k < 32) : (x &&& one k) = 0 ↔ bt x k = false := by
  constructor
  · intro h
    have := congrArg (fun z => bt z k) h
    simp only [bt_and, bt_one hk, bt_0] at this
    simpa using this
  · intro h
    apply bt_ext
    intro i hi
    rw [bt_and, bt_one hk, bt_0]
    by_cases e : i = k
    · subst e; simp [h]
    · simp [e]
theorem sub_32 {x y : Int32} : (x &&& (y ^^^ (-1))) = 0 ↔ ∀ i, i < 32 → bt x i = true → bt y i = true := by
  constructor
  · intro h i hi hx
    have := congrArg (fun z => bt z i) h
    simp only [bt_and, bt_not _ _ hi, bt_0] at this
    simpa [hx] using this
  · intro h
    apply bt_ext
    intro i hi
    rw [bt_and, bt_not _ _ hi, bt_0]
    cases hx : bt x i
    · rfl
    · simp [h i hi hx]
theorem sub_64 {x y : Int64} : (x &&& (y ^^^ (-1))) = 0 ↔ ∀ i, i < 64 → btL x i = true → btL y i = true := by
  constructor
  · intro h i hi hx
    have := congrArg (fun z => btL z i) h
    simp only [btL_and, btL_not _ _ hi, btL_0] at this
    simpa [hx] using this
  · intro h
    apply btL_ext
    intro i hi
    rw [btL_and, btL_not _ _ hi, btL_0]
    cases hx : btL x i
    · rfl
    · simp [h i hi hx]
/-- the ranges of a checked number -/
theorem isIn_nI {x : Int32} {n : Nat} (hn : n < 2147483648) (h : isIn x (nI n) = true) : ∃ j, j < n ∧ x = nI j := by
  simp only [isIn, Bool.and_eq_true, Bool.not_eq_true', decide_eq_false_iff_not] at h
  rcases pk_ix x hn with q | q | q
  · exact absurd q h.1
  · exact absurd q h.2
  · exact q
theorem isIn_t {j n : Nat} (hj : j < n) (hn : n < 2147483648) : isIn (nI j) (nI n) = true := by
  simp only [isIn, Bool.and_eq_true, Bool.not_eq_true', decide_eq_false_iff_not]
  exact ⟨nI_pos (by omega), fun h => by have := (nI_leI hn (by omega)).mp h; omega⟩
theorem ix_of {x : Int32} {n : Nat} (h : ∃ j, j < n ∧ x = nI j) (hn : n < 2147483648) : x = nI (ix x) ∧ ix x < n := by
  obtain ⟨j, hj, rfl⟩ := h
  rw [ix_nI (by omega)]; exact ⟨rfl, hj⟩
/-- switches: 0 .. k - 1, or outside -/
theorem sw_gen (x : Int32) (k : Nat) (hk : k < 100) : (∃ j, j < k ∧ x = nI j) ∨ (x.toInt < 0 ∨ (k : Int) - 1 < x.toInt) := by
  rcases pk_ix x (n := k) (by omega) with q | q | q
  · exact Or.inr (Or.inl (Int32.lt_iff_toInt_lt.mp q))
  · refine Or.inr (Or.inr ?_)
    have := Int32.le_iff_toInt_le.mp q
    rw [nI_toInt (by omega)] at this
    omega
  · exact Or.inl q
def outS (x : Int32) (k : Nat) : Prop := x.toInt < 0 ∨ (k : Int) - 1 < x.toInt
theorem outS_ne {x : Int32} {k j : Nat} (h : outS x k) (hj : j < k) (hk : k < 100) : ¬ x = nI j := by
  rintro rfl
  unfold outS at h
  rw [nI_toInt (by omega)] at h
  omega
theorem sw_4 (x : Int32) : x = nI 0 ∨ x = nI 1 ∨ x = nI 2 ∨ x = nI 3 ∨ outS x 4 := by
  rcases sw_gen x 4 (by decide) with ⟨j, hj, rfl⟩ | h
  · rcases (show j = 0 ∨ j = 1 ∨ j = 2 ∨ j = 3 by omega) with rfl | rfl | rfl | rfl
    · exact Or.inl rfl
    · exact Or.inr (Or.inl rfl)
    · exact Or.inr (Or.inr (Or.inl rfl))
    · exact Or.inr (Or.inr (Or.inr (Or.inl rfl)))
  · exact Or.inr (Or.inr (Or.inr (Or.inr (h))))
theorem sw_out4 {x : Int32} (h : outS x 4) : x.toInt < 0 ∨ (3 : Int) < x.toInt := h
theorem sw_7 (x : Int32) : x = nI 0 ∨ x = nI 1 ∨ x = nI 2 ∨ x = nI 3 ∨ x = nI 4 ∨ x = nI 5 ∨ x = nI 6 ∨ outS x 7 := by
  rcases sw_gen x 7 (by decide) with ⟨j, hj, rfl⟩ | h
  · rcases (show j = 0 ∨ j = 1 ∨ j = 2 ∨ j = 3 ∨ j = 4 ∨ j = 5 ∨ j = 6 by omega) with rfl | rfl | rfl | rfl | rfl | rfl | rfl
    · exact Or.inl rfl
    · exact Or.inr (Or.inl rfl)
    · exact Or.inr (Or.inr (Or.inl rfl))
    · exact Or.inr (Or.inr (Or.inr (Or.inl rfl)))
    · exact Or.inr (Or.inr (Or.inr (Or.inr (Or.inl rfl))))
    · exact Or.inr (Or.inr (Or.inr (Or.inr (Or.inr (Or.inl rfl)))))
    · exact Or.inr (Or.inr (Or.inr (Or.inr (Or.inr (Or.inr (Or.inl rfl))))))
  · exact Or.inr (Or.inr (Or.inr (Or.inr (Or.inr (Or.inr (Or.inr (h)))))))
theorem sw_out7 {x : Int32} (h : outS x 7) : x.toInt < 0 ∨ (6 : Int) < x.toInt := h
theorem sw_9 (x : Int32) : x = nI 0 ∨ x = nI 1 ∨ x = nI 2 ∨ x = nI 3 ∨ x = nI 4 ∨ x = nI 5 ∨ x = nI 6 ∨ x = nI 7 ∨ x = nI 8 ∨ outS x 9 := by
  rcases sw_gen x 9 (by decide) with ⟨j, hj, rfl⟩ | h
  · rcases (show j = 0 ∨ j = 1 ∨ j = 2 ∨ j = 3 ∨ j = 4 ∨ j = 5 ∨ j = 6 ∨ j = 7 ∨ j = 8 by omega) with rfl | rfl | rfl | rfl | rfl | rfl | rfl | rfl | rfl
    · exact Or.inl rfl
    · exact Or.inr (Or.inl rfl)
    · exact Or.inr (Or.inr (Or.inl rfl))
    · exact Or.inr (Or.inr (Or.inr (Or.inl rfl)))
    · exact Or.inr (Or.inr (Or.inr (Or.inr (Or.inl rfl))))
    · exact Or.inr (Or.inr (Or.inr (Or.inr (Or.inr (Or.inl rfl)))))
    · exact Or.inr (Or.inr (Or.inr (Or.inr (Or.inr (Or.inr (Or.inl rfl))))))
    · exact Or.inr (Or.inr (Or.inr (Or.inr (Or.inr (Or.inr (Or.inr (Or.inl rfl)))))))
    · exact Or.inr (Or.inr (Or.inr (Or.inr (Or.inr (Or.inr (Or.inr (Or.inr (Or.inl rfl))))))))
  · exact Or.inr (Or.inr (Or.inr (Or.inr (Or.inr (Or.inr (Or.inr (Or.inr (Or.inr (h)))))))))
theorem sw_out9 {x : Int32} (h : outS x 9) : x.toInt < 0 ∨ (8 : Int) < x.toInt := h
theorem sw_10 (x : Int32) : x = nI 0 ∨ x = nI 1 ∨ x = nI 2 ∨ x = nI 3 ∨ x = nI 4 ∨ x = nI 5 ∨ x = nI 6 ∨ x = nI 7 ∨ x = nI 8 ∨ x = nI 9 ∨ outS x 10 := by
  rcases sw_gen x 10 (by decide) with ⟨j, hj, rfl⟩ | h
  · rcases (show j = 0 ∨ j = 1 ∨ j = 2 ∨ j = 3 ∨ j = 4 ∨ j = 5 ∨ j = 6 ∨ j = 7 ∨ j = 8 ∨ j = 9 by omega) with rfl | rfl | rfl | rfl | rfl | rfl | rfl | rfl | rfl | rfl
    · exact Or.inl rfl
    · exact Or.inr (Or.inl rfl)
    · exact Or.inr (Or.inr (Or.inl rfl))
    · exact Or.inr (Or.inr (Or.inr (Or.inl rfl)))
    · exact Or.inr (Or.inr (Or.inr (Or.inr (Or.inl rfl))))
    · exact Or.inr (Or.inr (Or.inr (Or.inr (Or.inr (Or.inl rfl)))))
    · exact Or.inr (Or.inr (Or.inr (Or.inr (Or.inr (Or.inr (Or.inl rfl))))))
    · exact Or.inr (Or.inr (Or.inr (Or.inr (Or.inr (Or.inr (Or.inr (Or.inl rfl)))))))
    · exact Or.inr (Or.inr (Or.inr (Or.inr (Or.inr (Or.inr (Or.inr (Or.inr (Or.inl rfl))))))))
    · exact Or.inr (Or.inr (Or.inr (Or.inr (Or.inr (Or.inr (Or.inr (Or.inr (Or.inr (Or.inl rfl)))))))))
  · exact Or.inr (Or.inr (Or.inr (Or.inr (Or.inr (Or.inr (Or.inr (Or.inr (Or.inr (Or.inr (h))))))))))
theorem sw_out10 {x : Int32} (h : outS x 10) : x.toInt < 0 ∨ (9 : Int) < x.toInt := h
theorem rng_nI {x : Int32} {n : Nat} (hn : n < 2147483648) (h1 : ¬ x < 0) (h2 : x < nI n) : ∃ j, j < n ∧ x = nI j := by
  rcases pk_ix x hn with q | q | q
  · exact absurd q h1
  · exact absurd h2 (Int32.not_lt.mpr q)
  · exact q
theorem rng_le {x : Int32} {L M : Nat} (hL : L < 1073741824) (hM : M < 1073741824) (h1 : ¬ x < 0) (h2 : x ≤ nI L - nI M) : ∃ j, x = nI j ∧ j + M ≤ L := by
  have a := Int32.le_iff_toInt_le.mp h2
  rw [pk_sub_toInt (by omega) (by omega)] at a
  rcases pk_ix x (n := L + 1) (by omega) with q | q | ⟨j, hj, rfl⟩
  · exact absurd q h1
  · have := Int32.le_iff_toInt_le.mp q
    rw [nI_toInt (by omega)] at this
    omega
  · rw [nI_toInt (by omega)] at a
    exact ⟨j, rfl, by omega⟩
