/-! THE COUNTS OF BITS -/
def val (B : Nat) : Nat → (Nat → Nat) → Nat
  | 0, _ => 0
  | N + 1, d => d 0 + B * val B N (fun i => d (i + 1))
def sm : Nat → (Nat → Nat) → Nat
  | 0, _ => 0
  | N + 1, d => d 0 + sm N (fun i => d (i + 1))
def hv2 (d : Nat → Nat) : Nat → Nat := fun i => d (2 * i) + d (2 * i + 1)
theorem val_pair (B : Nat) : ∀ N d, val (B * B) N (fun i => d (2 * i) + B * d (2 * i + 1)) = val B (2 * N) d
  | 0, _ => rfl
  | N + 1, d => by
    show d 0 + B * d 1 + B * B * val (B * B) N (fun i => d (2 * i + 2) + B * d (2 * i + 2 + 1)) = d 0 + B * (d 1 + B * val B (2 * N) (fun i => d (i + 2)))
    rw [← val_pair B N (fun i => d (i + 2)), Nat.mul_add, Nat.mul_assoc, Nat.add_assoc]
theorem sm_pair : ∀ N d, sm N (hv2 d) = sm (2 * N) d
  | 0, _ => rfl
  | N + 1, d => by
    show d 0 + d 1 + sm N (fun i => d (2 * i + 2) + d (2 * i + 2 + 1)) = d 0 + (d 1 + sm (2 * N) (fun i => d (i + 2)))
    rw [← sm_pair N (fun i => d (i + 2)), Nat.add_assoc]
    rfl
theorem val_add (B : Nat) : ∀ N d e, val B N d + val B N e = val B N (fun i => d i + e i)
  | 0, _, _ => rfl
  | N + 1, d, e => by
    show d 0 + B * val B N _ + (e 0 + B * val B N _) = d 0 + e 0 + B * val B N _
    rw [← val_add B N (fun i => d (i + 1)) (fun i => e (i + 1)), Nat.mul_add]
    omega
theorem val_congr (B : Nat) : ∀ {N : Nat} {d e : Nat → Nat}, (∀ i, i < N → d i = e i) → val B N d = val B N e
  | 0, _, _, _ => rfl
  | N + 1, d, e, h => by
    show d 0 + B * val B N _ = e 0 + B * val B N _
    rw [h 0 (by omega), val_congr B (d := fun i => d (i + 1)) (e := fun i => e (i + 1)) (fun i hi => h (i + 1) (by omega))]
/-- a shift by half a field -/
theorem val_shift (B : Nat) : ∀ N (e f : Nat → Nat), e N = 0 → val (B * B) N (fun i => e i + B * f i) = e 0 + B * val (B * B) N (fun i => f i + B * e (i + 1))
  | 0, e, f, h => by rw [h]; rfl
  | N + 1, e, f, h => by
    show e 0 + B * f 0 + B * B * val (B * B) N (fun i => e (i + 1) + B * f (i + 1)) = e 0 + B * (f 0 + B * e 1 + B * B * val (B * B) N (fun i => f (i + 1) + B * e (i + 1 + 1)))
    rw [val_shift B N (fun i => e (i + 1)) (fun i => f (i + 1)) h]
    simp only [Nat.mul_add, Nat.mul_assoc, Nat.add_assoc]
theorem val_div {B : Nat} (hB : 0 < B) {N : Nat} {e f : Nat → Nat} (h : e N = 0) (h0 : e 0 < B) : val (B * B) N (fun i => e i + B * f i) / B = val (B * B) N (fun i => f i + B * e (i + 1)) := by
  rw [val_shift B N e f h, Nat.add_mul_div_left _ _ hB, Nat.div_eq_of_lt h0, Nat.zero_add]
theorem and_split {k a c : Nat} (ha : a < 2 ^ k) (hc : c < 2 ^ k) (X Y : Nat) : (a + 2 ^ k * X) &&& (c + 2 ^ k * Y) = (a &&& c) + 2 ^ k * (X &&& Y) := by
  apply Nat.eq_of_testBit_eq
  intro i
  rw [Nat.testBit_and, Nat.add_comm a, Nat.add_comm c, Nat.add_comm (a &&& c), Nat.testBit_two_pow_mul_add _ ha, Nat.testBit_two_pow_mul_add _ hc, Nat.testBit_two_pow_mul_add _ (Nat.and_lt_two_pow a hc)]
  by_cases h : i < k
  · rw [if_pos h, if_pos h, if_pos h, Nat.testBit_and]
  · rw [if_neg h, if_neg h, if_neg h, Nat.testBit_and]
theorem val_and {k mk : Nat} (hm : mk < 2 ^ k) : ∀ N (g : Nat → Nat), (∀ i, i < N → g i < 2 ^ k) → val (2 ^ k) N g &&& val (2 ^ k) N (fun _ => mk) = val (2 ^ k) N (fun i => g i &&& mk)
  | 0, _, _ => Nat.and_self 0
  | N + 1, g, h => by
    show (g 0 + 2 ^ k * val (2 ^ k) N (fun i => g (i + 1))) &&& (mk + 2 ^ k * val (2 ^ k) N (fun _ => mk)) = (g 0 &&& mk) + 2 ^ k * val (2 ^ k) N (fun i => g (i + 1) &&& mk)
    rw [and_split (h 0 (by omega)) hm, val_and hm N (fun i => g (i + 1)) (fun i hi => h (i + 1) (by omega))]
/-- a half field's mask -/
theorem half_and {m e f : Nat} (he : e < 2 ^ m) : (e + 2 ^ m * f) &&& (2 ^ m - 1) = e := by
  rw [Nat.and_two_pow_sub_one_eq_mod, Nat.add_mul_mod_self_left, Nat.mod_eq_of_lt he]
theorem val_mask {m : Nat} {N : Nat} {e f : Nat → Nat} (he : ∀ i, i < N → e i < 2 ^ m) (hf : ∀ i, i < N → f i < 2 ^ m) : val (2 ^ m * 2 ^ m) N (fun i => e i + 2 ^ m * f i) &&& val (2 ^ m * 2 ^ m) N (fun _ => 2 ^ m - 1) = val (2 ^ m * 2 ^ m) N e := by
  have hp : 2 ^ m * 2 ^ m = 2 ^ (m + m) := (Nat.pow_add 2 m m).symm
  rw [hp, val_and (k := m + m) (by rw [← hp]; have := Nat.two_pow_pos m; have := Nat.le_mul_of_pos_left (2 ^ m) this; omega) N _ (fun i hi => by
    rw [← hp]
    have a := he i hi
    have b := hf i hi
    have : 2 ^ m * (f i + 1) ≤ 2 ^ m * 2 ^ m := Nat.mul_le_mul_left _ b
    rw [Nat.mul_add] at this
    omega)]
  exact val_congr _ (fun i hi => half_and (he i hi))
/-- the bits of a number -/
def bd (W : Nat) : Nat → Nat := fun i => (W.testBit i).toNat
theorem val_bits : ∀ N W, W < 2 ^ N → val 2 N (bd W) = W
  | 0, W, h => by
    have : W = 0 := by simpa using h
    rw [this]; rfl
  | N + 1, W, h => by
    show bd W 0 + 2 * val 2 N (fun i => bd W (i + 1)) = W
    have e : (fun i => bd W (i + 1)) = bd (W / 2) := by
      funext i
      unfold bd
      rw [Nat.testBit_succ]
    rw [e, val_bits N (W / 2) (by rw [Nat.pow_succ] at h; omega)]
    unfold bd
    rw [Nat.testBit_zero]
    by_cases c : W % 2 = 1
    · rw [decide_eq_true c]; show 1 + _ = _; omega
    · rw [decide_eq_false c]; show 0 + _ = _; omega
theorem bd_le (W i : Nat) : bd W i ≤ 1 := by unfold bd; cases W.testBit i <;> decide
theorem bd_big {W N i : Nat} (h : W < 2 ^ N) (hi : N ≤ i) : bd W i = 0 := by
  unfold bd
  rw [Nat.testBit_lt_two_pow (Nat.lt_of_lt_of_le h (Nat.pow_le_pow_right (by decide) hi))]
  rfl
theorem sm_cnt (f : Nat → Bool) : ∀ N, sm N (fun i => (f i).toNat) = cnt f N := by
  have key : ∀ N (f : Nat → Bool), cnt f (N + 1) = (f 0).toNat + cnt (fun i => f (i + 1)) N := by
    intro N
    induction N with
    | zero => intro f; rw [cnt_s]; cases f 0 <;> rfl
    | succ N ih =>
      intro f
      rw [cnt_s, ih f, cnt_s]
      omega
  intro N
  induction N generalizing f with
  | zero => rfl
  | succ N ih =>
    rw [key]
    show (f 0).toNat + sm N (fun i => (f (i + 1)).toNat) = _
    rw [ih (fun i => f (i + 1))]
/-- the first three steps, on numbers: bits, pairs, fours, eights -/
theorem step1 {N : Nat} {d : Nat → Nat} (hd : ∀ i, d i ≤ 1) (hz : d (2 * N) = 0) : val 2 (2 * N) d - (val 2 (2 * N) d / 2 &&& val 4 N (fun _ => 1)) = val 4 N (hv2 d) := by
  have e : val 2 (2 * N) d = val 4 N (fun i => d (2 * i) + 2 * d (2 * i + 1)) := (val_pair 2 N d).symm
  rw [e]
  have e2 : val 4 N (fun i => d (2 * i) + 2 * d (2 * i + 1)) / 2 = val 4 N (fun i => d (2 * i + 1) + 2 * d (2 * (i + 1))) := val_div (B := 2) (by decide) (e := fun i => d (2 * i)) (f := fun i => d (2 * i + 1)) hz (by have := hd 0; show d 0 < 2; omega)
  have e3 : val 4 N (fun i => d (2 * i + 1) + 2 * d (2 * (i + 1))) &&& val 4 N (fun _ => 1) = val 4 N (fun i => d (2 * i + 1)) := val_mask (m := 1) (N := N) (e := fun i => d (2 * i + 1)) (f := fun i => d (2 * (i + 1))) (fun i _ => by have := hd (2 * i + 1); show _ < 2; omega) (fun i _ => by have := hd (2 * (i + 1)); show _ < 2; omega)
  rw [e2, e3]
  have e4 : val 4 N (fun i => d (2 * i) + 2 * d (2 * i + 1)) = val 4 N (hv2 d) + val 4 N (fun i => d (2 * i + 1)) := by
    rw [val_add]
    exact val_congr 4 (fun i _ => by unfold hv2; omega)
  rw [e4, Nat.add_sub_cancel]
theorem step2 {N : Nat} {d : Nat → Nat} (hd : ∀ i, d i ≤ 2) (hz : d (2 * N) = 0) : (val 4 (2 * N) d &&& val 16 N (fun _ => 3)) + (val 4 (2 * N) d / 4 &&& val 16 N (fun _ => 3)) = val 16 N (hv2 d) := by
  have e : val 4 (2 * N) d = val 16 N (fun i => d (2 * i) + 4 * d (2 * i + 1)) := (val_pair 4 N d).symm
  rw [e]
  have e2 : val 16 N (fun i => d (2 * i) + 4 * d (2 * i + 1)) / 4 = val 16 N (fun i => d (2 * i + 1) + 4 * d (2 * (i + 1))) := val_div (B := 4) (by decide) (e := fun i => d (2 * i)) (f := fun i => d (2 * i + 1)) hz (by have := hd 0; show d 0 < 4; omega)
  have e3 : val 16 N (fun i => d (2 * i + 1) + 4 * d (2 * (i + 1))) &&& val 16 N (fun _ => 3) = val 16 N (fun i => d (2 * i + 1)) := val_mask (m := 2) (N := N) (e := fun i => d (2 * i + 1)) (f := fun i => d (2 * (i + 1))) (fun i _ => by have := hd (2 * i + 1); show _ < 4; omega) (fun i _ => by have := hd (2 * (i + 1)); show _ < 4; omega)
  have e4 : val 16 N (fun i => d (2 * i) + 4 * d (2 * i + 1)) &&& val 16 N (fun _ => 3) = val 16 N (fun i => d (2 * i)) := val_mask (m := 2) (N := N) (e := fun i => d (2 * i)) (f := fun i => d (2 * i + 1)) (fun i _ => by have := hd (2 * i); show _ < 4; omega) (fun i _ => by have := hd (2 * i + 1); show _ < 4; omega)
  rw [e2, e3, e4, val_add]
  rfl
theorem step3 {N : Nat} {d : Nat → Nat} (hd : ∀ i, d i ≤ 4) (hz : d (2 * N) = 0) : (val 16 (2 * N) d + val 16 (2 * N) d / 16) &&& val 256 N (fun _ => 15) = val 256 N (hv2 d) := by
  have e : val 16 (2 * N) d = val 256 N (fun i => d (2 * i) + 16 * d (2 * i + 1)) := (val_pair 16 N d).symm
  rw [e]
  have e2 : val 256 N (fun i => d (2 * i) + 16 * d (2 * i + 1)) / 16 = val 256 N (fun i => d (2 * i + 1) + 16 * d (2 * (i + 1))) := val_div (B := 16) (by decide) (e := fun i => d (2 * i)) (f := fun i => d (2 * i + 1)) hz (by have := hd 0; show d 0 < 16; omega)
  rw [e2, val_add, val_congr 256 (e := fun i => hv2 d i + 16 * (d (2 * i + 1) + d (2 * (i + 1)))) (fun i _ => by unfold hv2; omega)]
  exact val_mask (m := 4) (N := N) (e := hv2 d) (f := fun i => d (2 * i + 1) + d (2 * (i + 1))) (fun i _ => by have := hd (2 * i); have := hd (2 * i + 1); show hv2 d i < 16; unfold hv2; omega) (fun i _ => by have := hd (2 * i + 1); have := hd (2 * (i + 1)); show _ < 16; omega)
theorem hv2_le {d : Nat → Nat} {m : Nat} (h : ∀ i, d i ≤ m) (i : Nat) : hv2 d i ≤ 2 * m := by have := h (2 * i); have := h (2 * i + 1); unfold hv2; omega
theorem hv2_z {d : Nat → Nat} {N : Nat} (h : ∀ i, 2 * N ≤ i → d i = 0) (i : Nat) (hi : N ≤ i) : hv2 d i = 0 := by unfold hv2; rw [h _ (by omega), h _ (by omega)]
/-- the last three -/
theorem dv (r q B : Nat) (h : r < B) : (r + B * q) / B = q := by rw [Nat.add_mul_div_left _ _ (by omega), Nat.div_eq_of_lt h, Nat.zero_add]
/-- the last three, by halves: V the upper four, U the upper three -/
theorem tl_a {c0 c1 c2 c3 c4 V U W a : Nat} (h0 : c0 ≤ 8) (hV : V = c4 + 256 * U) (hW : W = c0 + 256 * c1 + 65536 * c2 + 16777216 * c3 + 4294967296 * V) (ha : a = W + W / 256) :
    a = (c0 + c1) + 256 * (c1 + c2) + 65536 * (c2 + c3) + 16777216 * (c3 + c4) + 4294967296 * (V + U) := by
  have e1 : W = c0 + 256 * (c1 + 256 * c2 + 65536 * c3 + 16777216 * V) := by omega
  have e := dv c0 (c1 + 256 * c2 + 65536 * c3 + 16777216 * V) 256 (by omega)
  rw [← e1] at e
  rw [ha, e, hW, hV]
  clear ha e e1 hW hV h0
  omega
theorem tl_b {x0 x1 x2 x3 y0 y1 Z T a b : Nat} (h0 : x0 + 256 * x1 < 65536) (hT : T = y0 + 256 * y1 + 65536 * Z) (hA : a = x0 + 256 * x1 + 65536 * x2 + 16777216 * x3 + 4294967296 * T) (hb : b = a + a / 65536) :
    b = (x0 + x2) + 256 * (x1 + x3) + 65536 * (x2 + y0) + 16777216 * (x3 + y1) + 4294967296 * (T + Z) := by
  have e1 : a = (x0 + 256 * x1) + 65536 * (x2 + 256 * x3 + 65536 * T) := by omega
  have e := dv (x0 + 256 * x1) (x2 + 256 * x3 + 65536 * T) 65536 h0
  rw [← e1] at e
  rw [hb, e, hA, hT]
  clear hb e e1 hA hT h0
  omega
theorem tl_c {z0 z1 z2 z3 S b c : Nat} (h0 : z0 + 256 * z1 + 65536 * z2 + 16777216 * z3 < 4294967296) (hB : b = z0 + 256 * z1 + 65536 * z2 + 16777216 * z3 + 4294967296 * S) (hc : c = b + b / 4294967296) :
    c = z0 + 256 * z1 + 65536 * z2 + 16777216 * z3 + 4294967296 * S + S := by
  have e := dv (z0 + 256 * z1 + 65536 * z2 + 16777216 * z3) S 4294967296 h0
  rw [← hB] at e
  rw [hc, e, hB]
theorem tl_m {z0 z1 z2 z3 s0 s1 c : Nat} (h0 : z0 + s0 < 128) (hc : c = z0 + 256 * z1 + 65536 * z2 + 16777216 * z3 + 4294967296 * (s0 + 256 * s1) + (s0 + 256 * s1)) : c % 128 = z0 + s0 := by
  have e : c = (z0 + s0) + 128 * (2 * (z1 + 256 * z2 + 65536 * z3 + 16777216 * (s0 + 256 * s1) + s1)) := by rw [hc]; clear hc h0; omega
  rw [e, Nat.add_mul_mod_self_left, Nat.mod_eq_of_lt h0]
theorem tail8 {c0 c1 c2 c3 c4 c5 c6 c7 : Nat} (h0 : c0 ≤ 8) (h1 : c1 ≤ 8) (h2 : c2 ≤ 8) (h3 : c3 ≤ 8) (h4 : c4 ≤ 8) (h5 : c5 ≤ 8) (h6 : c6 ≤ 8) (h7 : c7 ≤ 8) {W a b c : Nat} (hW : W = c0 + 256 * (c1 + 256 * (c2 + 256 * (c3 + 256 * (c4 + 256 * (c5 + 256 * (c6 + 256 * (c7 + 256 * 0))))))))
    (ha : a = W + W / 256) (hb : b = a + a / 65536) (hc : c = b + b / 4294967296) : c % 128 = c0 + (c1 + (c2 + (c3 + (c4 + (c5 + (c6 + (c7 + 0))))))) ∧ c < 18446744073709551616 := by
  have eW : W = c0 + 256 * c1 + 65536 * c2 + 16777216 * c3 + 4294967296 * (c4 + 256 * (c5 + 256 * c6 + 65536 * c7)) := by rw [hW]; clear hW ha hb hc; omega
  have ea := tl_a h0 rfl eW ha
  have eT : c4 + 256 * (c5 + 256 * c6 + 65536 * c7) + (c5 + 256 * c6 + 65536 * c7) = (c4 + c5) + 256 * (c5 + c6) + 65536 * ((c6 + c7) + 256 * c7) := by clear hW ha hb hc eW ea; omega
  have eb := tl_b (by clear hW ha hb hc eW ea eT; omega) eT ea hb
  have eS : c4 + 256 * (c5 + 256 * c6 + 65536 * c7) + (c5 + 256 * c6 + 65536 * c7) + ((c6 + c7) + 256 * c7) = (c4 + c5 + c6 + c7) + 256 * ((c5 + c6) + 256 * (c6 + c7) + 65536 * c7 + c7) := by clear hW ha hb hc eW ea eT eb; omega
  rw [eS] at eb
  have ec := tl_c (by clear hW ha hb hc eW ea eT eb eS; omega) eb hc
  have em := tl_m (by clear hW ha hb hc eW ea eT eb eS ec; omega) ec
  refine ⟨em.trans (by clear hW ha hb hc eW ea eT eb eS ec em; omega), ?_⟩
  rw [ec]
  clear hW ha hb hc eW ea eT eb eS ec em
  omega
theorem tail4 {c0 c1 c2 c3 : Nat} (h0 : c0 ≤ 8) (h1 : c1 ≤ 8) (h2 : c2 ≤ 8) (h3 : c3 ≤ 8) {W a b : Nat} (hW : W = c0 + 256 * (c1 + 256 * (c2 + 256 * (c3 + 256 * 0))))
    (ha : a = W + W / 256) (hb : b = a + a / 65536) : b % 64 = c0 + (c1 + (c2 + (c3 + 0))) ∧ b < 4294967296 := by
  have e1 : W / 256 = c1 + 256 * (c2 + 256 * c3) := by omega
  have e2 : a / 65536 = (c2 + c3) + 256 * c3 := by omega
  omega
/-- the masks -/
theorem mk64_1 : val 4 32 (fun _ => 1) = 6148914691236517205 := by decide +kernel
theorem mk64_2 : val 16 16 (fun _ => 3) = 3689348814741910323 := by decide +kernel
theorem mk64_3 : val 256 8 (fun _ => 15) = 1085102592571150095 := by decide +kernel
theorem mk32_1 : val 4 16 (fun _ => 1) = 1431655765 := by decide +kernel
theorem mk32_2 : val 16 8 (fun _ => 3) = 858993459 := by decide +kernel
theorem mk32_3 : val 256 4 (fun _ => 15) = 252645135 := by decide +kernel
/-- all steps on numbers, 64 and 32 -/
theorem pop64N {W : Nat} (h : W < 2 ^ 64) {w1 w2 w3 a b c : Nat} (h1 : w1 = W - (W / 2 &&& 6148914691236517205)) (h2 : w2 = (w1 &&& 3689348814741910323) + (w1 / 4 &&& 3689348814741910323)) (h3 : w3 = (w2 + w2 / 16) &&& 1085102592571150095)
    (ha : a = w3 + w3 / 256) (hb : b = a + a / 65536) (hc : c = b + b / 4294967296) : c % 128 = sm 64 (bd W) ∧ c < 18446744073709551616 := by
  have z0 : ∀ i, 64 ≤ i → bd W i = 0 := fun i hi => bd_big h hi
  have z1 := hv2_z (N := 32) z0
  have z2 := hv2_z (N := 16) z1
  have b1 := hv2_le (bd_le W)
  have b2 := hv2_le b1
  have b3 := hv2_le b2
  have e1 : w1 = val 4 32 (hv2 (bd W)) := by
    have e := step1 (N := 32) (bd_le W) (z0 _ (by decide))
    rw [mk64_1, show 2 * 32 = 64 from rfl, val_bits 64 W h] at e
    rw [h1, e]
  have e2 : w2 = val 16 16 (hv2 (hv2 (bd W))) := by
    have e := step2 (N := 16) b1 (z1 _ (by decide))
    rw [mk64_2, show 2 * 16 = 32 from rfl, ← e1] at e
    rw [h2, e]
  have e3 : w3 = val 256 8 (hv2 (hv2 (hv2 (bd W)))) := by
    have e := step3 (N := 8) b2 (z2 _ (by decide))
    rw [mk64_3, show 2 * 8 = 16 from rfl, ← e2] at e
    rw [h3, e]
  have := tail8 (b3 0) (b3 1) (b3 2) (b3 3) (b3 4) (b3 5) (b3 6) (b3 7) e3 ha hb hc
  refine ⟨this.1.trans ?_, this.2⟩
  show sm 8 (hv2 (hv2 (hv2 (bd W)))) = _
  rw [sm_pair, sm_pair, sm_pair]
theorem pop32N {W : Nat} (h : W < 2 ^ 32) {w1 w2 w3 a b : Nat} (h1 : w1 = W - (W / 2 &&& 1431655765)) (h2 : w2 = (w1 &&& 858993459) + (w1 / 4 &&& 858993459)) (h3 : w3 = (w2 + w2 / 16) &&& 252645135)
    (ha : a = w3 + w3 / 256) (hb : b = a + a / 65536) : b % 64 = sm 32 (bd W) ∧ b < 4294967296 := by
  have z0 : ∀ i, 32 ≤ i → bd W i = 0 := fun i hi => bd_big h hi
  have z1 := hv2_z (N := 16) z0
  have z2 := hv2_z (N := 8) z1
  have b1 := hv2_le (bd_le W)
  have b2 := hv2_le b1
  have b3 := hv2_le b2
  have e1 : w1 = val 4 16 (hv2 (bd W)) := by
    have e := step1 (N := 16) (bd_le W) (z0 _ (by decide))
    rw [mk32_1, show 2 * 16 = 32 from rfl, val_bits 32 W h] at e
    rw [h1, e]
  have e2 : w2 = val 16 8 (hv2 (hv2 (bd W))) := by
    have e := step2 (N := 8) b1 (z1 _ (by decide))
    rw [mk32_2, show 2 * 8 = 16 from rfl, ← e1] at e
    rw [h2, e]
  have e3 : w3 = val 256 4 (hv2 (hv2 (hv2 (bd W)))) := by
    have e := step3 (N := 4) b2 (z2 _ (by decide))
    rw [mk32_3, show 2 * 4 = 8 from rfl, ← e2] at e
    rw [h3, e]
  have := tail4 (b3 0) (b3 1) (b3 2) (b3 3) e3 ha hb
  refine ⟨this.1.trans ?_, this.2⟩
  show sm 4 (hv2 (hv2 (hv2 (bd W)))) = _
  rw [sm_pair, sm_pair, sm_pair]
