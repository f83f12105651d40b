/-! THE CLASS, further leaves: acts, stones, sheets, what one knows -/
def ush (w : Int64) (c : Int32) : Int64 := (w.toUInt64 >>> (c.toInt64.toUInt64 &&& Int64.toUInt64 63)).toInt64
def ushI (x c : Int32) : Int32 := (x.toUInt32 >>> (c.toUInt32 &&& Int32.toUInt32 31)).toInt32
def lc1 (w : Int64) : Int64 := w - (ush w 1 &&& 6148914691236517205)
def lc2 (w : Int64) : Int64 := (w &&& 3689348814741910323) + (ush w 2 &&& 3689348814741910323)
def lc3 (w : Int64) : Int64 := (w + ush w 4) &&& 1085102592571150095
def lc4 (w : Int64) : Int64 := w + ush w 8
def lc5 (w : Int64) : Int64 := w + ush w 16
def lc6 (w : Int64) : Int64 := w + ush w 32
def pop64 (w : Int64) : Int32 := (lc6 (lc5 (lc4 (lc3 (lc2 (lc1 w)))))).toInt32 &&& 127
def ic1 (x : Int32) : Int32 := x - (ushI x 1 &&& 1431655765)
def ic2 (x : Int32) : Int32 := (x &&& 858993459) + (ushI x 2 &&& 858993459)
def ic3 (x : Int32) : Int32 := (x + ushI x 4) &&& 252645135
def ic4 (x : Int32) : Int32 := x + ushI x 8
def ic5 (x : Int32) : Int32 := x + ushI x 16
def pop32 (x : Int32) : Int32 := ic5 (ic4 (ic3 (ic2 (ic1 x)))) &&& 63
def kdC (σ : sS) (k : Nat) : Nat := ix (gA σ 16 k)
def stC (σ : sS) (k : Nat) : Nat := ix (gA σ 17 k)
def doC (σ : sS) (k : Nat) : Nat := ix (gA σ 18 k)
def otC (σ : sS) (k : Nat) : Nat := ix (gA σ 19 k)
/-- the acts' rows hold small numbers -/
def okA (σ : sS) : Prop := (∀ k, k < 60 → gA σ 16 k = nI (kdC σ k) ∧ kdC σ k < 7) ∧ (∀ k, k < 60 → gA σ 17 k = nI (stC σ k) ∧ stC σ k < 8) ∧
  (∀ k, k < 60 → gA σ 18 k = nI (doC σ k) ∧ doC σ k < 16) ∧ (∀ k, k < 60 → gA σ 19 k = nI (otC σ k) ∧ otC σ k < 60 ∧ (¬ kdC σ k = 4 → otC σ k < 16))
def openC (σ : sS) (na : Nat) (kd : Int32) (s : Nat) (a : Int32) : sS :=
  pI (pB (pA (pA (pA σ 16 (upd (gA σ 16) na kd)) 17 (upd (gA σ 17) na (nI s))) 18 (upd (gA σ 18) na a)) 23 (vp_updL (gB σ 23) s (gB σ 23 s ||| oneL na))) 6 (nI (na + 1))
def layC (σ : sS) (ns : Nat) (w p : Int32) : sS := pI (pA (pA σ 13 (upd (gA σ 13) ns w)) 14 (upd (gA σ 14) ns p)) 5 (nI (ns + 1))
def sunkC (σ : sS) (ns : Nat) : Nat := cnt (fun i => decide (gA σ 14 i = -1)) ns
def crossC (σ : sS) (ns : Nat) : Nat := cnt (fun i => !decide (gA σ 15 i ≤ 0)) ns
def renewStep (s i : Nat) (τ : sS) : sS := pA τ 30 (upd (gA τ 30) (s * 36 + i) 0)
def renewC (σ : sS) (s : Nat) (lane n : Int32) : sS := itr (renewStep s) 36 (pA (pA (pA σ 27 (upd (gA σ 27) s (b2i true))) 28 (upd (gA σ 28) s lane)) 29 (upd (gA σ 29) s n))
def writeC (σ : sS) (s i : Nat) (v : Int32) : sS := pA σ 30 (upd (gA σ 30) (s * 36 + i) (if gA σ 28 s = 0 then v.toInt8.toInt32 else if gA σ 28 s = 1 then v.toInt16.toInt32 else v))
def forget1 (i : Nat) (τ : sS) : sS := pA (pA τ 24 (upd (gA τ 24) i 0)) 25 (upd (gA τ 25) i 0)
def forget2 (i : Nat) (τ : sS) : sS := pA τ 26 (upd (gA τ 26) i 0)
def forgetC (σ : sS) : sS := pI (pL (pL (itr forget2 8 (itr forget1 128 σ)) 1 0) 2 0) 7 0
def agreesC (σ : sS) (k : Nat) : Bool :=
  if kdC σ k = 0 then !decide (¬ (gI σ 7 &&& one (stC σ k)) = 0)
  else if kdC σ k = 1 ∨ kdC σ k = 2 ∨ kdC σ k = 3 then !decide (gA σ 24 (stC σ k * 16 + doC σ k) - gA σ 25 (stC σ k * 16 + doC σ k) < gA σ 20 k)
  else if kdC σ k = 4 then btL (gL σ 1 &&& (gL σ 2 ^^^ (-1))) (otC σ k)
  else if kdC σ k = 5 then true else false
def moveC (σ : sS) (a b : Nat) (n : Int32) : sS := pA (pA σ 24 (upd (gA σ 24) a (gA σ 24 a - n))) 24 (upd (upd (gA σ 24) a (gA σ 24 a - n)) b (upd (gA σ 24) a (gA σ 24 a - n) b + n))
def takeC (σ : sS) (k : Nat) : sS :=
  if kdC σ k = 0 then pA (pI σ 7 (gI σ 7 ||| one (stC σ k))) 24 (upd (gA σ 24) (stC σ k * 16 + doC σ k) 12)
  else if kdC σ k = 1 then moveC σ (stC σ k * 16 + doC σ k) (stC σ k * 16 + otC σ k) (gA σ 20 k)
  else if kdC σ k = 2 then pA (moveC σ (stC σ k * 16 + doC σ k) (stC σ k * 16 + otC σ k) (gA σ 20 k)) 26 (upd (gA σ 26) (stC σ k) (gA σ 26 (stC σ k) + 5))
  else if kdC σ k = 3 then pA σ 25 (upd (gA σ 25) (stC σ k * 16 + doC σ k) (gA σ 25 (stC σ k * 16 + doC σ k) + gA σ 20 k))
  else if kdC σ k = 4 then pA (pL σ 2 (gL σ 2 ||| oneL (otC σ k))) 25 (upd (gA σ 25) (stC σ k * 16 + doC σ k) (gA σ 25 (stC σ k * 16 + doC σ k) - gA σ 20 (otC σ k)))
  else if kdC σ k = 5 then pA σ 26 (upd (gA σ 26) (stC σ k) (gA σ 26 (stC σ k) + gA σ 20 k))
  else σ
def addStep (w : Int64) (i : Nat) (τ : sS) : sS := if btL w i = true ∧ agreesC τ i = true then takeC (pL τ 1 (gL τ 1 ||| oneL i)) i else τ
def addUpC (σ : sS) (na : Nat) (w : Int64) : sS := itr (addStep w) na (forgetC σ)
/-- alike but for what one knows -/
def eqK (σ τ : sS) : Prop := (∀ k, k ≠ 24 → k ≠ 25 → k ≠ 26 → gA τ k = gA σ k) ∧ (∀ k, k ≠ 7 → gI τ k = gI σ k) ∧ (∀ k, gB τ k = gB σ k) ∧ (∀ k, k ≠ 1 → k ≠ 2 → gL τ k = gL σ k)
theorem eqK.refl (σ : sS) : eqK σ σ := ⟨fun _ _ _ _ => rfl, fun _ _ => rfl, fun _ => rfl, fun _ _ _ => rfl⟩
theorem eqK.trans {σ τ υ : sS} (h : eqK σ τ) (k : eqK τ υ) : eqK σ υ := ⟨fun i a b c => (k.1 i a b c).trans (h.1 i a b c), fun i a => (k.2.1 i a).trans (h.2.1 i a), fun i => (k.2.2.1 i).trans (h.2.2.1 i), fun i a b => (k.2.2.2 i a b).trans (h.2.2.2 i a b)⟩
theorem eqK.itr {f : Nat → sS → sS} (h : ∀ i τ, eqK τ (f i τ)) : ∀ n σ, eqK σ (itr f n σ)
  | 0, σ => eqK.refl σ
  | n + 1, σ => (eqK.itr h n σ).trans (h n _)
theorem eqK.a {σ : sS} {k : Nat} {f : Nat → Int32} (h : k = 24 ∨ k = 25 ∨ k = 26) : eqK σ (pA σ k f) := ⟨fun i a b c => by rw [gA_pA, if_neg (by omega)], fun _ _ => rfl, fun _ => rfl, fun _ _ _ => rfl⟩
theorem eqK.i {σ : sS} {x : Int32} : eqK σ (pI σ 7 x) := ⟨fun _ _ _ _ => rfl, fun i a => by rw [gI_pI, if_neg a], fun _ => rfl, fun _ _ _ => rfl⟩
theorem eqK.l {σ : sS} {k : Nat} {x : Int64} (h : k = 1 ∨ k = 2) : eqK σ (pL σ k x) := ⟨fun _ _ _ _ => rfl, fun _ _ => rfl, fun _ => rfl, fun i a b => by rw [gL_pL, if_neg (by omega)]⟩
theorem eqK_forget (σ : sS) : eqK σ (forgetC σ) :=
  ((((eqK.itr (fun i τ => (eqK.a (Or.inl rfl)).trans (eqK.a (Or.inr (Or.inl rfl)))) 128 σ).trans (eqK.itr (fun i τ => eqK.a (Or.inr (Or.inr rfl))) 8 _)).trans (eqK.l (Or.inl rfl))).trans (eqK.l (Or.inr rfl))).trans eqK.i
theorem eqK_move (σ : sS) (a b : Nat) (n : Int32) : eqK σ (moveC σ a b n) := (eqK.a (Or.inl rfl)).trans (eqK.a (Or.inl rfl))
theorem eqK_take (σ : sS) (k : Nat) : eqK σ (takeC σ k) := by
  unfold takeC
  split
  · exact eqK.i.trans (eqK.a (Or.inl rfl))
  split
  · exact eqK_move _ _ _ _
  split
  · exact (eqK_move _ _ _ _).trans (eqK.a (Or.inr (Or.inr rfl)))
  split
  · exact eqK.a (Or.inr (Or.inl rfl))
  split
  · exact (eqK.l (Or.inr rfl)).trans (eqK.a (Or.inr (Or.inl rfl)))
  split
  · exact eqK.a (Or.inr (Or.inr rfl))
  · exact eqK.refl σ
theorem eqK_addStep (w : Int64) (i : Nat) (τ : sS) : eqK τ (addStep w i τ) := by
  unfold addStep
  split
  · exact (eqK.l (Or.inl rfl)).trans (eqK_take _ _)
  · exact eqK.refl τ
theorem eqK_addUp (σ : sS) (na : Nat) (w : Int64) : eqK σ (addUpC σ na w) := (eqK_forget σ).trans (eqK.itr (eqK_addStep w) na _)
theorem eqK_it (σ : sS) (w : Int64) (i : Nat) : eqK σ (itr (addStep w) i (forgetC σ)) := (eqK_forget σ).trans (eqK.itr (eqK_addStep w) i _)
theorem okA.of {σ τ : sS} (h : okA σ) (e16 : gA τ 16 = gA σ 16) (e17 : gA τ 17 = gA σ 17) (e18 : gA τ 18 = gA σ 18) (e19 : gA τ 19 = gA σ 19) : okA τ := by
  unfold okA kdC stC doC otC at h ⊢
  rw [e16, e17, e18, e19]
  exact h
theorem eqK.ok {σ τ : sS} (e : eqK σ τ) (h : okA σ) : okA τ := h.of (e.1 16 (by decide) (by decide) (by decide)) (e.1 17 (by decide) (by decide) (by decide)) (e.1 18 (by decide) (by decide) (by decide)) (e.1 19 (by decide) (by decide) (by decide))

set_option maxRecDepth 100000 in
set_option maxHeartbeats 4000000 in
theorem kX0_has (l : Launch) (D : va_G) (cT : Nat → ClassId) (ad : Nat → Nat) (σ : sS) (k : Int32) : CT l D cT (cW cT ad) (cA ad) yX0_has cX0_has 2 (some .boolean) ({ frames := 0, cells := 0, slots := 0, locals := 0 } : Room) [.ref (ad 3), .int (k)] σ (some (.int (b2i (isIn k (gI σ 6))))) (σ) := by
  refine CT.of (by decide) (cWA cT ad) (Nat.le_of_ble_eq_true rfl) (L0 := [(0, .ref (ad 3)), (1, .int (k))]) rfl ?_
  intro pp ee ss mm av bel mth cod F hr hl
  refine g_iload_n (pc := 0) F 1 dX0_has_0 rfl rfl ?_
  refine g_if_lt (pc := 1) (tgt := 16) F dX0_has_1 (by decide) (fun c_1 => ?_) (fun c_1 => ?_)
  · skip
    refine g_iconst (pc := 16) (v := 0) F dX0_has_16 (by decide) ?_
    exact g_iret (pc := 17) F hr hl dX0_has_17 (rfl) (by first | rfl | (simp only [if_true, if_false, reduceIte, Bool.not_true, Bool.not_false, Bool.and_true, Bool.true_and, Bool.and_false, Bool.false_and, Bool.or_true, Bool.true_or, Bool.or_false, Bool.false_or, decide_true, decide_false, not_true_eq_false, not_false_eq_true, b2i_t, b2i_f, true_and, and_true, false_and, and_false, Bool.true_eq_false, Bool.false_eq_true, isIn, b2i, c_1]; done) | (simp only [if_true, if_false, reduceIte, Bool.not_true, Bool.not_false, Bool.and_true, Bool.true_and, Bool.and_false, Bool.false_and, Bool.or_true, Bool.true_or, Bool.or_false, Bool.false_or, decide_true, decide_false, not_true_eq_false, not_false_eq_true, b2i_t, b2i_f, true_and, and_true, false_and, and_false, Bool.true_eq_false, Bool.false_eq_true, isIn, b2i, c_1]; rfl) | (simp [isIn, b2i, c_1]; done) | (simp [isIn, b2i, c_1]; rfl) | (simp [gA_pA, gI_pI, gB_pB, gL_pL, gA_pI, gA_pB, gA_pL, gI_pA, gI_pB, gI_pL, gB_pA, gB_pI, gB_pL, gL_pA, gL_pI, gL_pB, upd, vp_updL, isIn, b2i, c_1]; done)) (by first | rfl | (simp only [if_true, if_false, reduceIte, Bool.not_true, Bool.not_false, Bool.and_true, Bool.true_and, Bool.and_false, Bool.false_and, Bool.or_true, Bool.true_or, Bool.or_false, Bool.false_or, decide_true, decide_false, not_true_eq_false, not_false_eq_true, b2i_t, b2i_f, true_and, and_true, false_and, and_false, Bool.true_eq_false, Bool.false_eq_true, isIn, b2i, c_1]; done) | (simp only [if_true, if_false, reduceIte, Bool.not_true, Bool.not_false, Bool.and_true, Bool.true_and, Bool.and_false, Bool.false_and, Bool.or_true, Bool.true_or, Bool.or_false, Bool.false_or, decide_true, decide_false, not_true_eq_false, not_false_eq_true, b2i_t, b2i_f, true_and, and_true, false_and, and_false, Bool.true_eq_false, Bool.false_eq_true, isIn, b2i, c_1]; rfl) | (simp [isIn, b2i, c_1]; done) | (simp [isIn, b2i, c_1]; rfl) | (simp [gA_pA, gI_pI, gB_pB, gL_pL, gA_pI, gA_pB, gA_pL, gI_pA, gI_pB, gI_pL, gB_pA, gB_pI, gB_pL, gL_pA, gL_pI, gL_pB, upd, vp_updL, isIn, b2i, c_1]; done))
  · skip
    refine g_iload_n (pc := 4) F 1 dX0_has_4 rfl rfl ?_
    refine g_aload_n (pc := 5) F 0 dX0_has_5 rfl rfl ?_
    refine get_c0_size (pc := 6) F tf_X0_41 dX0_has_6 ?_
    refine g_icmp_ge (pc := 9) (tgt := 16) F dX0_has_9 (by decide) (fun c_9 => ?_) (fun c_9 => ?_)
    · skip
      refine g_iconst (pc := 16) (v := 0) F dX0_has_16 (by decide) ?_
      exact g_iret (pc := 17) F hr hl dX0_has_17 (rfl) (by first | rfl | (simp only [if_true, if_false, reduceIte, Bool.not_true, Bool.not_false, Bool.and_true, Bool.true_and, Bool.and_false, Bool.false_and, Bool.or_true, Bool.true_or, Bool.or_false, Bool.false_or, decide_true, decide_false, not_true_eq_false, not_false_eq_true, b2i_t, b2i_f, true_and, and_true, false_and, and_false, Bool.true_eq_false, Bool.false_eq_true, isIn, b2i, c_1, c_9]; done) | (simp only [if_true, if_false, reduceIte, Bool.not_true, Bool.not_false, Bool.and_true, Bool.true_and, Bool.and_false, Bool.false_and, Bool.or_true, Bool.true_or, Bool.or_false, Bool.false_or, decide_true, decide_false, not_true_eq_false, not_false_eq_true, b2i_t, b2i_f, true_and, and_true, false_and, and_false, Bool.true_eq_false, Bool.false_eq_true, isIn, b2i, c_1, c_9]; rfl) | (simp [isIn, b2i, c_1, c_9]; done) | (simp [isIn, b2i, c_1, c_9]; rfl) | (simp [gA_pA, gI_pI, gB_pB, gL_pL, gA_pI, gA_pB, gA_pL, gI_pA, gI_pB, gI_pL, gB_pA, gB_pI, gB_pL, gL_pA, gL_pI, gL_pB, upd, vp_updL, isIn, b2i, c_1, c_9]; done)) (by first | rfl | (simp only [if_true, if_false, reduceIte, Bool.not_true, Bool.not_false, Bool.and_true, Bool.true_and, Bool.and_false, Bool.false_and, Bool.or_true, Bool.true_or, Bool.or_false, Bool.false_or, decide_true, decide_false, not_true_eq_false, not_false_eq_true, b2i_t, b2i_f, true_and, and_true, false_and, and_false, Bool.true_eq_false, Bool.false_eq_true, isIn, b2i, c_1, c_9]; done) | (simp only [if_true, if_false, reduceIte, Bool.not_true, Bool.not_false, Bool.and_true, Bool.true_and, Bool.and_false, Bool.false_and, Bool.or_true, Bool.true_or, Bool.or_false, Bool.false_or, decide_true, decide_false, not_true_eq_false, not_false_eq_true, b2i_t, b2i_f, true_and, and_true, false_and, and_false, Bool.true_eq_false, Bool.false_eq_true, isIn, b2i, c_1, c_9]; rfl) | (simp [isIn, b2i, c_1, c_9]; done) | (simp [isIn, b2i, c_1, c_9]; rfl) | (simp [gA_pA, gI_pI, gB_pB, gL_pL, gA_pI, gA_pB, gA_pL, gI_pA, gI_pB, gI_pL, gB_pA, gB_pI, gB_pL, gL_pA, gL_pI, gL_pB, upd, vp_updL, isIn, b2i, c_1, c_9]; done))
    · skip
      refine g_iconst (pc := 12) (v := 1) F dX0_has_12 (by decide) ?_
      refine g_goto (pc := 13) (tgt := 17) F dX0_has_13 (by decide) ?_
      exact g_iret (pc := 17) F hr hl dX0_has_17 (rfl) (by first | rfl | (simp only [if_true, if_false, reduceIte, Bool.not_true, Bool.not_false, Bool.and_true, Bool.true_and, Bool.and_false, Bool.false_and, Bool.or_true, Bool.true_or, Bool.or_false, Bool.false_or, decide_true, decide_false, not_true_eq_false, not_false_eq_true, b2i_t, b2i_f, true_and, and_true, false_and, and_false, Bool.true_eq_false, Bool.false_eq_true, isIn, b2i, c_1, c_9]; done) | (simp only [if_true, if_false, reduceIte, Bool.not_true, Bool.not_false, Bool.and_true, Bool.true_and, Bool.and_false, Bool.false_and, Bool.or_true, Bool.true_or, Bool.or_false, Bool.false_or, decide_true, decide_false, not_true_eq_false, not_false_eq_true, b2i_t, b2i_f, true_and, and_true, false_and, and_false, Bool.true_eq_false, Bool.false_eq_true, isIn, b2i, c_1, c_9]; rfl) | (simp [isIn, b2i, c_1, c_9]; done) | (simp [isIn, b2i, c_1, c_9]; rfl) | (simp [gA_pA, gI_pI, gB_pB, gL_pL, gA_pI, gA_pB, gA_pL, gI_pA, gI_pB, gI_pL, gB_pA, gB_pI, gB_pL, gL_pA, gL_pI, gL_pB, upd, vp_updL, isIn, b2i, c_1, c_9]; done)) (by first | rfl | (simp only [if_true, if_false, reduceIte, Bool.not_true, Bool.not_false, Bool.and_true, Bool.true_and, Bool.and_false, Bool.false_and, Bool.or_true, Bool.true_or, Bool.or_false, Bool.false_or, decide_true, decide_false, not_true_eq_false, not_false_eq_true, b2i_t, b2i_f, true_and, and_true, false_and, and_false, Bool.true_eq_false, Bool.false_eq_true, isIn, b2i, c_1, c_9]; done) | (simp only [if_true, if_false, reduceIte, Bool.not_true, Bool.not_false, Bool.and_true, Bool.true_and, Bool.and_false, Bool.false_and, Bool.or_true, Bool.true_or, Bool.or_false, Bool.false_or, decide_true, decide_false, not_true_eq_false, not_false_eq_true, b2i_t, b2i_f, true_and, and_true, false_and, and_false, Bool.true_eq_false, Bool.false_eq_true, isIn, b2i, c_1, c_9]; rfl) | (simp [isIn, b2i, c_1, c_9]; done) | (simp [isIn, b2i, c_1, c_9]; rfl) | (simp [gA_pA, gI_pI, gB_pB, gL_pL, gA_pI, gA_pB, gA_pL, gI_pA, gI_pB, gI_pL, gB_pA, gB_pI, gB_pL, gL_pA, gL_pI, gL_pB, upd, vp_updL, isIn, b2i, c_1, c_9]; done))
set_option maxRecDepth 100000 in
set_option maxHeartbeats 4000000 in
theorem kX4_has (l : Launch) (D : va_G) (cT : Nat → ClassId) (ad : Nat → Nat) (σ : sS) (k : Int32) : CT l D cT (cW cT ad) (cA ad) yX4_has cX4_has 2 (some .boolean) ({ frames := 0, cells := 0, slots := 0, locals := 0 } : Room) [.ref (ad 2), .int (k)] σ (some (.int (b2i (isIn k (gI σ 5))))) (σ) := by
  refine CT.of (by decide) (cWA cT ad) (Nat.le_of_ble_eq_true rfl) (L0 := [(0, .ref (ad 2)), (1, .int (k))]) rfl ?_
  intro pp ee ss mm av bel mth cod F hr hl
  refine g_iload_n (pc := 0) F 1 dX4_has_0 rfl rfl ?_
  refine g_if_lt (pc := 1) (tgt := 16) F dX4_has_1 (by decide) (fun c_1 => ?_) (fun c_1 => ?_)
  · skip
    refine g_iconst (pc := 16) (v := 0) F dX4_has_16 (by decide) ?_
    exact g_iret (pc := 17) F hr hl dX4_has_17 (rfl) (by first | rfl | (simp only [if_true, if_false, reduceIte, Bool.not_true, Bool.not_false, Bool.and_true, Bool.true_and, Bool.and_false, Bool.false_and, Bool.or_true, Bool.true_or, Bool.or_false, Bool.false_or, decide_true, decide_false, not_true_eq_false, not_false_eq_true, b2i_t, b2i_f, true_and, and_true, false_and, and_false, Bool.true_eq_false, Bool.false_eq_true, isIn, b2i, c_1]; done) | (simp only [if_true, if_false, reduceIte, Bool.not_true, Bool.not_false, Bool.and_true, Bool.true_and, Bool.and_false, Bool.false_and, Bool.or_true, Bool.true_or, Bool.or_false, Bool.false_or, decide_true, decide_false, not_true_eq_false, not_false_eq_true, b2i_t, b2i_f, true_and, and_true, false_and, and_false, Bool.true_eq_false, Bool.false_eq_true, isIn, b2i, c_1]; rfl) | (simp [isIn, b2i, c_1]; done) | (simp [isIn, b2i, c_1]; rfl) | (simp [gA_pA, gI_pI, gB_pB, gL_pL, gA_pI, gA_pB, gA_pL, gI_pA, gI_pB, gI_pL, gB_pA, gB_pI, gB_pL, gL_pA, gL_pI, gL_pB, upd, vp_updL, isIn, b2i, c_1]; done)) (by first | rfl | (simp only [if_true, if_false, reduceIte, Bool.not_true, Bool.not_false, Bool.and_true, Bool.true_and, Bool.and_false, Bool.false_and, Bool.or_true, Bool.true_or, Bool.or_false, Bool.false_or, decide_true, decide_false, not_true_eq_false, not_false_eq_true, b2i_t, b2i_f, true_and, and_true, false_and, and_false, Bool.true_eq_false, Bool.false_eq_true, isIn, b2i, c_1]; done) | (simp only [if_true, if_false, reduceIte, Bool.not_true, Bool.not_false, Bool.and_true, Bool.true_and, Bool.and_false, Bool.false_and, Bool.or_true, Bool.true_or, Bool.or_false, Bool.false_or, decide_true, decide_false, not_true_eq_false, not_false_eq_true, b2i_t, b2i_f, true_and, and_true, false_and, and_false, Bool.true_eq_false, Bool.false_eq_true, isIn, b2i, c_1]; rfl) | (simp [isIn, b2i, c_1]; done) | (simp [isIn, b2i, c_1]; rfl) | (simp [gA_pA, gI_pI, gB_pB, gL_pL, gA_pI, gA_pB, gA_pL, gI_pA, gI_pB, gI_pL, gB_pA, gB_pI, gB_pL, gL_pA, gL_pI, gL_pB, upd, vp_updL, isIn, b2i, c_1]; done))
  · skip
    refine g_iload_n (pc := 4) F 1 dX4_has_4 rfl rfl ?_
    refine g_aload_n (pc := 5) F 0 dX4_has_5 rfl rfl ?_
    refine get_c4_size (pc := 6) F tf_X4_21 dX4_has_6 ?_
    refine g_icmp_ge (pc := 9) (tgt := 16) F dX4_has_9 (by decide) (fun c_9 => ?_) (fun c_9 => ?_)
    · skip
      refine g_iconst (pc := 16) (v := 0) F dX4_has_16 (by decide) ?_
      exact g_iret (pc := 17) F hr hl dX4_has_17 (rfl) (by first | rfl | (simp only [if_true, if_false, reduceIte, Bool.not_true, Bool.not_false, Bool.and_true, Bool.true_and, Bool.and_false, Bool.false_and, Bool.or_true, Bool.true_or, Bool.or_false, Bool.false_or, decide_true, decide_false, not_true_eq_false, not_false_eq_true, b2i_t, b2i_f, true_and, and_true, false_and, and_false, Bool.true_eq_false, Bool.false_eq_true, isIn, b2i, c_1, c_9]; done) | (simp only [if_true, if_false, reduceIte, Bool.not_true, Bool.not_false, Bool.and_true, Bool.true_and, Bool.and_false, Bool.false_and, Bool.or_true, Bool.true_or, Bool.or_false, Bool.false_or, decide_true, decide_false, not_true_eq_false, not_false_eq_true, b2i_t, b2i_f, true_and, and_true, false_and, and_false, Bool.true_eq_false, Bool.false_eq_true, isIn, b2i, c_1, c_9]; rfl) | (simp [isIn, b2i, c_1, c_9]; done) | (simp [isIn, b2i, c_1, c_9]; rfl) | (simp [gA_pA, gI_pI, gB_pB, gL_pL, gA_pI, gA_pB, gA_pL, gI_pA, gI_pB, gI_pL, gB_pA, gB_pI, gB_pL, gL_pA, gL_pI, gL_pB, upd, vp_updL, isIn, b2i, c_1, c_9]; done)) (by first | rfl | (simp only [if_true, if_false, reduceIte, Bool.not_true, Bool.not_false, Bool.and_true, Bool.true_and, Bool.and_false, Bool.false_and, Bool.or_true, Bool.true_or, Bool.or_false, Bool.false_or, decide_true, decide_false, not_true_eq_false, not_false_eq_true, b2i_t, b2i_f, true_and, and_true, false_and, and_false, Bool.true_eq_false, Bool.false_eq_true, isIn, b2i, c_1, c_9]; done) | (simp only [if_true, if_false, reduceIte, Bool.not_true, Bool.not_false, Bool.and_true, Bool.true_and, Bool.and_false, Bool.false_and, Bool.or_true, Bool.true_or, Bool.or_false, Bool.false_or, decide_true, decide_false, not_true_eq_false, not_false_eq_true, b2i_t, b2i_f, true_and, and_true, false_and, and_false, Bool.true_eq_false, Bool.false_eq_true, isIn, b2i, c_1, c_9]; rfl) | (simp [isIn, b2i, c_1, c_9]; done) | (simp [isIn, b2i, c_1, c_9]; rfl) | (simp [gA_pA, gI_pI, gB_pB, gL_pL, gA_pI, gA_pB, gA_pL, gI_pA, gI_pB, gI_pL, gB_pA, gB_pI, gB_pL, gL_pA, gL_pI, gL_pB, upd, vp_updL, isIn, b2i, c_1, c_9]; done))
    · skip
      refine g_iconst (pc := 12) (v := 1) F dX4_has_12 (by decide) ?_
      refine g_goto (pc := 13) (tgt := 17) F dX4_has_13 (by decide) ?_
      exact g_iret (pc := 17) F hr hl dX4_has_17 (rfl) (by first | rfl | (simp only [if_true, if_false, reduceIte, Bool.not_true, Bool.not_false, Bool.and_true, Bool.true_and, Bool.and_false, Bool.false_and, Bool.or_true, Bool.true_or, Bool.or_false, Bool.false_or, decide_true, decide_false, not_true_eq_false, not_false_eq_true, b2i_t, b2i_f, true_and, and_true, false_and, and_false, Bool.true_eq_false, Bool.false_eq_true, isIn, b2i, c_1, c_9]; done) | (simp only [if_true, if_false, reduceIte, Bool.not_true, Bool.not_false, Bool.and_true, Bool.true_and, Bool.and_false, Bool.false_and, Bool.or_true, Bool.true_or, Bool.or_false, Bool.false_or, decide_true, decide_false, not_true_eq_false, not_false_eq_true, b2i_t, b2i_f, true_and, and_true, false_and, and_false, Bool.true_eq_false, Bool.false_eq_true, isIn, b2i, c_1, c_9]; rfl) | (simp [isIn, b2i, c_1, c_9]; done) | (simp [isIn, b2i, c_1, c_9]; rfl) | (simp [gA_pA, gI_pI, gB_pB, gL_pL, gA_pI, gA_pB, gA_pL, gI_pA, gI_pB, gI_pL, gB_pA, gB_pI, gB_pL, gL_pA, gL_pI, gL_pB, upd, vp_updL, isIn, b2i, c_1, c_9]; done)) (by first | rfl | (simp only [if_true, if_false, reduceIte, Bool.not_true, Bool.not_false, Bool.and_true, Bool.true_and, Bool.and_false, Bool.false_and, Bool.or_true, Bool.true_or, Bool.or_false, Bool.false_or, decide_true, decide_false, not_true_eq_false, not_false_eq_true, b2i_t, b2i_f, true_and, and_true, false_and, and_false, Bool.true_eq_false, Bool.false_eq_true, isIn, b2i, c_1, c_9]; done) | (simp only [if_true, if_false, reduceIte, Bool.not_true, Bool.not_false, Bool.and_true, Bool.true_and, Bool.and_false, Bool.false_and, Bool.or_true, Bool.true_or, Bool.or_false, Bool.false_or, decide_true, decide_false, not_true_eq_false, not_false_eq_true, b2i_t, b2i_f, true_and, and_true, false_and, and_false, Bool.true_eq_false, Bool.false_eq_true, isIn, b2i, c_1, c_9]; rfl) | (simp [isIn, b2i, c_1, c_9]; done) | (simp [isIn, b2i, c_1, c_9]; rfl) | (simp [gA_pA, gI_pI, gB_pB, gL_pL, gA_pI, gA_pB, gA_pL, gI_pA, gI_pB, gI_pL, gB_pA, gB_pI, gB_pL, gL_pA, gL_pI, gL_pB, upd, vp_updL, isIn, b2i, c_1, c_9]; done))
set_option maxRecDepth 100000 in
set_option maxHeartbeats 4000000 in
theorem kX0_open (l : Launch) (D : va_G) (cT : Nat → ClassId) (ad : Nat → Nat) (σ : sS) (na sn : Nat) (kd a : Int32) (ha : gI σ 6 = nI na) (ha60 : na < 60) (hsn : sn < 8) : CT l D cT (cW cT ad) (cA ad) yX0_open cX0_open 4 (some .int) ({ frames := 0, cells := 0, slots := 0, locals := 0 } : Room) [.ref (ad 3), .int (kd), .int (nI (sn)), .int (a)] σ (some (.int (nI na))) (openC σ na kd sn a) := by
  refine CT.of (by decide) (cWA cT ad) (Nat.le_of_ble_eq_true rfl) (L0 := [(0, .ref (ad 3)), (1, .int (kd)), (2, .int (nI (sn))), (3, .int (a))]) rfl ?_
  intro pp ee ss mm av bel mth cod F hr hl
  refine g_aload_n (pc := 0) F 0 dX0_open_0 rfl rfl ?_
  refine get_c0_kind (pc := 1) F tf_X0_9 dX0_open_1 ?_
  refine g_aload_n (pc := 4) F 0 dX0_open_4 rfl rfl ?_
  refine get_c0_size (pc := 5) F tf_X0_41 dX0_open_5 ?_
  refine g_top (y := nI (na)) (ha) ?_
  refine g_iload_n (pc := 8) F 1 dX0_open_8 rfl rfl ?_
  refine ast_c0_kind (pc := 9) (j := na) F (by omega) dX0_open_9 ?_
  refine g_aload_n (pc := 10) F 0 dX0_open_10 rfl rfl ?_
  refine get_c0_stone (pc := 11) F tf_X0_15 dX0_open_11 ?_
  refine g_aload_n (pc := 14) F 0 dX0_open_14 rfl rfl ?_
  refine get_c0_size (pc := 15) F tf_X0_41 dX0_open_15 ?_
  refine g_top (y := nI (na)) (ha) ?_
  refine g_iload_n (pc := 18) F 2 dX0_open_18 rfl rfl ?_
  refine ast_c0_stone (pc := 19) (j := na) F (by omega) dX0_open_19 ?_
  refine g_aload_n (pc := 20) F 0 dX0_open_20 rfl rfl ?_
  refine get_c0_doer (pc := 21) F tf_X0_18 dX0_open_21 ?_
  refine g_aload_n (pc := 24) F 0 dX0_open_24 rfl rfl ?_
  refine get_c0_size (pc := 25) F tf_X0_41 dX0_open_25 ?_
  refine g_top (y := nI (na)) (ha) ?_
  refine g_iload_n (pc := 28) F 3 dX0_open_28 rfl rfl ?_
  refine ast_c0_doer (pc := 29) (j := na) F (by omega) dX0_open_29 ?_
  refine g_aload_n (pc := 30) F 0 dX0_open_30 rfl rfl ?_
  refine get_c0_ofStone (pc := 31) F tf_X0_33 dX0_open_31 ?_
  refine g_iload_n (pc := 34) F 2 dX0_open_34 rfl rfl ?_
  refine g_dup2 (pc := 35) F dX0_open_35 rfl rfl ?_
  refine ald_c0_ofStone (pc := 36) (j := sn) F (by omega) dX0_open_36 ?_
  refine g_lconst (pc := 37) (v := 1) F dX0_open_37 (by decide) ?_
  refine g_aload_n (pc := 38) F 0 dX0_open_38 rfl rfl ?_
  refine get_c0_size (pc := 39) F tf_X0_41 dX0_open_39 ?_
  refine g_top (y := nI (na)) (ha) ?_
  refine g_lshl (pc := 42) (v := oneL na) F dX0_open_42 (rfl) ?_
  refine g_lor (pc := 43) (v := (gB σ 23 sn) ||| (oneL na)) F dX0_open_43 (rfl) ?_
  refine ast_c0_ofStone (pc := 44) (j := sn) F (by omega) dX0_open_44 ?_
  refine g_aload_n (pc := 45) F 0 dX0_open_45 rfl rfl ?_
  refine g_dup (pc := 46) F dX0_open_46 rfl ?_
  refine get_c0_size (pc := 47) F tf_X0_41 dX0_open_47 ?_
  refine g_top (y := nI (na)) (ha) ?_
  refine g_dup_x1 (pc := 50) F dX0_open_50 rfl rfl ?_
  refine g_iconst (pc := 51) (v := 1) F dX0_open_51 (by decide) ?_
  refine g_iadd (pc := 52) (v := nI (na + 1)) F dX0_open_52 (nI_add _ _) ?_
  refine put_c0_size (pc := 53) F tf_X0_41 dX0_open_53 ?_
  exact g_iret (pc := 56) F hr hl dX0_open_56 (rfl) (by first | rfl | (simp only [if_true, if_false, reduceIte, Bool.not_true, Bool.not_false, Bool.and_true, Bool.true_and, Bool.and_false, Bool.false_and, Bool.or_true, Bool.true_or, Bool.or_false, Bool.false_or, decide_true, decide_false, not_true_eq_false, not_false_eq_true, b2i_t, b2i_f, true_and, and_true, false_and, and_false, Bool.true_eq_false, Bool.false_eq_true, openC]; done) | (simp only [if_true, if_false, reduceIte, Bool.not_true, Bool.not_false, Bool.and_true, Bool.true_and, Bool.and_false, Bool.false_and, Bool.or_true, Bool.true_or, Bool.or_false, Bool.false_or, decide_true, decide_false, not_true_eq_false, not_false_eq_true, b2i_t, b2i_f, true_and, and_true, false_and, and_false, Bool.true_eq_false, Bool.false_eq_true, openC]; rfl) | (simp [openC]; done) | (simp [openC]; rfl) | (simp [gA_pA, gI_pI, gB_pB, gL_pL, gA_pI, gA_pB, gA_pL, gI_pA, gI_pB, gI_pL, gB_pA, gB_pI, gB_pL, gL_pA, gL_pI, gL_pB, upd, vp_updL, openC]; done)) (by first | rfl | (simp only [if_true, if_false, reduceIte, Bool.not_true, Bool.not_false, Bool.and_true, Bool.true_and, Bool.and_false, Bool.false_and, Bool.or_true, Bool.true_or, Bool.or_false, Bool.false_or, decide_true, decide_false, not_true_eq_false, not_false_eq_true, b2i_t, b2i_f, true_and, and_true, false_and, and_false, Bool.true_eq_false, Bool.false_eq_true, openC]; done) | (simp only [if_true, if_false, reduceIte, Bool.not_true, Bool.not_false, Bool.and_true, Bool.true_and, Bool.and_false, Bool.false_and, Bool.or_true, Bool.true_or, Bool.or_false, Bool.false_or, decide_true, decide_false, not_true_eq_false, not_false_eq_true, b2i_t, b2i_f, true_and, and_true, false_and, and_false, Bool.true_eq_false, Bool.false_eq_true, openC]; rfl) | (simp [openC]; done) | (simp [openC]; rfl) | (simp [gA_pA, gI_pI, gB_pB, gL_pL, gA_pI, gA_pB, gA_pL, gI_pA, gI_pB, gI_pL, gB_pA, gB_pI, gB_pL, gL_pA, gL_pI, gL_pB, upd, vp_updL, openC]; done))
set_option maxRecDepth 100000 in
set_option maxHeartbeats 4000000 in
theorem kX4_lay (l : Launch) (D : va_G) (cT : Nat → ClassId) (ad : Nat → Nat) (σ : sS) (ns : Nat) (w pl : Int32) (hs : gI σ 5 = nI ns) (hs8 : ns < 8) : CT l D cT (cW cT ad) (cA ad) yX4_lay cX4_lay 3 (some .int) ({ frames := 0, cells := 0, slots := 0, locals := 0 } : Room) [.ref (ad 2), .int (w), .int (pl)] σ (some (.int (nI ns))) (layC σ ns w pl) := by
  refine CT.of (by decide) (cWA cT ad) (Nat.le_of_ble_eq_true rfl) (L0 := [(0, .ref (ad 2)), (1, .int (w)), (2, .int (pl))]) rfl ?_
  intro pp ee ss mm av bel mth cod F hr hl
  refine g_aload_n (pc := 0) F 0 dX4_lay_0 rfl rfl ?_
  refine get_c4_hands (pc := 1) F tf_X4_9 dX4_lay_1 ?_
  refine g_aload_n (pc := 4) F 0 dX4_lay_4 rfl rfl ?_
  refine get_c4_size (pc := 5) F tf_X4_21 dX4_lay_5 ?_
  refine g_top (y := nI (ns)) (hs) ?_
  refine g_iload_n (pc := 8) F 1 dX4_lay_8 rfl rfl ?_
  refine ast_c4_hands (pc := 9) (j := ns) F (by omega) dX4_lay_9 ?_
  refine g_aload_n (pc := 10) F 0 dX4_lay_10 rfl rfl ?_
  refine get_c4_place (pc := 11) F tf_X4_15 dX4_lay_11 ?_
  refine g_aload_n (pc := 14) F 0 dX4_lay_14 rfl rfl ?_
  refine get_c4_size (pc := 15) F tf_X4_21 dX4_lay_15 ?_
  refine g_top (y := nI (ns)) (hs) ?_
  refine g_iload_n (pc := 18) F 2 dX4_lay_18 rfl rfl ?_
  refine ast_c4_place (pc := 19) (j := ns) F (by omega) dX4_lay_19 ?_
  refine g_aload_n (pc := 20) F 0 dX4_lay_20 rfl rfl ?_
  refine g_dup (pc := 21) F dX4_lay_21 rfl ?_
  refine get_c4_size (pc := 22) F tf_X4_21 dX4_lay_22 ?_
  refine g_top (y := nI (ns)) (hs) ?_
  refine g_dup_x1 (pc := 25) F dX4_lay_25 rfl rfl ?_
  refine g_iconst (pc := 26) (v := 1) F dX4_lay_26 (by decide) ?_
  refine g_iadd (pc := 27) (v := nI (ns + 1)) F dX4_lay_27 (nI_add _ _) ?_
  refine put_c4_size (pc := 28) F tf_X4_21 dX4_lay_28 ?_
  exact g_iret (pc := 31) F hr hl dX4_lay_31 (rfl) (by first | rfl | (simp only [if_true, if_false, reduceIte, Bool.not_true, Bool.not_false, Bool.and_true, Bool.true_and, Bool.and_false, Bool.false_and, Bool.or_true, Bool.true_or, Bool.or_false, Bool.false_or, decide_true, decide_false, not_true_eq_false, not_false_eq_true, b2i_t, b2i_f, true_and, and_true, false_and, and_false, Bool.true_eq_false, Bool.false_eq_true, layC]; done) | (simp only [if_true, if_false, reduceIte, Bool.not_true, Bool.not_false, Bool.and_true, Bool.true_and, Bool.and_false, Bool.false_and, Bool.or_true, Bool.true_or, Bool.or_false, Bool.false_or, decide_true, decide_false, not_true_eq_false, not_false_eq_true, b2i_t, b2i_f, true_and, and_true, false_and, and_false, Bool.true_eq_false, Bool.false_eq_true, layC]; rfl) | (simp [layC]; done) | (simp [layC]; rfl) | (simp [gA_pA, gI_pI, gB_pB, gL_pL, gA_pI, gA_pB, gA_pL, gI_pA, gI_pB, gI_pL, gB_pA, gB_pI, gB_pL, gL_pA, gL_pI, gL_pB, upd, vp_updL, layC]; done)) (by first | rfl | (simp only [if_true, if_false, reduceIte, Bool.not_true, Bool.not_false, Bool.and_true, Bool.true_and, Bool.and_false, Bool.false_and, Bool.or_true, Bool.true_or, Bool.or_false, Bool.false_or, decide_true, decide_false, not_true_eq_false, not_false_eq_true, b2i_t, b2i_f, true_and, and_true, false_and, and_false, Bool.true_eq_false, Bool.false_eq_true, layC]; done) | (simp only [if_true, if_false, reduceIte, Bool.not_true, Bool.not_false, Bool.and_true, Bool.true_and, Bool.and_false, Bool.false_and, Bool.or_true, Bool.true_or, Bool.or_false, Bool.false_or, decide_true, decide_false, not_true_eq_false, not_false_eq_true, b2i_t, b2i_f, true_and, and_true, false_and, and_false, Bool.true_eq_false, Bool.false_eq_true, layC]; rfl) | (simp [layC]; done) | (simp [layC]; rfl) | (simp [gA_pA, gI_pI, gB_pB, gL_pL, gA_pI, gA_pB, gA_pL, gI_pA, gI_pB, gI_pL, gB_pA, gB_pI, gB_pL, gL_pA, gL_pI, gL_pB, upd, vp_updL, layC]; done))
set_option maxRecDepth 100000 in
set_option maxHeartbeats 4000000 in
theorem kX4_sunken (l : Launch) (D : va_G) (cT : Nat → ClassId) (ad : Nat → Nat) (σ : sS) (ns : Nat) (hs : gI σ 5 = nI ns) (hs8 : ns ≤ 8) : CT l D cT (cW cT ad) (cA ad) yX4_sunken cX4_sunken 3 (some .int) ({ frames := 0, cells := 0, slots := 0, locals := 0 } : Room) [.ref (ad 2)] σ (some (.int (nI (sunkC σ ns)))) (σ) := by
  refine CT.of (by decide) (cWA cT ad) (Nat.le_of_ble_eq_true rfl) (L0 := [(0, .ref (ad 2))]) rfl ?_
  intro pp ee ss mm av bel mth cod F hr hl
  refine g_iconst (pc := 0) (v := 0) F dX4_sunken_0 (by decide) ?_
  refine g_istore_n (pc := 1) (lv2 := [(0, .ref (ad 2)), (1, .int 0)]) F [1, 0] dX4_sunken_1 rfl (by decide) rfl ?_
  refine g_iconst (pc := 2) (v := 0) F dX4_sunken_2 (by decide) ?_
  refine g_istore_n (pc := 3) (lv2 := [(0, .ref (ad 2)), (1, .int 0), (2, .int 0)]) F [1, 2, 0] dX4_sunken_3 rfl (by decide) rfl ?_
  refine g_loc [0, 1, 2] (rfl : lv_pick _ _ = [(0, .ref (ad 2)), (1, .int 0), (2, .int 0)]) ?_
  refine g_eq (σ' := σ) (lv' := [(0, .ref (ad 2)), (1, .int (nI (cnt (fun i => decide (gA σ 14 i = -1)) 0))), (2, .int (nI (0)))]) (st' := []) (by first | rfl | (simp only [if_true, if_false, reduceIte, Bool.not_true, Bool.not_false, Bool.and_true, Bool.true_and, Bool.and_false, Bool.false_and, Bool.or_true, Bool.true_or, Bool.or_false, Bool.false_or, decide_true, decide_false, not_true_eq_false, not_false_eq_true, b2i_t, b2i_f, true_and, and_true, false_and, and_false, Bool.true_eq_false, Bool.false_eq_true, sunkC, itr_0, cnt_0]; done) | (simp only [if_true, if_false, reduceIte, Bool.not_true, Bool.not_false, Bool.and_true, Bool.true_and, Bool.and_false, Bool.false_and, Bool.or_true, Bool.true_or, Bool.or_false, Bool.false_or, decide_true, decide_false, not_true_eq_false, not_false_eq_true, b2i_t, b2i_f, true_and, and_true, false_and, and_false, Bool.true_eq_false, Bool.false_eq_true, sunkC, itr_0, cnt_0]; rfl) | (simp [sunkC, itr_0, cnt_0]; done) | (simp [sunkC, itr_0, cnt_0]; rfl) | (simp [gA_pA, gI_pI, gB_pB, gL_pL, gA_pI, gA_pB, gA_pL, gI_pA, gI_pB, gI_pL, gB_pA, gB_pI, gB_pL, gL_pA, gL_pI, gL_pB, upd, vp_updL, sunkC, itr_0, cnt_0]; done)) (by first | rfl | (simp only [if_true, if_false, reduceIte, Bool.not_true, Bool.not_false, Bool.and_true, Bool.true_and, Bool.and_false, Bool.false_and, Bool.or_true, Bool.true_or, Bool.or_false, Bool.false_or, decide_true, decide_false, not_true_eq_false, not_false_eq_true, b2i_t, b2i_f, true_and, and_true, false_and, and_false, Bool.true_eq_false, Bool.false_eq_true, sunkC, itr_0, cnt_0]; done) | (simp only [if_true, if_false, reduceIte, Bool.not_true, Bool.not_false, Bool.and_true, Bool.true_and, Bool.and_false, Bool.false_and, Bool.or_true, Bool.true_or, Bool.or_false, Bool.false_or, decide_true, decide_false, not_true_eq_false, not_false_eq_true, b2i_t, b2i_f, true_and, and_true, false_and, and_false, Bool.true_eq_false, Bool.false_eq_true, sunkC, itr_0, cnt_0]; rfl) | (simp [sunkC, itr_0, cnt_0]; done) | (simp [sunkC, itr_0, cnt_0]; rfl) | (simp [gA_pA, gI_pI, gB_pB, gL_pL, gA_pI, gA_pB, gA_pL, gI_pA, gI_pB, gI_pL, gB_pA, gB_pI, gB_pL, gL_pA, gL_pI, gL_pB, upd, vp_updL, sunkC, itr_0, cnt_0]; done)) rfl ?_
  refine dn0 (P := fun i : Nat => G pp l ee ({ frames := 0, cells := 0, slots := 0, locals := 0 } : Room) ss mm av bel mth cod (gQ bel D (cW cT ad) (cA ad) av ss (some (.int (nI (sunkC σ ns)))) (σ)) D (gR (cA ad) ss.heap.size) ss.heap 3 (cW cT ad) (σ) 4 [(0, .ref (ad 2)), (1, .int (nI (cnt (fun i => decide (gA σ 14 i = -1)) i))), (2, .int (nI (i)))] []) (n := ns) ?_ ?_
  · skip
    refine g_iload_n (pc := 4) F 2 dX4_sunken_4 rfl rfl ?_
    refine g_aload_n (pc := 5) F 0 dX4_sunken_5 rfl rfl ?_
    refine get_c4_size (pc := 6) F tf_X4_21 dX4_sunken_6 ?_
    refine g_top (y := nI (ns)) (hs) ?_
    refine gn_icmp_ge (pc := 9) (tgt := 31) (a := ns) (b := ns) F (by omega) (by omega) dX4_sunken_9 (by decide) (fun c_9 => ?_) (fun c_9 => absurd (by omega) c_9)
    refine g_iload_n (pc := 31) F 1 dX4_sunken_31 rfl rfl ?_
    exact g_iret (pc := 32) F hr hl dX4_sunken_32 (rfl) (by first | rfl | (simp only [if_true, if_false, reduceIte, Bool.not_true, Bool.not_false, Bool.and_true, Bool.true_and, Bool.and_false, Bool.false_and, Bool.or_true, Bool.true_or, Bool.or_false, Bool.false_or, decide_true, decide_false, not_true_eq_false, not_false_eq_true, b2i_t, b2i_f, true_and, and_true, false_and, and_false, Bool.true_eq_false, Bool.false_eq_true, sunkC]; done) | (simp only [if_true, if_false, reduceIte, Bool.not_true, Bool.not_false, Bool.and_true, Bool.true_and, Bool.and_false, Bool.false_and, Bool.or_true, Bool.true_or, Bool.or_false, Bool.false_or, decide_true, decide_false, not_true_eq_false, not_false_eq_true, b2i_t, b2i_f, true_and, and_true, false_and, and_false, Bool.true_eq_false, Bool.false_eq_true, sunkC]; rfl) | (simp [sunkC]; done) | (simp [sunkC]; rfl) | (simp [gA_pA, gI_pI, gB_pB, gL_pL, gA_pI, gA_pB, gA_pL, gI_pA, gI_pB, gI_pL, gB_pA, gB_pI, gB_pL, gL_pA, gL_pI, gL_pB, upd, vp_updL, sunkC]; done)) (by first | rfl | (simp only [if_true, if_false, reduceIte, Bool.not_true, Bool.not_false, Bool.and_true, Bool.true_and, Bool.and_false, Bool.false_and, Bool.or_true, Bool.true_or, Bool.or_false, Bool.false_or, decide_true, decide_false, not_true_eq_false, not_false_eq_true, b2i_t, b2i_f, true_and, and_true, false_and, and_false, Bool.true_eq_false, Bool.false_eq_true, sunkC]; done) | (simp only [if_true, if_false, reduceIte, Bool.not_true, Bool.not_false, Bool.and_true, Bool.true_and, Bool.and_false, Bool.false_and, Bool.or_true, Bool.true_or, Bool.or_false, Bool.false_or, decide_true, decide_false, not_true_eq_false, not_false_eq_true, b2i_t, b2i_f, true_and, and_true, false_and, and_false, Bool.true_eq_false, Bool.false_eq_true, sunkC]; rfl) | (simp [sunkC]; done) | (simp [sunkC]; rfl) | (simp [gA_pA, gI_pI, gB_pB, gL_pL, gA_pI, gA_pB, gA_pL, gI_pA, gI_pB, gI_pL, gB_pA, gB_pI, gB_pL, gL_pA, gL_pI, gL_pB, upd, vp_updL, sunkC]; done))
  · intro i hlt_4 ih_4
    refine g_iload_n (pc := 4) F 2 dX4_sunken_4 rfl rfl ?_
    refine g_aload_n (pc := 5) F 0 dX4_sunken_5 rfl rfl ?_
    refine get_c4_size (pc := 6) F tf_X4_21 dX4_sunken_6 ?_
    refine g_top (y := nI (ns)) (hs) ?_
    refine gn_icmp_ge (pc := 9) (tgt := 31) (a := i) (b := ns) F (by omega) (by omega) dX4_sunken_9 (by decide) (fun c_9 => absurd c_9 (by omega)) (fun c_9 => ?_)
    refine g_aload_n (pc := 12) F 0 dX4_sunken_12 rfl rfl ?_
    refine get_c4_place (pc := 13) F tf_X4_15 dX4_sunken_13 ?_
    refine g_iload_n (pc := 16) F 2 dX4_sunken_16 rfl rfl ?_
    refine ald_c4_place (pc := 17) (j := i) F (by omega) dX4_sunken_17 ?_
    refine g_iconst (pc := 18) (v := (-1)) F dX4_sunken_18 (by decide) ?_
    refine g_icmp_ne (pc := 19) (tgt := 25) F dX4_sunken_19 (by decide) (fun c_19 => ?_) (fun c_19 => ?_)
    · skip
      refine g_iinc (pc := 25) (v := nI (i + 1)) (lv2 := [(0, .ref (ad 2)), (1, .int (nI (cnt (fun i => decide (gA σ 14 i = -1)) i))), (2, .int (nI (i + 1)))]) F 2 [1, 2, 0] dX4_sunken_25 rfl (nI_add _ _) (by decide) rfl ?_
      refine g_goto (pc := 28) (tgt := 4) F dX4_sunken_28 (by decide) ?_
      refine g_loc [0, 1, 2] (rfl : lv_pick _ _ = [(0, .ref (ad 2)), (1, .int (nI (cnt (fun i => decide (gA σ 14 i = -1)) i))), (2, .int (nI (i + 1)))]) ?_
      refine g_eq (σ' := σ) (lv' := [(0, .ref (ad 2)), (1, .int (nI (cnt (fun i => decide (gA σ 14 i = -1)) (i + 1)))), (2, .int (nI (i + 1)))]) (st' := []) (by first | rfl | (simp only [if_true, if_false, reduceIte, Bool.not_true, Bool.not_false, Bool.and_true, Bool.true_and, Bool.and_false, Bool.false_and, Bool.or_true, Bool.true_or, Bool.or_false, Bool.false_or, decide_true, decide_false, not_true_eq_false, not_false_eq_true, b2i_t, b2i_f, true_and, and_true, false_and, and_false, Bool.true_eq_false, Bool.false_eq_true, sunkC, itr_s, cnt_s, c_19]; done) | (simp only [if_true, if_false, reduceIte, Bool.not_true, Bool.not_false, Bool.and_true, Bool.true_and, Bool.and_false, Bool.false_and, Bool.or_true, Bool.true_or, Bool.or_false, Bool.false_or, decide_true, decide_false, not_true_eq_false, not_false_eq_true, b2i_t, b2i_f, true_and, and_true, false_and, and_false, Bool.true_eq_false, Bool.false_eq_true, sunkC, itr_s, cnt_s, c_19]; rfl) | (simp only [if_true, if_false, reduceIte, Bool.not_true, Bool.not_false, Bool.and_true, Bool.true_and, Bool.and_false, Bool.false_and, Bool.or_true, Bool.true_or, Bool.or_false, Bool.false_or, decide_true, decide_false, not_true_eq_false, not_false_eq_true, b2i_t, b2i_f, true_and, and_true, false_and, and_false, Bool.true_eq_false, Bool.false_eq_true, sunkC, itr_s, cnt_s, c_19]; done) | (simp only [if_true, if_false, reduceIte, Bool.not_true, Bool.not_false, Bool.and_true, Bool.true_and, Bool.and_false, Bool.false_and, Bool.or_true, Bool.true_or, Bool.or_false, Bool.false_or, decide_true, decide_false, not_true_eq_false, not_false_eq_true, b2i_t, b2i_f, true_and, and_true, false_and, and_false, Bool.true_eq_false, Bool.false_eq_true, sunkC, itr_s, cnt_s, c_19]; rfl) | (simp [sunkC, itr_s, cnt_s, c_19]; done) | (simp [sunkC, itr_s, cnt_s, c_19]; done) | (simp [sunkC, itr_s, cnt_s, c_19]; rfl)) (by first | rfl | (simp only [if_true, if_false, reduceIte, Bool.not_true, Bool.not_false, Bool.and_true, Bool.true_and, Bool.and_false, Bool.false_and, Bool.or_true, Bool.true_or, Bool.or_false, Bool.false_or, decide_true, decide_false, not_true_eq_false, not_false_eq_true, b2i_t, b2i_f, true_and, and_true, false_and, and_false, Bool.true_eq_false, Bool.false_eq_true, sunkC, itr_s, cnt_s, c_19]; done) | (simp only [if_true, if_false, reduceIte, Bool.not_true, Bool.not_false, Bool.and_true, Bool.true_and, Bool.and_false, Bool.false_and, Bool.or_true, Bool.true_or, Bool.or_false, Bool.false_or, decide_true, decide_false, not_true_eq_false, not_false_eq_true, b2i_t, b2i_f, true_and, and_true, false_and, and_false, Bool.true_eq_false, Bool.false_eq_true, sunkC, itr_s, cnt_s, c_19]; rfl) | (simp only [if_true, if_false, reduceIte, Bool.not_true, Bool.not_false, Bool.and_true, Bool.true_and, Bool.and_false, Bool.false_and, Bool.or_true, Bool.true_or, Bool.or_false, Bool.false_or, decide_true, decide_false, not_true_eq_false, not_false_eq_true, b2i_t, b2i_f, true_and, and_true, false_and, and_false, Bool.true_eq_false, Bool.false_eq_true, sunkC, itr_s, cnt_s, c_19]; done) | (simp only [if_true, if_false, reduceIte, Bool.not_true, Bool.not_false, Bool.and_true, Bool.true_and, Bool.and_false, Bool.false_and, Bool.or_true, Bool.true_or, Bool.or_false, Bool.false_or, decide_true, decide_false, not_true_eq_false, not_false_eq_true, b2i_t, b2i_f, true_and, and_true, false_and, and_false, Bool.true_eq_false, Bool.false_eq_true, sunkC, itr_s, cnt_s, c_19]; rfl) | (simp [sunkC, itr_s, cnt_s, c_19]; done) | (simp [sunkC, itr_s, cnt_s, c_19]; done) | (simp [sunkC, itr_s, cnt_s, c_19]; rfl)) rfl (ih_4)
    · skip
      refine g_iinc (pc := 22) (v := nI (cnt (fun i => decide (gA σ 14 i = -1)) i + 1)) (lv2 := [(0, .ref (ad 2)), (1, .int (nI (cnt (fun i => decide (gA σ 14 i = -1)) i + 1))), (2, .int (nI (i)))]) F 1 [1, 0, 2] dX4_sunken_22 rfl (nI_add _ _) (by decide) rfl ?_
      refine g_iinc (pc := 25) (v := nI (i + 1)) (lv2 := [(0, .ref (ad 2)), (1, .int (nI (cnt (fun i => decide (gA σ 14 i = -1)) i + 1))), (2, .int (nI (i + 1)))]) F 2 [1, 2, 0] dX4_sunken_25 rfl (nI_add _ _) (by decide) rfl ?_
      refine g_goto (pc := 28) (tgt := 4) F dX4_sunken_28 (by decide) ?_
      refine g_loc [0, 1, 2] (rfl : lv_pick _ _ = [(0, .ref (ad 2)), (1, .int (nI (cnt (fun i => decide (gA σ 14 i = -1)) i + 1))), (2, .int (nI (i + 1)))]) ?_
      refine g_eq (σ' := σ) (lv' := [(0, .ref (ad 2)), (1, .int (nI (cnt (fun i => decide (gA σ 14 i = -1)) (i + 1)))), (2, .int (nI (i + 1)))]) (st' := []) (by first | rfl | (simp only [if_true, if_false, reduceIte, Bool.not_true, Bool.not_false, Bool.and_true, Bool.true_and, Bool.and_false, Bool.false_and, Bool.or_true, Bool.true_or, Bool.or_false, Bool.false_or, decide_true, decide_false, not_true_eq_false, not_false_eq_true, b2i_t, b2i_f, true_and, and_true, false_and, and_false, Bool.true_eq_false, Bool.false_eq_true, sunkC, itr_s, cnt_s, c_19]; done) | (simp only [if_true, if_false, reduceIte, Bool.not_true, Bool.not_false, Bool.and_true, Bool.true_and, Bool.and_false, Bool.false_and, Bool.or_true, Bool.true_or, Bool.or_false, Bool.false_or, decide_true, decide_false, not_true_eq_false, not_false_eq_true, b2i_t, b2i_f, true_and, and_true, false_and, and_false, Bool.true_eq_false, Bool.false_eq_true, sunkC, itr_s, cnt_s, c_19]; rfl) | (simp only [if_true, if_false, reduceIte, Bool.not_true, Bool.not_false, Bool.and_true, Bool.true_and, Bool.and_false, Bool.false_and, Bool.or_true, Bool.true_or, Bool.or_false, Bool.false_or, decide_true, decide_false, not_true_eq_false, not_false_eq_true, b2i_t, b2i_f, true_and, and_true, false_and, and_false, Bool.true_eq_false, Bool.false_eq_true, sunkC, itr_s, cnt_s, c_19]; done) | (simp only [if_true, if_false, reduceIte, Bool.not_true, Bool.not_false, Bool.and_true, Bool.true_and, Bool.and_false, Bool.false_and, Bool.or_true, Bool.true_or, Bool.or_false, Bool.false_or, decide_true, decide_false, not_true_eq_false, not_false_eq_true, b2i_t, b2i_f, true_and, and_true, false_and, and_false, Bool.true_eq_false, Bool.false_eq_true, sunkC, itr_s, cnt_s, c_19]; rfl) | (simp [sunkC, itr_s, cnt_s, c_19]; done) | (simp [sunkC, itr_s, cnt_s, c_19]; done) | (simp [sunkC, itr_s, cnt_s, c_19]; rfl)) (by first | rfl | (simp only [if_true, if_false, reduceIte, Bool.not_true, Bool.not_false, Bool.and_true, Bool.true_and, Bool.and_false, Bool.false_and, Bool.or_true, Bool.true_or, Bool.or_false, Bool.false_or, decide_true, decide_false, not_true_eq_false, not_false_eq_true, b2i_t, b2i_f, true_and, and_true, false_and, and_false, Bool.true_eq_false, Bool.false_eq_true, sunkC, itr_s, cnt_s, c_19]; done) | (simp only [if_true, if_false, reduceIte, Bool.not_true, Bool.not_false, Bool.and_true, Bool.true_and, Bool.and_false, Bool.false_and, Bool.or_true, Bool.true_or, Bool.or_false, Bool.false_or, decide_true, decide_false, not_true_eq_false, not_false_eq_true, b2i_t, b2i_f, true_and, and_true, false_and, and_false, Bool.true_eq_false, Bool.false_eq_true, sunkC, itr_s, cnt_s, c_19]; rfl) | (simp only [if_true, if_false, reduceIte, Bool.not_true, Bool.not_false, Bool.and_true, Bool.true_and, Bool.and_false, Bool.false_and, Bool.or_true, Bool.true_or, Bool.or_false, Bool.false_or, decide_true, decide_false, not_true_eq_false, not_false_eq_true, b2i_t, b2i_f, true_and, and_true, false_and, and_false, Bool.true_eq_false, Bool.false_eq_true, sunkC, itr_s, cnt_s, c_19]; done) | (simp only [if_true, if_false, reduceIte, Bool.not_true, Bool.not_false, Bool.and_true, Bool.true_and, Bool.and_false, Bool.false_and, Bool.or_true, Bool.true_or, Bool.or_false, Bool.false_or, decide_true, decide_false, not_true_eq_false, not_false_eq_true, b2i_t, b2i_f, true_and, and_true, false_and, and_false, Bool.true_eq_false, Bool.false_eq_true, sunkC, itr_s, cnt_s, c_19]; rfl) | (simp [sunkC, itr_s, cnt_s, c_19]; done) | (simp [sunkC, itr_s, cnt_s, c_19]; done) | (simp [sunkC, itr_s, cnt_s, c_19]; rfl)) rfl (ih_4)
set_option maxRecDepth 100000 in
set_option maxHeartbeats 4000000 in
theorem kX4_crossed (l : Launch) (D : va_G) (cT : Nat → ClassId) (ad : Nat → Nat) (σ : sS) (ns : Nat) (hs : gI σ 5 = nI ns) (hs8 : ns ≤ 8) : CT l D cT (cW cT ad) (cA ad) yX4_crossed cX4_crossed 3 (some .int) ({ frames := 0, cells := 0, slots := 0, locals := 0 } : Room) [.ref (ad 2)] σ (some (.int (nI (crossC σ ns)))) (σ) := by
  refine CT.of (by decide) (cWA cT ad) (Nat.le_of_ble_eq_true rfl) (L0 := [(0, .ref (ad 2))]) rfl ?_
  intro pp ee ss mm av bel mth cod F hr hl
  refine g_iconst (pc := 0) (v := 0) F dX4_crossed_0 (by decide) ?_
  refine g_istore_n (pc := 1) (lv2 := [(0, .ref (ad 2)), (1, .int 0)]) F [1, 0] dX4_crossed_1 rfl (by decide) rfl ?_
  refine g_iconst (pc := 2) (v := 0) F dX4_crossed_2 (by decide) ?_
  refine g_istore_n (pc := 3) (lv2 := [(0, .ref (ad 2)), (1, .int 0), (2, .int 0)]) F [1, 2, 0] dX4_crossed_3 rfl (by decide) rfl ?_
  refine g_loc [0, 1, 2] (rfl : lv_pick _ _ = [(0, .ref (ad 2)), (1, .int 0), (2, .int 0)]) ?_
  refine g_eq (σ' := σ) (lv' := [(0, .ref (ad 2)), (1, .int (nI (cnt (fun i => !decide (gA σ 15 i ≤ 0)) 0))), (2, .int (nI (0)))]) (st' := []) (by first | rfl | (simp only [if_true, if_false, reduceIte, Bool.not_true, Bool.not_false, Bool.and_true, Bool.true_and, Bool.and_false, Bool.false_and, Bool.or_true, Bool.true_or, Bool.or_false, Bool.false_or, decide_true, decide_false, not_true_eq_false, not_false_eq_true, b2i_t, b2i_f, true_and, and_true, false_and, and_false, Bool.true_eq_false, Bool.false_eq_true, crossC, itr_0, cnt_0]; done) | (simp only [if_true, if_false, reduceIte, Bool.not_true, Bool.not_false, Bool.and_true, Bool.true_and, Bool.and_false, Bool.false_and, Bool.or_true, Bool.true_or, Bool.or_false, Bool.false_or, decide_true, decide_false, not_true_eq_false, not_false_eq_true, b2i_t, b2i_f, true_and, and_true, false_and, and_false, Bool.true_eq_false, Bool.false_eq_true, crossC, itr_0, cnt_0]; rfl) | (simp [crossC, itr_0, cnt_0]; done) | (simp [crossC, itr_0, cnt_0]; rfl) | (simp [gA_pA, gI_pI, gB_pB, gL_pL, gA_pI, gA_pB, gA_pL, gI_pA, gI_pB, gI_pL, gB_pA, gB_pI, gB_pL, gL_pA, gL_pI, gL_pB, upd, vp_updL, crossC, itr_0, cnt_0]; done)) (by first | rfl | (simp only [if_true, if_false, reduceIte, Bool.not_true, Bool.not_false, Bool.and_true, Bool.true_and, Bool.and_false, Bool.false_and, Bool.or_true, Bool.true_or, Bool.or_false, Bool.false_or, decide_true, decide_false, not_true_eq_false, not_false_eq_true, b2i_t, b2i_f, true_and, and_true, false_and, and_false, Bool.true_eq_false, Bool.false_eq_true, crossC, itr_0, cnt_0]; done) | (simp only [if_true, if_false, reduceIte, Bool.not_true, Bool.not_false, Bool.and_true, Bool.true_and, Bool.and_false, Bool.false_and, Bool.or_true, Bool.true_or, Bool.or_false, Bool.false_or, decide_true, decide_false, not_true_eq_false, not_false_eq_true, b2i_t, b2i_f, true_and, and_true, false_and, and_false, Bool.true_eq_false, Bool.false_eq_true, crossC, itr_0, cnt_0]; rfl) | (simp [crossC, itr_0, cnt_0]; done) | (simp [crossC, itr_0, cnt_0]; rfl) | (simp [gA_pA, gI_pI, gB_pB, gL_pL, gA_pI, gA_pB, gA_pL, gI_pA, gI_pB, gI_pL, gB_pA, gB_pI, gB_pL, gL_pA, gL_pI, gL_pB, upd, vp_updL, crossC, itr_0, cnt_0]; done)) rfl ?_
  refine dn0 (P := fun i : Nat => G pp l ee ({ frames := 0, cells := 0, slots := 0, locals := 0 } : Room) ss mm av bel mth cod (gQ bel D (cW cT ad) (cA ad) av ss (some (.int (nI (crossC σ ns)))) (σ)) D (gR (cA ad) ss.heap.size) ss.heap 3 (cW cT ad) (σ) 4 [(0, .ref (ad 2)), (1, .int (nI (cnt (fun i => !decide (gA σ 15 i ≤ 0)) i))), (2, .int (nI (i)))] []) (n := ns) ?_ ?_
  · skip
    refine g_iload_n (pc := 4) F 2 dX4_crossed_4 rfl rfl ?_
    refine g_aload_n (pc := 5) F 0 dX4_crossed_5 rfl rfl ?_
    refine get_c4_size (pc := 6) F tf_X4_21 dX4_crossed_6 ?_
    refine g_top (y := nI (ns)) (hs) ?_
    refine gn_icmp_ge (pc := 9) (tgt := 30) (a := ns) (b := ns) F (by omega) (by omega) dX4_crossed_9 (by decide) (fun c_9 => ?_) (fun c_9 => absurd (by omega) c_9)
    refine g_iload_n (pc := 30) F 1 dX4_crossed_30 rfl rfl ?_
    exact g_iret (pc := 31) F hr hl dX4_crossed_31 (rfl) (by first | rfl | (simp only [if_true, if_false, reduceIte, Bool.not_true, Bool.not_false, Bool.and_true, Bool.true_and, Bool.and_false, Bool.false_and, Bool.or_true, Bool.true_or, Bool.or_false, Bool.false_or, decide_true, decide_false, not_true_eq_false, not_false_eq_true, b2i_t, b2i_f, true_and, and_true, false_and, and_false, Bool.true_eq_false, Bool.false_eq_true, crossC]; done) | (simp only [if_true, if_false, reduceIte, Bool.not_true, Bool.not_false, Bool.and_true, Bool.true_and, Bool.and_false, Bool.false_and, Bool.or_true, Bool.true_or, Bool.or_false, Bool.false_or, decide_true, decide_false, not_true_eq_false, not_false_eq_true, b2i_t, b2i_f, true_and, and_true, false_and, and_false, Bool.true_eq_false, Bool.false_eq_true, crossC]; rfl) | (simp [crossC]; done) | (simp [crossC]; rfl) | (simp [gA_pA, gI_pI, gB_pB, gL_pL, gA_pI, gA_pB, gA_pL, gI_pA, gI_pB, gI_pL, gB_pA, gB_pI, gB_pL, gL_pA, gL_pI, gL_pB, upd, vp_updL, crossC]; done)) (by first | rfl | (simp only [if_true, if_false, reduceIte, Bool.not_true, Bool.not_false, Bool.and_true, Bool.true_and, Bool.and_false, Bool.false_and, Bool.or_true, Bool.true_or, Bool.or_false, Bool.false_or, decide_true, decide_false, not_true_eq_false, not_false_eq_true, b2i_t, b2i_f, true_and, and_true, false_and, and_false, Bool.true_eq_false, Bool.false_eq_true, crossC]; done) | (simp only [if_true, if_false, reduceIte, Bool.not_true, Bool.not_false, Bool.and_true, Bool.true_and, Bool.and_false, Bool.false_and, Bool.or_true, Bool.true_or, Bool.or_false, Bool.false_or, decide_true, decide_false, not_true_eq_false, not_false_eq_true, b2i_t, b2i_f, true_and, and_true, false_and, and_false, Bool.true_eq_false, Bool.false_eq_true, crossC]; rfl) | (simp [crossC]; done) | (simp [crossC]; rfl) | (simp [gA_pA, gI_pI, gB_pB, gL_pL, gA_pI, gA_pB, gA_pL, gI_pA, gI_pB, gI_pL, gB_pA, gB_pI, gB_pL, gL_pA, gL_pI, gL_pB, upd, vp_updL, crossC]; done))
  · intro i hlt_4 ih_4
    refine g_iload_n (pc := 4) F 2 dX4_crossed_4 rfl rfl ?_
    refine g_aload_n (pc := 5) F 0 dX4_crossed_5 rfl rfl ?_
    refine get_c4_size (pc := 6) F tf_X4_21 dX4_crossed_6 ?_
    refine g_top (y := nI (ns)) (hs) ?_
    refine gn_icmp_ge (pc := 9) (tgt := 30) (a := i) (b := ns) F (by omega) (by omega) dX4_crossed_9 (by decide) (fun c_9 => absurd c_9 (by omega)) (fun c_9 => ?_)
    refine g_aload_n (pc := 12) F 0 dX4_crossed_12 rfl rfl ?_
    refine get_c4_owed (pc := 13) F tf_X4_18 dX4_crossed_13 ?_
    refine g_iload_n (pc := 16) F 2 dX4_crossed_16 rfl rfl ?_
    refine ald_c4_owed (pc := 17) (j := i) F (by omega) dX4_crossed_17 ?_
    refine g_if_le (pc := 18) (tgt := 24) F dX4_crossed_18 (by decide) (fun c_18 => ?_) (fun c_18 => ?_)
    · skip
      refine g_iinc (pc := 24) (v := nI (i + 1)) (lv2 := [(0, .ref (ad 2)), (1, .int (nI (cnt (fun i => !decide (gA σ 15 i ≤ 0)) i))), (2, .int (nI (i + 1)))]) F 2 [1, 2, 0] dX4_crossed_24 rfl (nI_add _ _) (by decide) rfl ?_
      refine g_goto (pc := 27) (tgt := 4) F dX4_crossed_27 (by decide) ?_
      refine g_loc [0, 1, 2] (rfl : lv_pick _ _ = [(0, .ref (ad 2)), (1, .int (nI (cnt (fun i => !decide (gA σ 15 i ≤ 0)) i))), (2, .int (nI (i + 1)))]) ?_
      refine g_eq (σ' := σ) (lv' := [(0, .ref (ad 2)), (1, .int (nI (cnt (fun i => !decide (gA σ 15 i ≤ 0)) (i + 1)))), (2, .int (nI (i + 1)))]) (st' := []) (by first | rfl | (simp only [if_true, if_false, reduceIte, Bool.not_true, Bool.not_false, Bool.and_true, Bool.true_and, Bool.and_false, Bool.false_and, Bool.or_true, Bool.true_or, Bool.or_false, Bool.false_or, decide_true, decide_false, not_true_eq_false, not_false_eq_true, b2i_t, b2i_f, true_and, and_true, false_and, and_false, Bool.true_eq_false, Bool.false_eq_true, crossC, itr_s, cnt_s, c_18]; done) | (simp only [if_true, if_false, reduceIte, Bool.not_true, Bool.not_false, Bool.and_true, Bool.true_and, Bool.and_false, Bool.false_and, Bool.or_true, Bool.true_or, Bool.or_false, Bool.false_or, decide_true, decide_false, not_true_eq_false, not_false_eq_true, b2i_t, b2i_f, true_and, and_true, false_and, and_false, Bool.true_eq_false, Bool.false_eq_true, crossC, itr_s, cnt_s, c_18]; rfl) | (simp only [if_true, if_false, reduceIte, Bool.not_true, Bool.not_false, Bool.and_true, Bool.true_and, Bool.and_false, Bool.false_and, Bool.or_true, Bool.true_or, Bool.or_false, Bool.false_or, decide_true, decide_false, not_true_eq_false, not_false_eq_true, b2i_t, b2i_f, true_and, and_true, false_and, and_false, Bool.true_eq_false, Bool.false_eq_true, crossC, itr_s, cnt_s, c_18]; done) | (simp only [if_true, if_false, reduceIte, Bool.not_true, Bool.not_false, Bool.and_true, Bool.true_and, Bool.and_false, Bool.false_and, Bool.or_true, Bool.true_or, Bool.or_false, Bool.false_or, decide_true, decide_false, not_true_eq_false, not_false_eq_true, b2i_t, b2i_f, true_and, and_true, false_and, and_false, Bool.true_eq_false, Bool.false_eq_true, crossC, itr_s, cnt_s, c_18]; rfl) | (simp [crossC, itr_s, cnt_s, c_18]; done) | (simp [crossC, itr_s, cnt_s, c_18]; done) | (simp [crossC, itr_s, cnt_s, c_18]; rfl)) (by first | rfl | (simp only [if_true, if_false, reduceIte, Bool.not_true, Bool.not_false, Bool.and_true, Bool.true_and, Bool.and_false, Bool.false_and, Bool.or_true, Bool.true_or, Bool.or_false, Bool.false_or, decide_true, decide_false, not_true_eq_false, not_false_eq_true, b2i_t, b2i_f, true_and, and_true, false_and, and_false, Bool.true_eq_false, Bool.false_eq_true, crossC, itr_s, cnt_s, c_18]; done) | (simp only [if_true, if_false, reduceIte, Bool.not_true, Bool.not_false, Bool.and_true, Bool.true_and, Bool.and_false, Bool.false_and, Bool.or_true, Bool.true_or, Bool.or_false, Bool.false_or, decide_true, decide_false, not_true_eq_false, not_false_eq_true, b2i_t, b2i_f, true_and, and_true, false_and, and_false, Bool.true_eq_false, Bool.false_eq_true, crossC, itr_s, cnt_s, c_18]; rfl) | (simp only [if_true, if_false, reduceIte, Bool.not_true, Bool.not_false, Bool.and_true, Bool.true_and, Bool.and_false, Bool.false_and, Bool.or_true, Bool.true_or, Bool.or_false, Bool.false_or, decide_true, decide_false, not_true_eq_false, not_false_eq_true, b2i_t, b2i_f, true_and, and_true, false_and, and_false, Bool.true_eq_false, Bool.false_eq_true, crossC, itr_s, cnt_s, c_18]; done) | (simp only [if_true, if_false, reduceIte, Bool.not_true, Bool.not_false, Bool.and_true, Bool.true_and, Bool.and_false, Bool.false_and, Bool.or_true, Bool.true_or, Bool.or_false, Bool.false_or, decide_true, decide_false, not_true_eq_false, not_false_eq_true, b2i_t, b2i_f, true_and, and_true, false_and, and_false, Bool.true_eq_false, Bool.false_eq_true, crossC, itr_s, cnt_s, c_18]; rfl) | (simp [crossC, itr_s, cnt_s, c_18]; done) | (simp [crossC, itr_s, cnt_s, c_18]; done) | (simp [crossC, itr_s, cnt_s, c_18]; rfl)) rfl (ih_4)
    · skip
      refine g_iinc (pc := 21) (v := nI (cnt (fun i => !decide (gA σ 15 i ≤ 0)) i + 1)) (lv2 := [(0, .ref (ad 2)), (1, .int (nI (cnt (fun i => !decide (gA σ 15 i ≤ 0)) i + 1))), (2, .int (nI (i)))]) F 1 [1, 0, 2] dX4_crossed_21 rfl (nI_add _ _) (by decide) rfl ?_
      refine g_iinc (pc := 24) (v := nI (i + 1)) (lv2 := [(0, .ref (ad 2)), (1, .int (nI (cnt (fun i => !decide (gA σ 15 i ≤ 0)) i + 1))), (2, .int (nI (i + 1)))]) F 2 [1, 2, 0] dX4_crossed_24 rfl (nI_add _ _) (by decide) rfl ?_
      refine g_goto (pc := 27) (tgt := 4) F dX4_crossed_27 (by decide) ?_
      refine g_loc [0, 1, 2] (rfl : lv_pick _ _ = [(0, .ref (ad 2)), (1, .int (nI (cnt (fun i => !decide (gA σ 15 i ≤ 0)) i + 1))), (2, .int (nI (i + 1)))]) ?_
      refine g_eq (σ' := σ) (lv' := [(0, .ref (ad 2)), (1, .int (nI (cnt (fun i => !decide (gA σ 15 i ≤ 0)) (i + 1)))), (2, .int (nI (i + 1)))]) (st' := []) (by first | rfl | (simp only [if_true, if_false, reduceIte, Bool.not_true, Bool.not_false, Bool.and_true, Bool.true_and, Bool.and_false, Bool.false_and, Bool.or_true, Bool.true_or, Bool.or_false, Bool.false_or, decide_true, decide_false, not_true_eq_false, not_false_eq_true, b2i_t, b2i_f, true_and, and_true, false_and, and_false, Bool.true_eq_false, Bool.false_eq_true, crossC, itr_s, cnt_s, c_18]; done) | (simp only [if_true, if_false, reduceIte, Bool.not_true, Bool.not_false, Bool.and_true, Bool.true_and, Bool.and_false, Bool.false_and, Bool.or_true, Bool.true_or, Bool.or_false, Bool.false_or, decide_true, decide_false, not_true_eq_false, not_false_eq_true, b2i_t, b2i_f, true_and, and_true, false_and, and_false, Bool.true_eq_false, Bool.false_eq_true, crossC, itr_s, cnt_s, c_18]; rfl) | (simp only [if_true, if_false, reduceIte, Bool.not_true, Bool.not_false, Bool.and_true, Bool.true_and, Bool.and_false, Bool.false_and, Bool.or_true, Bool.true_or, Bool.or_false, Bool.false_or, decide_true, decide_false, not_true_eq_false, not_false_eq_true, b2i_t, b2i_f, true_and, and_true, false_and, and_false, Bool.true_eq_false, Bool.false_eq_true, crossC, itr_s, cnt_s, c_18]; done) | (simp only [if_true, if_false, reduceIte, Bool.not_true, Bool.not_false, Bool.and_true, Bool.true_and, Bool.and_false, Bool.false_and, Bool.or_true, Bool.true_or, Bool.or_false, Bool.false_or, decide_true, decide_false, not_true_eq_false, not_false_eq_true, b2i_t, b2i_f, true_and, and_true, false_and, and_false, Bool.true_eq_false, Bool.false_eq_true, crossC, itr_s, cnt_s, c_18]; rfl) | (simp [crossC, itr_s, cnt_s, c_18]; done) | (simp [crossC, itr_s, cnt_s, c_18]; done) | (simp [crossC, itr_s, cnt_s, c_18]; rfl)) (by first | rfl | (simp only [if_true, if_false, reduceIte, Bool.not_true, Bool.not_false, Bool.and_true, Bool.true_and, Bool.and_false, Bool.false_and, Bool.or_true, Bool.true_or, Bool.or_false, Bool.false_or, decide_true, decide_false, not_true_eq_false, not_false_eq_true, b2i_t, b2i_f, true_and, and_true, false_and, and_false, Bool.true_eq_false, Bool.false_eq_true, crossC, itr_s, cnt_s, c_18]; done) | (simp only [if_true, if_false, reduceIte, Bool.not_true, Bool.not_false, Bool.and_true, Bool.true_and, Bool.and_false, Bool.false_and, Bool.or_true, Bool.true_or, Bool.or_false, Bool.false_or, decide_true, decide_false, not_true_eq_false, not_false_eq_true, b2i_t, b2i_f, true_and, and_true, false_and, and_false, Bool.true_eq_false, Bool.false_eq_true, crossC, itr_s, cnt_s, c_18]; rfl) | (simp only [if_true, if_false, reduceIte, Bool.not_true, Bool.not_false, Bool.and_true, Bool.true_and, Bool.and_false, Bool.false_and, Bool.or_true, Bool.true_or, Bool.or_false, Bool.false_or, decide_true, decide_false, not_true_eq_false, not_false_eq_true, b2i_t, b2i_f, true_and, and_true, false_and, and_false, Bool.true_eq_false, Bool.false_eq_true, crossC, itr_s, cnt_s, c_18]; done) | (simp only [if_true, if_false, reduceIte, Bool.not_true, Bool.not_false, Bool.and_true, Bool.true_and, Bool.and_false, Bool.false_and, Bool.or_true, Bool.true_or, Bool.or_false, Bool.false_or, decide_true, decide_false, not_true_eq_false, not_false_eq_true, b2i_t, b2i_f, true_and, and_true, false_and, and_false, Bool.true_eq_false, Bool.false_eq_true, crossC, itr_s, cnt_s, c_18]; rfl) | (simp [crossC, itr_s, cnt_s, c_18]; done) | (simp [crossC, itr_s, cnt_s, c_18]; done) | (simp [crossC, itr_s, cnt_s, c_18]; rfl)) rfl (ih_4)
set_option maxRecDepth 100000 in
set_option maxHeartbeats 4000000 in
theorem kX3_renew (l : Launch) (D : va_G) (cT : Nat → ClassId) (ad : Nat → Nat) (σ : sS) (sn : Nat) (la nn : Int32) (hsn : sn < 4) : CT l D cT (cW cT ad) (cA ad) yX3_renew cX3_renew 5 none ({ frames := 0, cells := 0, slots := 0, locals := 0 } : Room) [.ref (ad 5), .int (nI (sn)), .int (la), .int (nn)] σ none (renewC σ sn la nn) := by
  refine CT.of (by decide) (cWA cT ad) (Nat.le_of_ble_eq_true rfl) (L0 := [(0, .ref (ad 5)), (1, .int (nI (sn))), (2, .int (la)), (3, .int (nn))]) rfl ?_
  intro pp ee ss mm av bel mth cod F hr hl
  refine g_aload_n (pc := 0) F 0 dX3_renew_0 rfl rfl ?_
  refine get_c3_filled (pc := 1) F tf_X3_9 dX3_renew_1 ?_
  refine g_iload_n (pc := 4) F 1 dX3_renew_4 rfl rfl ?_
  refine g_iconst (pc := 5) (v := 1) F dX3_renew_5 (by decide) ?_
  refine ast_c3_filled (pc := 6) (j := sn) (y := b2i true) F (by omega) (rfl) dX3_renew_6 ?_
  refine g_aload_n (pc := 7) F 0 dX3_renew_7 rfl rfl ?_
  refine get_c3_lane (pc := 8) F tf_X3_15 dX3_renew_8 ?_
  refine g_iload_n (pc := 11) F 1 dX3_renew_11 rfl rfl ?_
  refine g_iload_n (pc := 12) F 2 dX3_renew_12 rfl rfl ?_
  refine ast_c3_lane (pc := 13) (j := sn) F (by omega) dX3_renew_13 ?_
  refine g_aload_n (pc := 14) F 0 dX3_renew_14 rfl rfl ?_
  refine get_c3_length (pc := 15) F tf_X3_19 dX3_renew_15 ?_
  refine g_iload_n (pc := 18) F 1 dX3_renew_18 rfl rfl ?_
  refine g_iload_n (pc := 19) F 3 dX3_renew_19 rfl rfl ?_
  refine ast_c3_length (pc := 20) (j := sn) F (by omega) dX3_renew_20 ?_
  refine g_iconst (pc := 21) (v := 0) F dX3_renew_21 (by decide) ?_
  refine g_istore (pc := 22) (lv2 := [(0, .ref (ad 5)), (1, .int (nI (sn))), (2, .int (la)), (3, .int (nn)), (4, .int 0)]) F [1, 2, 3, 4, 0] dX3_renew_22 (by decide) rfl ?_
  refine g_loc [0, 1, 4] (rfl : lv_pick _ _ = [(0, .ref (ad 5)), (1, .int (nI (sn))), (4, .int 0)]) ?_
  refine g_eq (σ' := itr (renewStep sn) 0 (pA (pA (pA σ 27 (upd (gA σ 27) sn (b2i true))) 28 (upd (gA σ 28) sn la)) 29 (upd (gA σ 29) sn nn))) (lv' := [(0, .ref (ad 5)), (1, .int (nI (sn))), (4, .int (nI (0)))]) (st' := []) (by first | rfl | (simp only [if_true, if_false, reduceIte, Bool.not_true, Bool.not_false, Bool.and_true, Bool.true_and, Bool.and_false, Bool.false_and, Bool.or_true, Bool.true_or, Bool.or_false, Bool.false_or, decide_true, decide_false, not_true_eq_false, not_false_eq_true, b2i_t, b2i_f, true_and, and_true, false_and, and_false, Bool.true_eq_false, Bool.false_eq_true, renewC, renewStep, itr_0, cnt_0]; done) | (simp only [if_true, if_false, reduceIte, Bool.not_true, Bool.not_false, Bool.and_true, Bool.true_and, Bool.and_false, Bool.false_and, Bool.or_true, Bool.true_or, Bool.or_false, Bool.false_or, decide_true, decide_false, not_true_eq_false, not_false_eq_true, b2i_t, b2i_f, true_and, and_true, false_and, and_false, Bool.true_eq_false, Bool.false_eq_true, renewC, renewStep, itr_0, cnt_0]; rfl) | (simp [renewC, renewStep, itr_0, cnt_0]; done) | (simp [renewC, renewStep, itr_0, cnt_0]; rfl) | (simp [gA_pA, gI_pI, gB_pB, gL_pL, gA_pI, gA_pB, gA_pL, gI_pA, gI_pB, gI_pL, gB_pA, gB_pI, gB_pL, gL_pA, gL_pI, gL_pB, upd, vp_updL, renewC, renewStep, itr_0, cnt_0]; done)) (by first | rfl | (simp only [if_true, if_false, reduceIte, Bool.not_true, Bool.not_false, Bool.and_true, Bool.true_and, Bool.and_false, Bool.false_and, Bool.or_true, Bool.true_or, Bool.or_false, Bool.false_or, decide_true, decide_false, not_true_eq_false, not_false_eq_true, b2i_t, b2i_f, true_and, and_true, false_and, and_false, Bool.true_eq_false, Bool.false_eq_true, renewC, renewStep, itr_0, cnt_0]; done) | (simp only [if_true, if_false, reduceIte, Bool.not_true, Bool.not_false, Bool.and_true, Bool.true_and, Bool.and_false, Bool.false_and, Bool.or_true, Bool.true_or, Bool.or_false, Bool.false_or, decide_true, decide_false, not_true_eq_false, not_false_eq_true, b2i_t, b2i_f, true_and, and_true, false_and, and_false, Bool.true_eq_false, Bool.false_eq_true, renewC, renewStep, itr_0, cnt_0]; rfl) | (simp [renewC, renewStep, itr_0, cnt_0]; done) | (simp [renewC, renewStep, itr_0, cnt_0]; rfl) | (simp [gA_pA, gI_pI, gB_pB, gL_pL, gA_pI, gA_pB, gA_pL, gI_pA, gI_pB, gI_pL, gB_pA, gB_pI, gB_pL, gL_pA, gL_pI, gL_pB, upd, vp_updL, renewC, renewStep, itr_0, cnt_0]; done)) rfl ?_
  refine dn0 (P := fun i : Nat => G pp l ee ({ frames := 0, cells := 0, slots := 0, locals := 0 } : Room) ss mm av bel mth cod (gQ bel D (cW cT ad) (cA ad) av ss none (renewC σ sn la nn)) D (gR (cA ad) ss.heap.size) ss.heap 5 (cW cT ad) (itr (renewStep sn) i (pA (pA (pA σ 27 (upd (gA σ 27) sn (b2i true))) 28 (upd (gA σ 28) sn la)) 29 (upd (gA σ 29) sn nn))) 24 [(0, .ref (ad 5)), (1, .int (nI (sn))), (4, .int (nI (i)))] []) (n := 36) ?_ ?_
  · skip
    refine g_iload (pc := 24) F 2 dX3_renew_24 rfl ?_
    refine g_bipush (pc := 26) (v := 36) F dX3_renew_26 (by decide) ?_
    refine gn_icmp_ge (pc := 28) (tgt := 50) (a := 36) (b := 36) F (by omega) (by omega) dX3_renew_28 (by decide) (fun c_28 => ?_) (fun c_28 => absurd (by omega) c_28)
    exact g_vret (pc := 50) F hr hl dX3_renew_50 rfl (by first | rfl | (simp only [if_true, if_false, reduceIte, Bool.not_true, Bool.not_false, Bool.and_true, Bool.true_and, Bool.and_false, Bool.false_and, Bool.or_true, Bool.true_or, Bool.or_false, Bool.false_or, decide_true, decide_false, not_true_eq_false, not_false_eq_true, b2i_t, b2i_f, true_and, and_true, false_and, and_false, Bool.true_eq_false, Bool.false_eq_true, renewC, renewStep]; done) | (simp only [if_true, if_false, reduceIte, Bool.not_true, Bool.not_false, Bool.and_true, Bool.true_and, Bool.and_false, Bool.false_and, Bool.or_true, Bool.true_or, Bool.or_false, Bool.false_or, decide_true, decide_false, not_true_eq_false, not_false_eq_true, b2i_t, b2i_f, true_and, and_true, false_and, and_false, Bool.true_eq_false, Bool.false_eq_true, renewC, renewStep]; rfl) | (simp [renewC, renewStep]; done) | (simp [renewC, renewStep]; rfl) | (simp [gA_pA, gI_pI, gB_pB, gL_pL, gA_pI, gA_pB, gA_pL, gI_pA, gI_pB, gI_pL, gB_pA, gB_pI, gB_pL, gL_pA, gL_pI, gL_pB, upd, vp_updL, renewC, renewStep]; done))
  · intro i hlt_24 ih_24
    refine g_iload (pc := 24) F 2 dX3_renew_24 rfl ?_
    refine g_bipush (pc := 26) (v := 36) F dX3_renew_26 (by decide) ?_
    refine gn_icmp_ge (pc := 28) (tgt := 50) (a := i) (b := 36) F (by omega) (by omega) dX3_renew_28 (by decide) (fun c_28 => absurd c_28 (by omega)) (fun c_28 => ?_)
    refine g_aload_n (pc := 31) F 0 dX3_renew_31 rfl rfl ?_
    refine get_c3_items (pc := 32) F tf_X3_22 dX3_renew_32 ?_
    refine g_iload_n (pc := 35) F 1 dX3_renew_35 rfl rfl ?_
    refine g_bipush (pc := 36) (v := 36) F dX3_renew_36 (by decide) ?_
    refine g_imul (pc := 38) (v := nI (sn * 36)) F dX3_renew_38 (pk_mul _ _) ?_
    refine g_iload (pc := 39) F 2 dX3_renew_39 rfl ?_
    refine g_iadd (pc := 41) (v := nI (sn * 36 + i)) F dX3_renew_41 (nI_add _ _) ?_
    refine g_iconst (pc := 42) (v := 0) F dX3_renew_42 (by decide) ?_
    refine ast_c3_items (pc := 43) (j := sn * 36 + i) F (by omega) dX3_renew_43 ?_
    refine g_iinc (pc := 44) (v := nI (i + 1)) (lv2 := [(0, .ref (ad 5)), (1, .int (nI (sn))), (4, .int (nI (i + 1)))]) F 2 [1, 2, 0] dX3_renew_44 rfl (nI_add _ _) (by decide) rfl ?_
    refine g_goto (pc := 47) (tgt := 24) F dX3_renew_47 (by decide) ?_
    refine g_loc [0, 1, 2] (rfl : lv_pick _ _ = [(0, .ref (ad 5)), (1, .int (nI (sn))), (4, .int (nI (i + 1)))]) ?_
    refine g_eq (σ' := itr (renewStep sn) (i + 1) (pA (pA (pA σ 27 (upd (gA σ 27) sn (b2i true))) 28 (upd (gA σ 28) sn la)) 29 (upd (gA σ 29) sn nn))) (lv' := [(0, .ref (ad 5)), (1, .int (nI (sn))), (4, .int (nI (i + 1)))]) (st' := []) (by first | rfl | (simp only [if_true, if_false, reduceIte, Bool.not_true, Bool.not_false, Bool.and_true, Bool.true_and, Bool.and_false, Bool.false_and, Bool.or_true, Bool.true_or, Bool.or_false, Bool.false_or, decide_true, decide_false, not_true_eq_false, not_false_eq_true, b2i_t, b2i_f, true_and, and_true, false_and, and_false, Bool.true_eq_false, Bool.false_eq_true, renewC, renewStep, itr_s, cnt_s]; done) | (simp only [if_true, if_false, reduceIte, Bool.not_true, Bool.not_false, Bool.and_true, Bool.true_and, Bool.and_false, Bool.false_and, Bool.or_true, Bool.true_or, Bool.or_false, Bool.false_or, decide_true, decide_false, not_true_eq_false, not_false_eq_true, b2i_t, b2i_f, true_and, and_true, false_and, and_false, Bool.true_eq_false, Bool.false_eq_true, renewC, renewStep, itr_s, cnt_s]; rfl) | (simp only [if_true, if_false, reduceIte, Bool.not_true, Bool.not_false, Bool.and_true, Bool.true_and, Bool.and_false, Bool.false_and, Bool.or_true, Bool.true_or, Bool.or_false, Bool.false_or, decide_true, decide_false, not_true_eq_false, not_false_eq_true, b2i_t, b2i_f, true_and, and_true, false_and, and_false, Bool.true_eq_false, Bool.false_eq_true, renewC, renewStep, itr_s, cnt_s]; done) | (simp only [if_true, if_false, reduceIte, Bool.not_true, Bool.not_false, Bool.and_true, Bool.true_and, Bool.and_false, Bool.false_and, Bool.or_true, Bool.true_or, Bool.or_false, Bool.false_or, decide_true, decide_false, not_true_eq_false, not_false_eq_true, b2i_t, b2i_f, true_and, and_true, false_and, and_false, Bool.true_eq_false, Bool.false_eq_true, renewC, renewStep, itr_s, cnt_s]; rfl) | (simp [renewC, renewStep, itr_s, cnt_s]; done) | (simp [renewC, renewStep, itr_s, cnt_s]; done) | (simp [renewC, renewStep, itr_s, cnt_s]; rfl)) (by first | rfl | (simp only [if_true, if_false, reduceIte, Bool.not_true, Bool.not_false, Bool.and_true, Bool.true_and, Bool.and_false, Bool.false_and, Bool.or_true, Bool.true_or, Bool.or_false, Bool.false_or, decide_true, decide_false, not_true_eq_false, not_false_eq_true, b2i_t, b2i_f, true_and, and_true, false_and, and_false, Bool.true_eq_false, Bool.false_eq_true, renewC, renewStep, itr_s, cnt_s]; done) | (simp only [if_true, if_false, reduceIte, Bool.not_true, Bool.not_false, Bool.and_true, Bool.true_and, Bool.and_false, Bool.false_and, Bool.or_true, Bool.true_or, Bool.or_false, Bool.false_or, decide_true, decide_false, not_true_eq_false, not_false_eq_true, b2i_t, b2i_f, true_and, and_true, false_and, and_false, Bool.true_eq_false, Bool.false_eq_true, renewC, renewStep, itr_s, cnt_s]; rfl) | (simp only [if_true, if_false, reduceIte, Bool.not_true, Bool.not_false, Bool.and_true, Bool.true_and, Bool.and_false, Bool.false_and, Bool.or_true, Bool.true_or, Bool.or_false, Bool.false_or, decide_true, decide_false, not_true_eq_false, not_false_eq_true, b2i_t, b2i_f, true_and, and_true, false_and, and_false, Bool.true_eq_false, Bool.false_eq_true, renewC, renewStep, itr_s, cnt_s]; done) | (simp only [if_true, if_false, reduceIte, Bool.not_true, Bool.not_false, Bool.and_true, Bool.true_and, Bool.and_false, Bool.false_and, Bool.or_true, Bool.true_or, Bool.or_false, Bool.false_or, decide_true, decide_false, not_true_eq_false, not_false_eq_true, b2i_t, b2i_f, true_and, and_true, false_and, and_false, Bool.true_eq_false, Bool.false_eq_true, renewC, renewStep, itr_s, cnt_s]; rfl) | (simp [renewC, renewStep, itr_s, cnt_s]; done) | (simp [renewC, renewStep, itr_s, cnt_s]; done) | (simp [renewC, renewStep, itr_s, cnt_s]; rfl)) rfl (ih_24)
set_option maxRecDepth 100000 in
set_option maxHeartbeats 4000000 in
theorem kX3_write (l : Launch) (D : va_G) (cT : Nat → ClassId) (ad : Nat → Nat) (σ : sS) (sn j : Nat) (v : Int32) (hsn : sn < 4) (hj : j < 36) : CT l D cT (cW cT ad) (cA ad) yX3_write cX3_write 5 none ({ frames := 0, cells := 0, slots := 0, locals := 0 } : Room) [.ref (ad 5), .int (nI (sn)), .int (nI (j)), .int (v)] σ none (writeC σ sn j v) := by
  refine CT.of (by decide) (cWA cT ad) (Nat.le_of_ble_eq_true rfl) (L0 := [(0, .ref (ad 5)), (1, .int (nI (sn))), (2, .int (nI (j))), (3, .int (v))]) rfl ?_
  intro pp ee ss mm av bel mth cod F hr hl
  refine g_aload_n (pc := 0) F 0 dX3_write_0 rfl rfl ?_
  refine get_c3_lane (pc := 1) F tf_X3_15 dX3_write_1 ?_
  refine g_iload_n (pc := 4) F 1 dX3_write_4 rfl rfl ?_
  refine ald_c3_lane (pc := 5) (j := sn) F (by omega) dX3_write_5 ?_
  refine g_if_ne (pc := 6) (tgt := 14) F dX3_write_6 (by decide) (fun c_6 => ?_) (fun c_6 => ?_)
  · skip
    refine g_aload_n (pc := 14) F 0 dX3_write_14 rfl rfl ?_
    refine get_c3_lane (pc := 15) F tf_X3_15 dX3_write_15 ?_
    refine g_iload_n (pc := 18) F 1 dX3_write_18 rfl rfl ?_
    refine ald_c3_lane (pc := 19) (j := sn) F (by omega) dX3_write_19 ?_
    refine g_iconst (pc := 20) (v := 1) F dX3_write_20 (by decide) ?_
    refine g_icmp_ne (pc := 21) (tgt := 29) F dX3_write_21 (by decide) (fun c_21 => ?_) (fun c_21 => ?_)
    · skip
      refine g_iload_n (pc := 29) F 3 dX3_write_29 rfl rfl ?_
      refine g_istore (pc := 30) (lv2 := [(0, .ref (ad 5)), (1, .int (nI (sn))), (2, .int (nI (j))), (3, .int (v)), (4, .int (v))]) F [1, 2, 3, 4, 0] dX3_write_30 (by decide) rfl ?_
      refine g_aload_n (pc := 32) F 0 dX3_write_32 rfl rfl ?_
      refine get_c3_items (pc := 33) F tf_X3_22 dX3_write_33 ?_
      refine g_iload_n (pc := 36) F 1 dX3_write_36 rfl rfl ?_
      refine g_bipush (pc := 37) (v := 36) F dX3_write_37 (by decide) ?_
      refine g_imul (pc := 39) (v := nI (sn * 36)) F dX3_write_39 (pk_mul _ _) ?_
      refine g_iload_n (pc := 40) F 2 dX3_write_40 rfl rfl ?_
      refine g_iadd (pc := 41) (v := nI (sn * 36 + j)) F dX3_write_41 (nI_add _ _) ?_
      refine g_iload (pc := 42) F 4 dX3_write_42 rfl ?_
      refine ast_c3_items (pc := 44) (j := sn * 36 + j) F (by omega) dX3_write_44 ?_
      exact g_vret (pc := 45) F hr hl dX3_write_45 rfl (by first | rfl | (simp only [if_true, if_false, reduceIte, Bool.not_true, Bool.not_false, Bool.and_true, Bool.true_and, Bool.and_false, Bool.false_and, Bool.or_true, Bool.true_or, Bool.or_false, Bool.false_or, decide_true, decide_false, not_true_eq_false, not_false_eq_true, b2i_t, b2i_f, true_and, and_true, false_and, and_false, Bool.true_eq_false, Bool.false_eq_true, writeC, c_6, c_21]; done) | (simp only [if_true, if_false, reduceIte, Bool.not_true, Bool.not_false, Bool.and_true, Bool.true_and, Bool.and_false, Bool.false_and, Bool.or_true, Bool.true_or, Bool.or_false, Bool.false_or, decide_true, decide_false, not_true_eq_false, not_false_eq_true, b2i_t, b2i_f, true_and, and_true, false_and, and_false, Bool.true_eq_false, Bool.false_eq_true, writeC, c_6, c_21]; rfl) | (simp [writeC, c_6, c_21]; done) | (simp [writeC, c_6, c_21]; rfl) | (simp [gA_pA, gI_pI, gB_pB, gL_pL, gA_pI, gA_pB, gA_pL, gI_pA, gI_pB, gI_pL, gB_pA, gB_pI, gB_pL, gL_pA, gL_pI, gL_pB, upd, vp_updL, writeC, c_6, c_21]; done))
    · skip
      refine g_iload_n (pc := 24) F 3 dX3_write_24 rfl rfl ?_
      refine g_i2s (pc := 25) (v := (v).toInt16.toInt32) F dX3_write_25 (rfl) ?_
      refine g_goto (pc := 26) (tgt := 30) F dX3_write_26 (by decide) ?_
      refine g_istore (pc := 30) (lv2 := [(0, .ref (ad 5)), (1, .int (nI (sn))), (2, .int (nI (j))), (3, .int (v)), (4, .int ((v).toInt16.toInt32))]) F [1, 2, 3, 4, 0] dX3_write_30 (by decide) rfl ?_
      refine g_aload_n (pc := 32) F 0 dX3_write_32 rfl rfl ?_
      refine get_c3_items (pc := 33) F tf_X3_22 dX3_write_33 ?_
      refine g_iload_n (pc := 36) F 1 dX3_write_36 rfl rfl ?_
      refine g_bipush (pc := 37) (v := 36) F dX3_write_37 (by decide) ?_
      refine g_imul (pc := 39) (v := nI (sn * 36)) F dX3_write_39 (pk_mul _ _) ?_
      refine g_iload_n (pc := 40) F 2 dX3_write_40 rfl rfl ?_
      refine g_iadd (pc := 41) (v := nI (sn * 36 + j)) F dX3_write_41 (nI_add _ _) ?_
      refine g_iload (pc := 42) F 4 dX3_write_42 rfl ?_
      refine ast_c3_items (pc := 44) (j := sn * 36 + j) F (by omega) dX3_write_44 ?_
      exact g_vret (pc := 45) F hr hl dX3_write_45 rfl (by first | rfl | (simp only [if_true, if_false, reduceIte, Bool.not_true, Bool.not_false, Bool.and_true, Bool.true_and, Bool.and_false, Bool.false_and, Bool.or_true, Bool.true_or, Bool.or_false, Bool.false_or, decide_true, decide_false, not_true_eq_false, not_false_eq_true, b2i_t, b2i_f, true_and, and_true, false_and, and_false, Bool.true_eq_false, Bool.false_eq_true, writeC, c_6, c_21]; done) | (simp only [if_true, if_false, reduceIte, Bool.not_true, Bool.not_false, Bool.and_true, Bool.true_and, Bool.and_false, Bool.false_and, Bool.or_true, Bool.true_or, Bool.or_false, Bool.false_or, decide_true, decide_false, not_true_eq_false, not_false_eq_true, b2i_t, b2i_f, true_and, and_true, false_and, and_false, Bool.true_eq_false, Bool.false_eq_true, writeC, c_6, c_21]; rfl) | (simp [writeC, c_6, c_21]; done) | (simp [writeC, c_6, c_21]; rfl) | (simp [gA_pA, gI_pI, gB_pB, gL_pL, gA_pI, gA_pB, gA_pL, gI_pA, gI_pB, gI_pL, gB_pA, gB_pI, gB_pL, gL_pA, gL_pI, gL_pB, upd, vp_updL, writeC, c_6, c_21]; done))
  · skip
    refine g_iload_n (pc := 9) F 3 dX3_write_9 rfl rfl ?_
    refine g_i2b (pc := 10) (v := (v).toInt8.toInt32) F dX3_write_10 (rfl) ?_
    refine g_goto (pc := 11) (tgt := 30) F dX3_write_11 (by decide) ?_
    refine g_istore (pc := 30) (lv2 := [(0, .ref (ad 5)), (1, .int (nI (sn))), (2, .int (nI (j))), (3, .int (v)), (4, .int ((v).toInt8.toInt32))]) F [1, 2, 3, 4, 0] dX3_write_30 (by decide) rfl ?_
    refine g_aload_n (pc := 32) F 0 dX3_write_32 rfl rfl ?_
    refine get_c3_items (pc := 33) F tf_X3_22 dX3_write_33 ?_
    refine g_iload_n (pc := 36) F 1 dX3_write_36 rfl rfl ?_
    refine g_bipush (pc := 37) (v := 36) F dX3_write_37 (by decide) ?_
    refine g_imul (pc := 39) (v := nI (sn * 36)) F dX3_write_39 (pk_mul _ _) ?_
    refine g_iload_n (pc := 40) F 2 dX3_write_40 rfl rfl ?_
    refine g_iadd (pc := 41) (v := nI (sn * 36 + j)) F dX3_write_41 (nI_add _ _) ?_
    refine g_iload (pc := 42) F 4 dX3_write_42 rfl ?_
    refine ast_c3_items (pc := 44) (j := sn * 36 + j) F (by omega) dX3_write_44 ?_
    exact g_vret (pc := 45) F hr hl dX3_write_45 rfl (by first | rfl | (simp only [if_true, if_false, reduceIte, Bool.not_true, Bool.not_false, Bool.and_true, Bool.true_and, Bool.and_false, Bool.false_and, Bool.or_true, Bool.true_or, Bool.or_false, Bool.false_or, decide_true, decide_false, not_true_eq_false, not_false_eq_true, b2i_t, b2i_f, true_and, and_true, false_and, and_false, Bool.true_eq_false, Bool.false_eq_true, writeC, c_6]; done) | (simp only [if_true, if_false, reduceIte, Bool.not_true, Bool.not_false, Bool.and_true, Bool.true_and, Bool.and_false, Bool.false_and, Bool.or_true, Bool.true_or, Bool.or_false, Bool.false_or, decide_true, decide_false, not_true_eq_false, not_false_eq_true, b2i_t, b2i_f, true_and, and_true, false_and, and_false, Bool.true_eq_false, Bool.false_eq_true, writeC, c_6]; rfl) | (simp [writeC, c_6]; done) | (simp [writeC, c_6]; rfl) | (simp [gA_pA, gI_pI, gB_pB, gL_pL, gA_pI, gA_pB, gA_pL, gI_pA, gI_pB, gI_pL, gB_pA, gB_pI, gB_pL, gL_pA, gL_pI, gL_pB, upd, vp_updL, writeC, c_6]; done))
set_option maxRecDepth 100000 in
set_option maxHeartbeats 4000000 in
theorem kX1_forget (l : Launch) (D : va_G) (cT : Nat → ClassId) (ad : Nat → Nat) (σ : sS)  : CT l D cT (cW cT ad) (cA ad) yX1_forget cX1_forget 2 none ({ frames := 0, cells := 0, slots := 0, locals := 0 } : Room) [.ref (ad 4)] σ none (forgetC σ) := by
  refine CT.of (by decide) (cWA cT ad) (Nat.le_of_ble_eq_true rfl) (L0 := [(0, .ref (ad 4))]) rfl ?_
  intro pp ee ss mm av bel mth cod F hr hl
  refine g_iconst (pc := 0) (v := 0) F dX1_forget_0 (by decide) ?_
  refine g_istore_n (pc := 1) (lv2 := [(0, .ref (ad 4)), (1, .int 0)]) F [1, 0] dX1_forget_1 rfl (by decide) rfl ?_
  refine g_loc [0, 1] (rfl : lv_pick _ _ = [(0, .ref (ad 4)), (1, .int 0)]) ?_
  refine g_eq (σ' := itr forget1 0 σ) (lv' := [(0, .ref (ad 4)), (1, .int (nI (0)))]) (st' := []) (by first | rfl | (simp only [if_true, if_false, reduceIte, Bool.not_true, Bool.not_false, Bool.and_true, Bool.true_and, Bool.and_false, Bool.false_and, Bool.or_true, Bool.true_or, Bool.or_false, Bool.false_or, decide_true, decide_false, not_true_eq_false, not_false_eq_true, b2i_t, b2i_f, true_and, and_true, false_and, and_false, Bool.true_eq_false, Bool.false_eq_true, forgetC, itr_0, cnt_0]; done) | (simp only [if_true, if_false, reduceIte, Bool.not_true, Bool.not_false, Bool.and_true, Bool.true_and, Bool.and_false, Bool.false_and, Bool.or_true, Bool.true_or, Bool.or_false, Bool.false_or, decide_true, decide_false, not_true_eq_false, not_false_eq_true, b2i_t, b2i_f, true_and, and_true, false_and, and_false, Bool.true_eq_false, Bool.false_eq_true, forgetC, itr_0, cnt_0]; rfl) | (simp [forgetC, itr_0, cnt_0]; done) | (simp [forgetC, itr_0, cnt_0]; rfl) | (simp [gA_pA, gI_pI, gB_pB, gL_pL, gA_pI, gA_pB, gA_pL, gI_pA, gI_pB, gI_pL, gB_pA, gB_pI, gB_pL, gL_pA, gL_pI, gL_pB, upd, vp_updL, forgetC, itr_0, cnt_0]; done)) (by first | rfl | (simp only [if_true, if_false, reduceIte, Bool.not_true, Bool.not_false, Bool.and_true, Bool.true_and, Bool.and_false, Bool.false_and, Bool.or_true, Bool.true_or, Bool.or_false, Bool.false_or, decide_true, decide_false, not_true_eq_false, not_false_eq_true, b2i_t, b2i_f, true_and, and_true, false_and, and_false, Bool.true_eq_false, Bool.false_eq_true, forgetC, itr_0, cnt_0]; done) | (simp only [if_true, if_false, reduceIte, Bool.not_true, Bool.not_false, Bool.and_true, Bool.true_and, Bool.and_false, Bool.false_and, Bool.or_true, Bool.true_or, Bool.or_false, Bool.false_or, decide_true, decide_false, not_true_eq_false, not_false_eq_true, b2i_t, b2i_f, true_and, and_true, false_and, and_false, Bool.true_eq_false, Bool.false_eq_true, forgetC, itr_0, cnt_0]; rfl) | (simp [forgetC, itr_0, cnt_0]; done) | (simp [forgetC, itr_0, cnt_0]; rfl) | (simp [gA_pA, gI_pI, gB_pB, gL_pL, gA_pI, gA_pB, gA_pL, gI_pA, gI_pB, gI_pL, gB_pA, gB_pI, gB_pL, gL_pA, gL_pI, gL_pB, upd, vp_updL, forgetC, itr_0, cnt_0]; done)) rfl ?_
  refine dn0 (P := fun i : Nat => G pp l ee ({ frames := 0, cells := 0, slots := 0, locals := 0 } : Room) ss mm av bel mth cod (gQ bel D (cW cT ad) (cA ad) av ss none (forgetC σ)) D (gR (cA ad) ss.heap.size) ss.heap 2 (cW cT ad) (itr forget1 i σ) 2 [(0, .ref (ad 4)), (1, .int (nI (i)))] []) (n := 128) ?_ ?_
  · skip
    refine g_iload_n (pc := 2) F 1 dX1_forget_2 rfl rfl ?_
    refine g_aload_n (pc := 3) F 0 dX1_forget_3 rfl rfl ?_
    refine get_c1_owned (pc := 4) F tf_X1_9 dX1_forget_4 ?_
    refine aln_c1_owned (pc := 7) F dX1_forget_7 ?_
    refine gn_icmp_ge (pc := 8) (tgt := 31) (a := 128) (b := 128) F (by omega) (by omega) dX1_forget_8 (by decide) (fun c_8 => ?_) (fun c_8 => absurd (by omega) c_8)
    refine g_iconst (pc := 31) (v := 0) F dX1_forget_31 (by decide) ?_
    refine g_istore_n (pc := 32) (lv2 := [(0, .ref (ad 4)), (1, .int 0)]) F [1, 0] dX1_forget_32 rfl (by decide) rfl ?_
    refine g_loc [0, 1] (rfl : lv_pick _ _ = [(0, .ref (ad 4)), (1, .int 0)]) ?_
    refine g_eq (σ' := itr forget2 0 (itr forget1 128 σ)) (lv' := [(0, .ref (ad 4)), (1, .int (nI (0)))]) (st' := []) (by first | rfl | (simp only [if_true, if_false, reduceIte, Bool.not_true, Bool.not_false, Bool.and_true, Bool.true_and, Bool.and_false, Bool.false_and, Bool.or_true, Bool.true_or, Bool.or_false, Bool.false_or, decide_true, decide_false, not_true_eq_false, not_false_eq_true, b2i_t, b2i_f, true_and, and_true, false_and, and_false, Bool.true_eq_false, Bool.false_eq_true, forgetC, itr_0, cnt_0]; done) | (simp only [if_true, if_false, reduceIte, Bool.not_true, Bool.not_false, Bool.and_true, Bool.true_and, Bool.and_false, Bool.false_and, Bool.or_true, Bool.true_or, Bool.or_false, Bool.false_or, decide_true, decide_false, not_true_eq_false, not_false_eq_true, b2i_t, b2i_f, true_and, and_true, false_and, and_false, Bool.true_eq_false, Bool.false_eq_true, forgetC, itr_0, cnt_0]; rfl) | (simp [forgetC, itr_0, cnt_0]; done) | (simp [forgetC, itr_0, cnt_0]; rfl) | (simp [gA_pA, gI_pI, gB_pB, gL_pL, gA_pI, gA_pB, gA_pL, gI_pA, gI_pB, gI_pL, gB_pA, gB_pI, gB_pL, gL_pA, gL_pI, gL_pB, upd, vp_updL, forgetC, itr_0, cnt_0]; done)) (by first | rfl | (simp only [if_true, if_false, reduceIte, Bool.not_true, Bool.not_false, Bool.and_true, Bool.true_and, Bool.and_false, Bool.false_and, Bool.or_true, Bool.true_or, Bool.or_false, Bool.false_or, decide_true, decide_false, not_true_eq_false, not_false_eq_true, b2i_t, b2i_f, true_and, and_true, false_and, and_false, Bool.true_eq_false, Bool.false_eq_true, forgetC, itr_0, cnt_0]; done) | (simp only [if_true, if_false, reduceIte, Bool.not_true, Bool.not_false, Bool.and_true, Bool.true_and, Bool.and_false, Bool.false_and, Bool.or_true, Bool.true_or, Bool.or_false, Bool.false_or, decide_true, decide_false, not_true_eq_false, not_false_eq_true, b2i_t, b2i_f, true_and, and_true, false_and, and_false, Bool.true_eq_false, Bool.false_eq_true, forgetC, itr_0, cnt_0]; rfl) | (simp [forgetC, itr_0, cnt_0]; done) | (simp [forgetC, itr_0, cnt_0]; rfl) | (simp [gA_pA, gI_pI, gB_pB, gL_pL, gA_pI, gA_pB, gA_pL, gI_pA, gI_pB, gI_pL, gB_pA, gB_pI, gB_pL, gL_pA, gL_pI, gL_pB, upd, vp_updL, forgetC, itr_0, cnt_0]; done)) rfl ?_
    refine dn0 (P := fun i : Nat => G pp l ee ({ frames := 0, cells := 0, slots := 0, locals := 0 } : Room) ss mm av bel mth cod (gQ bel D (cW cT ad) (cA ad) av ss none (forgetC σ)) D (gR (cA ad) ss.heap.size) ss.heap 2 (cW cT ad) (itr forget2 i (itr forget1 128 σ)) 33 [(0, .ref (ad 4)), (1, .int (nI (i)))] []) (n := 8) ?_ ?_
    · skip
      refine g_iload_n (pc := 33) F 1 dX1_forget_33 rfl rfl ?_
      refine g_aload_n (pc := 34) F 0 dX1_forget_34 rfl rfl ?_
      refine get_c1_praise (pc := 35) F tf_X1_18 dX1_forget_35 ?_
      refine aln_c1_praise (pc := 38) F dX1_forget_38 ?_
      refine gn_icmp_ge (pc := 39) (tgt := 55) (a := 8) (b := 8) F (by omega) (by omega) dX1_forget_39 (by decide) (fun c_39 => ?_) (fun c_39 => absurd (by omega) c_39)
      refine g_aload_n (pc := 55) F 0 dX1_forget_55 rfl rfl ?_
      refine g_lconst (pc := 56) (v := 0) F dX1_forget_56 (by decide) ?_
      refine put_c1_holding (pc := 57) F tf_X1_21 dX1_forget_57 ?_
      refine g_aload_n (pc := 60) F 0 dX1_forget_60 rfl rfl ?_
      refine g_lconst (pc := 61) (v := 0) F dX1_forget_61 (by decide) ?_
      refine put_c1_freed (pc := 62) F tf_X1_25 dX1_forget_62 ?_
      refine g_aload_n (pc := 65) F 0 dX1_forget_65 rfl rfl ?_
      refine g_iconst (pc := 66) (v := 0) F dX1_forget_66 (by decide) ?_
      refine put_c1_found (pc := 67) F tf_X1_28 dX1_forget_67 ?_
      exact g_vret (pc := 70) F hr hl dX1_forget_70 rfl (by first | rfl | (simp only [if_true, if_false, reduceIte, Bool.not_true, Bool.not_false, Bool.and_true, Bool.true_and, Bool.and_false, Bool.false_and, Bool.or_true, Bool.true_or, Bool.or_false, Bool.false_or, decide_true, decide_false, not_true_eq_false, not_false_eq_true, b2i_t, b2i_f, true_and, and_true, false_and, and_false, Bool.true_eq_false, Bool.false_eq_true, forgetC]; done) | (simp only [if_true, if_false, reduceIte, Bool.not_true, Bool.not_false, Bool.and_true, Bool.true_and, Bool.and_false, Bool.false_and, Bool.or_true, Bool.true_or, Bool.or_false, Bool.false_or, decide_true, decide_false, not_true_eq_false, not_false_eq_true, b2i_t, b2i_f, true_and, and_true, false_and, and_false, Bool.true_eq_false, Bool.false_eq_true, forgetC]; rfl) | (simp [forgetC]; done) | (simp [forgetC]; rfl) | (simp [gA_pA, gI_pI, gB_pB, gL_pL, gA_pI, gA_pB, gA_pL, gI_pA, gI_pB, gI_pL, gB_pA, gB_pI, gB_pL, gL_pA, gL_pI, gL_pB, upd, vp_updL, forgetC]; done))
    · intro i hlt_33 ih_33
      refine g_iload_n (pc := 33) F 1 dX1_forget_33 rfl rfl ?_
      refine g_aload_n (pc := 34) F 0 dX1_forget_34 rfl rfl ?_
      refine get_c1_praise (pc := 35) F tf_X1_18 dX1_forget_35 ?_
      refine aln_c1_praise (pc := 38) F dX1_forget_38 ?_
      refine gn_icmp_ge (pc := 39) (tgt := 55) (a := i) (b := 8) F (by omega) (by omega) dX1_forget_39 (by decide) (fun c_39 => absurd c_39 (by omega)) (fun c_39 => ?_)
      refine g_aload_n (pc := 42) F 0 dX1_forget_42 rfl rfl ?_
      refine get_c1_praise (pc := 43) F tf_X1_18 dX1_forget_43 ?_
      refine g_iload_n (pc := 46) F 1 dX1_forget_46 rfl rfl ?_
      refine g_iconst (pc := 47) (v := 0) F dX1_forget_47 (by decide) ?_
      refine ast_c1_praise (pc := 48) (j := i) F (by omega) dX1_forget_48 ?_
      refine g_iinc (pc := 49) (v := nI (i + 1)) (lv2 := [(0, .ref (ad 4)), (1, .int (nI (i + 1)))]) F 1 [1, 0] dX1_forget_49 rfl (nI_add _ _) (by decide) rfl ?_
      refine g_goto (pc := 52) (tgt := 33) F dX1_forget_52 (by decide) ?_
      refine g_loc [0, 1] (rfl : lv_pick _ _ = [(0, .ref (ad 4)), (1, .int (nI (i + 1)))]) ?_
      refine g_eq (σ' := itr forget2 (i + 1) (itr forget1 128 σ)) (lv' := [(0, .ref (ad 4)), (1, .int (nI (i + 1)))]) (st' := []) (by first | rfl | (simp only [if_true, if_false, reduceIte, Bool.not_true, Bool.not_false, Bool.and_true, Bool.true_and, Bool.and_false, Bool.false_and, Bool.or_true, Bool.true_or, Bool.or_false, Bool.false_or, decide_true, decide_false, not_true_eq_false, not_false_eq_true, b2i_t, b2i_f, true_and, and_true, false_and, and_false, Bool.true_eq_false, Bool.false_eq_true, forgetC, itr_s, cnt_s]; done) | (simp only [if_true, if_false, reduceIte, Bool.not_true, Bool.not_false, Bool.and_true, Bool.true_and, Bool.and_false, Bool.false_and, Bool.or_true, Bool.true_or, Bool.or_false, Bool.false_or, decide_true, decide_false, not_true_eq_false, not_false_eq_true, b2i_t, b2i_f, true_and, and_true, false_and, and_false, Bool.true_eq_false, Bool.false_eq_true, forgetC, itr_s, cnt_s]; rfl) | (simp only [if_true, if_false, reduceIte, Bool.not_true, Bool.not_false, Bool.and_true, Bool.true_and, Bool.and_false, Bool.false_and, Bool.or_true, Bool.true_or, Bool.or_false, Bool.false_or, decide_true, decide_false, not_true_eq_false, not_false_eq_true, b2i_t, b2i_f, true_and, and_true, false_and, and_false, Bool.true_eq_false, Bool.false_eq_true, forgetC, itr_s, cnt_s]; done) | (simp only [if_true, if_false, reduceIte, Bool.not_true, Bool.not_false, Bool.and_true, Bool.true_and, Bool.and_false, Bool.false_and, Bool.or_true, Bool.true_or, Bool.or_false, Bool.false_or, decide_true, decide_false, not_true_eq_false, not_false_eq_true, b2i_t, b2i_f, true_and, and_true, false_and, and_false, Bool.true_eq_false, Bool.false_eq_true, forgetC, itr_s, cnt_s]; rfl) | (simp [forgetC, itr_s, cnt_s]; done) | (simp [forgetC, itr_s, cnt_s]; done) | (simp [forgetC, itr_s, cnt_s]; rfl)) (by first | rfl | (simp only [if_true, if_false, reduceIte, Bool.not_true, Bool.not_false, Bool.and_true, Bool.true_and, Bool.and_false, Bool.false_and, Bool.or_true, Bool.true_or, Bool.or_false, Bool.false_or, decide_true, decide_false, not_true_eq_false, not_false_eq_true, b2i_t, b2i_f, true_and, and_true, false_and, and_false, Bool.true_eq_false, Bool.false_eq_true, forgetC, itr_s, cnt_s]; done) | (simp only [if_true, if_false, reduceIte, Bool.not_true, Bool.not_false, Bool.and_true, Bool.true_and, Bool.and_false, Bool.false_and, Bool.or_true, Bool.true_or, Bool.or_false, Bool.false_or, decide_true, decide_false, not_true_eq_false, not_false_eq_true, b2i_t, b2i_f, true_and, and_true, false_and, and_false, Bool.true_eq_false, Bool.false_eq_true, forgetC, itr_s, cnt_s]; rfl) | (simp only [if_true, if_false, reduceIte, Bool.not_true, Bool.not_false, Bool.and_true, Bool.true_and, Bool.and_false, Bool.false_and, Bool.or_true, Bool.true_or, Bool.or_false, Bool.false_or, decide_true, decide_false, not_true_eq_false, not_false_eq_true, b2i_t, b2i_f, true_and, and_true, false_and, and_false, Bool.true_eq_false, Bool.false_eq_true, forgetC, itr_s, cnt_s]; done) | (simp only [if_true, if_false, reduceIte, Bool.not_true, Bool.not_false, Bool.and_true, Bool.true_and, Bool.and_false, Bool.false_and, Bool.or_true, Bool.true_or, Bool.or_false, Bool.false_or, decide_true, decide_false, not_true_eq_false, not_false_eq_true, b2i_t, b2i_f, true_and, and_true, false_and, and_false, Bool.true_eq_false, Bool.false_eq_true, forgetC, itr_s, cnt_s]; rfl) | (simp [forgetC, itr_s, cnt_s]; done) | (simp [forgetC, itr_s, cnt_s]; done) | (simp [forgetC, itr_s, cnt_s]; rfl)) rfl (ih_33)
  · intro i hlt_2 ih_2
    refine g_iload_n (pc := 2) F 1 dX1_forget_2 rfl rfl ?_
    refine g_aload_n (pc := 3) F 0 dX1_forget_3 rfl rfl ?_
    refine get_c1_owned (pc := 4) F tf_X1_9 dX1_forget_4 ?_
    refine aln_c1_owned (pc := 7) F dX1_forget_7 ?_
    refine gn_icmp_ge (pc := 8) (tgt := 31) (a := i) (b := 128) F (by omega) (by omega) dX1_forget_8 (by decide) (fun c_8 => absurd c_8 (by omega)) (fun c_8 => ?_)
    refine g_aload_n (pc := 11) F 0 dX1_forget_11 rfl rfl ?_
    refine get_c1_owned (pc := 12) F tf_X1_9 dX1_forget_12 ?_
    refine g_iload_n (pc := 15) F 1 dX1_forget_15 rfl rfl ?_
    refine g_iconst (pc := 16) (v := 0) F dX1_forget_16 (by decide) ?_
    refine ast_c1_owned (pc := 17) (j := i) F (by omega) dX1_forget_17 ?_
    refine g_aload_n (pc := 18) F 0 dX1_forget_18 rfl rfl ?_
    refine get_c1_tied (pc := 19) F tf_X1_15 dX1_forget_19 ?_
    refine g_iload_n (pc := 22) F 1 dX1_forget_22 rfl rfl ?_
    refine g_iconst (pc := 23) (v := 0) F dX1_forget_23 (by decide) ?_
    refine ast_c1_tied (pc := 24) (j := i) F (by omega) dX1_forget_24 ?_
    refine g_iinc (pc := 25) (v := nI (i + 1)) (lv2 := [(0, .ref (ad 4)), (1, .int (nI (i + 1)))]) F 1 [1, 0] dX1_forget_25 rfl (nI_add _ _) (by decide) rfl ?_
    refine g_goto (pc := 28) (tgt := 2) F dX1_forget_28 (by decide) ?_
    refine g_loc [0, 1] (rfl : lv_pick _ _ = [(0, .ref (ad 4)), (1, .int (nI (i + 1)))]) ?_
    refine g_eq (σ' := itr forget1 (i + 1) σ) (lv' := [(0, .ref (ad 4)), (1, .int (nI (i + 1)))]) (st' := []) (by first | rfl | (simp only [if_true, if_false, reduceIte, Bool.not_true, Bool.not_false, Bool.and_true, Bool.true_and, Bool.and_false, Bool.false_and, Bool.or_true, Bool.true_or, Bool.or_false, Bool.false_or, decide_true, decide_false, not_true_eq_false, not_false_eq_true, b2i_t, b2i_f, true_and, and_true, false_and, and_false, Bool.true_eq_false, Bool.false_eq_true, forgetC, itr_s, cnt_s]; done) | (simp only [if_true, if_false, reduceIte, Bool.not_true, Bool.not_false, Bool.and_true, Bool.true_and, Bool.and_false, Bool.false_and, Bool.or_true, Bool.true_or, Bool.or_false, Bool.false_or, decide_true, decide_false, not_true_eq_false, not_false_eq_true, b2i_t, b2i_f, true_and, and_true, false_and, and_false, Bool.true_eq_false, Bool.false_eq_true, forgetC, itr_s, cnt_s]; rfl) | (simp only [if_true, if_false, reduceIte, Bool.not_true, Bool.not_false, Bool.and_true, Bool.true_and, Bool.and_false, Bool.false_and, Bool.or_true, Bool.true_or, Bool.or_false, Bool.false_or, decide_true, decide_false, not_true_eq_false, not_false_eq_true, b2i_t, b2i_f, true_and, and_true, false_and, and_false, Bool.true_eq_false, Bool.false_eq_true, forgetC, itr_s, cnt_s]; done) | (simp only [if_true, if_false, reduceIte, Bool.not_true, Bool.not_false, Bool.and_true, Bool.true_and, Bool.and_false, Bool.false_and, Bool.or_true, Bool.true_or, Bool.or_false, Bool.false_or, decide_true, decide_false, not_true_eq_false, not_false_eq_true, b2i_t, b2i_f, true_and, and_true, false_and, and_false, Bool.true_eq_false, Bool.false_eq_true, forgetC, itr_s, cnt_s]; rfl) | (simp [forgetC, itr_s, cnt_s]; done) | (simp [forgetC, itr_s, cnt_s]; done) | (simp [forgetC, itr_s, cnt_s]; rfl)) (by first | rfl | (simp only [if_true, if_false, reduceIte, Bool.not_true, Bool.not_false, Bool.and_true, Bool.true_and, Bool.and_false, Bool.false_and, Bool.or_true, Bool.true_or, Bool.or_false, Bool.false_or, decide_true, decide_false, not_true_eq_false, not_false_eq_true, b2i_t, b2i_f, true_and, and_true, false_and, and_false, Bool.true_eq_false, Bool.false_eq_true, forgetC, itr_s, cnt_s]; done) | (simp only [if_true, if_false, reduceIte, Bool.not_true, Bool.not_false, Bool.and_true, Bool.true_and, Bool.and_false, Bool.false_and, Bool.or_true, Bool.true_or, Bool.or_false, Bool.false_or, decide_true, decide_false, not_true_eq_false, not_false_eq_true, b2i_t, b2i_f, true_and, and_true, false_and, and_false, Bool.true_eq_false, Bool.false_eq_true, forgetC, itr_s, cnt_s]; rfl) | (simp only [if_true, if_false, reduceIte, Bool.not_true, Bool.not_false, Bool.and_true, Bool.true_and, Bool.and_false, Bool.false_and, Bool.or_true, Bool.true_or, Bool.or_false, Bool.false_or, decide_true, decide_false, not_true_eq_false, not_false_eq_true, b2i_t, b2i_f, true_and, and_true, false_and, and_false, Bool.true_eq_false, Bool.false_eq_true, forgetC, itr_s, cnt_s]; done) | (simp only [if_true, if_false, reduceIte, Bool.not_true, Bool.not_false, Bool.and_true, Bool.true_and, Bool.and_false, Bool.false_and, Bool.or_true, Bool.true_or, Bool.or_false, Bool.false_or, decide_true, decide_false, not_true_eq_false, not_false_eq_true, b2i_t, b2i_f, true_and, and_true, false_and, and_false, Bool.true_eq_false, Bool.false_eq_true, forgetC, itr_s, cnt_s]; rfl) | (simp [forgetC, itr_s, cnt_s]; done) | (simp [forgetC, itr_s, cnt_s]; done) | (simp [forgetC, itr_s, cnt_s]; rfl)) rfl (ih_2)
set_option maxRecDepth 100000 in
set_option maxHeartbeats 4000000 in
theorem kX1_agrees (l : Launch) (D : va_G) (cT : Nat → ClassId) (ad : Nat → Nat) (σ : sS) (k : Nat) (hkk : k < 60) (hk : okA σ) : CT l D cT (cW cT ad) (cA ad) yX1_agrees cX1_agrees 5 (some .boolean) ({ frames := 1, cells := 0, slots := 0, locals := 22 } : Room) [.ref (ad 4), .ref (ad 3), .int (nI (k))] σ (some (.int (b2i (agreesC σ k)))) (σ) := by
  refine CT.of (by decide) (cWA cT ad) (Nat.le_of_ble_eq_true rfl) (L0 := [(0, .ref (ad 4)), (1, .ref (ad 3)), (2, .int (nI (k)))]) rfl ?_
  intro pp ee ss mm av bel mth cod F hr hl
  refine g_aload_n (pc := 0) F 1 dX1_agrees_0 rfl rfl ?_
  refine get_c0_stone (pc := 1) F tf_X1_52 dX1_agrees_1 ?_
  refine g_iload_n (pc := 4) F 2 dX1_agrees_4 rfl rfl ?_
  refine ald_c0_stone (pc := 5) (j := k) F (by omega) dX1_agrees_5 ?_
  have b_5 := (hk.2.1 k (by omega)).2
  refine g_top (y := nI (stC σ k)) ((hk.2.1 k (by omega)).1) ?_
  refine g_istore_n (pc := 6) (lv2 := [(0, .ref (ad 4)), (1, .ref (ad 3)), (2, .int (nI (k))), (3, .int (nI (stC σ k)))]) F [1, 2, 3, 0] dX1_agrees_6 rfl (by decide) rfl ?_
  refine g_iload_n (pc := 7) F 3 dX1_agrees_7 rfl rfl ?_
  refine g_aload_n (pc := 8) F 1 dX1_agrees_8 rfl rfl ?_
  refine get_c0_doer (pc := 9) F tf_X1_55 dX1_agrees_9 ?_
  refine g_iload_n (pc := 12) F 2 dX1_agrees_12 rfl rfl ?_
  refine ald_c0_doer (pc := 13) (j := k) F (by omega) dX1_agrees_13 ?_
  have b_13 := (hk.2.2.1 k (by omega)).2
  refine g_top (y := nI (doC σ k)) ((hk.2.2.1 k (by omega)).1) ?_
  refine g_callSN (As := [.int (nI (stC σ k)), .int (nI (doC σ k))]) (pc := 14) (st2 := [.int (nI ((stC σ k) * 16 + (doC σ k)))]) (rest := []) F (kX5_seat l D cT ad σ (stC σ k) (doC σ k)) F.2.1.2.2.1 tt_yX5_seat tn_X5 tc_yX5_seat hd_yX5_seat rfl ⟨rfl, rfl, Nat.le_of_ble_eq_true rfl, Nat.le_of_ble_eq_true rfl⟩ rfl (Nat.le_of_ble_eq_true rfl) dX1_agrees_14 rfl ?_
  refine g_istore (pc := 17) (lv2 := [(0, .ref (ad 4)), (1, .ref (ad 3)), (2, .int (nI (k))), (3, .int (nI (stC σ k))), (4, .int (nI ((stC σ k) * 16 + (doC σ k))))]) F [1, 2, 3, 4, 0] dX1_agrees_17 (by decide) rfl ?_
  refine g_aload_n (pc := 19) F 1 dX1_agrees_19 rfl rfl ?_
  refine get_c0_kind (pc := 20) F tf_X1_62 dX1_agrees_20 ?_
  refine g_iload_n (pc := 23) F 2 dX1_agrees_23 rfl rfl ?_
  refine ald_c0_kind (pc := 24) (j := k) F (by omega) dX1_agrees_24 ?_
  have b_24 := (hk.1 k (by omega)).2
  refine g_top (y := nI (kdC σ k)) ((hk.1 k (by omega)).1) ?_
  rcases (show kdC σ k = 0 ∨ kdC σ k = 1 ∨ kdC σ k = 2 ∨ kdC σ k = 3 ∨ kdC σ k = 4 ∨ kdC σ k = 5 ∨ kdC σ k = 6 by omega) with c_25 | c_25 | c_25 | c_25 | c_25 | c_25 | c_25
  · refine g_top (pc := 25) (y := nI 0) (congrArg nI c_25) ?_
    refine g_tableIn (pc := 25) (tgt := 64) (off := 39) F dX1_agrees_25 (by decide) (by decide) (by decide) (by decide) ?_
    refine g_aload_n (pc := 64) F 0 dX1_agrees_64 rfl rfl ?_
    refine get_c1_found (pc := 65) F tf_X1_28 dX1_agrees_65 ?_
    refine g_iconst (pc := 68) (v := 1) F dX1_agrees_68 (by decide) ?_
    refine g_iload_n (pc := 69) F 3 dX1_agrees_69 rfl rfl ?_
    refine g_ishl (pc := 70) (v := one (stC σ k)) F dX1_agrees_70 (rfl) ?_
    refine g_iand (pc := 71) (v := (gI σ 7) &&& (one (stC σ k))) F dX1_agrees_71 (rfl) ?_
    refine g_if_ne (pc := 72) (tgt := 79) F dX1_agrees_72 (by decide) (fun c_72 => ?_) (fun c_72 => ?_)
    · skip
      refine g_iconst (pc := 79) (v := 0) F dX1_agrees_79 (by decide) ?_
      exact g_iret (pc := 80) F hr hl dX1_agrees_80 (rfl) (by first | rfl | (simp only [if_true, if_false, reduceIte, Bool.not_true, Bool.not_false, Bool.and_true, Bool.true_and, Bool.and_false, Bool.false_and, Bool.or_true, Bool.true_or, Bool.or_false, Bool.false_or, decide_true, decide_false, not_true_eq_false, not_false_eq_true, b2i_t, b2i_f, true_and, and_true, false_and, and_false, Bool.true_eq_false, Bool.false_eq_true, agreesC, b2i, c_25, c_72]; done) | (simp only [if_true, if_false, reduceIte, Bool.not_true, Bool.not_false, Bool.and_true, Bool.true_and, Bool.and_false, Bool.false_and, Bool.or_true, Bool.true_or, Bool.or_false, Bool.false_or, decide_true, decide_false, not_true_eq_false, not_false_eq_true, b2i_t, b2i_f, true_and, and_true, false_and, and_false, Bool.true_eq_false, Bool.false_eq_true, agreesC, b2i, c_25, c_72]; rfl) | (simp [agreesC, b2i, c_25, c_72]; done) | (simp [agreesC, b2i, c_25, c_72]; rfl) | (simp [gA_pA, gI_pI, gB_pB, gL_pL, gA_pI, gA_pB, gA_pL, gI_pA, gI_pB, gI_pL, gB_pA, gB_pI, gB_pL, gL_pA, gL_pI, gL_pB, upd, vp_updL, agreesC, b2i, c_25, c_72]; done)) (by first | rfl | (simp only [if_true, if_false, reduceIte, Bool.not_true, Bool.not_false, Bool.and_true, Bool.true_and, Bool.and_false, Bool.false_and, Bool.or_true, Bool.true_or, Bool.or_false, Bool.false_or, decide_true, decide_false, not_true_eq_false, not_false_eq_true, b2i_t, b2i_f, true_and, and_true, false_and, and_false, Bool.true_eq_false, Bool.false_eq_true, agreesC, b2i, c_25, c_72]; done) | (simp only [if_true, if_false, reduceIte, Bool.not_true, Bool.not_false, Bool.and_true, Bool.true_and, Bool.and_false, Bool.false_and, Bool.or_true, Bool.true_or, Bool.or_false, Bool.false_or, decide_true, decide_false, not_true_eq_false, not_false_eq_true, b2i_t, b2i_f, true_and, and_true, false_and, and_false, Bool.true_eq_false, Bool.false_eq_true, agreesC, b2i, c_25, c_72]; rfl) | (simp [agreesC, b2i, c_25, c_72]; done) | (simp [agreesC, b2i, c_25, c_72]; rfl) | (simp [gA_pA, gI_pI, gB_pB, gL_pL, gA_pI, gA_pB, gA_pL, gI_pA, gI_pB, gI_pL, gB_pA, gB_pI, gB_pL, gL_pA, gL_pI, gL_pB, upd, vp_updL, agreesC, b2i, c_25, c_72]; done))
    · skip
      refine g_iconst (pc := 75) (v := 1) F dX1_agrees_75 (by decide) ?_
      refine g_goto (pc := 76) (tgt := 80) F dX1_agrees_76 (by decide) ?_
      exact g_iret (pc := 80) F hr hl dX1_agrees_80 (rfl) (by first | rfl | (simp only [if_true, if_false, reduceIte, Bool.not_true, Bool.not_false, Bool.and_true, Bool.true_and, Bool.and_false, Bool.false_and, Bool.or_true, Bool.true_or, Bool.or_false, Bool.false_or, decide_true, decide_false, not_true_eq_false, not_false_eq_true, b2i_t, b2i_f, true_and, and_true, false_and, and_false, Bool.true_eq_false, Bool.false_eq_true, agreesC, b2i, c_25, c_72]; done) | (simp only [if_true, if_false, reduceIte, Bool.not_true, Bool.not_false, Bool.and_true, Bool.true_and, Bool.and_false, Bool.false_and, Bool.or_true, Bool.true_or, Bool.or_false, Bool.false_or, decide_true, decide_false, not_true_eq_false, not_false_eq_true, b2i_t, b2i_f, true_and, and_true, false_and, and_false, Bool.true_eq_false, Bool.false_eq_true, agreesC, b2i, c_25, c_72]; rfl) | (simp [agreesC, b2i, c_25, c_72]; done) | (simp [agreesC, b2i, c_25, c_72]; rfl) | (simp [gA_pA, gI_pI, gB_pB, gL_pL, gA_pI, gA_pB, gA_pL, gI_pA, gI_pB, gI_pL, gB_pA, gB_pI, gB_pL, gL_pA, gL_pI, gL_pB, upd, vp_updL, agreesC, b2i, c_25, c_72]; done)) (by first | rfl | (simp only [if_true, if_false, reduceIte, Bool.not_true, Bool.not_false, Bool.and_true, Bool.true_and, Bool.and_false, Bool.false_and, Bool.or_true, Bool.true_or, Bool.or_false, Bool.false_or, decide_true, decide_false, not_true_eq_false, not_false_eq_true, b2i_t, b2i_f, true_and, and_true, false_and, and_false, Bool.true_eq_false, Bool.false_eq_true, agreesC, b2i, c_25, c_72]; done) | (simp only [if_true, if_false, reduceIte, Bool.not_true, Bool.not_false, Bool.and_true, Bool.true_and, Bool.and_false, Bool.false_and, Bool.or_true, Bool.true_or, Bool.or_false, Bool.false_or, decide_true, decide_false, not_true_eq_false, not_false_eq_true, b2i_t, b2i_f, true_and, and_true, false_and, and_false, Bool.true_eq_false, Bool.false_eq_true, agreesC, b2i, c_25, c_72]; rfl) | (simp [agreesC, b2i, c_25, c_72]; done) | (simp [agreesC, b2i, c_25, c_72]; rfl) | (simp [gA_pA, gI_pI, gB_pB, gL_pL, gA_pI, gA_pB, gA_pL, gI_pA, gI_pB, gI_pL, gB_pA, gB_pI, gB_pL, gL_pA, gL_pI, gL_pB, upd, vp_updL, agreesC, b2i, c_25, c_72]; done))
  · refine g_top (pc := 25) (y := nI 1) (congrArg nI c_25) ?_
    refine g_tableIn (pc := 25) (tgt := 81) (off := 56) F dX1_agrees_25 (by decide) (by decide) (by decide) (by decide) ?_
    refine g_aload_n (pc := 81) F 0 dX1_agrees_81 rfl rfl ?_
    refine get_c1_owned (pc := 82) F tf_X1_9 dX1_agrees_82 ?_
    refine g_iload (pc := 85) F 4 dX1_agrees_85 rfl ?_
    refine ald_c1_owned (pc := 87) (j := (stC σ k) * 16 + (doC σ k)) F (by omega) dX1_agrees_87 ?_
    refine g_aload_n (pc := 88) F 0 dX1_agrees_88 rfl rfl ?_
    refine get_c1_tied (pc := 89) F tf_X1_15 dX1_agrees_89 ?_
    refine g_iload (pc := 92) F 4 dX1_agrees_92 rfl ?_
    refine ald_c1_tied (pc := 94) (j := (stC σ k) * 16 + (doC σ k)) F (by omega) dX1_agrees_94 ?_
    refine g_isub (pc := 95) (v := (gA σ 24 ((stC σ k) * 16 + (doC σ k))) - (gA σ 25 ((stC σ k) * 16 + (doC σ k)))) F dX1_agrees_95 (rfl) ?_
    refine g_aload_n (pc := 96) F 1 dX1_agrees_96 rfl rfl ?_
    refine get_c0_number (pc := 97) F tf_X1_65 dX1_agrees_97 ?_
    refine g_iload_n (pc := 100) F 2 dX1_agrees_100 rfl rfl ?_
    refine ald_c0_number (pc := 101) (j := k) F (by omega) dX1_agrees_101 ?_
    refine g_icmp_lt (pc := 102) (tgt := 109) F dX1_agrees_102 (by decide) (fun c_102 => ?_) (fun c_102 => ?_)
    · skip
      refine g_iconst (pc := 109) (v := 0) F dX1_agrees_109 (by decide) ?_
      exact g_iret (pc := 110) F hr hl dX1_agrees_110 (rfl) (by first | rfl | (simp only [if_true, if_false, reduceIte, Bool.not_true, Bool.not_false, Bool.and_true, Bool.true_and, Bool.and_false, Bool.false_and, Bool.or_true, Bool.true_or, Bool.or_false, Bool.false_or, decide_true, decide_false, not_true_eq_false, not_false_eq_true, b2i_t, b2i_f, true_and, and_true, false_and, and_false, Bool.true_eq_false, Bool.false_eq_true, agreesC, b2i, c_25, c_102]; done) | (simp only [if_true, if_false, reduceIte, Bool.not_true, Bool.not_false, Bool.and_true, Bool.true_and, Bool.and_false, Bool.false_and, Bool.or_true, Bool.true_or, Bool.or_false, Bool.false_or, decide_true, decide_false, not_true_eq_false, not_false_eq_true, b2i_t, b2i_f, true_and, and_true, false_and, and_false, Bool.true_eq_false, Bool.false_eq_true, agreesC, b2i, c_25, c_102]; rfl) | (simp [agreesC, b2i, c_25, c_102]; done) | (simp [agreesC, b2i, c_25, c_102]; rfl) | (simp [gA_pA, gI_pI, gB_pB, gL_pL, gA_pI, gA_pB, gA_pL, gI_pA, gI_pB, gI_pL, gB_pA, gB_pI, gB_pL, gL_pA, gL_pI, gL_pB, upd, vp_updL, agreesC, b2i, c_25, c_102]; done)) (by first | rfl | (simp only [if_true, if_false, reduceIte, Bool.not_true, Bool.not_false, Bool.and_true, Bool.true_and, Bool.and_false, Bool.false_and, Bool.or_true, Bool.true_or, Bool.or_false, Bool.false_or, decide_true, decide_false, not_true_eq_false, not_false_eq_true, b2i_t, b2i_f, true_and, and_true, false_and, and_false, Bool.true_eq_false, Bool.false_eq_true, agreesC, b2i, c_25, c_102]; done) | (simp only [if_true, if_false, reduceIte, Bool.not_true, Bool.not_false, Bool.and_true, Bool.true_and, Bool.and_false, Bool.false_and, Bool.or_true, Bool.true_or, Bool.or_false, Bool.false_or, decide_true, decide_false, not_true_eq_false, not_false_eq_true, b2i_t, b2i_f, true_and, and_true, false_and, and_false, Bool.true_eq_false, Bool.false_eq_true, agreesC, b2i, c_25, c_102]; rfl) | (simp [agreesC, b2i, c_25, c_102]; done) | (simp [agreesC, b2i, c_25, c_102]; rfl) | (simp [gA_pA, gI_pI, gB_pB, gL_pL, gA_pI, gA_pB, gA_pL, gI_pA, gI_pB, gI_pL, gB_pA, gB_pI, gB_pL, gL_pA, gL_pI, gL_pB, upd, vp_updL, agreesC, b2i, c_25, c_102]; done))
    · skip
      refine g_iconst (pc := 105) (v := 1) F dX1_agrees_105 (by decide) ?_
      refine g_goto (pc := 106) (tgt := 110) F dX1_agrees_106 (by decide) ?_
      exact g_iret (pc := 110) F hr hl dX1_agrees_110 (rfl) (by first | rfl | (simp only [if_true, if_false, reduceIte, Bool.not_true, Bool.not_false, Bool.and_true, Bool.true_and, Bool.and_false, Bool.false_and, Bool.or_true, Bool.true_or, Bool.or_false, Bool.false_or, decide_true, decide_false, not_true_eq_false, not_false_eq_true, b2i_t, b2i_f, true_and, and_true, false_and, and_false, Bool.true_eq_false, Bool.false_eq_true, agreesC, b2i, c_25, c_102]; done) | (simp only [if_true, if_false, reduceIte, Bool.not_true, Bool.not_false, Bool.and_true, Bool.true_and, Bool.and_false, Bool.false_and, Bool.or_true, Bool.true_or, Bool.or_false, Bool.false_or, decide_true, decide_false, not_true_eq_false, not_false_eq_true, b2i_t, b2i_f, true_and, and_true, false_and, and_false, Bool.true_eq_false, Bool.false_eq_true, agreesC, b2i, c_25, c_102]; rfl) | (simp [agreesC, b2i, c_25, c_102]; done) | (simp [agreesC, b2i, c_25, c_102]; rfl) | (simp [gA_pA, gI_pI, gB_pB, gL_pL, gA_pI, gA_pB, gA_pL, gI_pA, gI_pB, gI_pL, gB_pA, gB_pI, gB_pL, gL_pA, gL_pI, gL_pB, upd, vp_updL, agreesC, b2i, c_25, c_102]; done)) (by first | rfl | (simp only [if_true, if_false, reduceIte, Bool.not_true, Bool.not_false, Bool.and_true, Bool.true_and, Bool.and_false, Bool.false_and, Bool.or_true, Bool.true_or, Bool.or_false, Bool.false_or, decide_true, decide_false, not_true_eq_false, not_false_eq_true, b2i_t, b2i_f, true_and, and_true, false_and, and_false, Bool.true_eq_false, Bool.false_eq_true, agreesC, b2i, c_25, c_102]; done) | (simp only [if_true, if_false, reduceIte, Bool.not_true, Bool.not_false, Bool.and_true, Bool.true_and, Bool.and_false, Bool.false_and, Bool.or_true, Bool.true_or, Bool.or_false, Bool.false_or, decide_true, decide_false, not_true_eq_false, not_false_eq_true, b2i_t, b2i_f, true_and, and_true, false_and, and_false, Bool.true_eq_false, Bool.false_eq_true, agreesC, b2i, c_25, c_102]; rfl) | (simp [agreesC, b2i, c_25, c_102]; done) | (simp [agreesC, b2i, c_25, c_102]; rfl) | (simp [gA_pA, gI_pI, gB_pB, gL_pL, gA_pI, gA_pB, gA_pL, gI_pA, gI_pB, gI_pL, gB_pA, gB_pI, gB_pL, gL_pA, gL_pI, gL_pB, upd, vp_updL, agreesC, b2i, c_25, c_102]; done))
  · refine g_top (pc := 25) (y := nI 2) (congrArg nI c_25) ?_
    refine g_tableIn (pc := 25) (tgt := 81) (off := 56) F dX1_agrees_25 (by decide) (by decide) (by decide) (by decide) ?_
    refine g_aload_n (pc := 81) F 0 dX1_agrees_81 rfl rfl ?_
    refine get_c1_owned (pc := 82) F tf_X1_9 dX1_agrees_82 ?_
    refine g_iload (pc := 85) F 4 dX1_agrees_85 rfl ?_
    refine ald_c1_owned (pc := 87) (j := (stC σ k) * 16 + (doC σ k)) F (by omega) dX1_agrees_87 ?_
    refine g_aload_n (pc := 88) F 0 dX1_agrees_88 rfl rfl ?_
    refine get_c1_tied (pc := 89) F tf_X1_15 dX1_agrees_89 ?_
    refine g_iload (pc := 92) F 4 dX1_agrees_92 rfl ?_
    refine ald_c1_tied (pc := 94) (j := (stC σ k) * 16 + (doC σ k)) F (by omega) dX1_agrees_94 ?_
    refine g_isub (pc := 95) (v := (gA σ 24 ((stC σ k) * 16 + (doC σ k))) - (gA σ 25 ((stC σ k) * 16 + (doC σ k)))) F dX1_agrees_95 (rfl) ?_
    refine g_aload_n (pc := 96) F 1 dX1_agrees_96 rfl rfl ?_
    refine get_c0_number (pc := 97) F tf_X1_65 dX1_agrees_97 ?_
    refine g_iload_n (pc := 100) F 2 dX1_agrees_100 rfl rfl ?_
    refine ald_c0_number (pc := 101) (j := k) F (by omega) dX1_agrees_101 ?_
    refine g_icmp_lt (pc := 102) (tgt := 109) F dX1_agrees_102 (by decide) (fun c_102 => ?_) (fun c_102 => ?_)
    · skip
      refine g_iconst (pc := 109) (v := 0) F dX1_agrees_109 (by decide) ?_
      exact g_iret (pc := 110) F hr hl dX1_agrees_110 (rfl) (by first | rfl | (simp only [if_true, if_false, reduceIte, Bool.not_true, Bool.not_false, Bool.and_true, Bool.true_and, Bool.and_false, Bool.false_and, Bool.or_true, Bool.true_or, Bool.or_false, Bool.false_or, decide_true, decide_false, not_true_eq_false, not_false_eq_true, b2i_t, b2i_f, true_and, and_true, false_and, and_false, Bool.true_eq_false, Bool.false_eq_true, agreesC, b2i, c_25, c_102]; done) | (simp only [if_true, if_false, reduceIte, Bool.not_true, Bool.not_false, Bool.and_true, Bool.true_and, Bool.and_false, Bool.false_and, Bool.or_true, Bool.true_or, Bool.or_false, Bool.false_or, decide_true, decide_false, not_true_eq_false, not_false_eq_true, b2i_t, b2i_f, true_and, and_true, false_and, and_false, Bool.true_eq_false, Bool.false_eq_true, agreesC, b2i, c_25, c_102]; rfl) | (simp [agreesC, b2i, c_25, c_102]; done) | (simp [agreesC, b2i, c_25, c_102]; rfl) | (simp [gA_pA, gI_pI, gB_pB, gL_pL, gA_pI, gA_pB, gA_pL, gI_pA, gI_pB, gI_pL, gB_pA, gB_pI, gB_pL, gL_pA, gL_pI, gL_pB, upd, vp_updL, agreesC, b2i, c_25, c_102]; done)) (by first | rfl | (simp only [if_true, if_false, reduceIte, Bool.not_true, Bool.not_false, Bool.and_true, Bool.true_and, Bool.and_false, Bool.false_and, Bool.or_true, Bool.true_or, Bool.or_false, Bool.false_or, decide_true, decide_false, not_true_eq_false, not_false_eq_true, b2i_t, b2i_f, true_and, and_true, false_and, and_false, Bool.true_eq_false, Bool.false_eq_true, agreesC, b2i, c_25, c_102]; done) | (simp only [if_true, if_false, reduceIte, Bool.not_true, Bool.not_false, Bool.and_true, Bool.true_and, Bool.and_false, Bool.false_and, Bool.or_true, Bool.true_or, Bool.or_false, Bool.false_or, decide_true, decide_false, not_true_eq_false, not_false_eq_true, b2i_t, b2i_f, true_and, and_true, false_and, and_false, Bool.true_eq_false, Bool.false_eq_true, agreesC, b2i, c_25, c_102]; rfl) | (simp [agreesC, b2i, c_25, c_102]; done) | (simp [agreesC, b2i, c_25, c_102]; rfl) | (simp [gA_pA, gI_pI, gB_pB, gL_pL, gA_pI, gA_pB, gA_pL, gI_pA, gI_pB, gI_pL, gB_pA, gB_pI, gB_pL, gL_pA, gL_pI, gL_pB, upd, vp_updL, agreesC, b2i, c_25, c_102]; done))
    · skip
      refine g_iconst (pc := 105) (v := 1) F dX1_agrees_105 (by decide) ?_
      refine g_goto (pc := 106) (tgt := 110) F dX1_agrees_106 (by decide) ?_
      exact g_iret (pc := 110) F hr hl dX1_agrees_110 (rfl) (by first | rfl | (simp only [if_true, if_false, reduceIte, Bool.not_true, Bool.not_false, Bool.and_true, Bool.true_and, Bool.and_false, Bool.false_and, Bool.or_true, Bool.true_or, Bool.or_false, Bool.false_or, decide_true, decide_false, not_true_eq_false, not_false_eq_true, b2i_t, b2i_f, true_and, and_true, false_and, and_false, Bool.true_eq_false, Bool.false_eq_true, agreesC, b2i, c_25, c_102]; done) | (simp only [if_true, if_false, reduceIte, Bool.not_true, Bool.not_false, Bool.and_true, Bool.true_and, Bool.and_false, Bool.false_and, Bool.or_true, Bool.true_or, Bool.or_false, Bool.false_or, decide_true, decide_false, not_true_eq_false, not_false_eq_true, b2i_t, b2i_f, true_and, and_true, false_and, and_false, Bool.true_eq_false, Bool.false_eq_true, agreesC, b2i, c_25, c_102]; rfl) | (simp [agreesC, b2i, c_25, c_102]; done) | (simp [agreesC, b2i, c_25, c_102]; rfl) | (simp [gA_pA, gI_pI, gB_pB, gL_pL, gA_pI, gA_pB, gA_pL, gI_pA, gI_pB, gI_pL, gB_pA, gB_pI, gB_pL, gL_pA, gL_pI, gL_pB, upd, vp_updL, agreesC, b2i, c_25, c_102]; done)) (by first | rfl | (simp only [if_true, if_false, reduceIte, Bool.not_true, Bool.not_false, Bool.and_true, Bool.true_and, Bool.and_false, Bool.false_and, Bool.or_true, Bool.true_or, Bool.or_false, Bool.false_or, decide_true, decide_false, not_true_eq_false, not_false_eq_true, b2i_t, b2i_f, true_and, and_true, false_and, and_false, Bool.true_eq_false, Bool.false_eq_true, agreesC, b2i, c_25, c_102]; done) | (simp only [if_true, if_false, reduceIte, Bool.not_true, Bool.not_false, Bool.and_true, Bool.true_and, Bool.and_false, Bool.false_and, Bool.or_true, Bool.true_or, Bool.or_false, Bool.false_or, decide_true, decide_false, not_true_eq_false, not_false_eq_true, b2i_t, b2i_f, true_and, and_true, false_and, and_false, Bool.true_eq_false, Bool.false_eq_true, agreesC, b2i, c_25, c_102]; rfl) | (simp [agreesC, b2i, c_25, c_102]; done) | (simp [agreesC, b2i, c_25, c_102]; rfl) | (simp [gA_pA, gI_pI, gB_pB, gL_pL, gA_pI, gA_pB, gA_pL, gI_pA, gI_pB, gI_pL, gB_pA, gB_pI, gB_pL, gL_pA, gL_pI, gL_pB, upd, vp_updL, agreesC, b2i, c_25, c_102]; done))
  · refine g_top (pc := 25) (y := nI 3) (congrArg nI c_25) ?_
    refine g_tableIn (pc := 25) (tgt := 81) (off := 56) F dX1_agrees_25 (by decide) (by decide) (by decide) (by decide) ?_
    refine g_aload_n (pc := 81) F 0 dX1_agrees_81 rfl rfl ?_
    refine get_c1_owned (pc := 82) F tf_X1_9 dX1_agrees_82 ?_
    refine g_iload (pc := 85) F 4 dX1_agrees_85 rfl ?_
    refine ald_c1_owned (pc := 87) (j := (stC σ k) * 16 + (doC σ k)) F (by omega) dX1_agrees_87 ?_
    refine g_aload_n (pc := 88) F 0 dX1_agrees_88 rfl rfl ?_
    refine get_c1_tied (pc := 89) F tf_X1_15 dX1_agrees_89 ?_
    refine g_iload (pc := 92) F 4 dX1_agrees_92 rfl ?_
    refine ald_c1_tied (pc := 94) (j := (stC σ k) * 16 + (doC σ k)) F (by omega) dX1_agrees_94 ?_
    refine g_isub (pc := 95) (v := (gA σ 24 ((stC σ k) * 16 + (doC σ k))) - (gA σ 25 ((stC σ k) * 16 + (doC σ k)))) F dX1_agrees_95 (rfl) ?_
    refine g_aload_n (pc := 96) F 1 dX1_agrees_96 rfl rfl ?_
    refine get_c0_number (pc := 97) F tf_X1_65 dX1_agrees_97 ?_
    refine g_iload_n (pc := 100) F 2 dX1_agrees_100 rfl rfl ?_
    refine ald_c0_number (pc := 101) (j := k) F (by omega) dX1_agrees_101 ?_
    refine g_icmp_lt (pc := 102) (tgt := 109) F dX1_agrees_102 (by decide) (fun c_102 => ?_) (fun c_102 => ?_)
    · skip
      refine g_iconst (pc := 109) (v := 0) F dX1_agrees_109 (by decide) ?_
      exact g_iret (pc := 110) F hr hl dX1_agrees_110 (rfl) (by first | rfl | (simp only [if_true, if_false, reduceIte, Bool.not_true, Bool.not_false, Bool.and_true, Bool.true_and, Bool.and_false, Bool.false_and, Bool.or_true, Bool.true_or, Bool.or_false, Bool.false_or, decide_true, decide_false, not_true_eq_false, not_false_eq_true, b2i_t, b2i_f, true_and, and_true, false_and, and_false, Bool.true_eq_false, Bool.false_eq_true, agreesC, b2i, c_25, c_102]; done) | (simp only [if_true, if_false, reduceIte, Bool.not_true, Bool.not_false, Bool.and_true, Bool.true_and, Bool.and_false, Bool.false_and, Bool.or_true, Bool.true_or, Bool.or_false, Bool.false_or, decide_true, decide_false, not_true_eq_false, not_false_eq_true, b2i_t, b2i_f, true_and, and_true, false_and, and_false, Bool.true_eq_false, Bool.false_eq_true, agreesC, b2i, c_25, c_102]; rfl) | (simp [agreesC, b2i, c_25, c_102]; done) | (simp [agreesC, b2i, c_25, c_102]; rfl) | (simp [gA_pA, gI_pI, gB_pB, gL_pL, gA_pI, gA_pB, gA_pL, gI_pA, gI_pB, gI_pL, gB_pA, gB_pI, gB_pL, gL_pA, gL_pI, gL_pB, upd, vp_updL, agreesC, b2i, c_25, c_102]; done)) (by first | rfl | (simp only [if_true, if_false, reduceIte, Bool.not_true, Bool.not_false, Bool.and_true, Bool.true_and, Bool.and_false, Bool.false_and, Bool.or_true, Bool.true_or, Bool.or_false, Bool.false_or, decide_true, decide_false, not_true_eq_false, not_false_eq_true, b2i_t, b2i_f, true_and, and_true, false_and, and_false, Bool.true_eq_false, Bool.false_eq_true, agreesC, b2i, c_25, c_102]; done) | (simp only [if_true, if_false, reduceIte, Bool.not_true, Bool.not_false, Bool.and_true, Bool.true_and, Bool.and_false, Bool.false_and, Bool.or_true, Bool.true_or, Bool.or_false, Bool.false_or, decide_true, decide_false, not_true_eq_false, not_false_eq_true, b2i_t, b2i_f, true_and, and_true, false_and, and_false, Bool.true_eq_false, Bool.false_eq_true, agreesC, b2i, c_25, c_102]; rfl) | (simp [agreesC, b2i, c_25, c_102]; done) | (simp [agreesC, b2i, c_25, c_102]; rfl) | (simp [gA_pA, gI_pI, gB_pB, gL_pL, gA_pI, gA_pB, gA_pL, gI_pA, gI_pB, gI_pL, gB_pA, gB_pI, gB_pL, gL_pA, gL_pI, gL_pB, upd, vp_updL, agreesC, b2i, c_25, c_102]; done))
    · skip
      refine g_iconst (pc := 105) (v := 1) F dX1_agrees_105 (by decide) ?_
      refine g_goto (pc := 106) (tgt := 110) F dX1_agrees_106 (by decide) ?_
      exact g_iret (pc := 110) F hr hl dX1_agrees_110 (rfl) (by first | rfl | (simp only [if_true, if_false, reduceIte, Bool.not_true, Bool.not_false, Bool.and_true, Bool.true_and, Bool.and_false, Bool.false_and, Bool.or_true, Bool.true_or, Bool.or_false, Bool.false_or, decide_true, decide_false, not_true_eq_false, not_false_eq_true, b2i_t, b2i_f, true_and, and_true, false_and, and_false, Bool.true_eq_false, Bool.false_eq_true, agreesC, b2i, c_25, c_102]; done) | (simp only [if_true, if_false, reduceIte, Bool.not_true, Bool.not_false, Bool.and_true, Bool.true_and, Bool.and_false, Bool.false_and, Bool.or_true, Bool.true_or, Bool.or_false, Bool.false_or, decide_true, decide_false, not_true_eq_false, not_false_eq_true, b2i_t, b2i_f, true_and, and_true, false_and, and_false, Bool.true_eq_false, Bool.false_eq_true, agreesC, b2i, c_25, c_102]; rfl) | (simp [agreesC, b2i, c_25, c_102]; done) | (simp [agreesC, b2i, c_25, c_102]; rfl) | (simp [gA_pA, gI_pI, gB_pB, gL_pL, gA_pI, gA_pB, gA_pL, gI_pA, gI_pB, gI_pL, gB_pA, gB_pI, gB_pL, gL_pA, gL_pI, gL_pB, upd, vp_updL, agreesC, b2i, c_25, c_102]; done)) (by first | rfl | (simp only [if_true, if_false, reduceIte, Bool.not_true, Bool.not_false, Bool.and_true, Bool.true_and, Bool.and_false, Bool.false_and, Bool.or_true, Bool.true_or, Bool.or_false, Bool.false_or, decide_true, decide_false, not_true_eq_false, not_false_eq_true, b2i_t, b2i_f, true_and, and_true, false_and, and_false, Bool.true_eq_false, Bool.false_eq_true, agreesC, b2i, c_25, c_102]; done) | (simp only [if_true, if_false, reduceIte, Bool.not_true, Bool.not_false, Bool.and_true, Bool.true_and, Bool.and_false, Bool.false_and, Bool.or_true, Bool.true_or, Bool.or_false, Bool.false_or, decide_true, decide_false, not_true_eq_false, not_false_eq_true, b2i_t, b2i_f, true_and, and_true, false_and, and_false, Bool.true_eq_false, Bool.false_eq_true, agreesC, b2i, c_25, c_102]; rfl) | (simp [agreesC, b2i, c_25, c_102]; done) | (simp [agreesC, b2i, c_25, c_102]; rfl) | (simp [gA_pA, gI_pI, gB_pB, gL_pL, gA_pI, gA_pB, gA_pL, gI_pA, gI_pB, gI_pL, gB_pA, gB_pI, gB_pL, gL_pA, gL_pI, gL_pB, upd, vp_updL, agreesC, b2i, c_25, c_102]; done))
  · refine g_top (pc := 25) (y := nI 4) (congrArg nI c_25) ?_
    refine g_tableIn (pc := 25) (tgt := 111) (off := 86) F dX1_agrees_25 (by decide) (by decide) (by decide) (by decide) ?_
    refine g_aload_n (pc := 111) F 0 dX1_agrees_111 rfl rfl ?_
    refine get_c1_holding (pc := 112) F tf_X1_21 dX1_agrees_112 ?_
    refine g_aload_n (pc := 115) F 0 dX1_agrees_115 rfl rfl ?_
    refine get_c1_freed (pc := 116) F tf_X1_25 dX1_agrees_116 ?_
    refine g_ldc2 (pc := 119) F tk_X1_68 dX1_agrees_119 ?_
    refine g_lxor (pc := 122) (v := (gL σ 2) ^^^ (-1)) F dX1_agrees_122 (rfl) ?_
    refine g_land (pc := 123) (v := (gL σ 1) &&& ((gL σ 2) ^^^ (-1))) F dX1_agrees_123 (rfl) ?_
    refine g_aload_n (pc := 124) F 1 dX1_agrees_124 rfl rfl ?_
    refine get_c0_other (pc := 125) F tf_X1_70 dX1_agrees_125 ?_
    refine g_iload_n (pc := 128) F 2 dX1_agrees_128 rfl rfl ?_
    refine ald_c0_other (pc := 129) (j := k) F (by omega) dX1_agrees_129 ?_
    have b_129 := (hk.2.2.2 k (by omega)).2
    refine g_top (y := nI (otC σ k)) ((hk.2.2.2 k (by omega)).1) ?_
    refine g_callSN (As := [.long ((gL σ 1) &&& ((gL σ 2) ^^^ (-1))), .int (nI (otC σ k))]) (pc := 130) (st2 := [.int (b2i (btL ((gL σ 1) &&& ((gL σ 2) ^^^ (-1))) (otC σ k)))]) (rest := []) F (kX5_hasBit l D cT ad σ ((gL σ 1) &&& ((gL σ 2) ^^^ (-1))) (otC σ k) (by omega)) F.2.1.2.1 tt_yX5_hasBit tn_X5 tc_yX5_hasBit hd_yX5_hasBit rfl ⟨rfl, rfl, Nat.le_of_ble_eq_true rfl, Nat.le_of_ble_eq_true rfl⟩ rfl (Nat.le_of_ble_eq_true rfl) dX1_agrees_130 rfl ?_
    exact g_iret (pc := 133) F hr hl dX1_agrees_133 (b2i_nar _) (by first | rfl | (simp only [if_true, if_false, reduceIte, Bool.not_true, Bool.not_false, Bool.and_true, Bool.true_and, Bool.and_false, Bool.false_and, Bool.or_true, Bool.true_or, Bool.or_false, Bool.false_or, decide_true, decide_false, not_true_eq_false, not_false_eq_true, b2i_t, b2i_f, true_and, and_true, false_and, and_false, Bool.true_eq_false, Bool.false_eq_true, agreesC, b2i, c_25]; done) | (simp only [if_true, if_false, reduceIte, Bool.not_true, Bool.not_false, Bool.and_true, Bool.true_and, Bool.and_false, Bool.false_and, Bool.or_true, Bool.true_or, Bool.or_false, Bool.false_or, decide_true, decide_false, not_true_eq_false, not_false_eq_true, b2i_t, b2i_f, true_and, and_true, false_and, and_false, Bool.true_eq_false, Bool.false_eq_true, agreesC, b2i, c_25]; rfl) | (simp [agreesC, b2i, c_25]; done) | (simp [agreesC, b2i, c_25]; rfl) | (simp [gA_pA, gI_pI, gB_pB, gL_pL, gA_pI, gA_pB, gA_pL, gI_pA, gI_pB, gI_pL, gB_pA, gB_pI, gB_pL, gL_pA, gL_pI, gL_pB, upd, vp_updL, agreesC, b2i, c_25]; done)) (by first | rfl | (simp only [if_true, if_false, reduceIte, Bool.not_true, Bool.not_false, Bool.and_true, Bool.true_and, Bool.and_false, Bool.false_and, Bool.or_true, Bool.true_or, Bool.or_false, Bool.false_or, decide_true, decide_false, not_true_eq_false, not_false_eq_true, b2i_t, b2i_f, true_and, and_true, false_and, and_false, Bool.true_eq_false, Bool.false_eq_true, agreesC, b2i, c_25]; done) | (simp only [if_true, if_false, reduceIte, Bool.not_true, Bool.not_false, Bool.and_true, Bool.true_and, Bool.and_false, Bool.false_and, Bool.or_true, Bool.true_or, Bool.or_false, Bool.false_or, decide_true, decide_false, not_true_eq_false, not_false_eq_true, b2i_t, b2i_f, true_and, and_true, false_and, and_false, Bool.true_eq_false, Bool.false_eq_true, agreesC, b2i, c_25]; rfl) | (simp [agreesC, b2i, c_25]; done) | (simp [agreesC, b2i, c_25]; rfl) | (simp [gA_pA, gI_pI, gB_pB, gL_pL, gA_pI, gA_pB, gA_pL, gI_pA, gI_pB, gI_pL, gB_pA, gB_pI, gB_pL, gL_pA, gL_pI, gL_pB, upd, vp_updL, agreesC, b2i, c_25]; done))
  · refine g_top (pc := 25) (y := nI 5) (congrArg nI c_25) ?_
    refine g_tableIn (pc := 25) (tgt := 134) (off := 109) F dX1_agrees_25 (by decide) (by decide) (by decide) (by decide) ?_
    refine g_iconst (pc := 134) (v := 1) F dX1_agrees_134 (by decide) ?_
    exact g_iret (pc := 135) F hr hl dX1_agrees_135 (rfl) (by first | rfl | (simp only [if_true, if_false, reduceIte, Bool.not_true, Bool.not_false, Bool.and_true, Bool.true_and, Bool.and_false, Bool.false_and, Bool.or_true, Bool.true_or, Bool.or_false, Bool.false_or, decide_true, decide_false, not_true_eq_false, not_false_eq_true, b2i_t, b2i_f, true_and, and_true, false_and, and_false, Bool.true_eq_false, Bool.false_eq_true, agreesC, b2i, c_25]; done) | (simp only [if_true, if_false, reduceIte, Bool.not_true, Bool.not_false, Bool.and_true, Bool.true_and, Bool.and_false, Bool.false_and, Bool.or_true, Bool.true_or, Bool.or_false, Bool.false_or, decide_true, decide_false, not_true_eq_false, not_false_eq_true, b2i_t, b2i_f, true_and, and_true, false_and, and_false, Bool.true_eq_false, Bool.false_eq_true, agreesC, b2i, c_25]; rfl) | (simp [agreesC, b2i, c_25]; done) | (simp [agreesC, b2i, c_25]; rfl) | (simp [gA_pA, gI_pI, gB_pB, gL_pL, gA_pI, gA_pB, gA_pL, gI_pA, gI_pB, gI_pL, gB_pA, gB_pI, gB_pL, gL_pA, gL_pI, gL_pB, upd, vp_updL, agreesC, b2i, c_25]; done)) (by first | rfl | (simp only [if_true, if_false, reduceIte, Bool.not_true, Bool.not_false, Bool.and_true, Bool.true_and, Bool.and_false, Bool.false_and, Bool.or_true, Bool.true_or, Bool.or_false, Bool.false_or, decide_true, decide_false, not_true_eq_false, not_false_eq_true, b2i_t, b2i_f, true_and, and_true, false_and, and_false, Bool.true_eq_false, Bool.false_eq_true, agreesC, b2i, c_25]; done) | (simp only [if_true, if_false, reduceIte, Bool.not_true, Bool.not_false, Bool.and_true, Bool.true_and, Bool.and_false, Bool.false_and, Bool.or_true, Bool.true_or, Bool.or_false, Bool.false_or, decide_true, decide_false, not_true_eq_false, not_false_eq_true, b2i_t, b2i_f, true_and, and_true, false_and, and_false, Bool.true_eq_false, Bool.false_eq_true, agreesC, b2i, c_25]; rfl) | (simp [agreesC, b2i, c_25]; done) | (simp [agreesC, b2i, c_25]; rfl) | (simp [gA_pA, gI_pI, gB_pB, gL_pL, gA_pI, gA_pB, gA_pL, gI_pA, gI_pB, gI_pL, gB_pA, gB_pI, gB_pL, gL_pA, gL_pI, gL_pB, upd, vp_updL, agreesC, b2i, c_25]; done))
  · refine g_top (pc := 25) (y := nI 6) (congrArg nI c_25) ?_
    refine g_tableOut (pc := 25) (tgt := 136) F dX1_agrees_25 (by decide) (by decide) ?_
    refine g_iconst (pc := 136) (v := 0) F dX1_agrees_136 (by decide) ?_
    exact g_iret (pc := 137) F hr hl dX1_agrees_137 (rfl) (by first | rfl | (simp only [if_true, if_false, reduceIte, Bool.not_true, Bool.not_false, Bool.and_true, Bool.true_and, Bool.and_false, Bool.false_and, Bool.or_true, Bool.true_or, Bool.or_false, Bool.false_or, decide_true, decide_false, not_true_eq_false, not_false_eq_true, b2i_t, b2i_f, true_and, and_true, false_and, and_false, Bool.true_eq_false, Bool.false_eq_true, agreesC, b2i, c_25]; done) | (simp only [if_true, if_false, reduceIte, Bool.not_true, Bool.not_false, Bool.and_true, Bool.true_and, Bool.and_false, Bool.false_and, Bool.or_true, Bool.true_or, Bool.or_false, Bool.false_or, decide_true, decide_false, not_true_eq_false, not_false_eq_true, b2i_t, b2i_f, true_and, and_true, false_and, and_false, Bool.true_eq_false, Bool.false_eq_true, agreesC, b2i, c_25]; rfl) | (simp [agreesC, b2i, c_25]; done) | (simp [agreesC, b2i, c_25]; rfl) | (simp [gA_pA, gI_pI, gB_pB, gL_pL, gA_pI, gA_pB, gA_pL, gI_pA, gI_pB, gI_pL, gB_pA, gB_pI, gB_pL, gL_pA, gL_pI, gL_pB, upd, vp_updL, agreesC, b2i, c_25]; done)) (by first | rfl | (simp only [if_true, if_false, reduceIte, Bool.not_true, Bool.not_false, Bool.and_true, Bool.true_and, Bool.and_false, Bool.false_and, Bool.or_true, Bool.true_or, Bool.or_false, Bool.false_or, decide_true, decide_false, not_true_eq_false, not_false_eq_true, b2i_t, b2i_f, true_and, and_true, false_and, and_false, Bool.true_eq_false, Bool.false_eq_true, agreesC, b2i, c_25]; done) | (simp only [if_true, if_false, reduceIte, Bool.not_true, Bool.not_false, Bool.and_true, Bool.true_and, Bool.and_false, Bool.false_and, Bool.or_true, Bool.true_or, Bool.or_false, Bool.false_or, decide_true, decide_false, not_true_eq_false, not_false_eq_true, b2i_t, b2i_f, true_and, and_true, false_and, and_false, Bool.true_eq_false, Bool.false_eq_true, agreesC, b2i, c_25]; rfl) | (simp [agreesC, b2i, c_25]; done) | (simp [agreesC, b2i, c_25]; rfl) | (simp [gA_pA, gI_pI, gB_pB, gL_pL, gA_pI, gA_pB, gA_pL, gI_pA, gI_pB, gI_pL, gB_pA, gB_pI, gB_pL, gL_pA, gL_pI, gL_pB, upd, vp_updL, agreesC, b2i, c_25]; done))
set_option maxRecDepth 100000 in
set_option maxHeartbeats 4000000 in
theorem kX1_move (l : Launch) (D : va_G) (cT : Nat → ClassId) (ad : Nat → Nat) (σ : sS) (a b : Nat) (x : Int32) (ha : a < 128) (hb : b < 128) : CT l D cT (cW cT ad) (cA ad) yX1_move cX1_move 4 none ({ frames := 0, cells := 0, slots := 0, locals := 0 } : Room) [.ref (ad 4), .int (nI (a)), .int (nI (b)), .int (x)] σ none (moveC σ a b x) := by
  refine CT.of (by decide) (cWA cT ad) (Nat.le_of_ble_eq_true rfl) (L0 := [(0, .ref (ad 4)), (1, .int (nI (a))), (2, .int (nI (b))), (3, .int (x))]) rfl ?_
  intro pp ee ss mm av bel mth cod F hr hl
  refine g_aload_n (pc := 0) F 0 dX1_move_0 rfl rfl ?_
  refine get_c1_owned (pc := 1) F tf_X1_9 dX1_move_1 ?_
  refine g_iload_n (pc := 4) F 1 dX1_move_4 rfl rfl ?_
  refine g_dup2 (pc := 5) F dX1_move_5 rfl rfl ?_
  refine ald_c1_owned (pc := 6) (j := a) F (by omega) dX1_move_6 ?_
  refine g_iload_n (pc := 7) F 3 dX1_move_7 rfl rfl ?_
  refine g_isub (pc := 8) (v := (gA σ 24 a) - x) F dX1_move_8 (rfl) ?_
  refine ast_c1_owned (pc := 9) (j := a) F (by omega) dX1_move_9 ?_
  refine g_aload_n (pc := 10) F 0 dX1_move_10 rfl rfl ?_
  refine get_c1_owned (pc := 11) F tf_X1_9 dX1_move_11 ?_
  refine g_iload_n (pc := 14) F 2 dX1_move_14 rfl rfl ?_
  refine g_dup2 (pc := 15) F dX1_move_15 rfl rfl ?_
  refine ald_c1_owned (pc := 16) (j := b) F (by omega) dX1_move_16 ?_
  refine g_iload_n (pc := 17) F 3 dX1_move_17 rfl rfl ?_
  refine g_iadd (pc := 18) (v := (gA (pA σ 24 (upd (gA σ 24) a ((gA σ 24 a) - x))) 24 b) + x) F dX1_move_18 (rfl) ?_
  refine ast_c1_owned (pc := 19) (j := b) F (by omega) dX1_move_19 ?_
  exact g_vret (pc := 20) F hr hl dX1_move_20 rfl (by first | rfl | (simp only [if_true, if_false, reduceIte, Bool.not_true, Bool.not_false, Bool.and_true, Bool.true_and, Bool.and_false, Bool.false_and, Bool.or_true, Bool.true_or, Bool.or_false, Bool.false_or, decide_true, decide_false, not_true_eq_false, not_false_eq_true, b2i_t, b2i_f, true_and, and_true, false_and, and_false, Bool.true_eq_false, Bool.false_eq_true, moveC]; done) | (simp only [if_true, if_false, reduceIte, Bool.not_true, Bool.not_false, Bool.and_true, Bool.true_and, Bool.and_false, Bool.false_and, Bool.or_true, Bool.true_or, Bool.or_false, Bool.false_or, decide_true, decide_false, not_true_eq_false, not_false_eq_true, b2i_t, b2i_f, true_and, and_true, false_and, and_false, Bool.true_eq_false, Bool.false_eq_true, moveC]; rfl) | (simp [moveC]; done) | (simp [moveC]; rfl) | (simp [gA_pA, gI_pI, gB_pB, gL_pL, gA_pI, gA_pB, gA_pL, gI_pA, gI_pB, gI_pL, gB_pA, gB_pI, gB_pL, gL_pA, gL_pI, gL_pB, upd, vp_updL, moveC]; done))
set_option maxRecDepth 100000 in
set_option maxHeartbeats 4000000 in
theorem kX1_take (l : Launch) (D : va_G) (cT : Nat → ClassId) (ad : Nat → Nat) (σ : sS) (k : Nat) (hkk : k < 60) (hk : okA σ) : CT l D cT (cW cT ad) (cA ad) yX1_take cX1_take 6 none ({ frames := 1, cells := 0, slots := 0, locals := 23 } : Room) [.ref (ad 4), .ref (ad 3), .int (nI (k))] σ none (takeC σ k) := by
  refine CT.of (by decide) (cWA cT ad) (Nat.le_of_ble_eq_true rfl) (L0 := [(0, .ref (ad 4)), (1, .ref (ad 3)), (2, .int (nI (k)))]) rfl ?_
  intro pp ee ss mm av bel mth cod F hr hl
  refine g_aload_n (pc := 0) F 1 dX1_take_0 rfl rfl ?_
  refine get_c0_stone (pc := 1) F tf_X1_52 dX1_take_1 ?_
  refine g_iload_n (pc := 4) F 2 dX1_take_4 rfl rfl ?_
  refine ald_c0_stone (pc := 5) (j := k) F (by omega) dX1_take_5 ?_
  have b_5 := (hk.2.1 k (by omega)).2
  refine g_top (y := nI (stC σ k)) ((hk.2.1 k (by omega)).1) ?_
  refine g_istore_n (pc := 6) (lv2 := [(0, .ref (ad 4)), (1, .ref (ad 3)), (2, .int (nI (k))), (3, .int (nI (stC σ k)))]) F [1, 2, 3, 0] dX1_take_6 rfl (by decide) rfl ?_
  refine g_aload_n (pc := 7) F 1 dX1_take_7 rfl rfl ?_
  refine get_c0_number (pc := 8) F tf_X1_65 dX1_take_8 ?_
  refine g_iload_n (pc := 11) F 2 dX1_take_11 rfl rfl ?_
  refine ald_c0_number (pc := 12) (j := k) F (by omega) dX1_take_12 ?_
  refine g_istore (pc := 13) (lv2 := [(0, .ref (ad 4)), (1, .ref (ad 3)), (2, .int (nI (k))), (3, .int (nI (stC σ k))), (4, .int (gA σ 20 k))]) F [1, 2, 3, 4, 0] dX1_take_13 (by decide) rfl ?_
  refine g_iload_n (pc := 15) F 3 dX1_take_15 rfl rfl ?_
  refine g_aload_n (pc := 16) F 1 dX1_take_16 rfl rfl ?_
  refine get_c0_doer (pc := 17) F tf_X1_55 dX1_take_17 ?_
  refine g_iload_n (pc := 20) F 2 dX1_take_20 rfl rfl ?_
  refine ald_c0_doer (pc := 21) (j := k) F (by omega) dX1_take_21 ?_
  have b_21 := (hk.2.2.1 k (by omega)).2
  refine g_top (y := nI (doC σ k)) ((hk.2.2.1 k (by omega)).1) ?_
  refine g_callSN (As := [.int (nI (stC σ k)), .int (nI (doC σ k))]) (pc := 22) (st2 := [.int (nI ((stC σ k) * 16 + (doC σ k)))]) (rest := []) F (kX5_seat l D cT ad σ (stC σ k) (doC σ k)) F.2.1.2.2.1 tt_yX5_seat tn_X5 tc_yX5_seat hd_yX5_seat rfl ⟨rfl, rfl, Nat.le_of_ble_eq_true rfl, Nat.le_of_ble_eq_true rfl⟩ rfl (Nat.le_of_ble_eq_true rfl) dX1_take_22 rfl ?_
  refine g_istore (pc := 25) (lv2 := [(0, .ref (ad 4)), (1, .ref (ad 3)), (2, .int (nI (k))), (3, .int (nI (stC σ k))), (4, .int (gA σ 20 k)), (5, .int (nI ((stC σ k) * 16 + (doC σ k))))]) F [1, 2, 3, 4, 5, 0] dX1_take_25 (by decide) rfl ?_
  refine g_aload_n (pc := 27) F 1 dX1_take_27 rfl rfl ?_
  refine get_c0_kind (pc := 28) F tf_X1_62 dX1_take_28 ?_
  refine g_iload_n (pc := 31) F 2 dX1_take_31 rfl rfl ?_
  refine ald_c0_kind (pc := 32) (j := k) F (by omega) dX1_take_32 ?_
  have b_32 := (hk.1 k (by omega)).2
  refine g_top (y := nI (kdC σ k)) ((hk.1 k (by omega)).1) ?_
  rcases (show kdC σ k = 0 ∨ kdC σ k = 1 ∨ kdC σ k = 2 ∨ kdC σ k = 3 ∨ kdC σ k = 4 ∨ kdC σ k = 5 ∨ kdC σ k = 6 by omega) with c_33 | c_33 | c_33 | c_33 | c_33 | c_33 | c_33
  · refine g_top (pc := 33) (y := nI 0) (congrArg nI c_33) ?_
    refine g_tableIn (pc := 33) (tgt := 72) (off := 39) F dX1_take_33 (by decide) (by decide) (by decide) (by decide) ?_
    refine g_aload_n (pc := 72) F 0 dX1_take_72 rfl rfl ?_
    refine g_dup (pc := 73) F dX1_take_73 rfl ?_
    refine get_c1_found (pc := 74) F tf_X1_28 dX1_take_74 ?_
    refine g_iconst (pc := 77) (v := 1) F dX1_take_77 (by decide) ?_
    refine g_iload_n (pc := 78) F 3 dX1_take_78 rfl rfl ?_
    refine g_ishl (pc := 79) (v := one (stC σ k)) F dX1_take_79 (rfl) ?_
    refine g_ior (pc := 80) (v := (gI σ 7) ||| (one (stC σ k))) F dX1_take_80 (rfl) ?_
    refine put_c1_found (pc := 81) F tf_X1_28 dX1_take_81 ?_
    refine g_aload_n (pc := 84) F 0 dX1_take_84 rfl rfl ?_
    refine get_c1_owned (pc := 85) F tf_X1_9 dX1_take_85 ?_
    refine g_iload (pc := 88) F 5 dX1_take_88 rfl ?_
    refine g_bipush (pc := 90) (v := 12) F dX1_take_90 (by decide) ?_
    refine ast_c1_owned (pc := 92) (j := (stC σ k) * 16 + (doC σ k)) F (by omega) dX1_take_92 ?_
    refine g_goto (pc := 93) (tgt := 218) F dX1_take_93 (by decide) ?_
    exact g_vret (pc := 218) F hr hl dX1_take_218 rfl (by first | rfl | (simp only [if_true, if_false, reduceIte, Bool.not_true, Bool.not_false, Bool.and_true, Bool.true_and, Bool.and_false, Bool.false_and, Bool.or_true, Bool.true_or, Bool.or_false, Bool.false_or, decide_true, decide_false, not_true_eq_false, not_false_eq_true, b2i_t, b2i_f, true_and, and_true, false_and, and_false, Bool.true_eq_false, Bool.false_eq_true, takeC, c_33]; done) | (simp only [if_true, if_false, reduceIte, Bool.not_true, Bool.not_false, Bool.and_true, Bool.true_and, Bool.and_false, Bool.false_and, Bool.or_true, Bool.true_or, Bool.or_false, Bool.false_or, decide_true, decide_false, not_true_eq_false, not_false_eq_true, b2i_t, b2i_f, true_and, and_true, false_and, and_false, Bool.true_eq_false, Bool.false_eq_true, takeC, c_33]; rfl) | (simp [takeC, c_33]; done) | (simp [takeC, c_33]; rfl) | (simp [gA_pA, gI_pI, gB_pB, gL_pL, gA_pI, gA_pB, gA_pL, gI_pA, gI_pB, gI_pL, gB_pA, gB_pI, gB_pL, gL_pA, gL_pI, gL_pB, upd, vp_updL, takeC, c_33]; done))
  · refine g_top (pc := 33) (y := nI 1) (congrArg nI c_33) ?_
    refine g_tableIn (pc := 33) (tgt := 96) (off := 63) F dX1_take_33 (by decide) (by decide) (by decide) (by decide) ?_
    refine g_aload_n (pc := 96) F 0 dX1_take_96 rfl rfl ?_
    refine g_iload (pc := 97) F 5 dX1_take_97 rfl ?_
    refine g_iload_n (pc := 99) F 3 dX1_take_99 rfl rfl ?_
    refine g_aload_n (pc := 100) F 1 dX1_take_100 rfl rfl ?_
    refine get_c0_other (pc := 101) F tf_X1_70 dX1_take_101 ?_
    refine g_iload_n (pc := 104) F 2 dX1_take_104 rfl rfl ?_
    refine ald_c0_other (pc := 105) (j := k) F (by omega) dX1_take_105 ?_
    have b_105 := (hk.2.2.2 k (by omega)).2
    refine g_top (y := nI (otC σ k)) ((hk.2.2.2 k (by omega)).1) ?_
    refine g_callSN (As := [.int (nI (stC σ k)), .int (nI (otC σ k))]) (pc := 106) (st2 := [.int (nI ((stC σ k) * 16 + (otC σ k))), .int (nI ((stC σ k) * 16 + (doC σ k))), .ref (ad 4)]) (rest := [.int (nI ((stC σ k) * 16 + (doC σ k))), .ref (ad 4)]) F (kX5_seat l D cT ad σ (stC σ k) (otC σ k)) F.2.1.2.2.1 tt_yX5_seat tn_X5 tc_yX5_seat hd_yX5_seat rfl ⟨rfl, rfl, Nat.le_of_ble_eq_true rfl, Nat.le_of_ble_eq_true rfl⟩ rfl (Nat.le_of_ble_eq_true rfl) dX1_take_106 rfl ?_
    refine g_iload (pc := 109) F 4 dX1_take_109 rfl ?_
    refine g_callV (As := [.int (nI ((stC σ k) * 16 + (doC σ k))), .int (nI ((stC σ k) * 16 + (otC σ k))), .int (gA σ 20 k)]) (pc := 111) (st2 := []) (rest := []) F (kX1_move l D cT ad σ ((stC σ k) * 16 + (doC σ k)) ((stC σ k) * 16 + (otC σ k)) (gA σ 20 k) (by omega) (by omega)) tm_X1_73 ti_yX1_move ts_yX1_move tn_X1 tc_yX1_move hd_yX1_move rfl 4 (rfl : (cW cT ad _)[4]? = some (ad 4, .inr (1, cO4 ad _))) rfl ⟨rfl, rfl, Nat.le_of_ble_eq_true rfl, Nat.le_of_ble_eq_true rfl⟩ rfl (Nat.le_of_ble_eq_true rfl) dX1_take_111 rfl ?_
    refine g_goto (pc := 114) (tgt := 218) F dX1_take_114 (by decide) ?_
    exact g_vret (pc := 218) F hr hl dX1_take_218 rfl (by first | rfl | (simp only [if_true, if_false, reduceIte, Bool.not_true, Bool.not_false, Bool.and_true, Bool.true_and, Bool.and_false, Bool.false_and, Bool.or_true, Bool.true_or, Bool.or_false, Bool.false_or, decide_true, decide_false, not_true_eq_false, not_false_eq_true, b2i_t, b2i_f, true_and, and_true, false_and, and_false, Bool.true_eq_false, Bool.false_eq_true, takeC, c_33]; done) | (simp only [if_true, if_false, reduceIte, Bool.not_true, Bool.not_false, Bool.and_true, Bool.true_and, Bool.and_false, Bool.false_and, Bool.or_true, Bool.true_or, Bool.or_false, Bool.false_or, decide_true, decide_false, not_true_eq_false, not_false_eq_true, b2i_t, b2i_f, true_and, and_true, false_and, and_false, Bool.true_eq_false, Bool.false_eq_true, takeC, c_33]; rfl) | (simp [takeC, c_33]; done) | (simp [takeC, c_33]; rfl) | (simp [gA_pA, gI_pI, gB_pB, gL_pL, gA_pI, gA_pB, gA_pL, gI_pA, gI_pB, gI_pL, gB_pA, gB_pI, gB_pL, gL_pA, gL_pI, gL_pB, upd, vp_updL, takeC, c_33]; done))
  · refine g_top (pc := 33) (y := nI 2) (congrArg nI c_33) ?_
    refine g_tableIn (pc := 33) (tgt := 117) (off := 84) F dX1_take_33 (by decide) (by decide) (by decide) (by decide) ?_
    refine g_aload_n (pc := 117) F 0 dX1_take_117 rfl rfl ?_
    refine g_iload (pc := 118) F 5 dX1_take_118 rfl ?_
    refine g_iload_n (pc := 120) F 3 dX1_take_120 rfl rfl ?_
    refine g_aload_n (pc := 121) F 1 dX1_take_121 rfl rfl ?_
    refine get_c0_other (pc := 122) F tf_X1_70 dX1_take_122 ?_
    refine g_iload_n (pc := 125) F 2 dX1_take_125 rfl rfl ?_
    refine ald_c0_other (pc := 126) (j := k) F (by omega) dX1_take_126 ?_
    have b_126 := (hk.2.2.2 k (by omega)).2
    refine g_top (y := nI (otC σ k)) ((hk.2.2.2 k (by omega)).1) ?_
    refine g_callSN (As := [.int (nI (stC σ k)), .int (nI (otC σ k))]) (pc := 127) (st2 := [.int (nI ((stC σ k) * 16 + (otC σ k))), .int (nI ((stC σ k) * 16 + (doC σ k))), .ref (ad 4)]) (rest := [.int (nI ((stC σ k) * 16 + (doC σ k))), .ref (ad 4)]) F (kX5_seat l D cT ad σ (stC σ k) (otC σ k)) F.2.1.2.2.1 tt_yX5_seat tn_X5 tc_yX5_seat hd_yX5_seat rfl ⟨rfl, rfl, Nat.le_of_ble_eq_true rfl, Nat.le_of_ble_eq_true rfl⟩ rfl (Nat.le_of_ble_eq_true rfl) dX1_take_127 rfl ?_
    refine g_iload (pc := 130) F 4 dX1_take_130 rfl ?_
    refine g_callV (As := [.int (nI ((stC σ k) * 16 + (doC σ k))), .int (nI ((stC σ k) * 16 + (otC σ k))), .int (gA σ 20 k)]) (pc := 132) (st2 := []) (rest := []) F (kX1_move l D cT ad σ ((stC σ k) * 16 + (doC σ k)) ((stC σ k) * 16 + (otC σ k)) (gA σ 20 k) (by omega) (by omega)) tm_X1_73 ti_yX1_move ts_yX1_move tn_X1 tc_yX1_move hd_yX1_move rfl 4 (rfl : (cW cT ad _)[4]? = some (ad 4, .inr (1, cO4 ad _))) rfl ⟨rfl, rfl, Nat.le_of_ble_eq_true rfl, Nat.le_of_ble_eq_true rfl⟩ rfl (Nat.le_of_ble_eq_true rfl) dX1_take_132 rfl ?_
    refine g_aload_n (pc := 135) F 0 dX1_take_135 rfl rfl ?_
    refine get_c1_praise (pc := 136) F tf_X1_18 dX1_take_136 ?_
    refine g_iload_n (pc := 139) F 3 dX1_take_139 rfl rfl ?_
    refine g_dup2 (pc := 140) F dX1_take_140 rfl rfl ?_
    refine ald_c1_praise (pc := 141) (j := stC σ k) F (by omega) dX1_take_141 ?_
    refine g_iconst (pc := 142) (v := 5) F dX1_take_142 (by decide) ?_
    refine g_iadd (pc := 143) (v := (gA (moveC σ ((stC σ k) * 16 + (doC σ k)) ((stC σ k) * 16 + (otC σ k)) (gA σ 20 k)) 26 (stC σ k)) + (5 : Int32)) F dX1_take_143 (rfl) ?_
    refine ast_c1_praise (pc := 144) (j := stC σ k) F (by omega) dX1_take_144 ?_
    refine g_goto (pc := 145) (tgt := 218) F dX1_take_145 (by decide) ?_
    exact g_vret (pc := 218) F hr hl dX1_take_218 rfl (by first | rfl | (simp only [if_true, if_false, reduceIte, Bool.not_true, Bool.not_false, Bool.and_true, Bool.true_and, Bool.and_false, Bool.false_and, Bool.or_true, Bool.true_or, Bool.or_false, Bool.false_or, decide_true, decide_false, not_true_eq_false, not_false_eq_true, b2i_t, b2i_f, true_and, and_true, false_and, and_false, Bool.true_eq_false, Bool.false_eq_true, takeC, c_33]; done) | (simp only [if_true, if_false, reduceIte, Bool.not_true, Bool.not_false, Bool.and_true, Bool.true_and, Bool.and_false, Bool.false_and, Bool.or_true, Bool.true_or, Bool.or_false, Bool.false_or, decide_true, decide_false, not_true_eq_false, not_false_eq_true, b2i_t, b2i_f, true_and, and_true, false_and, and_false, Bool.true_eq_false, Bool.false_eq_true, takeC, c_33]; rfl) | (simp [takeC, c_33]; done) | (simp [takeC, c_33]; rfl) | (simp [gA_pA, gI_pI, gB_pB, gL_pL, gA_pI, gA_pB, gA_pL, gI_pA, gI_pB, gI_pL, gB_pA, gB_pI, gB_pL, gL_pA, gL_pI, gL_pB, upd, vp_updL, takeC, c_33]; done))
  · refine g_top (pc := 33) (y := nI 3) (congrArg nI c_33) ?_
    refine g_tableIn (pc := 33) (tgt := 148) (off := 115) F dX1_take_33 (by decide) (by decide) (by decide) (by decide) ?_
    refine g_aload_n (pc := 148) F 0 dX1_take_148 rfl rfl ?_
    refine get_c1_tied (pc := 149) F tf_X1_15 dX1_take_149 ?_
    refine g_iload (pc := 152) F 5 dX1_take_152 rfl ?_
    refine g_dup2 (pc := 154) F dX1_take_154 rfl rfl ?_
    refine ald_c1_tied (pc := 155) (j := (stC σ k) * 16 + (doC σ k)) F (by omega) dX1_take_155 ?_
    refine g_iload (pc := 156) F 4 dX1_take_156 rfl ?_
    refine g_iadd (pc := 158) (v := (gA σ 25 ((stC σ k) * 16 + (doC σ k))) + (gA σ 20 k)) F dX1_take_158 (rfl) ?_
    refine ast_c1_tied (pc := 159) (j := (stC σ k) * 16 + (doC σ k)) F (by omega) dX1_take_159 ?_
    refine g_goto (pc := 160) (tgt := 218) F dX1_take_160 (by decide) ?_
    exact g_vret (pc := 218) F hr hl dX1_take_218 rfl (by first | rfl | (simp only [if_true, if_false, reduceIte, Bool.not_true, Bool.not_false, Bool.and_true, Bool.true_and, Bool.and_false, Bool.false_and, Bool.or_true, Bool.true_or, Bool.or_false, Bool.false_or, decide_true, decide_false, not_true_eq_false, not_false_eq_true, b2i_t, b2i_f, true_and, and_true, false_and, and_false, Bool.true_eq_false, Bool.false_eq_true, takeC, c_33]; done) | (simp only [if_true, if_false, reduceIte, Bool.not_true, Bool.not_false, Bool.and_true, Bool.true_and, Bool.and_false, Bool.false_and, Bool.or_true, Bool.true_or, Bool.or_false, Bool.false_or, decide_true, decide_false, not_true_eq_false, not_false_eq_true, b2i_t, b2i_f, true_and, and_true, false_and, and_false, Bool.true_eq_false, Bool.false_eq_true, takeC, c_33]; rfl) | (simp [takeC, c_33]; done) | (simp [takeC, c_33]; rfl) | (simp [gA_pA, gI_pI, gB_pB, gL_pL, gA_pI, gA_pB, gA_pL, gI_pA, gI_pB, gI_pL, gB_pA, gB_pI, gB_pL, gL_pA, gL_pI, gL_pB, upd, vp_updL, takeC, c_33]; done))
  · refine g_top (pc := 33) (y := nI 4) (congrArg nI c_33) ?_
    refine g_tableIn (pc := 33) (tgt := 163) (off := 130) F dX1_take_33 (by decide) (by decide) (by decide) (by decide) ?_
    refine g_aload_n (pc := 163) F 0 dX1_take_163 rfl rfl ?_
    refine g_dup (pc := 164) F dX1_take_164 rfl ?_
    refine get_c1_freed (pc := 165) F tf_X1_25 dX1_take_165 ?_
    refine g_lconst (pc := 168) (v := 1) F dX1_take_168 (by decide) ?_
    refine g_aload_n (pc := 169) F 1 dX1_take_169 rfl rfl ?_
    refine get_c0_other (pc := 170) F tf_X1_70 dX1_take_170 ?_
    refine g_iload_n (pc := 173) F 2 dX1_take_173 rfl rfl ?_
    refine ald_c0_other (pc := 174) (j := k) F (by omega) dX1_take_174 ?_
    have b_174 := (hk.2.2.2 k (by omega)).2
    refine g_top (y := nI (otC σ k)) ((hk.2.2.2 k (by omega)).1) ?_
    refine g_lshl (pc := 175) (v := oneL (otC σ k)) F dX1_take_175 (rfl) ?_
    refine g_lor (pc := 176) (v := (gL σ 2) ||| (oneL (otC σ k))) F dX1_take_176 (rfl) ?_
    refine put_c1_freed (pc := 177) F tf_X1_25 dX1_take_177 ?_
    refine g_aload_n (pc := 180) F 0 dX1_take_180 rfl rfl ?_
    refine get_c1_tied (pc := 181) F tf_X1_15 dX1_take_181 ?_
    refine g_iload (pc := 184) F 5 dX1_take_184 rfl ?_
    refine g_dup2 (pc := 186) F dX1_take_186 rfl rfl ?_
    refine ald_c1_tied (pc := 187) (j := (stC σ k) * 16 + (doC σ k)) F (by omega) dX1_take_187 ?_
    refine g_aload_n (pc := 188) F 1 dX1_take_188 rfl rfl ?_
    refine get_c0_number (pc := 189) F tf_X1_65 dX1_take_189 ?_
    refine g_aload_n (pc := 192) F 1 dX1_take_192 rfl rfl ?_
    refine get_c0_other (pc := 193) F tf_X1_70 dX1_take_193 ?_
    refine g_iload_n (pc := 196) F 2 dX1_take_196 rfl rfl ?_
    refine ald_c0_other (pc := 197) (j := k) F (by omega) dX1_take_197 ?_
    have b_197 := (hk.2.2.2 k (by omega)).2
    refine g_top (y := nI (otC σ k)) ((hk.2.2.2 k (by omega)).1) ?_
    refine ald_c0_number (pc := 198) (j := otC σ k) F (by omega) dX1_take_198 ?_
    refine g_isub (pc := 199) (v := (gA σ 25 ((stC σ k) * 16 + (doC σ k))) - (gA σ 20 (otC σ k))) F dX1_take_199 (rfl) ?_
    refine ast_c1_tied (pc := 200) (j := (stC σ k) * 16 + (doC σ k)) F (by omega) dX1_take_200 ?_
    refine g_goto (pc := 201) (tgt := 218) F dX1_take_201 (by decide) ?_
    exact g_vret (pc := 218) F hr hl dX1_take_218 rfl (by first | rfl | (simp only [if_true, if_false, reduceIte, Bool.not_true, Bool.not_false, Bool.and_true, Bool.true_and, Bool.and_false, Bool.false_and, Bool.or_true, Bool.true_or, Bool.or_false, Bool.false_or, decide_true, decide_false, not_true_eq_false, not_false_eq_true, b2i_t, b2i_f, true_and, and_true, false_and, and_false, Bool.true_eq_false, Bool.false_eq_true, takeC, c_33]; done) | (simp only [if_true, if_false, reduceIte, Bool.not_true, Bool.not_false, Bool.and_true, Bool.true_and, Bool.and_false, Bool.false_and, Bool.or_true, Bool.true_or, Bool.or_false, Bool.false_or, decide_true, decide_false, not_true_eq_false, not_false_eq_true, b2i_t, b2i_f, true_and, and_true, false_and, and_false, Bool.true_eq_false, Bool.false_eq_true, takeC, c_33]; rfl) | (simp [takeC, c_33]; done) | (simp [takeC, c_33]; rfl) | (simp [gA_pA, gI_pI, gB_pB, gL_pL, gA_pI, gA_pB, gA_pL, gI_pA, gI_pB, gI_pL, gB_pA, gB_pI, gB_pL, gL_pA, gL_pI, gL_pB, upd, vp_updL, takeC, c_33]; done))
  · refine g_top (pc := 33) (y := nI 5) (congrArg nI c_33) ?_
    refine g_tableIn (pc := 33) (tgt := 204) (off := 171) F dX1_take_33 (by decide) (by decide) (by decide) (by decide) ?_
    refine g_aload_n (pc := 204) F 0 dX1_take_204 rfl rfl ?_
    refine get_c1_praise (pc := 205) F tf_X1_18 dX1_take_205 ?_
    refine g_iload_n (pc := 208) F 3 dX1_take_208 rfl rfl ?_
    refine g_dup2 (pc := 209) F dX1_take_209 rfl rfl ?_
    refine ald_c1_praise (pc := 210) (j := stC σ k) F (by omega) dX1_take_210 ?_
    refine g_iload (pc := 211) F 4 dX1_take_211 rfl ?_
    refine g_iadd (pc := 213) (v := (gA σ 26 (stC σ k)) + (gA σ 20 k)) F dX1_take_213 (rfl) ?_
    refine ast_c1_praise (pc := 214) (j := stC σ k) F (by omega) dX1_take_214 ?_
    refine g_goto (pc := 215) (tgt := 218) F dX1_take_215 (by decide) ?_
    exact g_vret (pc := 218) F hr hl dX1_take_218 rfl (by first | rfl | (simp only [if_true, if_false, reduceIte, Bool.not_true, Bool.not_false, Bool.and_true, Bool.true_and, Bool.and_false, Bool.false_and, Bool.or_true, Bool.true_or, Bool.or_false, Bool.false_or, decide_true, decide_false, not_true_eq_false, not_false_eq_true, b2i_t, b2i_f, true_and, and_true, false_and, and_false, Bool.true_eq_false, Bool.false_eq_true, takeC, c_33]; done) | (simp only [if_true, if_false, reduceIte, Bool.not_true, Bool.not_false, Bool.and_true, Bool.true_and, Bool.and_false, Bool.false_and, Bool.or_true, Bool.true_or, Bool.or_false, Bool.false_or, decide_true, decide_false, not_true_eq_false, not_false_eq_true, b2i_t, b2i_f, true_and, and_true, false_and, and_false, Bool.true_eq_false, Bool.false_eq_true, takeC, c_33]; rfl) | (simp [takeC, c_33]; done) | (simp [takeC, c_33]; rfl) | (simp [gA_pA, gI_pI, gB_pB, gL_pL, gA_pI, gA_pB, gA_pL, gI_pA, gI_pB, gI_pL, gB_pA, gB_pI, gB_pL, gL_pA, gL_pI, gL_pB, upd, vp_updL, takeC, c_33]; done))
  · refine g_top (pc := 33) (y := nI 6) (congrArg nI c_33) ?_
    refine g_tableOut (pc := 33) (tgt := 218) F dX1_take_33 (by decide) (by decide) ?_
    exact g_vret (pc := 218) F hr hl dX1_take_218 rfl (by first | rfl | (simp only [if_true, if_false, reduceIte, Bool.not_true, Bool.not_false, Bool.and_true, Bool.true_and, Bool.and_false, Bool.false_and, Bool.or_true, Bool.true_or, Bool.or_false, Bool.false_or, decide_true, decide_false, not_true_eq_false, not_false_eq_true, b2i_t, b2i_f, true_and, and_true, false_and, and_false, Bool.true_eq_false, Bool.false_eq_true, takeC, c_33]; done) | (simp only [if_true, if_false, reduceIte, Bool.not_true, Bool.not_false, Bool.and_true, Bool.true_and, Bool.and_false, Bool.false_and, Bool.or_true, Bool.true_or, Bool.or_false, Bool.false_or, decide_true, decide_false, not_true_eq_false, not_false_eq_true, b2i_t, b2i_f, true_and, and_true, false_and, and_false, Bool.true_eq_false, Bool.false_eq_true, takeC, c_33]; rfl) | (simp [takeC, c_33]; done) | (simp [takeC, c_33]; rfl) | (simp [gA_pA, gI_pI, gB_pB, gL_pL, gA_pI, gA_pB, gA_pL, gI_pA, gI_pB, gI_pL, gB_pA, gB_pI, gB_pL, gL_pA, gL_pI, gL_pB, upd, vp_updL, takeC, c_33]; done))
set_option maxRecDepth 100000 in
set_option maxHeartbeats 4000000 in
theorem kX1_addUp (l : Launch) (D : va_G) (cT : Nat → ClassId) (ad : Nat → Nat) (σ : sS) (na : Nat) (w : Int64) (ha : gI σ 6 = nI na) (ha60 : na ≤ 60) (hk : okA σ) : CT l D cT (cW cT ad) (cA ad) yX1_addUp cX1_addUp 5 none ({ frames := 2, cells := 0, slots := 0, locals := 48 } : Room) [.ref (ad 4), .ref (ad 3), .long (w)] σ none (addUpC σ na w) := by
  refine CT.of (by decide) (cWA cT ad) (Nat.le_of_ble_eq_true rfl) (L0 := [(0, .ref (ad 4)), (1, .ref (ad 3)), (2, .long (w))]) rfl ?_
  intro pp ee ss mm av bel mth cod F hr hl
  refine g_aload_n (pc := 0) F 0 dX1_addUp_0 rfl rfl ?_
  refine g_callV (As := []) (pc := 1) (st2 := []) (rest := []) F (kX1_forget l D cT ad σ) tm_X1_32 ti_yX1_forget ts_yX1_forget tn_X1 tc_yX1_forget hd_yX1_forget rfl 4 (rfl : (cW cT ad _)[4]? = some (ad 4, .inr (1, cO4 ad _))) rfl ⟨rfl, rfl, Nat.le_of_ble_eq_true rfl, Nat.le_of_ble_eq_true rfl⟩ rfl (Nat.le_of_ble_eq_true rfl) dX1_addUp_1 rfl ?_
  refine g_iconst (pc := 4) (v := 0) F dX1_addUp_4 (by decide) ?_
  refine g_istore (pc := 5) (lv2 := [(0, .ref (ad 4)), (1, .ref (ad 3)), (2, .long (w)), (4, .int 0)]) F [1, 2, 3, 0] dX1_addUp_5 (by decide) rfl ?_
  refine g_loc [0, 1, 2, 3] (rfl : lv_pick _ _ = [(0, .ref (ad 4)), (1, .ref (ad 3)), (2, .long (w)), (4, .int 0)]) ?_
  refine g_eq (σ' := itr (addStep w) 0 (forgetC σ)) (lv' := [(0, .ref (ad 4)), (1, .ref (ad 3)), (2, .long (w)), (4, .int (nI (0)))]) (st' := []) (by first | rfl | (simp only [if_true, if_false, reduceIte, Bool.not_true, Bool.not_false, Bool.and_true, Bool.true_and, Bool.and_false, Bool.false_and, Bool.or_true, Bool.true_or, Bool.or_false, Bool.false_or, decide_true, decide_false, not_true_eq_false, not_false_eq_true, b2i_t, b2i_f, true_and, and_true, false_and, and_false, Bool.true_eq_false, Bool.false_eq_true, addUpC, addStep, itr_0, cnt_0]; done) | (simp only [if_true, if_false, reduceIte, Bool.not_true, Bool.not_false, Bool.and_true, Bool.true_and, Bool.and_false, Bool.false_and, Bool.or_true, Bool.true_or, Bool.or_false, Bool.false_or, decide_true, decide_false, not_true_eq_false, not_false_eq_true, b2i_t, b2i_f, true_and, and_true, false_and, and_false, Bool.true_eq_false, Bool.false_eq_true, addUpC, addStep, itr_0, cnt_0]; rfl) | (simp [addUpC, addStep, itr_0, cnt_0]; done) | (simp [addUpC, addStep, itr_0, cnt_0]; rfl) | (simp [gA_pA, gI_pI, gB_pB, gL_pL, gA_pI, gA_pB, gA_pL, gI_pA, gI_pB, gI_pL, gB_pA, gB_pI, gB_pL, gL_pA, gL_pI, gL_pB, upd, vp_updL, addUpC, addStep, itr_0, cnt_0]; done)) (by first | rfl | (simp only [if_true, if_false, reduceIte, Bool.not_true, Bool.not_false, Bool.and_true, Bool.true_and, Bool.and_false, Bool.false_and, Bool.or_true, Bool.true_or, Bool.or_false, Bool.false_or, decide_true, decide_false, not_true_eq_false, not_false_eq_true, b2i_t, b2i_f, true_and, and_true, false_and, and_false, Bool.true_eq_false, Bool.false_eq_true, addUpC, addStep, itr_0, cnt_0]; done) | (simp only [if_true, if_false, reduceIte, Bool.not_true, Bool.not_false, Bool.and_true, Bool.true_and, Bool.and_false, Bool.false_and, Bool.or_true, Bool.true_or, Bool.or_false, Bool.false_or, decide_true, decide_false, not_true_eq_false, not_false_eq_true, b2i_t, b2i_f, true_and, and_true, false_and, and_false, Bool.true_eq_false, Bool.false_eq_true, addUpC, addStep, itr_0, cnt_0]; rfl) | (simp [addUpC, addStep, itr_0, cnt_0]; done) | (simp [addUpC, addStep, itr_0, cnt_0]; rfl) | (simp [gA_pA, gI_pI, gB_pB, gL_pL, gA_pI, gA_pB, gA_pL, gI_pA, gI_pB, gI_pL, gB_pA, gB_pI, gB_pL, gL_pA, gL_pI, gL_pB, upd, vp_updL, addUpC, addStep, itr_0, cnt_0]; done)) rfl ?_
  refine dn0 (P := fun i : Nat => G pp l ee ({ frames := 2, cells := 0, slots := 0, locals := 48 } : Room) ss mm av bel mth cod (gQ bel D (cW cT ad) (cA ad) av ss none (addUpC σ na w)) D (gR (cA ad) ss.heap.size) ss.heap 5 (cW cT ad) (itr (addStep w) i (forgetC σ)) 7 [(0, .ref (ad 4)), (1, .ref (ad 3)), (2, .long (w)), (4, .int (nI (i)))] []) (n := na) ?_ ?_
  · skip
    refine g_iload (pc := 7) F 3 dX1_addUp_7 rfl ?_
    refine g_aload_n (pc := 9) F 1 dX1_addUp_9 rfl rfl ?_
    refine get_c0_size (pc := 10) F tf_X1_35 dX1_addUp_10 ?_
    refine g_top (y := nI (na)) (((eqK_it σ w _).2.1 6 (by decide)).trans ha) ?_
    refine gn_icmp_ge (pc := 13) (tgt := 61) (a := na) (b := na) F (by omega) (by omega) dX1_addUp_13 (by decide) (fun c_13 => ?_) (fun c_13 => absurd (by omega) c_13)
    exact g_vret (pc := 61) F hr hl dX1_addUp_61 rfl (by first | rfl | (simp only [if_true, if_false, reduceIte, Bool.not_true, Bool.not_false, Bool.and_true, Bool.true_and, Bool.and_false, Bool.false_and, Bool.or_true, Bool.true_or, Bool.or_false, Bool.false_or, decide_true, decide_false, not_true_eq_false, not_false_eq_true, b2i_t, b2i_f, true_and, and_true, false_and, and_false, Bool.true_eq_false, Bool.false_eq_true, addUpC, addStep]; done) | (simp only [if_true, if_false, reduceIte, Bool.not_true, Bool.not_false, Bool.and_true, Bool.true_and, Bool.and_false, Bool.false_and, Bool.or_true, Bool.true_or, Bool.or_false, Bool.false_or, decide_true, decide_false, not_true_eq_false, not_false_eq_true, b2i_t, b2i_f, true_and, and_true, false_and, and_false, Bool.true_eq_false, Bool.false_eq_true, addUpC, addStep]; rfl) | (simp [addUpC, addStep]; done) | (simp [addUpC, addStep]; rfl) | (simp [gA_pA, gI_pI, gB_pB, gL_pL, gA_pI, gA_pB, gA_pL, gI_pA, gI_pB, gI_pL, gB_pA, gB_pI, gB_pL, gL_pA, gL_pI, gL_pB, upd, vp_updL, addUpC, addStep]; done))
  · intro i hlt_7 ih_7
    refine g_iload (pc := 7) F 3 dX1_addUp_7 rfl ?_
    refine g_aload_n (pc := 9) F 1 dX1_addUp_9 rfl rfl ?_
    refine get_c0_size (pc := 10) F tf_X1_35 dX1_addUp_10 ?_
    refine g_top (y := nI (na)) (((eqK_it σ w _).2.1 6 (by decide)).trans ha) ?_
    refine gn_icmp_ge (pc := 13) (tgt := 61) (a := i) (b := na) F (by omega) (by omega) dX1_addUp_13 (by decide) (fun c_13 => absurd c_13 (by omega)) (fun c_13 => ?_)
    refine g_lload_n (pc := 16) F 2 dX1_addUp_16 rfl rfl ?_
    refine g_iload (pc := 17) F 3 dX1_addUp_17 rfl ?_
    refine g_callSN (As := [.long (w), .int (nI (i))]) (pc := 19) (st2 := [.int (b2i (btL w i))]) (rest := []) F (kX5_hasBit l D cT ad (itr (addStep w) i (forgetC σ)) w i (by omega)) F.2.1.2.1 tt_yX5_hasBit tn_X5 tc_yX5_hasBit hd_yX5_hasBit rfl ⟨rfl, rfl, Nat.le_of_ble_eq_true rfl, Nat.le_of_ble_eq_true rfl⟩ rfl (Nat.le_of_ble_eq_true rfl) dX1_addUp_19 rfl ?_
    refine gb_if_eq (pc := 22) (tgt := 55) (x := btL w i) F dX1_addUp_22 (by decide) (fun c_22 => ?_) (fun c_22 => ?_)
    · skip
      refine g_iinc (pc := 55) (v := nI (i + 1)) (lv2 := [(0, .ref (ad 4)), (1, .ref (ad 3)), (2, .long (w)), (4, .int (nI (i + 1)))]) F 3 [1, 2, 3, 0] dX1_addUp_55 rfl (nI_add _ _) (by decide) rfl ?_
      refine g_goto (pc := 58) (tgt := 7) F dX1_addUp_58 (by decide) ?_
      refine g_loc [0, 1, 2, 3] (rfl : lv_pick _ _ = [(0, .ref (ad 4)), (1, .ref (ad 3)), (2, .long (w)), (4, .int (nI (i + 1)))]) ?_
      refine g_eq (σ' := itr (addStep w) (i + 1) (forgetC σ)) (lv' := [(0, .ref (ad 4)), (1, .ref (ad 3)), (2, .long (w)), (4, .int (nI (i + 1)))]) (st' := []) (by first | rfl | (simp only [if_true, if_false, reduceIte, Bool.not_true, Bool.not_false, Bool.and_true, Bool.true_and, Bool.and_false, Bool.false_and, Bool.or_true, Bool.true_or, Bool.or_false, Bool.false_or, decide_true, decide_false, not_true_eq_false, not_false_eq_true, b2i_t, b2i_f, true_and, and_true, false_and, and_false, Bool.true_eq_false, Bool.false_eq_true, addUpC, addStep, itr_s, cnt_s, c_22]; done) | (simp only [if_true, if_false, reduceIte, Bool.not_true, Bool.not_false, Bool.and_true, Bool.true_and, Bool.and_false, Bool.false_and, Bool.or_true, Bool.true_or, Bool.or_false, Bool.false_or, decide_true, decide_false, not_true_eq_false, not_false_eq_true, b2i_t, b2i_f, true_and, and_true, false_and, and_false, Bool.true_eq_false, Bool.false_eq_true, addUpC, addStep, itr_s, cnt_s, c_22]; rfl) | (simp only [if_true, if_false, reduceIte, Bool.not_true, Bool.not_false, Bool.and_true, Bool.true_and, Bool.and_false, Bool.false_and, Bool.or_true, Bool.true_or, Bool.or_false, Bool.false_or, decide_true, decide_false, not_true_eq_false, not_false_eq_true, b2i_t, b2i_f, true_and, and_true, false_and, and_false, Bool.true_eq_false, Bool.false_eq_true, addUpC, addStep, itr_s, cnt_s, c_22]; done) | (simp only [if_true, if_false, reduceIte, Bool.not_true, Bool.not_false, Bool.and_true, Bool.true_and, Bool.and_false, Bool.false_and, Bool.or_true, Bool.true_or, Bool.or_false, Bool.false_or, decide_true, decide_false, not_true_eq_false, not_false_eq_true, b2i_t, b2i_f, true_and, and_true, false_and, and_false, Bool.true_eq_false, Bool.false_eq_true, addUpC, addStep, itr_s, cnt_s, c_22]; rfl) | (simp [addUpC, addStep, itr_s, cnt_s, c_22]; done) | (simp [addUpC, addStep, itr_s, cnt_s, c_22]; done) | (simp [addUpC, addStep, itr_s, cnt_s, c_22]; rfl)) (by first | rfl | (simp only [if_true, if_false, reduceIte, Bool.not_true, Bool.not_false, Bool.and_true, Bool.true_and, Bool.and_false, Bool.false_and, Bool.or_true, Bool.true_or, Bool.or_false, Bool.false_or, decide_true, decide_false, not_true_eq_false, not_false_eq_true, b2i_t, b2i_f, true_and, and_true, false_and, and_false, Bool.true_eq_false, Bool.false_eq_true, addUpC, addStep, itr_s, cnt_s, c_22]; done) | (simp only [if_true, if_false, reduceIte, Bool.not_true, Bool.not_false, Bool.and_true, Bool.true_and, Bool.and_false, Bool.false_and, Bool.or_true, Bool.true_or, Bool.or_false, Bool.false_or, decide_true, decide_false, not_true_eq_false, not_false_eq_true, b2i_t, b2i_f, true_and, and_true, false_and, and_false, Bool.true_eq_false, Bool.false_eq_true, addUpC, addStep, itr_s, cnt_s, c_22]; rfl) | (simp only [if_true, if_false, reduceIte, Bool.not_true, Bool.not_false, Bool.and_true, Bool.true_and, Bool.and_false, Bool.false_and, Bool.or_true, Bool.true_or, Bool.or_false, Bool.false_or, decide_true, decide_false, not_true_eq_false, not_false_eq_true, b2i_t, b2i_f, true_and, and_true, false_and, and_false, Bool.true_eq_false, Bool.false_eq_true, addUpC, addStep, itr_s, cnt_s, c_22]; done) | (simp only [if_true, if_false, reduceIte, Bool.not_true, Bool.not_false, Bool.and_true, Bool.true_and, Bool.and_false, Bool.false_and, Bool.or_true, Bool.true_or, Bool.or_false, Bool.false_or, decide_true, decide_false, not_true_eq_false, not_false_eq_true, b2i_t, b2i_f, true_and, and_true, false_and, and_false, Bool.true_eq_false, Bool.false_eq_true, addUpC, addStep, itr_s, cnt_s, c_22]; rfl) | (simp [addUpC, addStep, itr_s, cnt_s, c_22]; done) | (simp [addUpC, addStep, itr_s, cnt_s, c_22]; done) | (simp [addUpC, addStep, itr_s, cnt_s, c_22]; rfl)) rfl (ih_7)
    · skip
      refine g_aload_n (pc := 25) F 0 dX1_addUp_25 rfl rfl ?_
      refine g_aload_n (pc := 26) F 1 dX1_addUp_26 rfl rfl ?_
      refine g_iload (pc := 27) F 3 dX1_addUp_27 rfl ?_
      refine g_callV (As := [.ref (ad 3), .int (nI (i))]) (pc := 29) (st2 := [.int (b2i (agreesC (itr (addStep w) i (forgetC σ)) i))]) (rest := []) F (kX1_agrees l D cT ad (itr (addStep w) i (forgetC σ)) i (by omega) ((eqK_it σ w _).ok hk)) tm_X1_44 ti_yX1_agrees ts_yX1_agrees tn_X1 tc_yX1_agrees hd_yX1_agrees rfl 4 (rfl : (cW cT ad _)[4]? = some (ad 4, .inr (1, cO4 ad _))) rfl ⟨rfl, rfl, Nat.le_of_ble_eq_true rfl, Nat.le_of_ble_eq_true rfl⟩ rfl (Nat.le_of_ble_eq_true rfl) dX1_addUp_29 rfl ?_
      refine gb_if_eq (pc := 32) (tgt := 55) (x := agreesC (itr (addStep w) i (forgetC σ)) i) F dX1_addUp_32 (by decide) (fun c_32 => ?_) (fun c_32 => ?_)
      · skip
        refine g_iinc (pc := 55) (v := nI (i + 1)) (lv2 := [(0, .ref (ad 4)), (1, .ref (ad 3)), (2, .long (w)), (4, .int (nI (i + 1)))]) F 3 [1, 2, 3, 0] dX1_addUp_55 rfl (nI_add _ _) (by decide) rfl ?_
        refine g_goto (pc := 58) (tgt := 7) F dX1_addUp_58 (by decide) ?_
        refine g_loc [0, 1, 2, 3] (rfl : lv_pick _ _ = [(0, .ref (ad 4)), (1, .ref (ad 3)), (2, .long (w)), (4, .int (nI (i + 1)))]) ?_
        refine g_eq (σ' := itr (addStep w) (i + 1) (forgetC σ)) (lv' := [(0, .ref (ad 4)), (1, .ref (ad 3)), (2, .long (w)), (4, .int (nI (i + 1)))]) (st' := []) (by first | rfl | (simp only [if_true, if_false, reduceIte, Bool.not_true, Bool.not_false, Bool.and_true, Bool.true_and, Bool.and_false, Bool.false_and, Bool.or_true, Bool.true_or, Bool.or_false, Bool.false_or, decide_true, decide_false, not_true_eq_false, not_false_eq_true, b2i_t, b2i_f, true_and, and_true, false_and, and_false, Bool.true_eq_false, Bool.false_eq_true, addUpC, addStep, itr_s, cnt_s, c_22, c_32]; done) | (simp only [if_true, if_false, reduceIte, Bool.not_true, Bool.not_false, Bool.and_true, Bool.true_and, Bool.and_false, Bool.false_and, Bool.or_true, Bool.true_or, Bool.or_false, Bool.false_or, decide_true, decide_false, not_true_eq_false, not_false_eq_true, b2i_t, b2i_f, true_and, and_true, false_and, and_false, Bool.true_eq_false, Bool.false_eq_true, addUpC, addStep, itr_s, cnt_s, c_22, c_32]; rfl) | (simp only [if_true, if_false, reduceIte, Bool.not_true, Bool.not_false, Bool.and_true, Bool.true_and, Bool.and_false, Bool.false_and, Bool.or_true, Bool.true_or, Bool.or_false, Bool.false_or, decide_true, decide_false, not_true_eq_false, not_false_eq_true, b2i_t, b2i_f, true_and, and_true, false_and, and_false, Bool.true_eq_false, Bool.false_eq_true, addUpC, addStep, itr_s, cnt_s, c_22, c_32]; done) | (simp only [if_true, if_false, reduceIte, Bool.not_true, Bool.not_false, Bool.and_true, Bool.true_and, Bool.and_false, Bool.false_and, Bool.or_true, Bool.true_or, Bool.or_false, Bool.false_or, decide_true, decide_false, not_true_eq_false, not_false_eq_true, b2i_t, b2i_f, true_and, and_true, false_and, and_false, Bool.true_eq_false, Bool.false_eq_true, addUpC, addStep, itr_s, cnt_s, c_22, c_32]; rfl) | (simp [addUpC, addStep, itr_s, cnt_s, c_22, c_32]; done) | (simp [addUpC, addStep, itr_s, cnt_s, c_22, c_32]; done) | (simp [addUpC, addStep, itr_s, cnt_s, c_22, c_32]; rfl)) (by first | rfl | (simp only [if_true, if_false, reduceIte, Bool.not_true, Bool.not_false, Bool.and_true, Bool.true_and, Bool.and_false, Bool.false_and, Bool.or_true, Bool.true_or, Bool.or_false, Bool.false_or, decide_true, decide_false, not_true_eq_false, not_false_eq_true, b2i_t, b2i_f, true_and, and_true, false_and, and_false, Bool.true_eq_false, Bool.false_eq_true, addUpC, addStep, itr_s, cnt_s, c_22, c_32]; done) | (simp only [if_true, if_false, reduceIte, Bool.not_true, Bool.not_false, Bool.and_true, Bool.true_and, Bool.and_false, Bool.false_and, Bool.or_true, Bool.true_or, Bool.or_false, Bool.false_or, decide_true, decide_false, not_true_eq_false, not_false_eq_true, b2i_t, b2i_f, true_and, and_true, false_and, and_false, Bool.true_eq_false, Bool.false_eq_true, addUpC, addStep, itr_s, cnt_s, c_22, c_32]; rfl) | (simp only [if_true, if_false, reduceIte, Bool.not_true, Bool.not_false, Bool.and_true, Bool.true_and, Bool.and_false, Bool.false_and, Bool.or_true, Bool.true_or, Bool.or_false, Bool.false_or, decide_true, decide_false, not_true_eq_false, not_false_eq_true, b2i_t, b2i_f, true_and, and_true, false_and, and_false, Bool.true_eq_false, Bool.false_eq_true, addUpC, addStep, itr_s, cnt_s, c_22, c_32]; done) | (simp only [if_true, if_false, reduceIte, Bool.not_true, Bool.not_false, Bool.and_true, Bool.true_and, Bool.and_false, Bool.false_and, Bool.or_true, Bool.true_or, Bool.or_false, Bool.false_or, decide_true, decide_false, not_true_eq_false, not_false_eq_true, b2i_t, b2i_f, true_and, and_true, false_and, and_false, Bool.true_eq_false, Bool.false_eq_true, addUpC, addStep, itr_s, cnt_s, c_22, c_32]; rfl) | (simp [addUpC, addStep, itr_s, cnt_s, c_22, c_32]; done) | (simp [addUpC, addStep, itr_s, cnt_s, c_22, c_32]; done) | (simp [addUpC, addStep, itr_s, cnt_s, c_22, c_32]; rfl)) rfl (ih_7)
      · skip
        refine g_aload_n (pc := 35) F 0 dX1_addUp_35 rfl rfl ?_
        refine g_dup (pc := 36) F dX1_addUp_36 rfl ?_
        refine get_c1_holding (pc := 37) F tf_X1_21 dX1_addUp_37 ?_
        refine g_lconst (pc := 40) (v := 1) F dX1_addUp_40 (by decide) ?_
        refine g_iload (pc := 41) F 3 dX1_addUp_41 rfl ?_
        refine g_lshl (pc := 43) (v := oneL i) F dX1_addUp_43 (rfl) ?_
        refine g_lor (pc := 44) (v := (gL (itr (addStep w) i (forgetC σ)) 1) ||| (oneL i)) F dX1_addUp_44 (rfl) ?_
        refine put_c1_holding (pc := 45) F tf_X1_21 dX1_addUp_45 ?_
        refine g_aload_n (pc := 48) F 0 dX1_addUp_48 rfl rfl ?_
        refine g_aload_n (pc := 49) F 1 dX1_addUp_49 rfl rfl ?_
        refine g_iload (pc := 50) F 3 dX1_addUp_50 rfl ?_
        refine g_callV (As := [.ref (ad 3), .int (nI (i))]) (pc := 52) (st2 := []) (rest := []) F (kX1_take l D cT ad (pL (itr (addStep w) i (forgetC σ)) 1 ((gL (itr (addStep w) i (forgetC σ)) 1) ||| (oneL i))) i (by omega) ((eqK_it σ w _).ok hk)) tm_X1_48 ti_yX1_take ts_yX1_take tn_X1 tc_yX1_take hd_yX1_take rfl 4 (rfl : (cW cT ad _)[4]? = some (ad 4, .inr (1, cO4 ad _))) rfl ⟨rfl, rfl, Nat.le_of_ble_eq_true rfl, Nat.le_of_ble_eq_true rfl⟩ rfl (Nat.le_of_ble_eq_true rfl) dX1_addUp_52 rfl ?_
        refine g_iinc (pc := 55) (v := nI (i + 1)) (lv2 := [(0, .ref (ad 4)), (1, .ref (ad 3)), (2, .long (w)), (4, .int (nI (i + 1)))]) F 3 [1, 2, 3, 0] dX1_addUp_55 rfl (nI_add _ _) (by decide) rfl ?_
        refine g_goto (pc := 58) (tgt := 7) F dX1_addUp_58 (by decide) ?_
        refine g_loc [0, 1, 2, 3] (rfl : lv_pick _ _ = [(0, .ref (ad 4)), (1, .ref (ad 3)), (2, .long (w)), (4, .int (nI (i + 1)))]) ?_
        refine g_eq (σ' := itr (addStep w) (i + 1) (forgetC σ)) (lv' := [(0, .ref (ad 4)), (1, .ref (ad 3)), (2, .long (w)), (4, .int (nI (i + 1)))]) (st' := []) (by first | rfl | (simp only [if_true, if_false, reduceIte, Bool.not_true, Bool.not_false, Bool.and_true, Bool.true_and, Bool.and_false, Bool.false_and, Bool.or_true, Bool.true_or, Bool.or_false, Bool.false_or, decide_true, decide_false, not_true_eq_false, not_false_eq_true, b2i_t, b2i_f, true_and, and_true, false_and, and_false, Bool.true_eq_false, Bool.false_eq_true, addUpC, addStep, itr_s, cnt_s, c_22, c_32]; done) | (simp only [if_true, if_false, reduceIte, Bool.not_true, Bool.not_false, Bool.and_true, Bool.true_and, Bool.and_false, Bool.false_and, Bool.or_true, Bool.true_or, Bool.or_false, Bool.false_or, decide_true, decide_false, not_true_eq_false, not_false_eq_true, b2i_t, b2i_f, true_and, and_true, false_and, and_false, Bool.true_eq_false, Bool.false_eq_true, addUpC, addStep, itr_s, cnt_s, c_22, c_32]; rfl) | (simp only [if_true, if_false, reduceIte, Bool.not_true, Bool.not_false, Bool.and_true, Bool.true_and, Bool.and_false, Bool.false_and, Bool.or_true, Bool.true_or, Bool.or_false, Bool.false_or, decide_true, decide_false, not_true_eq_false, not_false_eq_true, b2i_t, b2i_f, true_and, and_true, false_and, and_false, Bool.true_eq_false, Bool.false_eq_true, addUpC, addStep, itr_s, cnt_s, c_22, c_32]; done) | (simp only [if_true, if_false, reduceIte, Bool.not_true, Bool.not_false, Bool.and_true, Bool.true_and, Bool.and_false, Bool.false_and, Bool.or_true, Bool.true_or, Bool.or_false, Bool.false_or, decide_true, decide_false, not_true_eq_false, not_false_eq_true, b2i_t, b2i_f, true_and, and_true, false_and, and_false, Bool.true_eq_false, Bool.false_eq_true, addUpC, addStep, itr_s, cnt_s, c_22, c_32]; rfl) | (simp [addUpC, addStep, itr_s, cnt_s, c_22, c_32]; done) | (simp [addUpC, addStep, itr_s, cnt_s, c_22, c_32]; done) | (simp [addUpC, addStep, itr_s, cnt_s, c_22, c_32]; rfl)) (by first | rfl | (simp only [if_true, if_false, reduceIte, Bool.not_true, Bool.not_false, Bool.and_true, Bool.true_and, Bool.and_false, Bool.false_and, Bool.or_true, Bool.true_or, Bool.or_false, Bool.false_or, decide_true, decide_false, not_true_eq_false, not_false_eq_true, b2i_t, b2i_f, true_and, and_true, false_and, and_false, Bool.true_eq_false, Bool.false_eq_true, addUpC, addStep, itr_s, cnt_s, c_22, c_32]; done) | (simp only [if_true, if_false, reduceIte, Bool.not_true, Bool.not_false, Bool.and_true, Bool.true_and, Bool.and_false, Bool.false_and, Bool.or_true, Bool.true_or, Bool.or_false, Bool.false_or, decide_true, decide_false, not_true_eq_false, not_false_eq_true, b2i_t, b2i_f, true_and, and_true, false_and, and_false, Bool.true_eq_false, Bool.false_eq_true, addUpC, addStep, itr_s, cnt_s, c_22, c_32]; rfl) | (simp only [if_true, if_false, reduceIte, Bool.not_true, Bool.not_false, Bool.and_true, Bool.true_and, Bool.and_false, Bool.false_and, Bool.or_true, Bool.true_or, Bool.or_false, Bool.false_or, decide_true, decide_false, not_true_eq_false, not_false_eq_true, b2i_t, b2i_f, true_and, and_true, false_and, and_false, Bool.true_eq_false, Bool.false_eq_true, addUpC, addStep, itr_s, cnt_s, c_22, c_32]; done) | (simp only [if_true, if_false, reduceIte, Bool.not_true, Bool.not_false, Bool.and_true, Bool.true_and, Bool.and_false, Bool.false_and, Bool.or_true, Bool.true_or, Bool.or_false, Bool.false_or, decide_true, decide_false, not_true_eq_false, not_false_eq_true, b2i_t, b2i_f, true_and, and_true, false_and, and_false, Bool.true_eq_false, Bool.false_eq_true, addUpC, addStep, itr_s, cnt_s, c_22, c_32]; rfl) | (simp [addUpC, addStep, itr_s, cnt_s, c_22, c_32]; done) | (simp [addUpC, addStep, itr_s, cnt_s, c_22, c_32]; done) | (simp [addUpC, addStep, itr_s, cnt_s, c_22, c_32]; rfl)) rfl (ih_7)
set_option maxRecDepth 100000 in
set_option maxHeartbeats 4000000 in
theorem kJ13_bitCount_95d88 (l : Launch) (D : va_G) (cT : Nat → ClassId) (ad : Nat → Nat) (σ : sS) (w : Int64) : CT l D cT (cW cT ad) (cA ad) yJ13_bitCount_95d88 cJ13_bitCount_95d88 2 (some .int) ({ frames := 0, cells := 0, slots := 0, locals := 0 } : Room) [.long (w)] σ (some (.int (pop64 w))) (σ) := by
  refine CT.of (by decide) (cWA cT ad) (Nat.le_of_ble_eq_true rfl) (L0 := [(0, .long (w))]) rfl ?_
  intro pp ee ss mm av bel mth cod F hr hl
  refine g_lload_n (pc := 0) F 0 dJ13_bitCount_95d88_0 rfl rfl ?_
  refine g_lload_n (pc := 1) F 0 dJ13_bitCount_95d88_1 rfl rfl ?_
  refine g_iconst (pc := 2) (v := 1) F dJ13_bitCount_95d88_2 (by decide) ?_
  refine g_lushr (pc := 3) (v := ush w 1) F dJ13_bitCount_95d88_3 (rfl) ?_
  refine g_ldc2 (pc := 4) F tk_J13_314 dJ13_bitCount_95d88_4 ?_
  refine g_land (pc := 7) (v := (ush w 1) &&& 6148914691236517205) F dJ13_bitCount_95d88_7 (rfl) ?_
  refine g_lsub (pc := 8) (v := lc1 (w)) F dJ13_bitCount_95d88_8 (rfl) ?_
  refine g_lstore_n (pc := 9) (lv2 := [(0, .long (lc1 (w)))]) F [0] dJ13_bitCount_95d88_9 rfl (by decide) rfl ?_
  refine g_lload_n (pc := 10) F 0 dJ13_bitCount_95d88_10 rfl rfl ?_
  refine g_ldc2 (pc := 11) F tk_J13_316 dJ13_bitCount_95d88_11 ?_
  refine g_land (pc := 14) (v := (lc1 (w)) &&& 3689348814741910323) F dJ13_bitCount_95d88_14 (rfl) ?_
  refine g_lload_n (pc := 15) F 0 dJ13_bitCount_95d88_15 rfl rfl ?_
  refine g_iconst (pc := 16) (v := 2) F dJ13_bitCount_95d88_16 (by decide) ?_
  refine g_lushr (pc := 17) (v := ush (lc1 (w)) 2) F dJ13_bitCount_95d88_17 (rfl) ?_
  refine g_ldc2 (pc := 18) F tk_J13_316 dJ13_bitCount_95d88_18 ?_
  refine g_land (pc := 21) (v := (ush (lc1 (w)) 2) &&& 3689348814741910323) F dJ13_bitCount_95d88_21 (rfl) ?_
  refine g_ladd (pc := 22) (v := lc2 (lc1 w)) F dJ13_bitCount_95d88_22 (rfl) ?_
  refine g_lstore_n (pc := 23) (lv2 := [(0, .long (lc2 (lc1 w)))]) F [0] dJ13_bitCount_95d88_23 rfl (by decide) rfl ?_
  refine g_lload_n (pc := 24) F 0 dJ13_bitCount_95d88_24 rfl rfl ?_
  refine g_lload_n (pc := 25) F 0 dJ13_bitCount_95d88_25 rfl rfl ?_
  refine g_iconst (pc := 26) (v := 4) F dJ13_bitCount_95d88_26 (by decide) ?_
  refine g_lushr (pc := 27) (v := ush (lc2 (lc1 w)) 4) F dJ13_bitCount_95d88_27 (rfl) ?_
  refine g_ladd (pc := 28) (v := (lc2 (lc1 w)) + (ush (lc2 (lc1 w)) 4)) F dJ13_bitCount_95d88_28 (rfl) ?_
  refine g_ldc2 (pc := 29) F tk_J13_318 dJ13_bitCount_95d88_29 ?_
  refine g_land (pc := 32) (v := lc3 (lc2 (lc1 w))) F dJ13_bitCount_95d88_32 (rfl) ?_
  refine g_lstore_n (pc := 33) (lv2 := [(0, .long (lc3 (lc2 (lc1 w))))]) F [0] dJ13_bitCount_95d88_33 rfl (by decide) rfl ?_
  refine g_lload_n (pc := 34) F 0 dJ13_bitCount_95d88_34 rfl rfl ?_
  refine g_lload_n (pc := 35) F 0 dJ13_bitCount_95d88_35 rfl rfl ?_
  refine g_bipush (pc := 36) (v := 8) F dJ13_bitCount_95d88_36 (by decide) ?_
  refine g_lushr (pc := 38) (v := ush (lc3 (lc2 (lc1 w))) 8) F dJ13_bitCount_95d88_38 (rfl) ?_
  refine g_ladd (pc := 39) (v := lc4 (lc3 (lc2 (lc1 w)))) F dJ13_bitCount_95d88_39 (rfl) ?_
  refine g_lstore_n (pc := 40) (lv2 := [(0, .long (lc4 (lc3 (lc2 (lc1 w)))))]) F [0] dJ13_bitCount_95d88_40 rfl (by decide) rfl ?_
  refine g_lload_n (pc := 41) F 0 dJ13_bitCount_95d88_41 rfl rfl ?_
  refine g_lload_n (pc := 42) F 0 dJ13_bitCount_95d88_42 rfl rfl ?_
  refine g_bipush (pc := 43) (v := 16) F dJ13_bitCount_95d88_43 (by decide) ?_
  refine g_lushr (pc := 45) (v := ush (lc4 (lc3 (lc2 (lc1 w)))) 16) F dJ13_bitCount_95d88_45 (rfl) ?_
  refine g_ladd (pc := 46) (v := lc5 (lc4 (lc3 (lc2 (lc1 w))))) F dJ13_bitCount_95d88_46 (rfl) ?_
  refine g_lstore_n (pc := 47) (lv2 := [(0, .long (lc5 (lc4 (lc3 (lc2 (lc1 w))))))]) F [0] dJ13_bitCount_95d88_47 rfl (by decide) rfl ?_
  refine g_lload_n (pc := 48) F 0 dJ13_bitCount_95d88_48 rfl rfl ?_
  refine g_lload_n (pc := 49) F 0 dJ13_bitCount_95d88_49 rfl rfl ?_
  refine g_bipush (pc := 50) (v := 32) F dJ13_bitCount_95d88_50 (by decide) ?_
  refine g_lushr (pc := 52) (v := ush (lc5 (lc4 (lc3 (lc2 (lc1 w))))) 32) F dJ13_bitCount_95d88_52 (rfl) ?_
  refine g_ladd (pc := 53) (v := lc6 (lc5 (lc4 (lc3 (lc2 (lc1 w)))))) F dJ13_bitCount_95d88_53 (rfl) ?_
  refine g_lstore_n (pc := 54) (lv2 := [(0, .long (lc6 (lc5 (lc4 (lc3 (lc2 (lc1 w)))))))]) F [0] dJ13_bitCount_95d88_54 rfl (by decide) rfl ?_
  refine g_lload_n (pc := 55) F 0 dJ13_bitCount_95d88_55 rfl rfl ?_
  refine g_l2i (pc := 56) (v := (lc6 (lc5 (lc4 (lc3 (lc2 (lc1 w)))))).toInt32) F dJ13_bitCount_95d88_56 rfl ?_
  refine g_bipush (pc := 57) (v := 127) F dJ13_bitCount_95d88_57 (by decide) ?_
  refine g_iand (pc := 59) (v := ((lc6 (lc5 (lc4 (lc3 (lc2 (lc1 w)))))).toInt32) &&& (127 : Int32)) F dJ13_bitCount_95d88_59 (rfl) ?_
  exact g_iret (pc := 60) F hr hl dJ13_bitCount_95d88_60 (rfl) (by first | rfl | (simp only [if_true, if_false, reduceIte, Bool.not_true, Bool.not_false, Bool.and_true, Bool.true_and, Bool.and_false, Bool.false_and, Bool.or_true, Bool.true_or, Bool.or_false, Bool.false_or, decide_true, decide_false, not_true_eq_false, not_false_eq_true, b2i_t, b2i_f, true_and, and_true, false_and, and_false, Bool.true_eq_false, Bool.false_eq_true, pop64]; done) | (simp only [if_true, if_false, reduceIte, Bool.not_true, Bool.not_false, Bool.and_true, Bool.true_and, Bool.and_false, Bool.false_and, Bool.or_true, Bool.true_or, Bool.or_false, Bool.false_or, decide_true, decide_false, not_true_eq_false, not_false_eq_true, b2i_t, b2i_f, true_and, and_true, false_and, and_false, Bool.true_eq_false, Bool.false_eq_true, pop64]; rfl) | (simp [pop64]; done) | (simp [pop64]; rfl) | (simp [gA_pA, gI_pI, gB_pB, gL_pL, gA_pI, gA_pB, gA_pL, gI_pA, gI_pB, gI_pL, gB_pA, gB_pI, gB_pL, gL_pA, gL_pI, gL_pB, upd, vp_updL, pop64]; done)) (by first | rfl | (simp only [if_true, if_false, reduceIte, Bool.not_true, Bool.not_false, Bool.and_true, Bool.true_and, Bool.and_false, Bool.false_and, Bool.or_true, Bool.true_or, Bool.or_false, Bool.false_or, decide_true, decide_false, not_true_eq_false, not_false_eq_true, b2i_t, b2i_f, true_and, and_true, false_and, and_false, Bool.true_eq_false, Bool.false_eq_true, pop64]; done) | (simp only [if_true, if_false, reduceIte, Bool.not_true, Bool.not_false, Bool.and_true, Bool.true_and, Bool.and_false, Bool.false_and, Bool.or_true, Bool.true_or, Bool.or_false, Bool.false_or, decide_true, decide_false, not_true_eq_false, not_false_eq_true, b2i_t, b2i_f, true_and, and_true, false_and, and_false, Bool.true_eq_false, Bool.false_eq_true, pop64]; rfl) | (simp [pop64]; done) | (simp [pop64]; rfl) | (simp [gA_pA, gI_pI, gB_pB, gL_pL, gA_pI, gA_pB, gA_pL, gI_pA, gI_pB, gI_pL, gB_pA, gB_pI, gB_pL, gL_pA, gL_pI, gL_pB, upd, vp_updL, pop64]; done))
set_option maxRecDepth 100000 in
set_option maxHeartbeats 4000000 in
theorem kJ6_bitCount_0f7a4 (l : Launch) (D : va_G) (cT : Nat → ClassId) (ad : Nat → Nat) (σ : sS) (w : Int32) : CT l D cT (cW cT ad) (cA ad) yJ6_bitCount_0f7a4 cJ6_bitCount_0f7a4 1 (some .int) ({ frames := 0, cells := 0, slots := 0, locals := 0 } : Room) [.int (w)] σ (some (.int (pop32 w))) (σ) := by
  refine CT.of (by decide) (cWA cT ad) (Nat.le_of_ble_eq_true rfl) (L0 := [(0, .int (w))]) rfl ?_
  intro pp ee ss mm av bel mth cod F hr hl
  refine g_iload_n (pc := 0) F 0 dJ6_bitCount_0f7a4_0 rfl rfl ?_
  refine g_iload_n (pc := 1) F 0 dJ6_bitCount_0f7a4_1 rfl rfl ?_
  refine g_iconst (pc := 2) (v := 1) F dJ6_bitCount_0f7a4_2 (by decide) ?_
  refine g_iushr (pc := 3) (v := ushI w 1) F dJ6_bitCount_0f7a4_3 (rfl) ?_
  refine g_ldc (pc := 4) F tk_J6_265 dJ6_bitCount_0f7a4_4 ?_
  refine g_iand (pc := 7) (v := (ushI w 1) &&& (1431655765 : Int32)) F dJ6_bitCount_0f7a4_7 (rfl) ?_
  refine g_isub (pc := 8) (v := ic1 (w)) F dJ6_bitCount_0f7a4_8 (rfl) ?_
  refine g_istore_n (pc := 9) (lv2 := [(0, .int (ic1 (w)))]) F [0] dJ6_bitCount_0f7a4_9 rfl (by decide) rfl ?_
  refine g_iload_n (pc := 10) F 0 dJ6_bitCount_0f7a4_10 rfl rfl ?_
  refine g_ldc (pc := 11) F tk_J6_266 dJ6_bitCount_0f7a4_11 ?_
  refine g_iand (pc := 14) (v := (ic1 (w)) &&& (858993459 : Int32)) F dJ6_bitCount_0f7a4_14 (rfl) ?_
  refine g_iload_n (pc := 15) F 0 dJ6_bitCount_0f7a4_15 rfl rfl ?_
  refine g_iconst (pc := 16) (v := 2) F dJ6_bitCount_0f7a4_16 (by decide) ?_
  refine g_iushr (pc := 17) (v := ushI (ic1 (w)) 2) F dJ6_bitCount_0f7a4_17 (rfl) ?_
  refine g_ldc (pc := 18) F tk_J6_266 dJ6_bitCount_0f7a4_18 ?_
  refine g_iand (pc := 21) (v := (ushI (ic1 (w)) 2) &&& (858993459 : Int32)) F dJ6_bitCount_0f7a4_21 (rfl) ?_
  refine g_iadd (pc := 22) (v := ic2 (ic1 w)) F dJ6_bitCount_0f7a4_22 (rfl) ?_
  refine g_istore_n (pc := 23) (lv2 := [(0, .int (ic2 (ic1 w)))]) F [0] dJ6_bitCount_0f7a4_23 rfl (by decide) rfl ?_
  refine g_iload_n (pc := 24) F 0 dJ6_bitCount_0f7a4_24 rfl rfl ?_
  refine g_iload_n (pc := 25) F 0 dJ6_bitCount_0f7a4_25 rfl rfl ?_
  refine g_iconst (pc := 26) (v := 4) F dJ6_bitCount_0f7a4_26 (by decide) ?_
  refine g_iushr (pc := 27) (v := ushI (ic2 (ic1 w)) 4) F dJ6_bitCount_0f7a4_27 (rfl) ?_
  refine g_iadd (pc := 28) (v := (ic2 (ic1 w)) + (ushI (ic2 (ic1 w)) 4)) F dJ6_bitCount_0f7a4_28 (rfl) ?_
  refine g_ldc (pc := 29) F tk_J6_267 dJ6_bitCount_0f7a4_29 ?_
  refine g_iand (pc := 32) (v := ic3 (ic2 (ic1 w))) F dJ6_bitCount_0f7a4_32 (rfl) ?_
  refine g_istore_n (pc := 33) (lv2 := [(0, .int (ic3 (ic2 (ic1 w))))]) F [0] dJ6_bitCount_0f7a4_33 rfl (by decide) rfl ?_
  refine g_iload_n (pc := 34) F 0 dJ6_bitCount_0f7a4_34 rfl rfl ?_
  refine g_iload_n (pc := 35) F 0 dJ6_bitCount_0f7a4_35 rfl rfl ?_
  refine g_bipush (pc := 36) (v := 8) F dJ6_bitCount_0f7a4_36 (by decide) ?_
  refine g_iushr (pc := 38) (v := ushI (ic3 (ic2 (ic1 w))) 8) F dJ6_bitCount_0f7a4_38 (rfl) ?_
  refine g_iadd (pc := 39) (v := ic4 (ic3 (ic2 (ic1 w)))) F dJ6_bitCount_0f7a4_39 (rfl) ?_
  refine g_istore_n (pc := 40) (lv2 := [(0, .int (ic4 (ic3 (ic2 (ic1 w)))))]) F [0] dJ6_bitCount_0f7a4_40 rfl (by decide) rfl ?_
  refine g_iload_n (pc := 41) F 0 dJ6_bitCount_0f7a4_41 rfl rfl ?_
  refine g_iload_n (pc := 42) F 0 dJ6_bitCount_0f7a4_42 rfl rfl ?_
  refine g_bipush (pc := 43) (v := 16) F dJ6_bitCount_0f7a4_43 (by decide) ?_
  refine g_iushr (pc := 45) (v := ushI (ic4 (ic3 (ic2 (ic1 w)))) 16) F dJ6_bitCount_0f7a4_45 (rfl) ?_
  refine g_iadd (pc := 46) (v := ic5 (ic4 (ic3 (ic2 (ic1 w))))) F dJ6_bitCount_0f7a4_46 (rfl) ?_
  refine g_istore_n (pc := 47) (lv2 := [(0, .int (ic5 (ic4 (ic3 (ic2 (ic1 w))))))]) F [0] dJ6_bitCount_0f7a4_47 rfl (by decide) rfl ?_
  refine g_iload_n (pc := 48) F 0 dJ6_bitCount_0f7a4_48 rfl rfl ?_
  refine g_bipush (pc := 49) (v := 63) F dJ6_bitCount_0f7a4_49 (by decide) ?_
  refine g_iand (pc := 51) (v := (ic5 (ic4 (ic3 (ic2 (ic1 w))))) &&& (63 : Int32)) F dJ6_bitCount_0f7a4_51 (rfl) ?_
  exact g_iret (pc := 52) F hr hl dJ6_bitCount_0f7a4_52 (rfl) (by first | rfl | (simp only [if_true, if_false, reduceIte, Bool.not_true, Bool.not_false, Bool.and_true, Bool.true_and, Bool.and_false, Bool.false_and, Bool.or_true, Bool.true_or, Bool.or_false, Bool.false_or, decide_true, decide_false, not_true_eq_false, not_false_eq_true, b2i_t, b2i_f, true_and, and_true, false_and, and_false, Bool.true_eq_false, Bool.false_eq_true, pop32]; done) | (simp only [if_true, if_false, reduceIte, Bool.not_true, Bool.not_false, Bool.and_true, Bool.true_and, Bool.and_false, Bool.false_and, Bool.or_true, Bool.true_or, Bool.or_false, Bool.false_or, decide_true, decide_false, not_true_eq_false, not_false_eq_true, b2i_t, b2i_f, true_and, and_true, false_and, and_false, Bool.true_eq_false, Bool.false_eq_true, pop32]; rfl) | (simp [pop32]; done) | (simp [pop32]; rfl) | (simp [gA_pA, gI_pI, gB_pB, gL_pL, gA_pI, gA_pB, gA_pL, gI_pA, gI_pB, gI_pL, gB_pA, gB_pI, gB_pL, gL_pA, gL_pI, gL_pB, upd, vp_updL, pop32]; done)) (by first | rfl | (simp only [if_true, if_false, reduceIte, Bool.not_true, Bool.not_false, Bool.and_true, Bool.true_and, Bool.and_false, Bool.false_and, Bool.or_true, Bool.true_or, Bool.or_false, Bool.false_or, decide_true, decide_false, not_true_eq_false, not_false_eq_true, b2i_t, b2i_f, true_and, and_true, false_and, and_false, Bool.true_eq_false, Bool.false_eq_true, pop32]; done) | (simp only [if_true, if_false, reduceIte, Bool.not_true, Bool.not_false, Bool.and_true, Bool.true_and, Bool.and_false, Bool.false_and, Bool.or_true, Bool.true_or, Bool.or_false, Bool.false_or, decide_true, decide_false, not_true_eq_false, not_false_eq_true, b2i_t, b2i_f, true_and, and_true, false_and, and_false, Bool.true_eq_false, Bool.false_eq_true, pop32]; rfl) | (simp [pop32]; done) | (simp [pop32]; rfl) | (simp [gA_pA, gI_pI, gB_pB, gL_pL, gA_pI, gA_pB, gA_pL, gI_pA, gI_pB, gI_pL, gB_pA, gB_pI, gB_pL, gL_pA, gL_pI, gL_pB, upd, vp_updL, pop32]; done))
set_option maxRecDepth 100000 in
set_option maxHeartbeats 4000000 in
theorem kX2_oldOnes (l : Launch) (D : va_G) (cT : Nat → ClassId) (ad : Nat → Nat) (σ : sS)  : CT l D cT (cW cT ad) (cA ad) yX2_oldOnes cX2_oldOnes 1 (some .int) ({ frames := 1, cells := 0, slots := 0, locals := 20 } : Room) [.ref (ad 1)] σ (some (.int (pop32 (gI σ 4)))) (σ) := by
  refine CT.of (by decide) (cWA cT ad) (Nat.le_of_ble_eq_true rfl) (L0 := [(0, .ref (ad 1))]) rfl ?_
  intro pp ee ss mm av bel mth cod F hr hl
  refine g_aload_n (pc := 0) F 0 dX2_oldOnes_0 rfl rfl ?_
  refine get_c2_elders (pc := 1) F tf_X2_33 dX2_oldOnes_1 ?_
  refine g_callS (As := [.int (gI σ 4)]) (pc := 4) (st2 := [.int (pop32 (gI σ 4))]) (rest := []) F (kJ6_bitCount_0f7a4 l D cT ad σ (gI σ 4)) tm_X2_40 tt_yJ6_bitCount_0f7a4 tn_J6 tc_yJ6_bitCount_0f7a4 hd_yJ6_bitCount_0f7a4 rfl ⟨rfl, rfl, Nat.le_of_ble_eq_true rfl, Nat.le_of_ble_eq_true rfl⟩ rfl (Nat.le_of_ble_eq_true rfl) dX2_oldOnes_4 rfl ?_
  exact g_iret (pc := 7) F hr hl dX2_oldOnes_7 (rfl) (by first | rfl | (simp only [if_true, if_false, reduceIte, Bool.not_true, Bool.not_false, Bool.and_true, Bool.true_and, Bool.and_false, Bool.false_and, Bool.or_true, Bool.true_or, Bool.or_false, Bool.false_or, decide_true, decide_false, not_true_eq_false, not_false_eq_true, b2i_t, b2i_f, true_and, and_true, false_and, and_false, Bool.true_eq_false, Bool.false_eq_true, ]; done) | (simp only [if_true, if_false, reduceIte, Bool.not_true, Bool.not_false, Bool.and_true, Bool.true_and, Bool.and_false, Bool.false_and, Bool.or_true, Bool.true_or, Bool.or_false, Bool.false_or, decide_true, decide_false, not_true_eq_false, not_false_eq_true, b2i_t, b2i_f, true_and, and_true, false_and, and_false, Bool.true_eq_false, Bool.false_eq_true, ]; rfl) | (simp []; done) | (simp []; rfl) | (simp [gA_pA, gI_pI, gB_pB, gL_pL, gA_pI, gA_pB, gA_pL, gI_pA, gI_pB, gI_pL, gB_pA, gB_pI, gB_pL, gL_pA, gL_pI, gL_pB, upd, vp_updL, ]; done)) (by first | rfl | (simp only [if_true, if_false, reduceIte, Bool.not_true, Bool.not_false, Bool.and_true, Bool.true_and, Bool.and_false, Bool.false_and, Bool.or_true, Bool.true_or, Bool.or_false, Bool.false_or, decide_true, decide_false, not_true_eq_false, not_false_eq_true, b2i_t, b2i_f, true_and, and_true, false_and, and_false, Bool.true_eq_false, Bool.false_eq_true, ]; done) | (simp only [if_true, if_false, reduceIte, Bool.not_true, Bool.not_false, Bool.and_true, Bool.true_and, Bool.and_false, Bool.false_and, Bool.or_true, Bool.true_or, Bool.or_false, Bool.false_or, decide_true, decide_false, not_true_eq_false, not_false_eq_true, b2i_t, b2i_f, true_and, and_true, false_and, and_false, Bool.true_eq_false, Bool.false_eq_true, ]; rfl) | (simp []; done) | (simp []; rfl) | (simp [gA_pA, gI_pI, gB_pB, gL_pL, gA_pI, gA_pB, gA_pL, gI_pA, gI_pB, gI_pL, gB_pA, gB_pI, gB_pL, gL_pA, gL_pI, gL_pB, upd, vp_updL, ]; done))
