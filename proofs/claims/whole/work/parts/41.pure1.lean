/-! THE RELATION KEPT: persons, years, told, stone, moves, about, knows, ban, cross, works, worked -/
theorem cnt_congr {f g : Nat → Bool} : ∀ {n : Nat}, (∀ i, i < n → f i = g i) → cnt f n = cnt g n
  | 0, _ => rfl
  | n + 1, h => by rw [cnt_s, cnt_s, cnt_congr (fun i hi => h i (by omega)), h n (by omega)]
theorem cnt_mono {f g : Nat → Bool} : ∀ {n : Nat}, (∀ i, i < n → f i = true → g i = true) → cnt f n ≤ cnt g n
  | 0, _ => Nat.le_refl _
  | n + 1, h => by
    have := cnt_mono (f := f) (g := g) (n := n) (fun i hi => h i (by omega))
    rw [cnt_s, cnt_s]
    cases e : f n with
    | false => rw [if_neg (by decide)]; omega
    | true => rw [if_pos rfl, if_pos (h n (by omega) e)]; omega
theorem cnt_lt {f g : Nat → Bool} {j : Nat} : ∀ {n : Nat}, (∀ i, i < n → f i = true → g i = true) → j < n → f j = false → g j = true → cnt f n + 1 ≤ cnt g n
  | 0, _, hj, _, _ => absurd hj (Nat.not_lt_zero _)
  | n + 1, h, hj, e1, e2 => by
    rw [cnt_s, cnt_s]
    by_cases q : j = n
    · subst q
      rw [e1, e2, if_neg (by decide), if_pos rfl]
      have := cnt_mono (f := f) (g := g) (n := j) (fun i hi => h i (by omega))
      omega
    · have := cnt_lt (f := f) (g := g) (n := n) (j := j) (fun i hi => h i (by omega)) (by omega) e1 e2
      cases e : f n with
      | false => rw [if_neg (by decide)]; omega
      | true => rw [if_pos rfl, if_pos (h n (by omega) e)]; omega
theorem cnt_pos {f : Nat → Bool} {j n : Nat} (hj : j < n) (e : f j = true) : 1 ≤ cnt f n := by
  have := cnt_lt (f := fun _ => false) (g := f) (n := n) (fun _ _ q => by cases q) hj rfl e
  omega
def SR (a b : Int32 × sS) : Prop := a.1 = b.1 ∧ ∃ n ns na, RelN a.2 b.2 n ns na
section PP
variable {σ ρ : sS} {n ns na : Nat}
theorem RelN.same (h : RelN σ ρ n ns na) (x : Int32) : SR (x, σ) (x, ρ) := ⟨rfl, n, ns, na, h⟩
theorem inB_t {x lo hi : Int32} : inB x lo hi = true ↔ ¬ x < lo ∧ ¬ hi < x := by
  unfold inB
  rw [Bool.and_eq_true, Bool.not_eq_true', Bool.not_eq_true', decide_eq_false_iff_not, decide_eq_false_iff_not]
theorem nlt {x y : Int32} : ¬ x < y ↔ y ≤ x := Int32.not_lt
/-- all sets of a cell that leave what the relation's other parts read -/
theorem R4.up {σ' ρ' : sS} {n n' na na' : Nat} (h : R4 σ ρ n na) (e11 : gB σ' 11 = gB σ 11) (e12 : gA σ' 12 = gA σ 12) (e4 : gA ρ' 4 = gA ρ 4) (hl : ∀ p, lvR ρ p = true → lvR ρ' p = true) (hd : ∀ q, q < n → lvR ρ q = false → lvR ρ' q = false) (hn : n ≤ n') (ha : na ≤ na') : R4 σ' ρ' n' na' := by
  unfold R4 knR at h ⊢
  rw [e11, e12, e4]
  refine ⟨h.1, fun p k hp hk c => ?_, h.2.2.1, fun p k hp hk c => ⟨hl p (h.2.2.2 p k hp hk c).1, Nat.lt_of_lt_of_le (h.2.2.2 p k hp hk c).2 ha⟩⟩
  obtain ⟨d, h1, h2, h3⟩ := h.2.1 p k hp hk c
  refine ⟨d, h1, h2, Nat.le_trans h3 (Nat.le_trans (m := cnt (fun q => !decide (gA ρ 4 (60 * q + k) ≤ 0) || !lvR ρ' q) n) ?_ ?_)⟩
  · refine cnt_mono (fun i hi e => ?_)
    rcases Bool.or_eq_true _ _ ▸ e with e | e
    · rw [e]; rfl
    · rw [hd i hi (by revert e; cases lvR ρ i <;> simp), Bool.or_comm]; rfl
  · clear h1 h2 h3 c d
    induction n' with
    | zero => rw [Nat.le_zero.mp hn]; exact Nat.le_refl _
    | succ m ih =>
      by_cases q : n = m + 1
      · rw [q]; exact Nat.le_refl _
      · exact Nat.le_trans (ih (by omega)) (by rw [cnt_s]; omega)
theorem R5.up {σ' ρ' : sS} (h : R5 σ ρ na) (a : gL σ' 0 = gL σ 0) (b : gB σ' 23 = gB σ 23) (c : gA σ' 17 = gA σ 17) (d : gA ρ' 15 = gA ρ 15) : R5 σ' ρ' na := by
  unfold R5 stC at h ⊢; rw [a, b, c, d]; exact h
theorem R6.up {σ' : sS} {ns' : Nat} (h : R6 σ ns na) (a : gA σ' 16 = gA σ 16) (b : gA σ' 17 = gA σ 17) (c : gA σ' 18 = gA σ 18) (d : gA σ' 19 = gA σ 19) (hn : ns ≤ ns') (e : gA σ' 20 = gA σ 20 := by rfl) : R6 σ' ns' na := by
  unfold R6 stC kdC doC otC at h ⊢; rw [a, b, c, d, e]; exact fun k hk => ⟨Nat.lt_of_lt_of_le (h k hk).1 hn, (h k hk).2⟩
theorem R8.up {σ' ρ' : sS} (h : R8 σ ρ) (a : gA σ' 27 = gA σ 27) (b : gA σ' 28 = gA σ 28) (c : gA ρ' 22 = gA ρ 22) : R8 σ' ρ' := by
  unfold R8 at h ⊢; rw [a, b, c]; exact h
theorem R3.up {σ' ρ' : sS} (h : R3 σ ρ n) (a : gI σ' 3 = gI σ 3) (b : gI σ' 4 = gI σ 4) (c : gA ρ' 1 = gA ρ 1) (d : gA ρ' 2 = gA ρ 2) : R3 σ' ρ' n := by
  unfold R3 oldR lvR at h ⊢; rw [a, b, c, d]; exact h
theorem R4.same {σ' ρ' : sS} (h : R4 σ ρ n na) (e11 : gB σ' 11 = gB σ 11) (e12 : gA σ' 12 = gA σ 12) (e4 : gA ρ' 4 = gA ρ 4) (e2 : gA ρ' 2 = gA ρ 2) : R4 σ' ρ' n na :=
  h.up e11 e12 e4 (fun p c => by unfold lvR at c ⊢; rw [e2]; exact c) (fun p _ c => by unfold lvR at c ⊢; rw [e2]; exact c) (Nat.le_refl _) (Nat.le_refl _)
/-- person -/
theorem join_rel (h : RelN σ ρ n ns na) (hn : n < 16) {x : Int32} {j : Nat} (hx : x = nI j) (hj : j ≤ 60) :
    RelN (joinC σ n x) (pI (pA (pA ρ 1 (upd (gA ρ 1) n x)) 2 (upd (gA ρ 2) n (b2i true))) 0 (nI (n + 1))) (n + 1) ns na := by
  have e9 : gA (joinC σ n x) 9 = upd (gA σ 9) n x := by unfold joinC; dsimp only; split <;> rfl
  have eA : ∀ k, k ≠ 9 → gA (joinC σ n x) k = gA σ k := fun k hk => by
    unfold joinC; dsimp only
    split <;> simp only [gA_pI, gA_pA, if_neg hk]
  have eB : ∀ k, gB (joinC σ n x) k = gB σ k := fun k => by unfold joinC; dsimp only; split <;> rfl
  have eL : ∀ k, gL (joinC σ n x) k = gL σ k := fun k => by unfold joinC; dsimp only; split <;> rfl
  have eI : ∀ k, k ≠ 2 → k ≠ 3 → k ≠ 4 → gI (joinC σ n x) k = gI σ k := fun k h2 h3 h4 => by
    unfold joinC; dsimp only
    split <;> simp only [gI_pI, gI_pA, if_neg h2, if_neg h3, if_neg h4]
  have e3 : gI (joinC σ n x) 3 = gI σ 3 ||| one n := by unfold joinC; dsimp only; split <;> rfl
  have e4 : gI (joinC σ n x) 4 = if x < 40 then gI σ 4 else gI σ 4 ||| one n := by unfold joinC; dsimp only; split <;> rfl
  have hlv : ∀ p, lvR (pI (pA (pA ρ 1 (upd (gA ρ 1) n x)) 2 (upd (gA ρ 2) n (b2i true))) 0 (nI (n + 1))) p = (lvR ρ p || decide (p = n)) := by
    intro p
    show (!decide (upd (gA ρ 2) n (b2i true) p = 0)) = _
    by_cases c : p = n
    · subst c; rw [upd_s, decide_eq_true (p := p = p) rfl, Bool.or_true]; rfl
    · rw [upd_n c, decide_eq_false c, Bool.or_false]; rfl
  have hn0 : lvR ρ n = false := by
    cases e : lvR ρ n
    · rfl
    · exact absurd (h.lv_lt e) (Nat.lt_irrefl n)
  refine ⟨IC_join x hn h.ic, ⟨rfl, by omega, h.ir.2.2.1, h.ir.2.2.2.1, h.ir.2.2.2.2.1, h.ir.2.2.2.2.2.1, h.ir.2.2.2.2.2.2.1, ?_, h.ir.2.2.2.2.2.2.2.2⟩, ?_, ?_, ⟨?_, ?_, ?_⟩, ?_, ?_, ?_, ?_, ?_⟩
  · intro p
    show upd (gA ρ 2) n (b2i true) p = 0 ∨ upd (gA ρ 2) n (b2i true) p = 1
    by_cases c : p = n
    · subst c; rw [upd_s]; exact Or.inr rfl
    · rw [upd_n c]; exact h.ir.2.2.2.2.2.2.2.1 p
  · have := h.r1
    unfold R1 at this ⊢
    rw [e9, eA 10 (by decide), eA 13 (by decide), eA 14 (by decide), eA 15 (by decide), eA 16 (by decide), eA 17 (by decide), eA 18 (by decide), eA 19 (by decide), eA 20 (by decide), eA 21 (by decide), eA 22 (by decide), eA 29 (by decide), eA 30 (by decide), this.1]
    exact ⟨rfl, this.2⟩
  · obtain ⟨h1, h2, t, h3, h4, h5⟩ := h.r2
    unfold R2
    rw [eI 0 (by decide) (by decide) (by decide), eI 1 (by decide) (by decide) (by decide)]
    refine ⟨h1, h2, t, h3, h4, fun p => ?_⟩
    show ∃ a, upd (gA ρ 1) n x p = nI a ∧ a ≤ 60 + t
    by_cases c : p = n
    · subst c; rw [upd_s]; exact ⟨j, hx, by omega⟩
    · rw [upd_n c]; exact h5 p
  · intro p hp
    rw [e3, bt_or, bt_one (by omega), h.r3.1 p hp, hlv]
  · intro p hp
    have ho : oldR (pI (pA (pA ρ 1 (upd (gA ρ 1) n x)) 2 (upd (gA ρ 2) n (b2i true))) 0 (nI (n + 1))) p = if p = n then !decide (x < 40) else oldR ρ p := by
      show (lvR (pI (pA (pA ρ 1 (upd (gA ρ 1) n x)) 2 (upd (gA ρ 2) n (b2i true))) 0 (nI (n + 1))) p && !decide (upd (gA ρ 1) n x p < 40)) = _
      rw [hlv]
      by_cases c : p = n
      · subst c; rw [upd_s, if_pos rfl]; simp
      · rw [upd_n c, if_neg c]; simp [c, lvR, oldR]
    have hb : oldR ρ n = false := by unfold oldR; unfold lvR at hn0; rw [hn0]; rfl
    rw [ho, e4]
    by_cases c : x < 40
    · rw [if_pos c, h.r3.2.1 p hp]
      by_cases q : p = n
      · subst q; rw [if_pos rfl, decide_eq_true c, hb]; rfl
      · rw [if_neg q]
    · rw [if_neg c, bt_or, bt_one (by omega), h.r3.2.1 p hp]
      by_cases q : p = n
      · subst q; rw [if_pos rfl, decide_eq_false c, decide_eq_true (p := p = p) rfl, Bool.or_true]; rfl
      · rw [if_neg q, decide_eq_false q, Bool.or_false]
  · intro p hp
    show upd (gA ρ 2) n (b2i true) p = 0
    rw [upd_n (by omega)]
    exact h.r3.2.2 p (by omega)
  · exact h.r4.up (eB 11) (eA 12 (by decide)) rfl (fun p c => by rw [hlv, c]; rfl) (fun q hq c => by rw [hlv, c, decide_eq_false (by omega)]; rfl) (by omega) (Nat.le_refl _)
  · exact h.r5.up (eL 0) (eB 23) (eA 17 (by decide)) rfl
  · exact h.r6.up (eA 16 (by decide)) (eA 17 (by decide)) (eA 18 (by decide)) (eA 19 (by decide)) (Nat.le_refl _) (eA 20 (by decide))
  · unfold R7; rw [eA 14 (by decide)]; exact h.r7
  · exact h.r8.up (eA 27 (by decide)) (eA 28 (by decide)) rfl
theorem person_rel (h : RelN σ ρ n ns na) (x : Int32) : SR (personR σ n x) (personQ ρ n x) := by
  unfold personR personQ
  by_cases c1 : x < 0
  · rw [if_pos c1, if_neg (fun q => (inB_t.mp q).1 c1)]; exact h.same _
  rw [if_neg c1]
  by_cases c2 : x ≤ 60
  · rw [if_pos c2, if_pos (inB_t.mpr ⟨c1, fun q => (nlt.mpr c2) q⟩)]
    by_cases c3 : n < 16
    · rw [if_pos c3, if_neg (by omega)]
      obtain ⟨j, hj, e⟩ := nI_of2 (n := 60) (by decide) c1 c2
      exact ⟨rfl, n + 1, ns, na, join_rel h c3 e hj⟩
    · rw [if_neg c3, if_pos (by have := h.n16; omega)]; exact h.same _
  · rw [if_neg c2, if_neg (fun q => c2 (nlt.mp (inB_t.mp q).2))]; exact h.same _
/-- told, stone, moves, about, knows, ban, cross, works, worked -/
theorem place_r7 {x : Int32} (c : isPlaceB x = true) : x = -1 ∨ 0 ≤ x := by
  have := (inB_t (lo := -1) (hi := 99)).mp c
  by_cases e : x < 0
  · left
    have a := Int32.lt_iff_toInt_lt.mp e
    have b := this.1
    rw [Int32.lt_iff_toInt_lt] at b
    apply Int32.toInt_inj.mp
    have z1 : (0 : Int32).toInt = 0 := by decide
    have z2 : (-1 : Int32).toInt = -1 := by decide
    rw [z1] at a; rw [z2] at b ⊢
    omega
  · exact Or.inr (nlt.mp e)
theorem stone_rel (h : RelN σ ρ n ns na) (x pl : Int32) : SR (stoneR σ ns x pl) (stoneQ ρ ns x pl) := by
  unfold stoneR stoneQ
  by_cases c1 : x < 1
  · rw [if_pos c1, if_neg (fun q => (inB_t.mp q.1).1 c1)]; exact h.same _
  rw [if_neg c1]
  by_cases c2 : 40 < x
  · rw [if_pos c2, if_neg (fun q => (inB_t.mp q.1).2 c2)]; exact h.same _
  rw [if_neg c2]
  by_cases c3 : isPlaceB pl = true
  · rw [if_pos c3, if_pos (show inB x 1 40 = true ∧ inB pl (-1) 99 = true from ⟨inB_t.mpr ⟨c1, c2⟩, c3⟩)]
    by_cases c4 : ns < 8
    · rw [if_pos c4, if_neg (by omega)]
      refine ⟨rfl, n, ns + 1, na, ⟨h.ic.1, h.ic.2.1, rfl, by omega, h.ic.2.2.2.2⟩, ⟨h.ir.1, h.ir.2.1, rfl, by omega, h.ir.2.2.2.2⟩, ?_, h.r2, h.r3.up rfl rfl rfl rfl, h.r4.same rfl rfl rfl rfl, h.r5.up rfl rfl rfl rfl, h.r6.up rfl rfl rfl rfl (by omega), ?_, h.r8.up rfl rfl rfl⟩
      · have := h.r1
        refine ⟨this.1, this.2.1, ?_, ?_, this.2.2.2.2⟩
        · show upd (gA σ 13) ns x = upd (gA ρ 5) ns x
          rw [this.2.2.1]
        · show upd (gA σ 14) ns pl = upd (gA ρ 6) ns pl
          rw [this.2.2.2.1]
      · intro s
        show upd (gA σ 14) ns pl s = -1 ∨ 0 ≤ upd (gA σ 14) ns pl s
        by_cases c : s = ns
        · subst c; rw [upd_s]; exact place_r7 c3
        · rw [upd_n c]; exact h.r7 s
    · rw [if_neg c4, if_pos (by have := h.s8; omega)]; exact h.same _
  · rw [if_neg c3, if_neg (show ¬ (inB x 1 40 = true ∧ inB pl (-1) 99 = true) from fun q => c3 q.2)]; exact h.same _
theorem RelN.inP (h : RelN σ ρ n ns na) (w : Int32) : isIn w (gI σ 2) = isIn w (gI ρ 0) := by rw [h.cn, h.rn]
theorem RelN.inS (h : RelN σ ρ n ns na) (w : Int32) : isIn w (gI σ 5) = isIn w (gI ρ 2) := by rw [h.cs, h.rs]
theorem RelN.inA (h : RelN σ ρ n ns na) (w : Int32) : isIn w (gI σ 6) = isIn w (gI ρ 3) := by rw [h.ca, h.ra]
theorem RelN.pI (h : RelN σ ρ n ns na) {w : Int32} (c : isIn w (gI ρ 0) = true) : ∃ p, p < n ∧ w = nI p := isIn_nI (by have := h.n16; omega) (by rw [← h.rn]; exact c)
theorem RelN.sI (h : RelN σ ρ n ns na) {w : Int32} (c : isIn w (gI ρ 2) = true) : ∃ p, p < ns ∧ w = nI p := isIn_nI (by have := h.s8; omega) (by rw [← h.rs]; exact c)
theorem RelN.aI (h : RelN σ ρ n ns na) {w : Int32} (c : isIn w (gI ρ 3) = true) : ∃ p, p < na ∧ w = nI p := isIn_nI (by have := h.a60; omega) (by rw [← h.ra]; exact c)
theorem moves_rel (h : RelN σ ρ n ns na) (s pl : Int32) : SR (movesR σ s pl) (movesQ ρ s pl) := by
  unfold movesR movesQ
  rw [h.inS]
  by_cases c1 : isIn s (gI ρ 2) = true
  · rw [if_pos c1]
    by_cases c2 : isPlaceB pl = true
    · rw [if_pos c2, if_pos (show isIn s (gI ρ 2) = true ∧ inB pl (-1) 99 = true from ⟨c1, c2⟩), ← h.r1.2.2.2.1]
      by_cases c3 : gA σ 14 (ix s) = -1
      · rw [if_pos c3, if_neg (by rw [c3]; decide)]; exact h.same _
      · rw [if_neg c3, if_pos ((h.r7 (ix s)).resolve_left c3)]
        refine ⟨rfl, n, ns, na, IC_of h.ic rfl rfl rfl rfl rfl rfl rfl rfl rfl, IR_of h.ir rfl rfl rfl rfl rfl rfl rfl rfl rfl, ?_, h.r2, h.r3.up rfl rfl rfl rfl, h.r4.same rfl rfl rfl rfl, h.r5.up rfl rfl rfl rfl, h.r6.up rfl rfl rfl rfl (Nat.le_refl _), ?_, h.r8.up rfl rfl rfl⟩
        · have := h.r1
          exact ⟨this.1, this.2.1, this.2.2.1, rfl, this.2.2.2.2⟩
        · intro q
          show upd (gA σ 14) (ix s) pl q = -1 ∨ 0 ≤ upd (gA σ 14) (ix s) pl q
          by_cases c : q = ix s
          · subst c; rw [upd_s]; exact place_r7 c2
          · rw [upd_n c]; exact h.r7 q
    · rw [if_neg c2, if_neg (show ¬ (isIn s (gI ρ 2) = true ∧ inB pl (-1) 99 = true) from fun q => c2 q.2)]; exact h.same _
  · rw [if_neg c1, if_neg (show ¬ (isIn s (gI ρ 2) = true ∧ inB pl (-1) 99 = true) from fun q => c1 q.1)]; exact h.same _
theorem knows_rel (h : RelN σ ρ n ns na) (w k : Int32) : knowsV σ n w k = knowsW ρ w k := by
  unfold knowsV knowsW
  rw [h.inP, h.inA]
  by_cases c : isIn w (gI ρ 0) = true ∧ isIn k (gI ρ 3) = true
  · rw [if_pos c, if_pos c]
    obtain ⟨p, hp, rfl⟩ := h.pI c.1
    obtain ⟨j, hj, rfl⟩ := h.aI c.2
    have h16 := h.n16
    have h60 := h.a60
    rw [ix_nI (by omega), ix_nI (by omega), h.heard (by omega) (by omega)]
    cases e : knR ρ p j
    · rw [if_neg (by decide), if_neg (by decide)]
    · rw [if_pos rfl, if_pos rfl]
      obtain ⟨d, e1, e2, -⟩ := h.r4.2.1 p j (by omega) (by omega) e
      rw [e1, e2, nI_pred]
  · rw [if_neg c, if_neg c]
theorem ban_rel (h : RelN σ ρ n ns na) (x : Int32) : SR (banR σ x) (banQ ρ x) := by
  unfold banR banQ
  by_cases c1 : x < 0
  · rw [if_pos c1, if_neg (fun q => (inB_t.mp q).1 c1)]; exact h.same _
  rw [if_neg c1]
  by_cases c2 : x ≤ 127
  · rw [if_pos c2, if_pos (inB_t.mpr ⟨c1, fun q => (nlt.mpr c2) q⟩)]
    obtain ⟨h1, h2, h3⟩ := h.r2
    exact ⟨h2, n, ns, na, IC_of h.ic rfl rfl rfl rfl rfl rfl rfl rfl rfl, IR_of h.ir rfl rfl rfl rfl rfl rfl rfl rfl rfl, h.r1, ⟨h1, rfl, h3⟩, h.r3.up rfl rfl rfl rfl, h.r4.same rfl rfl rfl rfl, h.r5.up rfl rfl rfl rfl, h.r6.up rfl rfl rfl rfl (Nat.le_refl _), h.r7, h.r8.up rfl rfl rfl⟩
  · rw [if_neg c2, if_neg (fun q => c2 (nlt.mp (inB_t.mp q).2))]; exact h.same _
theorem cross_rel (h : RelN σ ρ n ns na) (s : Int32) : SR (crossR σ s) (crossQ ρ s) := by
  unfold crossR crossQ
  obtain ⟨a1, a2, a3, a4, a5, a6⟩ := h.r1
  rw [h.inS]
  by_cases c1 : isIn s (gI ρ 2) = true
  · rw [if_pos c1, if_pos c1, ← a5, ← a3]
    by_cases c2 : gA σ 15 (ix s) ≤ 0
    · rw [if_pos c2, if_pos c2]
      exact ⟨rfl, n, ns, na, IC_of h.ic rfl rfl rfl rfl rfl rfl rfl rfl rfl, IR_of h.ir rfl rfl rfl rfl rfl rfl rfl rfl rfl, ⟨a1, a2, a3, a4, rfl, a6⟩, h.r2, h.r3.up rfl rfl rfl rfl, h.r4.same rfl rfl rfl rfl, h.r5.up rfl rfl rfl rfl, h.r6.up rfl rfl rfl rfl (Nat.le_refl _), h.r7, h.r8.up rfl rfl rfl⟩
    · rw [if_neg c2, if_neg c2]; exact h.same _
  · rw [if_neg c1, if_neg c1]; exact h.same _
theorem min_eq (x y : Int32) : minC x y = minQ x y := by
  unfold minC minQ
  by_cases c : y < x
  · rw [if_pos c, if_pos (Int32.le_of_lt c)]
  · rw [if_neg c]
    by_cases e : y ≤ x
    · rw [if_pos e]
      exact Int32.le_antisymm (nlt.mp c) e
    · rw [if_neg e]
theorem RelN.alvB (h : RelN σ ρ n ns na) {w : Int32} (c : isIn w (gI ρ 0) = true) : aliveC σ w = true ↔ ¬ gA ρ 2 (ix w) = 0 := by
  rw [h.alvW]
  unfold aliveR
  rw [c]
  simp
theorem works_rel (h : RelN σ ρ n ns na) (w s d : Int32) : SR (worksR σ w s d) (worksQ ρ w s d) := by
  unfold worksR worksQ
  obtain ⟨a1, a2, a3, a4, a5, a6⟩ := h.r1
  rw [h.inS, h.inP]
  by_cases c1 : isIn w (gI ρ 0) = true ∧ isIn s (gI ρ 2) = true ∧ ¬ d < 1 ∧ d ≤ 100
  · rw [if_pos c1, if_pos (show isIn w (gI ρ 0) = true ∧ isIn s (gI ρ 2) = true ∧ inB d 1 100 = true from ⟨c1.1, c1.2.1, inB_t.mpr ⟨c1.2.2.1, nlt.mpr c1.2.2.2⟩⟩), ← a5, ← a2, ← min_eq]
    by_cases c2 : aliveC σ w = true ∧ ¬ gA σ 15 (ix s) = 0
    · rw [if_pos c2, if_pos (show ¬ gA ρ 2 (ix w) = 0 ∧ ¬ gA σ 15 (ix s) = 0 from ⟨(h.alvB c1.1).mp c2.1, c2.2⟩)]
      exact ⟨rfl, n, ns, na, IC_of h.ic rfl rfl rfl rfl rfl rfl rfl rfl rfl, IR_of h.ir rfl rfl rfl rfl rfl rfl rfl rfl rfl, ⟨a1, rfl, a3, a4, rfl, a6⟩, h.r2, h.r3.up rfl rfl rfl rfl, h.r4.same rfl rfl rfl rfl, h.r5.up rfl rfl rfl rfl, h.r6.up rfl rfl rfl rfl (Nat.le_refl _), h.r7, h.r8.up rfl rfl rfl⟩
    · rw [if_neg c2, if_neg (show ¬ (¬ gA ρ 2 (ix w) = 0 ∧ ¬ gA σ 15 (ix s) = 0) from fun q => c2 ⟨(h.alvB c1.1).mpr q.1, q.2⟩)]; exact h.same _
  · rw [if_neg c1, if_neg (show ¬ (isIn w (gI ρ 0) = true ∧ isIn s (gI ρ 2) = true ∧ inB d 1 100 = true) from fun q => c1 ⟨q.1, q.2.1, (inB_t.mp q.2.2).1, nlt.mp (inB_t.mp q.2.2).2⟩)]; exact h.same _
theorem worked_rel (h : RelN σ ρ n ns na) (w : Int32) : workedV σ w = workedW ρ w := by
  unfold workedV workedW
  rw [h.inP, h.r1.2.1]
end PP
