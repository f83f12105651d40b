/-! THE RELATION AT THE START -/
def z0S : sS := (fun _ _ => 0, fun _ => 0, fun _ _ => 0, fun _ => 0)
def laneStep (i : Nat) (τ : sS) : sS := pA τ 22 (upd (gA τ 22) i (-1))
def r0S : sS := itr laneStep 4 z0S
theorem lane_22 : ∀ i j, gA (itr laneStep i z0S) 22 j = if j < i then -1 else 0
  | 0, j => by rw [if_neg (Nat.not_lt_zero j)]; rfl
  | i + 1, j => by
    rw [itr_s]
    show upd (gA (itr laneStep i z0S) 22) i (-1) j = _
    by_cases e : j = i
    · subst e; rw [upd_s, if_pos (Nat.lt_succ_self j)]
    · rw [upd_n e, lane_22 i j]
      by_cases c : j < i
      · rw [if_pos c, if_pos (by omega)]
      · rw [if_neg c, if_neg (by omega)]
theorem lane_A {k : Nat} (hk : k ≠ 22) : ∀ i, gA (itr laneStep i z0S) k = fun _ => 0
  | 0 => rfl
  | i + 1 => by
    rw [itr_s, ← lane_A hk i]
    unfold laneStep
    rw [gA_pA, if_neg hk]
theorem lane_I : ∀ i, (itr laneStep i z0S).2 = z0S.2
  | 0 => rfl
  | i + 1 => by rw [itr_s, ← lane_I i]; rfl
theorem n0 : (0 : Int32) = nI 0 := by decide
theorem rel_start : RelN z0S r0S 0 0 0 := by
  have hA : ∀ k, gA z0S k = fun _ => 0 := fun k => rfl
  have rA : ∀ k, k ≠ 22 → gA r0S k = fun _ => 0 := fun k hk => lane_A hk 4
  have rI : ∀ k, gI r0S k = 0 := fun k => by unfold gI r0S; rw [lane_I]; rfl
  have hx : ix 0 = 0 := by rw [n0]; exact ix_nI (by decide)
  have hl : ∀ p, lvR r0S p = false := fun p => by unfold lvR; rw [rA 2 (by decide)]; rfl
  have ho : ∀ p, oldR r0S p = false := fun p => by unfold oldR; rw [rA 2 (by decide)]; rfl
  have hk : ∀ p k, knR r0S p k = false := fun p k => by unfold knR; rw [rA 4 (by decide)]; rfl
  refine ⟨⟨n0, by decide, n0, by decide, n0, by decide, ⟨fun k _ => ?_, fun k _ => ?_, fun k _ => ?_, fun k _ => ?_⟩, fun k _ => ⟨rfl, rfl⟩, fun k _ => ?_⟩, ⟨(rI 0).trans n0, by decide, (rI 2).trans n0, by decide, (rI 3).trans n0, by decide, ⟨fun k _ => ?_, fun k _ => ?_, fun k _ => ?_, fun k _ => ?_⟩, fun p => ?_, fun k _ => ?_⟩, ?_, ?_, ?_, ?_, ?_, ?_, ?_, ?_⟩
  · unfold kdC; rw [hA, hx]; exact ⟨n0, by decide⟩
  · unfold stC; rw [hA, hx]; exact ⟨n0, by decide⟩
  · unfold doC; rw [hA, hx]; exact ⟨n0, by decide⟩
  · unfold otC; rw [hA, hx]; exact ⟨n0, by decide, fun _ => by decide⟩
  · unfold lnC; rw [hA, hx]; exact ⟨n0, by decide⟩
  · unfold kdR; rw [rA 8 (by decide), hx]; exact ⟨n0, by decide⟩
  · unfold stR; rw [rA 9 (by decide), hx]; exact ⟨n0, by decide⟩
  · unfold doR; rw [rA 10 (by decide), hx]; exact ⟨n0, by decide⟩
  · unfold otR; rw [rA 11 (by decide), hx]; exact ⟨n0, by decide, fun _ => by decide⟩
  · rw [rA 2 (by decide)]; exact Or.inl rfl
  · unfold lnR; rw [rA 23 (by decide), hx]; exact ⟨n0, by decide⟩
  · unfold R1
    rw [rA 1 (by decide), rA 3 (by decide), rA 5 (by decide), rA 6 (by decide), rA 7 (by decide), rA 8 (by decide), rA 9 (by decide), rA 10 (by decide), rA 11 (by decide), rA 12 (by decide), rA 13 (by decide), rA 14 (by decide), rA 23 (by decide), rA 24 (by decide)]
    exact ⟨rfl, rfl, rfl, rfl, rfl, rfl, rfl, rfl, rfl, rfl, rfl, rfl, rfl, rfl⟩
  · refine ⟨(rI 1).symm, (rI 4).symm, 0, n0, by decide, fun p => ⟨0, ?_, by decide⟩⟩
    rw [rA 1 (by decide)]; exact n0
  · refine ⟨fun p _ => ?_, fun p _ => ?_, fun p _ => ?_⟩
    · rw [hl]; exact bt_0 p
    · rw [ho]; exact bt_0 p
    · rw [rA 2 (by decide)]
  · refine ⟨fun p k _ => ?_, fun p k _ _ c => ?_, fun p k _ _ _ => ?_, fun p k _ _ c => ?_⟩
    · rw [hk, Bool.and_false]; exact btL_0 k
    · rw [hk] at c; cases c
    · rw [rA 4 (by decide)]
    · rw [hk] at c; cases c
  · refine ⟨fun k => ?_, fun k _ => ?_, fun s k _ => ?_⟩
    · rw [rA 15 (by decide)]
      refine (btL_0 k).trans ?_
      rw [decide_eq_true (p := (0 : Int32) = 0) rfl, Bool.not_true, Bool.and_false]
    · rw [rA 15 (by decide)]
    · refine (btL_0 k).trans ?_
      rw [decide_eq_false (Nat.not_lt_zero k), Bool.false_and]
  · exact fun k hk => absurd hk (Nat.not_lt_zero k)
  · exact fun s => Or.inr (by show (0 : Int32) ≤ 0; decide)
  · exact fun j hj => Or.inl ⟨rfl, by unfold r0S; rw [lane_22, if_pos hj]⟩
