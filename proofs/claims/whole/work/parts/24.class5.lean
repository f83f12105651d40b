/-! THE CLASS: acts -/
theorem alive_in {σ : sS} {w : Int32} (h : aliveC σ w = true) : isIn w (gI σ 2) = true := by
  unfold aliveC at h
  exact (Bool.and_eq_true _ _ ▸ h).1
theorem isHand_nI {j : Nat} (hj : j < 7) : isHandB (nI j) = true ↔ (j = 1 ∨ j = 2 ∨ j = 3) := by
  rcases (show j = 0 ∨ j = 1 ∨ j = 2 ∨ j = 3 ∨ j = 4 ∨ j = 5 ∨ j = 6 by omega) with rfl | rfl | rfl | rfl | rfl | rfl | rfl <;> decide
theorem doable_kd {σ : sS} {kd b x : Int32} {s p : Nat} (h : isDoableB σ kd s p b x = true) : ∃ j, j < 7 ∧ kd = nI j := by
  unfold isDoableB at h
  split at h
  · exact ⟨0, by decide, by assumption⟩
  split at h
  · rename_i hh
    rcases hh with hh | hh | hh
    · exact ⟨1, by decide, hh⟩
    · exact ⟨2, by decide, hh⟩
    · exact ⟨3, by decide, hh⟩
  split at h
  · exact ⟨4, by decide, by assumption⟩
  split at h
  · exact ⟨5, by decide, by assumption⟩
  split at h
  · exact ⟨6, by decide, by assumption⟩
  · cases h
theorem doable_hand {σ : sS} {j s p : Nat} {b x : Int32} (hj : j = 1 ∨ j = 2 ∨ j = 3) (h : isDoableB σ (nI j) s p b x = true) : aliveC σ b = true ∧ ¬ b = nI p ∧ ¬ x < 1 ∧ ¬ 12 < x := by
  unfold isDoableB at h
  rcases hj with rfl | rfl | rfl <;> simpa [nI_s] using h
theorem doable_freed {σ : sS} {s p : Nat} {b x : Int32} (h : isDoableB σ (nI 4) s p b x = true) : isPledgeB σ b s p = true := by
  unfold isDoableB at h
  simpa [nI_s] using h
theorem act5_i {σ : sS} {na s a : Nat} {kd b x y : Int32} (k : Nat) : gI (act5 σ na kd s a b x y) k = gI (pI σ 6 (nI (na + 1))) k := by
  unfold act5 act3 act2
  dsimp only
  split <;> split <;> rfl
theorem act5_a {σ : sS} {na s a : Nat} {kd b x y : Int32} (k : Nat) (h16 : k ≠ 16) (h17 : k ≠ 17) (h18 : k ≠ 18) (h19 : k ≠ 19) (h20 : k ≠ 20) (h21 : k ≠ 21) (h22 : k ≠ 22) : gA (act5 σ na kd s a b x y) k = gA σ k := by
  unfold act5 act3 act2
  dsimp only
  split <;> split <;> simp only [openC, gA_pA, gA_pI, gA_pB, if_neg h16, if_neg h17, if_neg h18, if_neg h19, if_neg h20, if_neg h21, if_neg h22]
theorem act5_16 {σ : sS} {na s a : Nat} {kd b x y : Int32} : gA (act5 σ na kd s a b x y) 16 = upd (gA σ 16) na kd := by
  unfold act5 act3 act2
  dsimp only
  split <;> split <;> rfl
theorem act5_17 {σ : sS} {na s a : Nat} {kd b x y : Int32} : gA (act5 σ na kd s a b x y) 17 = upd (gA σ 17) na (nI s) := by
  unfold act5 act3 act2
  dsimp only
  split <;> split <;> rfl
theorem act5_18 {σ : sS} {na s a : Nat} {kd b x y : Int32} : gA (act5 σ na kd s a b x y) 18 = upd (gA σ 18) na (nI a) := by
  unfold act5 act3 act2
  dsimp only
  split <;> split <;> rfl
theorem act5_19 {σ : sS} {na s a : Nat} {kd b x y : Int32} : gA (act5 σ na kd s a b x y) 19 = if isHandB kd = true ∨ kd = 4 then upd (gA σ 19) na b else gA σ 19 := by
  unfold act5 act3 act2
  dsimp only
  split <;> split <;> rfl
theorem act5_20 {σ : sS} {na s a : Nat} {kd b x y : Int32} : gA (act5 σ na kd s a b x y) 20 = if isHandB kd = true ∨ kd = 5 then upd (gA σ 20) na x else gA σ 20 := by
  unfold act5 act3 act2
  dsimp only
  split <;> split <;> rfl
theorem upd_s {f : Nat → Int32} {k : Nat} {x : Int32} : upd f k x k = x := if_pos rfl
theorem upd_n {f : Nat → Int32} {k j : Nat} {x : Int32} (h : j ≠ k) : upd f k x j = f j := if_neg h
theorem IC_act5 {σ : sS} {n ns na s a : Nat} {kd b x y : Int32} (h : IC σ n ns na) (h60 : na < 60) (hs : s < 8) (ha : a < 16) (hd : isDoableB σ kd s a b x = true) : IC (act5 σ na kd s a b x y) n ns (na + 1) := by
  obtain ⟨q1, q2, q3, q4, q5, q6, ⟨k1, k2, k3, k4⟩, hz, hS⟩ := h
  obtain ⟨j, hj, rfl⟩ := doable_kd hd
  have hot : (j = 1 ∨ j = 2 ∨ j = 3) ∨ j = 4 → ∃ q, b = nI q ∧ q < 60 ∧ (¬ j = 4 → q < 16) := by
    rintro (hh | rfl)
    · have := alive_in (doable_hand hh hd).1
      obtain ⟨q, hq, rfl⟩ := isIn_nI (n := n) (by omega) (by rw [← q1]; exact this)
      exact ⟨q, rfl, by omega, fun _ => by omega⟩
    · have := doable_freed hd
      unfold isPledgeB at this
      obtain ⟨q, hq, rfl⟩ := isIn_nI (n := na) (by omega) (by rw [← q5]; exact (Bool.and_eq_true _ _ ▸ this).1)
      exact ⟨q, rfl, by omega, fun c => absurd rfl c⟩
  have hcond : (isHandB (nI j) = true ∨ nI j = 4) ↔ ((j = 1 ∨ j = 2 ∨ j = 3) ∨ j = 4) := by
    rw [isHand_nI hj, show (nI j = 4) = (j = 4) from nI_s (b := 4) (by omega) (by decide)]
  refine ⟨(act5_i 2).trans q1, q2, (act5_i 5).trans q3, q4, act5_i 6, by omega, ⟨?_, ?_, ?_, ?_⟩, ?_, ?_⟩
  · intro k hk
    unfold kdC
    rw [act5_16]
    by_cases e : k = na
    · subst e; rw [upd_s, ix_nI (by omega)]; exact ⟨rfl, hj⟩
    · rw [upd_n e]; exact k1 k hk
  · intro k hk
    unfold stC
    rw [act5_17]
    by_cases e : k = na
    · subst e; rw [upd_s, ix_nI (by omega)]; exact ⟨rfl, hs⟩
    · rw [upd_n e]; exact k2 k hk
  · intro k hk
    unfold doC
    rw [act5_18]
    by_cases e : k = na
    · subst e; rw [upd_s, ix_nI (by omega)]; exact ⟨rfl, ha⟩
    · rw [upd_n e]; exact k3 k hk
  · intro k hk
    unfold otC kdC
    rw [act5_19, act5_16]
    by_cases e : k = na
    · subst e
      rw [upd_s, ix_nI (by omega)]
      by_cases c : isHandB (nI j) = true ∨ nI j = 4
      · rw [if_pos c, upd_s]
        obtain ⟨q, rfl, z1, z2⟩ := hot (hcond.mp c)
        rw [ix_nI (by omega)]
        exact ⟨rfl, z1, z2⟩
      · rw [if_neg c, (hz k (Nat.le_refl _)).1]
        exact ⟨rfl, by decide, fun _ => by decide⟩
    · rw [upd_n e]
      have := k4 k hk
      split
      · rw [upd_n e]; exact this
      · exact this
  · intro k hk
    rw [act5_19, act5_20]
    have e : k ≠ na := by omega
    have z := hz k (by omega)
    refine ⟨?_, ?_⟩
    · split
      · rw [upd_n e]; exact z.1
      · exact z.1
    · split
      · rw [upd_n e]; exact z.2
      · exact z.2
  · intro k hk
    unfold lnC
    rw [act5_a 29 (by decide) (by decide) (by decide) (by decide) (by decide) (by decide) (by decide)]
    exact hS k hk
theorem IC_actS {σ : sS} {n ns na s a : Nat} {kd b x y : Int32} (h : IC (act5 σ na kd s a b x y) n ns (na + 1)) : IC (actS σ n na kd s a b x y) n ns (na + 1) := by
  unfold actS
  dsimp only
  have h6 := IC_wit n na n h
  have h7 := IC_conv n (na + 1) na h6
  split
  · exact IC_of h7 rfl rfl rfl rfl rfl rfl rfl rfl rfl
  · exact h7
theorem actR_cases {σ : sS} {n ns na : Nat} {kd s a b x y : Int32} (h : IC σ n ns na) : ((actR σ n na kd s a b x y).1 < 0 ∧ (actR σ n na kd s a b x y).2 = σ) ∨
    ((actR σ n na kd s a b x y).1 = nI na ∧ na < 60 ∧ (actR σ n na kd s a b x y).2 = actS σ n na kd (ix s) (ix a) b x y ∧ IC (actR σ n na kd s a b x y).2 n ns (na + 1)) := by
  unfold actR
  split
  · rename_i c1
    split
    · rename_i c2
      split
      · rename_i c3
        refine Or.inr ⟨rfl, c3, rfl, ?_⟩
        obtain ⟨q1, q2, q3, q4, -⟩ := id h
        obtain ⟨j, hj, rfl⟩ := isIn_nI (n := ns) (by omega) (by rw [← q3]; exact c1.1)
        obtain ⟨q, hq, rfl⟩ := isIn_nI (n := n) (by omega) (by rw [← q1]; exact alive_in c1.2.1)
        rw [ix_nI (by omega), ix_nI (by omega)] at c2
        rw [ix_nI (by omega), ix_nI (by omega)]
        exact IC_actS (IC_act5 h c3 (by omega) (by omega) c2)
      · exact Or.inl ⟨(by decide : (-3 : Int32) < 0), rfl⟩
    · exact Or.inl ⟨(by decide : (-1 : Int32) < 0), rfl⟩
  · exact Or.inl ⟨(by decide : (-1 : Int32) < 0), rfl⟩
theorem IC_from {σ : sS} {n ns na sh fr : Nat} (h : IC σ n ns na) (c : ¬ (fromR σ n na sh fr).1 < 0) : IC (fromR σ n na sh fr).2 n ns (na + 1) := by
  rcases actR_cases (kd := gA σ 30 (sh * 36 + fr)) (s := gA σ 30 (sh * 36 + fr + 1)) (a := gA σ 30 (sh * 36 + fr + 2)) (b := gA σ 30 (sh * 36 + fr + 3)) (x := gA σ 30 (sh * 36 + fr + 4)) (y := gA σ 30 (sh * 36 + fr + 5)) h with q | q
  · exact absurd q.1 c
  · exact q.2.2.2

set_option maxRecDepth 100000 in
set_option maxHeartbeats 4000000 in
theorem kX5_act (l : Launch) (D : va_G) (cT : Nat → ClassId) (ad : Nat → Nat) (σ : sS) (n ns na : Nat) (hI : IC σ n ns na) (kd sx a b x by_ : Int32) : CT l D cT (cW cT ad) (cA ad) yX5_act cX5_act 8 (some .int) ({ frames := 4, cells := 0, slots := 0, locals := 95 } : Room) [.ref (ad 0), .int (kd), .int (sx), .int (a), .int (b), .int (x), .int (by_)] σ (some (.int (actR σ n na kd sx a b x by_).1)) ((actR σ n na kd sx a b x by_).2) := by
  refine CT.of (by decide) (cWA cT ad) (Nat.le_of_ble_eq_true rfl) (L0 := [(0, .ref (ad 0)), (1, .int (kd)), (2, .int (sx)), (3, .int (a)), (4, .int (b)), (5, .int (x)), (6, .int (by_))]) rfl ?_
  intro pp ee ss mm av bel mth cod F hr hl
  obtain ⟨hn, hn16, hs, hs8, ha, ha60, hk, hz, hS⟩ := id hI
  refine g_aload_n (pc := 0) F 0 dX5_act_0 rfl rfl ?_
  refine get_c5_stones (pc := 1) F tf_X5_19 dX5_act_1 ?_
  refine g_iload_n (pc := 4) F 2 dX5_act_4 rfl rfl ?_
  refine g_callV (As := [.int (sx)]) (pc := 5) (st2 := [.int (b2i (isIn sx (gI σ 5)))]) (rest := []) F (kX4_has l D cT ad σ sx) tm_X5_112 ti_yX4_has ts_yX4_has tn_X4 tc_yX4_has hd_yX4_has rfl 2 (rfl : (cW cT ad _)[2]? = some (ad 2, .inr (4, cO2 ad _))) rfl ⟨rfl, rfl, Nat.le_of_ble_eq_true rfl, Nat.le_of_ble_eq_true rfl⟩ rfl (Nat.le_of_ble_eq_true rfl) dX5_act_5 rfl ?_
  refine gb_if_eq (pc := 8) (tgt := 34) (x := isIn sx (gI σ 5)) F dX5_act_8 (by decide) (fun c_8 => ?_) (fun c_8 => ?_)
  · skip
    refine g_iconst (pc := 34) (v := (-1)) F dX5_act_34 (by decide) ?_
    exact g_iret (pc := 35) F hr hl dX5_act_35 (rfl) (by first | rfl | (simp only [if_true, if_false, reduceIte, Bool.not_true, Bool.not_false, Bool.and_true, Bool.true_and, Bool.and_false, Bool.false_and, Bool.or_true, Bool.true_or, Bool.or_false, Bool.false_or, decide_true, decide_false, not_true_eq_false, not_false_eq_true, b2i_t, b2i_f, true_and, and_true, false_and, and_false, Bool.true_eq_false, Bool.false_eq_true, actS, actR, c_8]; done) | (simp only [if_true, if_false, reduceIte, Bool.not_true, Bool.not_false, Bool.and_true, Bool.true_and, Bool.and_false, Bool.false_and, Bool.or_true, Bool.true_or, Bool.or_false, Bool.false_or, decide_true, decide_false, not_true_eq_false, not_false_eq_true, b2i_t, b2i_f, true_and, and_true, false_and, and_false, Bool.true_eq_false, Bool.false_eq_true, actS, actR, c_8]; rfl) | (simp [actS, actR, c_8]; done) | (simp [actS, actR, c_8]; rfl) | (simp [gA_pA, gI_pI, gB_pB, gL_pL, gA_pI, gA_pB, gA_pL, gI_pA, gI_pB, gI_pL, gB_pA, gB_pI, gB_pL, gL_pA, gL_pI, gL_pB, upd, vp_updL, actS, actR, c_8]; done)) (by first | rfl | (simp only [if_true, if_false, reduceIte, Bool.not_true, Bool.not_false, Bool.and_true, Bool.true_and, Bool.and_false, Bool.false_and, Bool.or_true, Bool.true_or, Bool.or_false, Bool.false_or, decide_true, decide_false, not_true_eq_false, not_false_eq_true, b2i_t, b2i_f, true_and, and_true, false_and, and_false, Bool.true_eq_false, Bool.false_eq_true, actS, actR, c_8]; done) | (simp only [if_true, if_false, reduceIte, Bool.not_true, Bool.not_false, Bool.and_true, Bool.true_and, Bool.and_false, Bool.false_and, Bool.or_true, Bool.true_or, Bool.or_false, Bool.false_or, decide_true, decide_false, not_true_eq_false, not_false_eq_true, b2i_t, b2i_f, true_and, and_true, false_and, and_false, Bool.true_eq_false, Bool.false_eq_true, actS, actR, c_8]; rfl) | (simp [actS, actR, c_8]; done) | (simp [actS, actR, c_8]; rfl) | (simp [gA_pA, gI_pI, gB_pB, gL_pL, gA_pI, gA_pB, gA_pL, gI_pA, gI_pB, gI_pL, gB_pA, gB_pI, gB_pL, gL_pA, gL_pI, gL_pB, upd, vp_updL, actS, actR, c_8]; done))
  · skip
    obtain ⟨s, hs, rfl⟩ := isIn_nI (n := ns) (by omega) (by rw [← hs]; exact c_8)
    have e_s : ix (nI s) = s := ix_nI (by omega)
    refine g_aload_n (pc := 11) F 0 dX5_act_11 rfl rfl ?_
    refine get_c5_people (pc := 12) F tf_X5_10 dX5_act_12 ?_
    refine g_iload_n (pc := 15) F 3 dX5_act_15 rfl rfl ?_
    refine g_callV (As := [.int (a)]) (pc := 16) (st2 := [.int (b2i (aliveC σ a))]) (rest := []) F (kX2_alive l D cT ad σ a) tm_X5_77 ti_yX2_alive ts_yX2_alive tn_X2 tc_yX2_alive hd_yX2_alive rfl 1 (rfl : (cW cT ad _)[1]? = some (ad 1, .inr (2, cO1 ad _))) rfl ⟨rfl, rfl, Nat.le_of_ble_eq_true rfl, Nat.le_of_ble_eq_true rfl⟩ rfl (Nat.le_of_ble_eq_true rfl) dX5_act_16 rfl ?_
    refine gb_if_eq (pc := 19) (tgt := 34) (x := aliveC σ a) F dX5_act_19 (by decide) (fun c_19 => ?_) (fun c_19 => ?_)
    · skip
      refine g_iconst (pc := 34) (v := (-1)) F dX5_act_34 (by decide) ?_
      exact g_iret (pc := 35) F hr hl dX5_act_35 (rfl) (by first | rfl | (simp only [if_true, if_false, reduceIte, Bool.not_true, Bool.not_false, Bool.and_true, Bool.true_and, Bool.and_false, Bool.false_and, Bool.or_true, Bool.true_or, Bool.or_false, Bool.false_or, decide_true, decide_false, not_true_eq_false, not_false_eq_true, b2i_t, b2i_f, true_and, and_true, false_and, and_false, Bool.true_eq_false, Bool.false_eq_true, actS, actR, c_8, e_s, c_19]; done) | (simp only [if_true, if_false, reduceIte, Bool.not_true, Bool.not_false, Bool.and_true, Bool.true_and, Bool.and_false, Bool.false_and, Bool.or_true, Bool.true_or, Bool.or_false, Bool.false_or, decide_true, decide_false, not_true_eq_false, not_false_eq_true, b2i_t, b2i_f, true_and, and_true, false_and, and_false, Bool.true_eq_false, Bool.false_eq_true, actS, actR, c_8, e_s, c_19]; rfl) | (simp [actS, actR, c_8, e_s, c_19]; done) | (simp [actS, actR, c_8, e_s, c_19]; rfl) | (simp [gA_pA, gI_pI, gB_pB, gL_pL, gA_pI, gA_pB, gA_pL, gI_pA, gI_pB, gI_pL, gB_pA, gB_pI, gB_pL, gL_pA, gL_pI, gL_pB, upd, vp_updL, actS, actR, c_8, e_s, c_19]; done)) (by first | rfl | (simp only [if_true, if_false, reduceIte, Bool.not_true, Bool.not_false, Bool.and_true, Bool.true_and, Bool.and_false, Bool.false_and, Bool.or_true, Bool.true_or, Bool.or_false, Bool.false_or, decide_true, decide_false, not_true_eq_false, not_false_eq_true, b2i_t, b2i_f, true_and, and_true, false_and, and_false, Bool.true_eq_false, Bool.false_eq_true, actS, actR, c_8, e_s, c_19]; done) | (simp only [if_true, if_false, reduceIte, Bool.not_true, Bool.not_false, Bool.and_true, Bool.true_and, Bool.and_false, Bool.false_and, Bool.or_true, Bool.true_or, Bool.or_false, Bool.false_or, decide_true, decide_false, not_true_eq_false, not_false_eq_true, b2i_t, b2i_f, true_and, and_true, false_and, and_false, Bool.true_eq_false, Bool.false_eq_true, actS, actR, c_8, e_s, c_19]; rfl) | (simp [actS, actR, c_8, e_s, c_19]; done) | (simp [actS, actR, c_8, e_s, c_19]; rfl) | (simp [gA_pA, gI_pI, gB_pB, gL_pL, gA_pI, gA_pB, gA_pL, gI_pA, gI_pB, gI_pL, gB_pA, gB_pI, gB_pL, gL_pA, gL_pI, gL_pB, upd, vp_updL, actS, actR, c_8, e_s, c_19]; done))
    · skip
      obtain ⟨q, hq, rfl⟩ := isIn_nI (n := n) (by omega) (by rw [← hn]; exact (alive_in c_19))
      have e_q : ix (nI q) = q := ix_nI (by omega)
      refine g_aload_n (pc := 22) F 0 dX5_act_22 rfl rfl ?_
      refine get_c5_people (pc := 23) F tf_X5_10 dX5_act_23 ?_
      refine g_iload (pc := 26) F 6 dX5_act_26 rfl ?_
      refine g_callV (As := [.int (by_)]) (pc := 28) (st2 := [.int (b2i (allAliveC σ by_))]) (rest := []) F (kX2_allAlive l D cT ad σ by_) tm_X5_116 ti_yX2_allAlive ts_yX2_allAlive tn_X2 tc_yX2_allAlive hd_yX2_allAlive rfl 1 (rfl : (cW cT ad _)[1]? = some (ad 1, .inr (2, cO1 ad _))) rfl ⟨rfl, rfl, Nat.le_of_ble_eq_true rfl, Nat.le_of_ble_eq_true rfl⟩ rfl (Nat.le_of_ble_eq_true rfl) dX5_act_28 rfl ?_
      refine gb_if_ne (pc := 31) (tgt := 36) (x := allAliveC σ by_) F dX5_act_31 (by decide) (fun c_31 => ?_) (fun c_31 => ?_)
      · skip
        refine g_aload_n (pc := 36) F 0 dX5_act_36 rfl rfl ?_
        refine g_iload_n (pc := 37) F 1 dX5_act_37 rfl rfl ?_
        refine g_iload_n (pc := 38) F 2 dX5_act_38 rfl rfl ?_
        refine g_iload_n (pc := 39) F 3 dX5_act_39 rfl rfl ?_
        refine g_iload (pc := 40) F 4 dX5_act_40 rfl ?_
        refine g_iload (pc := 42) F 5 dX5_act_42 rfl ?_
        refine g_callV (As := [.int (kd), .int (nI (s)), .int (nI (q)), .int (b), .int (x)]) (pc := 44) (st2 := [.int (b2i (isDoableB σ kd s q b x))]) (rest := []) F (kX5_isDoable l D cT ad σ n ns na (hI) kd s q b x (by omega) (by omega)) tm_X5_119 ti_yX5_isDoable ts_yX5_isDoable tn_X5 tc_yX5_isDoable hd_yX5_isDoable rfl 0 (rfl : (cW cT ad _)[0]? = some (ad 0, .inr (5, cO0 ad _))) rfl ⟨rfl, rfl, Nat.le_of_ble_eq_true rfl, Nat.le_of_ble_eq_true rfl⟩ rfl (Nat.le_of_ble_eq_true rfl) dX5_act_44 rfl ?_
        refine gb_if_ne (pc := 47) (tgt := 52) (x := isDoableB σ kd s q b x) F dX5_act_47 (by decide) (fun c_47 => ?_) (fun c_47 => ?_)
        · skip
          refine g_aload_n (pc := 52) F 0 dX5_act_52 rfl rfl ?_
          refine get_c5_acts (pc := 53) F tf_X5_26 dX5_act_53 ?_
          refine get_c0_size (pc := 56) F tf_X5_123 dX5_act_56 ?_
          refine g_top (y := nI (na)) ((hI).2.2.2.2.1) ?_
          refine g_bipush (pc := 59) (v := 60) F dX5_act_59 (by decide) ?_
          refine gn_icmp_lt (pc := 61) (tgt := 67) (a := na) (b := 60) F (by omega) (by omega) dX5_act_61 (by decide) (fun c_61 => ?_) (fun c_61 => ?_)
          · skip
            refine g_aload_n (pc := 67) F 0 dX5_act_67 rfl rfl ?_
            refine get_c5_acts (pc := 68) F tf_X5_26 dX5_act_68 ?_
            refine g_iload_n (pc := 71) F 1 dX5_act_71 rfl rfl ?_
            refine g_iload_n (pc := 72) F 2 dX5_act_72 rfl rfl ?_
            refine g_iload_n (pc := 73) F 3 dX5_act_73 rfl rfl ?_
            refine g_callV (As := [.int (kd), .int (nI (s)), .int (nI (q))]) (pc := 74) (st2 := [.int (nI (na))]) (rest := []) F (kX0_open l D cT ad σ na s kd (nI (q)) ((hI).2.2.2.2.1) (by omega) (by omega)) tm_X5_124 ti_yX0_open ts_yX0_open tn_X0 tc_yX0_open hd_yX0_open rfl 3 (rfl : (cW cT ad _)[3]? = some (ad 3, .inr (0, cO3 ad _))) rfl ⟨rfl, rfl, Nat.le_of_ble_eq_true rfl, Nat.le_of_ble_eq_true rfl⟩ rfl (Nat.le_of_ble_eq_true rfl) dX5_act_74 rfl ?_
            refine g_istore (pc := 77) (lv2 := [(0, .ref (ad 0)), (1, .int (kd)), (2, .int (nI (s))), (3, .int (nI (q))), (4, .int (b)), (5, .int (x)), (6, .int (by_)), (7, .int (nI (na)))]) F [1, 2, 3, 4, 5, 6, 7, 0] dX5_act_77 (by decide) rfl ?_
            have hcut_103 : G pp l ee ({ frames := 4, cells := 0, slots := 0, locals := 95 } : Room) ss mm av bel mth cod (gQ bel D (cW cT ad) (cA ad) av ss (some (.int (actR σ n na kd (nI s) (nI q) b x by_).1)) ((actR σ n na kd (nI s) (nI q) b x by_).2)) D (gR (cA ad) ss.heap.size) ss.heap 8 (cW cT ad) (act2 (openC σ na kd s (nI q)) na kd b) 103 [(0, .ref (ad 0)), (1, .int (kd)), (2, .int (nI (s))), (3, .int (nI (q))), (4, .int (b)), (5, .int (x)), (6, .int (by_)), (7, .int (nI (na)))] [] := by
              have hcut_127 : G pp l ee ({ frames := 4, cells := 0, slots := 0, locals := 95 } : Room) ss mm av bel mth cod (gQ bel D (cW cT ad) (cA ad) av ss (some (.int (actR σ n na kd (nI s) (nI q) b x by_).1)) ((actR σ n na kd (nI s) (nI q) b x by_).2)) D (gR (cA ad) ss.heap.size) ss.heap 8 (cW cT ad) (act3 (act2 (openC σ na kd s (nI q)) na kd b) na kd x) 127 [(0, .ref (ad 0)), (1, .int (kd)), (2, .int (nI (s))), (3, .int (nI (q))), (4, .int (b)), (5, .int (x)), (6, .int (by_)), (7, .int (nI (na)))] [] := by
                refine g_aload_n (pc := 127) F 0 dX5_act_127 rfl rfl ?_
                refine get_c5_acts (pc := 128) F tf_X5_26 dX5_act_128 ?_
                refine get_c0_year (pc := 131) F tf_X5_137 dX5_act_131 ?_
                refine g_iload (pc := 134) F 7 dX5_act_134 rfl ?_
                refine g_aload_n (pc := 136) F 0 dX5_act_136 rfl rfl ?_
                refine get_c5_now (pc := 137) F tf_X5_55 dX5_act_137 ?_
                refine ast_c0_year (pc := 140) (j := na) F (by omega) dX5_act_140 ?_
                refine g_aload_n (pc := 141) F 0 dX5_act_141 rfl rfl ?_
                refine get_c5_acts (pc := 142) F tf_X5_26 dX5_act_142 ?_
                refine get_c0_stoodBy (pc := 145) F tf_X5_140 dX5_act_145 ?_
                refine g_iload (pc := 148) F 7 dX5_act_148 rfl ?_
                refine g_iload (pc := 150) F 6 dX5_act_150 rfl ?_
                refine g_iconst (pc := 152) (v := 1) F dX5_act_152 (by decide) ?_
                refine g_iload_n (pc := 153) F 3 dX5_act_153 rfl rfl ?_
                refine g_ishl (pc := 154) (v := one q) F dX5_act_154 (rfl) ?_
                refine g_ior (pc := 155) (v := by_ ||| (one q)) F dX5_act_155 (rfl) ?_
                refine ast_c0_stoodBy (pc := 156) (j := na) F (by omega) dX5_act_156 ?_
                have hI5 : IC (act5 σ na kd s q b x by_) n ns (na + 1) := IC_act5 hI c_61 (by omega) (by omega) c_47
                refine g_eq (σ' := act5 σ na kd s q b x by_) rfl rfl rfl ?_
                refine g_aload_n (pc := 157) F 0 dX5_act_157 rfl rfl ?_
                refine g_iload (pc := 158) F 7 dX5_act_158 rfl ?_
                refine g_callV (As := [.int (nI (na))]) (pc := 160) (st2 := []) (rest := []) F (kX5_letWitnessesKnow l D cT ad (act5 σ na kd s q b x by_) n ns (na + 1) (hI5) na (by omega)) tm_X5_143 ti_yX5_letWitnessesKnow ts_yX5_letWitnessesKnow tn_X5 tc_yX5_letWitnessesKnow hd_yX5_letWitnessesKnow rfl 0 (rfl : (cW cT ad _)[0]? = some (ad 0, .inr (5, cO0 ad _))) rfl ⟨rfl, rfl, Nat.le_of_ble_eq_true rfl, Nat.le_of_ble_eq_true rfl⟩ rfl (Nat.le_of_ble_eq_true rfl) dX5_act_160 rfl ?_
                refine g_aload_n (pc := 163) F 0 dX5_act_163 rfl rfl ?_
                refine g_iload (pc := 164) F 7 dX5_act_164 rfl ?_
                refine g_callV (As := [.int (nI (na))]) (pc := 166) (st2 := [.int (b2i (convB (itr (witStep n na) n (act5 σ na kd s q b x by_)) n (na + 1) na))]) (rest := []) F (kX5_convinces l D cT ad (itr (witStep n na) n (act5 σ na kd s q b x by_)) n ns (na + 1) ((IC_wit _ _ _ hI5)) na (by omega)) tm_X5_146 ti_yX5_convinces ts_yX5_convinces tn_X5 tc_yX5_convinces hd_yX5_convinces rfl 0 (rfl : (cW cT ad _)[0]? = some (ad 0, .inr (5, cO0 ad _))) rfl ⟨rfl, rfl, Nat.le_of_ble_eq_true rfl, Nat.le_of_ble_eq_true rfl⟩ rfl (Nat.le_of_ble_eq_true rfl) dX5_act_166 rfl ?_
                refine gb_if_eq (pc := 169) (tgt := 188) (x := convB (itr (witStep n na) n (act5 σ na kd s q b x by_)) n (na + 1) na) F dX5_act_169 (by decide) (fun c_169 => ?_) (fun c_169 => ?_)
                · skip
                  refine g_iload (pc := 188) F 7 dX5_act_188 rfl ?_
                  exact g_iret (pc := 190) F hr hl dX5_act_190 (rfl) (by first | rfl | (simp only [if_true, if_false, reduceIte, Bool.not_true, Bool.not_false, Bool.and_true, Bool.true_and, Bool.and_false, Bool.false_and, Bool.or_true, Bool.true_or, Bool.or_false, Bool.false_or, decide_true, decide_false, not_true_eq_false, not_false_eq_true, b2i_t, b2i_f, true_and, and_true, false_and, and_false, Bool.true_eq_false, Bool.false_eq_true, actS, actR, c_8, e_s, c_19, e_q, c_31, c_47, c_61, c_169]; done) | (simp only [if_true, if_false, reduceIte, Bool.not_true, Bool.not_false, Bool.and_true, Bool.true_and, Bool.and_false, Bool.false_and, Bool.or_true, Bool.true_or, Bool.or_false, Bool.false_or, decide_true, decide_false, not_true_eq_false, not_false_eq_true, b2i_t, b2i_f, true_and, and_true, false_and, and_false, Bool.true_eq_false, Bool.false_eq_true, actS, actR, c_8, e_s, c_19, e_q, c_31, c_47, c_61, c_169]; rfl) | (simp [actS, actR, c_8, e_s, c_19, e_q, c_31, c_47, c_61, c_169]; done) | (simp [actS, actR, c_8, e_s, c_19, e_q, c_31, c_47, c_61, c_169]; rfl) | (simp [gA_pA, gI_pI, gB_pB, gL_pL, gA_pI, gA_pB, gA_pL, gI_pA, gI_pB, gI_pL, gB_pA, gB_pI, gB_pL, gL_pA, gL_pI, gL_pB, upd, vp_updL, actS, actR, c_8, e_s, c_19, e_q, c_31, c_47, c_61, c_169]; done)) (by first | rfl | (simp only [if_true, if_false, reduceIte, Bool.not_true, Bool.not_false, Bool.and_true, Bool.true_and, Bool.and_false, Bool.false_and, Bool.or_true, Bool.true_or, Bool.or_false, Bool.false_or, decide_true, decide_false, not_true_eq_false, not_false_eq_true, b2i_t, b2i_f, true_and, and_true, false_and, and_false, Bool.true_eq_false, Bool.false_eq_true, actS, actR, c_8, e_s, c_19, e_q, c_31, c_47, c_61, c_169]; done) | (simp only [if_true, if_false, reduceIte, Bool.not_true, Bool.not_false, Bool.and_true, Bool.true_and, Bool.and_false, Bool.false_and, Bool.or_true, Bool.true_or, Bool.or_false, Bool.false_or, decide_true, decide_false, not_true_eq_false, not_false_eq_true, b2i_t, b2i_f, true_and, and_true, false_and, and_false, Bool.true_eq_false, Bool.false_eq_true, actS, actR, c_8, e_s, c_19, e_q, c_31, c_47, c_61, c_169]; rfl) | (simp [actS, actR, c_8, e_s, c_19, e_q, c_31, c_47, c_61, c_169]; done) | (simp [actS, actR, c_8, e_s, c_19, e_q, c_31, c_47, c_61, c_169]; rfl) | (simp [gA_pA, gI_pI, gB_pB, gL_pL, gA_pI, gA_pB, gA_pL, gI_pA, gI_pB, gI_pL, gB_pA, gB_pI, gB_pL, gL_pA, gL_pI, gL_pB, upd, vp_updL, actS, actR, c_8, e_s, c_19, e_q, c_31, c_47, c_61, c_169]; done))
                · skip
                  refine g_aload_n (pc := 172) F 0 dX5_act_172 rfl rfl ?_
                  refine get_c5_acts (pc := 173) F tf_X5_26 dX5_act_173 ?_
                  refine g_dup (pc := 176) F dX5_act_176 rfl ?_
                  refine get_c0_strong (pc := 177) F tf_X5_149 dX5_act_177 ?_
                  refine g_lconst (pc := 180) (v := 1) F dX5_act_180 (by decide) ?_
                  refine g_iload (pc := 181) F 7 dX5_act_181 rfl ?_
                  refine g_lshl (pc := 183) (v := oneL na) F dX5_act_183 (rfl) ?_
                  refine g_lor (pc := 184) (v := (gL (convS (itr (witStep n na) n (act5 σ na kd s q b x by_)) n (na + 1) na) 0) ||| (oneL na)) F dX5_act_184 (rfl) ?_
                  refine put_c0_strong (pc := 185) F tf_X5_149 dX5_act_185 ?_
                  refine g_iload (pc := 188) F 7 dX5_act_188 rfl ?_
                  exact g_iret (pc := 190) F hr hl dX5_act_190 (rfl) (by first | rfl | (simp only [if_true, if_false, reduceIte, Bool.not_true, Bool.not_false, Bool.and_true, Bool.true_and, Bool.and_false, Bool.false_and, Bool.or_true, Bool.true_or, Bool.or_false, Bool.false_or, decide_true, decide_false, not_true_eq_false, not_false_eq_true, b2i_t, b2i_f, true_and, and_true, false_and, and_false, Bool.true_eq_false, Bool.false_eq_true, actS, actR, c_8, e_s, c_19, e_q, c_31, c_47, c_61, c_169]; done) | (simp only [if_true, if_false, reduceIte, Bool.not_true, Bool.not_false, Bool.and_true, Bool.true_and, Bool.and_false, Bool.false_and, Bool.or_true, Bool.true_or, Bool.or_false, Bool.false_or, decide_true, decide_false, not_true_eq_false, not_false_eq_true, b2i_t, b2i_f, true_and, and_true, false_and, and_false, Bool.true_eq_false, Bool.false_eq_true, actS, actR, c_8, e_s, c_19, e_q, c_31, c_47, c_61, c_169]; rfl) | (simp [actS, actR, c_8, e_s, c_19, e_q, c_31, c_47, c_61, c_169]; done) | (simp [actS, actR, c_8, e_s, c_19, e_q, c_31, c_47, c_61, c_169]; rfl) | (simp [gA_pA, gI_pI, gB_pB, gL_pL, gA_pI, gA_pB, gA_pL, gI_pA, gI_pB, gI_pL, gB_pA, gB_pI, gB_pL, gL_pA, gL_pI, gL_pB, upd, vp_updL, actS, actR, c_8, e_s, c_19, e_q, c_31, c_47, c_61, c_169]; done)) (by first | rfl | (simp only [if_true, if_false, reduceIte, Bool.not_true, Bool.not_false, Bool.and_true, Bool.true_and, Bool.and_false, Bool.false_and, Bool.or_true, Bool.true_or, Bool.or_false, Bool.false_or, decide_true, decide_false, not_true_eq_false, not_false_eq_true, b2i_t, b2i_f, true_and, and_true, false_and, and_false, Bool.true_eq_false, Bool.false_eq_true, actS, actR, c_8, e_s, c_19, e_q, c_31, c_47, c_61, c_169]; done) | (simp only [if_true, if_false, reduceIte, Bool.not_true, Bool.not_false, Bool.and_true, Bool.true_and, Bool.and_false, Bool.false_and, Bool.or_true, Bool.true_or, Bool.or_false, Bool.false_or, decide_true, decide_false, not_true_eq_false, not_false_eq_true, b2i_t, b2i_f, true_and, and_true, false_and, and_false, Bool.true_eq_false, Bool.false_eq_true, actS, actR, c_8, e_s, c_19, e_q, c_31, c_47, c_61, c_169]; rfl) | (simp [actS, actR, c_8, e_s, c_19, e_q, c_31, c_47, c_61, c_169]; done) | (simp [actS, actR, c_8, e_s, c_19, e_q, c_31, c_47, c_61, c_169]; rfl) | (simp [gA_pA, gI_pI, gB_pB, gL_pL, gA_pI, gA_pB, gA_pL, gI_pA, gI_pB, gI_pL, gB_pA, gB_pI, gB_pL, gL_pA, gL_pI, gL_pB, upd, vp_updL, actS, actR, c_8, e_s, c_19, e_q, c_31, c_47, c_61, c_169]; done))
              refine g_iload_n (pc := 103) F 1 dX5_act_103 rfl rfl ?_
              refine g_callS (As := [.int (kd)]) (pc := 104) (st2 := [.int (b2i (isHandB kd))]) (rest := []) F (kX5_isHandOver l D cT ad (act2 (openC σ na kd s (nI q)) na kd b) kd) tm_X5_128 tt_yX5_isHandOver tn_X5 tc_yX5_isHandOver hd_yX5_isHandOver rfl ⟨rfl, rfl, Nat.le_of_ble_eq_true rfl, Nat.le_of_ble_eq_true rfl⟩ rfl (Nat.le_of_ble_eq_true rfl) dX5_act_104 rfl ?_
              refine gb_if_ne (pc := 107) (tgt := 115) (x := isHandB kd) F dX5_act_107 (by decide) (fun c_107 => ?_) (fun c_107 => ?_)
              · skip
                refine g_aload_n (pc := 115) F 0 dX5_act_115 rfl rfl ?_
                refine get_c5_acts (pc := 116) F tf_X5_26 dX5_act_116 ?_
                refine get_c0_number (pc := 119) F tf_X5_134 dX5_act_119 ?_
                refine g_iload (pc := 122) F 7 dX5_act_122 rfl ?_
                refine g_iload (pc := 124) F 5 dX5_act_124 rfl ?_
                refine ast_c0_number (pc := 126) (j := na) F (by omega) dX5_act_126 ?_
                exact g_eq (by first | (simp only [if_true, if_false, reduceIte, Bool.not_true, Bool.not_false, Bool.and_true, Bool.true_and, Bool.and_false, Bool.false_and, Bool.or_true, Bool.true_or, Bool.or_false, Bool.false_or, decide_true, decide_false, not_true_eq_false, not_false_eq_true, b2i_t, b2i_f, true_and, and_true, false_and, and_false, Bool.true_eq_false, Bool.false_eq_true, act3, c_8, e_s, c_19, e_q, c_31, c_47, c_61, c_107]; done) | (simp only [if_true, if_false, reduceIte, Bool.not_true, Bool.not_false, Bool.and_true, Bool.true_and, Bool.and_false, Bool.false_and, Bool.or_true, Bool.true_or, Bool.or_false, Bool.false_or, decide_true, decide_false, not_true_eq_false, not_false_eq_true, b2i_t, b2i_f, true_and, and_true, false_and, and_false, Bool.true_eq_false, Bool.false_eq_true, act3, c_8, e_s, c_19, e_q, c_31, c_47, c_61, c_107]; rfl)) rfl rfl hcut_127
              · skip
                refine g_iload_n (pc := 110) F 1 dX5_act_110 rfl rfl ?_
                refine g_iconst (pc := 111) (v := 5) F dX5_act_111 (by decide) ?_
                refine g_icmp_ne (pc := 112) (tgt := 127) F dX5_act_112 (by decide) (fun c_112 => ?_) (fun c_112 => ?_)
                · skip
                  exact g_eq (by first | (simp only [if_true, if_false, reduceIte, Bool.not_true, Bool.not_false, Bool.and_true, Bool.true_and, Bool.and_false, Bool.false_and, Bool.or_true, Bool.true_or, Bool.or_false, Bool.false_or, decide_true, decide_false, not_true_eq_false, not_false_eq_true, b2i_t, b2i_f, true_and, and_true, false_and, and_false, Bool.true_eq_false, Bool.false_eq_true, act3, c_8, e_s, c_19, e_q, c_31, c_47, c_61, c_107, c_112]; done) | (simp only [if_true, if_false, reduceIte, Bool.not_true, Bool.not_false, Bool.and_true, Bool.true_and, Bool.and_false, Bool.false_and, Bool.or_true, Bool.true_or, Bool.or_false, Bool.false_or, decide_true, decide_false, not_true_eq_false, not_false_eq_true, b2i_t, b2i_f, true_and, and_true, false_and, and_false, Bool.true_eq_false, Bool.false_eq_true, act3, c_8, e_s, c_19, e_q, c_31, c_47, c_61, c_107, c_112]; rfl)) rfl rfl hcut_127
                · skip
                  refine g_aload_n (pc := 115) F 0 dX5_act_115 rfl rfl ?_
                  refine get_c5_acts (pc := 116) F tf_X5_26 dX5_act_116 ?_
                  refine get_c0_number (pc := 119) F tf_X5_134 dX5_act_119 ?_
                  refine g_iload (pc := 122) F 7 dX5_act_122 rfl ?_
                  refine g_iload (pc := 124) F 5 dX5_act_124 rfl ?_
                  refine ast_c0_number (pc := 126) (j := na) F (by omega) dX5_act_126 ?_
                  exact g_eq (by first | (simp only [if_true, if_false, reduceIte, Bool.not_true, Bool.not_false, Bool.and_true, Bool.true_and, Bool.and_false, Bool.false_and, Bool.or_true, Bool.true_or, Bool.or_false, Bool.false_or, decide_true, decide_false, not_true_eq_false, not_false_eq_true, b2i_t, b2i_f, true_and, and_true, false_and, and_false, Bool.true_eq_false, Bool.false_eq_true, act3, c_8, e_s, c_19, e_q, c_31, c_47, c_61, c_107, c_112]; done) | (simp only [if_true, if_false, reduceIte, Bool.not_true, Bool.not_false, Bool.and_true, Bool.true_and, Bool.and_false, Bool.false_and, Bool.or_true, Bool.true_or, Bool.or_false, Bool.false_or, decide_true, decide_false, not_true_eq_false, not_false_eq_true, b2i_t, b2i_f, true_and, and_true, false_and, and_false, Bool.true_eq_false, Bool.false_eq_true, act3, c_8, e_s, c_19, e_q, c_31, c_47, c_61, c_107, c_112]; rfl)) rfl rfl hcut_127
            refine g_iload_n (pc := 79) F 1 dX5_act_79 rfl rfl ?_
            refine g_callS (As := [.int (kd)]) (pc := 80) (st2 := [.int (b2i (isHandB kd))]) (rest := []) F (kX5_isHandOver l D cT ad (openC σ na kd s (nI (q))) kd) tm_X5_128 tt_yX5_isHandOver tn_X5 tc_yX5_isHandOver hd_yX5_isHandOver rfl ⟨rfl, rfl, Nat.le_of_ble_eq_true rfl, Nat.le_of_ble_eq_true rfl⟩ rfl (Nat.le_of_ble_eq_true rfl) dX5_act_80 rfl ?_
            refine gb_if_ne (pc := 83) (tgt := 91) (x := isHandB kd) F dX5_act_83 (by decide) (fun c_83 => ?_) (fun c_83 => ?_)
            · skip
              refine g_aload_n (pc := 91) F 0 dX5_act_91 rfl rfl ?_
              refine get_c5_acts (pc := 92) F tf_X5_26 dX5_act_92 ?_
              refine get_c0_other (pc := 95) F tf_X5_131 dX5_act_95 ?_
              refine g_iload (pc := 98) F 7 dX5_act_98 rfl ?_
              refine g_iload (pc := 100) F 4 dX5_act_100 rfl ?_
              refine ast_c0_other (pc := 102) (j := na) F (by omega) dX5_act_102 ?_
              exact g_eq (by first | (simp only [if_true, if_false, reduceIte, Bool.not_true, Bool.not_false, Bool.and_true, Bool.true_and, Bool.and_false, Bool.false_and, Bool.or_true, Bool.true_or, Bool.or_false, Bool.false_or, decide_true, decide_false, not_true_eq_false, not_false_eq_true, b2i_t, b2i_f, true_and, and_true, false_and, and_false, Bool.true_eq_false, Bool.false_eq_true, act2, c_8, e_s, c_19, e_q, c_31, c_47, c_61, c_83]; done) | (simp only [if_true, if_false, reduceIte, Bool.not_true, Bool.not_false, Bool.and_true, Bool.true_and, Bool.and_false, Bool.false_and, Bool.or_true, Bool.true_or, Bool.or_false, Bool.false_or, decide_true, decide_false, not_true_eq_false, not_false_eq_true, b2i_t, b2i_f, true_and, and_true, false_and, and_false, Bool.true_eq_false, Bool.false_eq_true, act2, c_8, e_s, c_19, e_q, c_31, c_47, c_61, c_83]; rfl)) rfl rfl hcut_103
            · skip
              refine g_iload_n (pc := 86) F 1 dX5_act_86 rfl rfl ?_
              refine g_iconst (pc := 87) (v := 4) F dX5_act_87 (by decide) ?_
              refine g_icmp_ne (pc := 88) (tgt := 103) F dX5_act_88 (by decide) (fun c_88 => ?_) (fun c_88 => ?_)
              · skip
                exact g_eq (by first | (simp only [if_true, if_false, reduceIte, Bool.not_true, Bool.not_false, Bool.and_true, Bool.true_and, Bool.and_false, Bool.false_and, Bool.or_true, Bool.true_or, Bool.or_false, Bool.false_or, decide_true, decide_false, not_true_eq_false, not_false_eq_true, b2i_t, b2i_f, true_and, and_true, false_and, and_false, Bool.true_eq_false, Bool.false_eq_true, act2, c_8, e_s, c_19, e_q, c_31, c_47, c_61, c_83, c_88]; done) | (simp only [if_true, if_false, reduceIte, Bool.not_true, Bool.not_false, Bool.and_true, Bool.true_and, Bool.and_false, Bool.false_and, Bool.or_true, Bool.true_or, Bool.or_false, Bool.false_or, decide_true, decide_false, not_true_eq_false, not_false_eq_true, b2i_t, b2i_f, true_and, and_true, false_and, and_false, Bool.true_eq_false, Bool.false_eq_true, act2, c_8, e_s, c_19, e_q, c_31, c_47, c_61, c_83, c_88]; rfl)) rfl rfl hcut_103
              · skip
                refine g_aload_n (pc := 91) F 0 dX5_act_91 rfl rfl ?_
                refine get_c5_acts (pc := 92) F tf_X5_26 dX5_act_92 ?_
                refine get_c0_other (pc := 95) F tf_X5_131 dX5_act_95 ?_
                refine g_iload (pc := 98) F 7 dX5_act_98 rfl ?_
                refine g_iload (pc := 100) F 4 dX5_act_100 rfl ?_
                refine ast_c0_other (pc := 102) (j := na) F (by omega) dX5_act_102 ?_
                exact g_eq (by first | (simp only [if_true, if_false, reduceIte, Bool.not_true, Bool.not_false, Bool.and_true, Bool.true_and, Bool.and_false, Bool.false_and, Bool.or_true, Bool.true_or, Bool.or_false, Bool.false_or, decide_true, decide_false, not_true_eq_false, not_false_eq_true, b2i_t, b2i_f, true_and, and_true, false_and, and_false, Bool.true_eq_false, Bool.false_eq_true, act2, c_8, e_s, c_19, e_q, c_31, c_47, c_61, c_83, c_88]; done) | (simp only [if_true, if_false, reduceIte, Bool.not_true, Bool.not_false, Bool.and_true, Bool.true_and, Bool.and_false, Bool.false_and, Bool.or_true, Bool.true_or, Bool.or_false, Bool.false_or, decide_true, decide_false, not_true_eq_false, not_false_eq_true, b2i_t, b2i_f, true_and, and_true, false_and, and_false, Bool.true_eq_false, Bool.false_eq_true, act2, c_8, e_s, c_19, e_q, c_31, c_47, c_61, c_83, c_88]; rfl)) rfl rfl hcut_103
          · skip
            refine g_bipush (pc := 64) (v := (-3)) F dX5_act_64 (by decide) ?_
            exact g_iret (pc := 66) F hr hl dX5_act_66 (rfl) (by first | rfl | (simp only [if_true, if_false, reduceIte, Bool.not_true, Bool.not_false, Bool.and_true, Bool.true_and, Bool.and_false, Bool.false_and, Bool.or_true, Bool.true_or, Bool.or_false, Bool.false_or, decide_true, decide_false, not_true_eq_false, not_false_eq_true, b2i_t, b2i_f, true_and, and_true, false_and, and_false, Bool.true_eq_false, Bool.false_eq_true, actS, actR, c_8, e_s, c_19, e_q, c_31, c_47, c_61]; done) | (simp only [if_true, if_false, reduceIte, Bool.not_true, Bool.not_false, Bool.and_true, Bool.true_and, Bool.and_false, Bool.false_and, Bool.or_true, Bool.true_or, Bool.or_false, Bool.false_or, decide_true, decide_false, not_true_eq_false, not_false_eq_true, b2i_t, b2i_f, true_and, and_true, false_and, and_false, Bool.true_eq_false, Bool.false_eq_true, actS, actR, c_8, e_s, c_19, e_q, c_31, c_47, c_61]; rfl) | (simp [actS, actR, c_8, e_s, c_19, e_q, c_31, c_47, c_61]; done) | (simp [actS, actR, c_8, e_s, c_19, e_q, c_31, c_47, c_61]; rfl) | (simp [gA_pA, gI_pI, gB_pB, gL_pL, gA_pI, gA_pB, gA_pL, gI_pA, gI_pB, gI_pL, gB_pA, gB_pI, gB_pL, gL_pA, gL_pI, gL_pB, upd, vp_updL, actS, actR, c_8, e_s, c_19, e_q, c_31, c_47, c_61]; done)) (by first | rfl | (simp only [if_true, if_false, reduceIte, Bool.not_true, Bool.not_false, Bool.and_true, Bool.true_and, Bool.and_false, Bool.false_and, Bool.or_true, Bool.true_or, Bool.or_false, Bool.false_or, decide_true, decide_false, not_true_eq_false, not_false_eq_true, b2i_t, b2i_f, true_and, and_true, false_and, and_false, Bool.true_eq_false, Bool.false_eq_true, actS, actR, c_8, e_s, c_19, e_q, c_31, c_47, c_61]; done) | (simp only [if_true, if_false, reduceIte, Bool.not_true, Bool.not_false, Bool.and_true, Bool.true_and, Bool.and_false, Bool.false_and, Bool.or_true, Bool.true_or, Bool.or_false, Bool.false_or, decide_true, decide_false, not_true_eq_false, not_false_eq_true, b2i_t, b2i_f, true_and, and_true, false_and, and_false, Bool.true_eq_false, Bool.false_eq_true, actS, actR, c_8, e_s, c_19, e_q, c_31, c_47, c_61]; rfl) | (simp [actS, actR, c_8, e_s, c_19, e_q, c_31, c_47, c_61]; done) | (simp [actS, actR, c_8, e_s, c_19, e_q, c_31, c_47, c_61]; rfl) | (simp [gA_pA, gI_pI, gB_pB, gL_pL, gA_pI, gA_pB, gA_pL, gI_pA, gI_pB, gI_pL, gB_pA, gB_pI, gB_pL, gL_pA, gL_pI, gL_pB, upd, vp_updL, actS, actR, c_8, e_s, c_19, e_q, c_31, c_47, c_61]; done))
        · skip
          refine g_iconst (pc := 50) (v := (-1)) F dX5_act_50 (by decide) ?_
          exact g_iret (pc := 51) F hr hl dX5_act_51 (rfl) (by first | rfl | (simp only [if_true, if_false, reduceIte, Bool.not_true, Bool.not_false, Bool.and_true, Bool.true_and, Bool.and_false, Bool.false_and, Bool.or_true, Bool.true_or, Bool.or_false, Bool.false_or, decide_true, decide_false, not_true_eq_false, not_false_eq_true, b2i_t, b2i_f, true_and, and_true, false_and, and_false, Bool.true_eq_false, Bool.false_eq_true, actS, actR, c_8, e_s, c_19, e_q, c_31, c_47]; done) | (simp only [if_true, if_false, reduceIte, Bool.not_true, Bool.not_false, Bool.and_true, Bool.true_and, Bool.and_false, Bool.false_and, Bool.or_true, Bool.true_or, Bool.or_false, Bool.false_or, decide_true, decide_false, not_true_eq_false, not_false_eq_true, b2i_t, b2i_f, true_and, and_true, false_and, and_false, Bool.true_eq_false, Bool.false_eq_true, actS, actR, c_8, e_s, c_19, e_q, c_31, c_47]; rfl) | (simp [actS, actR, c_8, e_s, c_19, e_q, c_31, c_47]; done) | (simp [actS, actR, c_8, e_s, c_19, e_q, c_31, c_47]; rfl) | (simp [gA_pA, gI_pI, gB_pB, gL_pL, gA_pI, gA_pB, gA_pL, gI_pA, gI_pB, gI_pL, gB_pA, gB_pI, gB_pL, gL_pA, gL_pI, gL_pB, upd, vp_updL, actS, actR, c_8, e_s, c_19, e_q, c_31, c_47]; done)) (by first | rfl | (simp only [if_true, if_false, reduceIte, Bool.not_true, Bool.not_false, Bool.and_true, Bool.true_and, Bool.and_false, Bool.false_and, Bool.or_true, Bool.true_or, Bool.or_false, Bool.false_or, decide_true, decide_false, not_true_eq_false, not_false_eq_true, b2i_t, b2i_f, true_and, and_true, false_and, and_false, Bool.true_eq_false, Bool.false_eq_true, actS, actR, c_8, e_s, c_19, e_q, c_31, c_47]; done) | (simp only [if_true, if_false, reduceIte, Bool.not_true, Bool.not_false, Bool.and_true, Bool.true_and, Bool.and_false, Bool.false_and, Bool.or_true, Bool.true_or, Bool.or_false, Bool.false_or, decide_true, decide_false, not_true_eq_false, not_false_eq_true, b2i_t, b2i_f, true_and, and_true, false_and, and_false, Bool.true_eq_false, Bool.false_eq_true, actS, actR, c_8, e_s, c_19, e_q, c_31, c_47]; rfl) | (simp [actS, actR, c_8, e_s, c_19, e_q, c_31, c_47]; done) | (simp [actS, actR, c_8, e_s, c_19, e_q, c_31, c_47]; rfl) | (simp [gA_pA, gI_pI, gB_pB, gL_pL, gA_pI, gA_pB, gA_pL, gI_pA, gI_pB, gI_pL, gB_pA, gB_pI, gB_pL, gL_pA, gL_pI, gL_pB, upd, vp_updL, actS, actR, c_8, e_s, c_19, e_q, c_31, c_47]; done))
      · skip
        refine g_iconst (pc := 34) (v := (-1)) F dX5_act_34 (by decide) ?_
        exact g_iret (pc := 35) F hr hl dX5_act_35 (rfl) (by first | rfl | (simp only [if_true, if_false, reduceIte, Bool.not_true, Bool.not_false, Bool.and_true, Bool.true_and, Bool.and_false, Bool.false_and, Bool.or_true, Bool.true_or, Bool.or_false, Bool.false_or, decide_true, decide_false, not_true_eq_false, not_false_eq_true, b2i_t, b2i_f, true_and, and_true, false_and, and_false, Bool.true_eq_false, Bool.false_eq_true, actS, actR, c_8, e_s, c_19, e_q, c_31]; done) | (simp only [if_true, if_false, reduceIte, Bool.not_true, Bool.not_false, Bool.and_true, Bool.true_and, Bool.and_false, Bool.false_and, Bool.or_true, Bool.true_or, Bool.or_false, Bool.false_or, decide_true, decide_false, not_true_eq_false, not_false_eq_true, b2i_t, b2i_f, true_and, and_true, false_and, and_false, Bool.true_eq_false, Bool.false_eq_true, actS, actR, c_8, e_s, c_19, e_q, c_31]; rfl) | (simp [actS, actR, c_8, e_s, c_19, e_q, c_31]; done) | (simp [actS, actR, c_8, e_s, c_19, e_q, c_31]; rfl) | (simp [gA_pA, gI_pI, gB_pB, gL_pL, gA_pI, gA_pB, gA_pL, gI_pA, gI_pB, gI_pL, gB_pA, gB_pI, gB_pL, gL_pA, gL_pI, gL_pB, upd, vp_updL, actS, actR, c_8, e_s, c_19, e_q, c_31]; done)) (by first | rfl | (simp only [if_true, if_false, reduceIte, Bool.not_true, Bool.not_false, Bool.and_true, Bool.true_and, Bool.and_false, Bool.false_and, Bool.or_true, Bool.true_or, Bool.or_false, Bool.false_or, decide_true, decide_false, not_true_eq_false, not_false_eq_true, b2i_t, b2i_f, true_and, and_true, false_and, and_false, Bool.true_eq_false, Bool.false_eq_true, actS, actR, c_8, e_s, c_19, e_q, c_31]; done) | (simp only [if_true, if_false, reduceIte, Bool.not_true, Bool.not_false, Bool.and_true, Bool.true_and, Bool.and_false, Bool.false_and, Bool.or_true, Bool.true_or, Bool.or_false, Bool.false_or, decide_true, decide_false, not_true_eq_false, not_false_eq_true, b2i_t, b2i_f, true_and, and_true, false_and, and_false, Bool.true_eq_false, Bool.false_eq_true, actS, actR, c_8, e_s, c_19, e_q, c_31]; rfl) | (simp [actS, actR, c_8, e_s, c_19, e_q, c_31]; done) | (simp [actS, actR, c_8, e_s, c_19, e_q, c_31]; rfl) | (simp [gA_pA, gI_pI, gB_pB, gL_pL, gA_pI, gA_pB, gA_pL, gI_pA, gI_pB, gI_pL, gB_pA, gB_pI, gB_pL, gL_pA, gL_pI, gL_pB, upd, vp_updL, actS, actR, c_8, e_s, c_19, e_q, c_31]; done))
set_option maxRecDepth 100000 in
set_option maxHeartbeats 4000000 in
theorem kX5_actFromSheet (l : Launch) (D : va_G) (cT : Nat → ClassId) (ad : Nat → Nat) (σ : sS) (n ns na : Nat) (hI : IC σ n ns na) (sh fr : Nat) (hsh : sh < 4) (hfr : fr ≤ 30) : CT l D cT (cW cT ad) (cA ad) yX5_actFromSheet cX5_actFromSheet 5 (some .int) ({ frames := 5, cells := 0, slots := 0, locals := 122 } : Room) [.ref (ad 0), .int (nI (sh)), .int (nI (fr))] σ (some (.int (fromR σ n na sh fr).1)) ((fromR σ n na sh fr).2) := by
  refine CT.of (by decide) (cWA cT ad) (Nat.le_of_ble_eq_true rfl) (L0 := [(0, .ref (ad 0)), (1, .int (nI (sh))), (2, .int (nI (fr)))]) rfl ?_
  intro pp ee ss mm av bel mth cod F hr hl
  obtain ⟨hn, hn16, hs, hs8, ha, ha60, hk, hz, hS⟩ := id hI
  refine g_iload_n (pc := 0) F 2 dX5_actFromSheet_0 rfl rfl ?_
  refine gn_if_lt (pc := 1) (tgt := 10) (a := fr) F (by omega) dX5_actFromSheet_1 (by decide) ?_
  refine g_iload_n (pc := 4) F 2 dX5_actFromSheet_4 rfl rfl ?_
  refine g_bipush (pc := 5) (v := 30) F dX5_actFromSheet_5 (by decide) ?_
  refine gn_icmp_le (pc := 7) (tgt := 12) (a := fr) (b := 30) F (by omega) (by omega) dX5_actFromSheet_7 (by decide) (fun c_7 => ?_) (fun c_7 => absurd (by omega) c_7)
  refine g_aload_n (pc := 12) F 0 dX5_actFromSheet_12 rfl rfl ?_
  refine get_c5_sheets (pc := 13) F tf_X5_40 dX5_actFromSheet_13 ?_
  refine get_c3_items (pc := 16) F tf_X5_315 dX5_actFromSheet_16 ?_
  refine g_astore_n (pc := 19) (lv2 := [(0, .ref (ad 0)), (1, .int (nI (sh))), (2, .int (nI (fr))), (3, .ref (ad 30))]) F [1, 2, 3, 0] dX5_actFromSheet_19 rfl (by decide) rfl ?_
  refine g_iload_n (pc := 20) F 1 dX5_actFromSheet_20 rfl rfl ?_
  refine g_bipush (pc := 21) (v := 36) F dX5_actFromSheet_21 (by decide) ?_
  refine g_imul (pc := 23) (v := nI (sh * 36)) F dX5_actFromSheet_23 (pk_mul _ _) ?_
  refine g_iload_n (pc := 24) F 2 dX5_actFromSheet_24 rfl rfl ?_
  refine g_iadd (pc := 25) (v := nI (sh * 36 + fr)) F dX5_actFromSheet_25 (nI_add _ _) ?_
  refine g_istore (pc := 26) (lv2 := [(0, .ref (ad 0)), (1, .int (nI (sh))), (2, .int (nI (fr))), (3, .ref (ad 30)), (4, .int (nI (sh * 36 + fr)))]) F [1, 2, 3, 4, 0] dX5_actFromSheet_26 (by decide) rfl ?_
  refine g_aload_n (pc := 28) F 0 dX5_actFromSheet_28 rfl rfl ?_
  refine g_aload_n (pc := 29) F 3 dX5_actFromSheet_29 rfl rfl ?_
  refine g_iload (pc := 30) F 4 dX5_actFromSheet_30 rfl ?_
  refine ald_c3_items (pc := 32) (j := sh * 36 + fr) F (by omega) dX5_actFromSheet_32 ?_
  refine g_aload_n (pc := 33) F 3 dX5_actFromSheet_33 rfl rfl ?_
  refine g_iload (pc := 34) F 4 dX5_actFromSheet_34 rfl ?_
  refine g_iconst (pc := 36) (v := 1) F dX5_actFromSheet_36 (by decide) ?_
  refine g_iadd (pc := 37) (v := nI (sh * 36 + fr + 1)) F dX5_actFromSheet_37 (nI_add _ _) ?_
  refine ald_c3_items (pc := 38) (j := sh * 36 + fr + 1) F (by omega) dX5_actFromSheet_38 ?_
  refine g_aload_n (pc := 39) F 3 dX5_actFromSheet_39 rfl rfl ?_
  refine g_iload (pc := 40) F 4 dX5_actFromSheet_40 rfl ?_
  refine g_iconst (pc := 42) (v := 2) F dX5_actFromSheet_42 (by decide) ?_
  refine g_iadd (pc := 43) (v := nI (sh * 36 + fr + 2)) F dX5_actFromSheet_43 (nI_add _ _) ?_
  refine ald_c3_items (pc := 44) (j := sh * 36 + fr + 2) F (by omega) dX5_actFromSheet_44 ?_
  refine g_aload_n (pc := 45) F 3 dX5_actFromSheet_45 rfl rfl ?_
  refine g_iload (pc := 46) F 4 dX5_actFromSheet_46 rfl ?_
  refine g_iconst (pc := 48) (v := 3) F dX5_actFromSheet_48 (by decide) ?_
  refine g_iadd (pc := 49) (v := nI (sh * 36 + fr + 3)) F dX5_actFromSheet_49 (nI_add _ _) ?_
  refine ald_c3_items (pc := 50) (j := sh * 36 + fr + 3) F (by omega) dX5_actFromSheet_50 ?_
  refine g_aload_n (pc := 51) F 3 dX5_actFromSheet_51 rfl rfl ?_
  refine g_iload (pc := 52) F 4 dX5_actFromSheet_52 rfl ?_
  refine g_iconst (pc := 54) (v := 4) F dX5_actFromSheet_54 (by decide) ?_
  refine g_iadd (pc := 55) (v := nI (sh * 36 + fr + 4)) F dX5_actFromSheet_55 (nI_add _ _) ?_
  refine ald_c3_items (pc := 56) (j := sh * 36 + fr + 4) F (by omega) dX5_actFromSheet_56 ?_
  refine g_aload_n (pc := 57) F 3 dX5_actFromSheet_57 rfl rfl ?_
  refine g_iload (pc := 58) F 4 dX5_actFromSheet_58 rfl ?_
  refine g_iconst (pc := 60) (v := 5) F dX5_actFromSheet_60 (by decide) ?_
  refine g_iadd (pc := 61) (v := nI (sh * 36 + fr + 5)) F dX5_actFromSheet_61 (nI_add _ _) ?_
  refine ald_c3_items (pc := 62) (j := sh * 36 + fr + 5) F (by omega) dX5_actFromSheet_62 ?_
  refine g_callV (As := [.int (gA σ 30 (sh * 36 + fr)), .int (gA σ 30 (sh * 36 + fr + 1)), .int (gA σ 30 (sh * 36 + fr + 2)), .int (gA σ 30 (sh * 36 + fr + 3)), .int (gA σ 30 (sh * 36 + fr + 4)), .int (gA σ 30 (sh * 36 + fr + 5))]) (pc := 63) (st2 := [.int ((actR σ n na (gA σ 30 (sh * 36 + fr)) (gA σ 30 (sh * 36 + fr + 1)) (gA σ 30 (sh * 36 + fr + 2)) (gA σ 30 (sh * 36 + fr + 3)) (gA σ 30 (sh * 36 + fr + 4)) (gA σ 30 (sh * 36 + fr + 5))).1)]) (rest := []) F (kX5_act l D cT ad σ n ns na (hI) (gA σ 30 (sh * 36 + fr)) (gA σ 30 (sh * 36 + fr + 1)) (gA σ 30 (sh * 36 + fr + 2)) (gA σ 30 (sh * 36 + fr + 3)) (gA σ 30 (sh * 36 + fr + 4)) (gA σ 30 (sh * 36 + fr + 5))) tm_X5_318 ti_yX5_act ts_yX5_act tn_X5 tc_yX5_act hd_yX5_act rfl 0 (rfl : (cW cT ad _)[0]? = some (ad 0, .inr (5, cO0 ad _))) rfl ⟨rfl, rfl, Nat.le_of_ble_eq_true rfl, Nat.le_of_ble_eq_true rfl⟩ rfl (Nat.le_of_ble_eq_true rfl) dX5_actFromSheet_63 rfl ?_
  exact g_iret (pc := 66) F hr hl dX5_actFromSheet_66 (rfl) (by first | rfl | (simp only [if_true, if_false, reduceIte, Bool.not_true, Bool.not_false, Bool.and_true, Bool.true_and, Bool.and_false, Bool.false_and, Bool.or_true, Bool.true_or, Bool.or_false, Bool.false_or, decide_true, decide_false, not_true_eq_false, not_false_eq_true, b2i_t, b2i_f, true_and, and_true, false_and, and_false, Bool.true_eq_false, Bool.false_eq_true, fromR, c_7]; done) | (simp only [if_true, if_false, reduceIte, Bool.not_true, Bool.not_false, Bool.and_true, Bool.true_and, Bool.and_false, Bool.false_and, Bool.or_true, Bool.true_or, Bool.or_false, Bool.false_or, decide_true, decide_false, not_true_eq_false, not_false_eq_true, b2i_t, b2i_f, true_and, and_true, false_and, and_false, Bool.true_eq_false, Bool.false_eq_true, fromR, c_7]; rfl) | (simp [fromR, c_7]; done) | (simp [fromR, c_7]; rfl) | (simp [gA_pA, gI_pI, gB_pB, gL_pL, gA_pI, gA_pB, gA_pL, gI_pA, gI_pB, gI_pL, gB_pA, gB_pI, gB_pL, gL_pA, gL_pI, gL_pB, upd, vp_updL, fromR, c_7]; done)) (by first | rfl | (simp only [if_true, if_false, reduceIte, Bool.not_true, Bool.not_false, Bool.and_true, Bool.true_and, Bool.and_false, Bool.false_and, Bool.or_true, Bool.true_or, Bool.or_false, Bool.false_or, decide_true, decide_false, not_true_eq_false, not_false_eq_true, b2i_t, b2i_f, true_and, and_true, false_and, and_false, Bool.true_eq_false, Bool.false_eq_true, fromR, c_7]; done) | (simp only [if_true, if_false, reduceIte, Bool.not_true, Bool.not_false, Bool.and_true, Bool.true_and, Bool.and_false, Bool.false_and, Bool.or_true, Bool.true_or, Bool.or_false, Bool.false_or, decide_true, decide_false, not_true_eq_false, not_false_eq_true, b2i_t, b2i_f, true_and, and_true, false_and, and_false, Bool.true_eq_false, Bool.false_eq_true, fromR, c_7]; rfl) | (simp [fromR, c_7]; done) | (simp [fromR, c_7]; rfl) | (simp [gA_pA, gI_pI, gB_pB, gL_pL, gA_pI, gA_pB, gA_pL, gI_pA, gI_pB, gI_pL, gB_pA, gB_pI, gB_pL, gL_pA, gL_pI, gL_pB, upd, vp_updL, fromR, c_7]; done))
set_option maxRecDepth 100000 in
set_option maxHeartbeats 4000000 in
theorem kX5_acts (l : Launch) (D : va_G) (cT : Nat → ClassId) (ad : Nat → Nat) (σ : sS) (n ns na : Nat) (hI : IC σ n ns na) (sh la fx x : Int32) : CT l D cT (cW cT ad) (cA ad) yX5_acts cX5_acts 7 (some .int) ({ frames := 6, cells := 0, slots := 0, locals := 146 } : Room) [.ref (ad 0), .int (sh), .int (la), .int (fx), .int (x)] σ (some (.int (actsR σ n na sh la fx x).1)) ((actsR σ n na sh la fx x).2) := by
  refine CT.of (by decide) (cWA cT ad) (Nat.le_of_ble_eq_true rfl) (L0 := [(0, .ref (ad 0)), (1, .int (sh)), (2, .int (la)), (3, .int (fx)), (4, .int (x))]) rfl ?_
  intro pp ee ss mm av bel mth cod F hr hl
  obtain ⟨hn, hn16, hs, hs8, ha, ha60, hk, hz, hS⟩ := id hI
  refine g_iload (pc := 0) F 4 dX5_acts_0 rfl ?_
  refine g_if_lt (pc := 2) (tgt := 12) F dX5_acts_2 (by decide) (fun c_2 => ?_) (fun c_2 => ?_)
  · skip
    refine g_iconst (pc := 12) (v := (-1)) F dX5_acts_12 (by decide) ?_
    exact g_iret (pc := 13) F hr hl dX5_acts_13 (rfl) (by first | rfl | (simp only [if_true, if_false, reduceIte, Bool.not_true, Bool.not_false, Bool.and_true, Bool.true_and, Bool.and_false, Bool.false_and, Bool.or_true, Bool.true_or, Bool.or_false, Bool.false_or, decide_true, decide_false, not_true_eq_false, not_false_eq_true, b2i_t, b2i_f, true_and, and_true, false_and, and_false, Bool.true_eq_false, Bool.false_eq_true, actsR, c_2]; done) | (simp only [if_true, if_false, reduceIte, Bool.not_true, Bool.not_false, Bool.and_true, Bool.true_and, Bool.and_false, Bool.false_and, Bool.or_true, Bool.true_or, Bool.or_false, Bool.false_or, decide_true, decide_false, not_true_eq_false, not_false_eq_true, b2i_t, b2i_f, true_and, and_true, false_and, and_false, Bool.true_eq_false, Bool.false_eq_true, actsR, c_2]; rfl) | (simp [actsR, c_2]; done) | (simp [actsR, c_2]; rfl) | (simp [gA_pA, gI_pI, gB_pB, gL_pL, gA_pI, gA_pB, gA_pL, gI_pA, gI_pB, gI_pL, gB_pA, gB_pI, gB_pL, gL_pA, gL_pI, gL_pB, upd, vp_updL, actsR, c_2]; done)) (by first | rfl | (simp only [if_true, if_false, reduceIte, Bool.not_true, Bool.not_false, Bool.and_true, Bool.true_and, Bool.and_false, Bool.false_and, Bool.or_true, Bool.true_or, Bool.or_false, Bool.false_or, decide_true, decide_false, not_true_eq_false, not_false_eq_true, b2i_t, b2i_f, true_and, and_true, false_and, and_false, Bool.true_eq_false, Bool.false_eq_true, actsR, c_2]; done) | (simp only [if_true, if_false, reduceIte, Bool.not_true, Bool.not_false, Bool.and_true, Bool.true_and, Bool.and_false, Bool.false_and, Bool.or_true, Bool.true_or, Bool.or_false, Bool.false_or, decide_true, decide_false, not_true_eq_false, not_false_eq_true, b2i_t, b2i_f, true_and, and_true, false_and, and_false, Bool.true_eq_false, Bool.false_eq_true, actsR, c_2]; rfl) | (simp [actsR, c_2]; done) | (simp [actsR, c_2]; rfl) | (simp [gA_pA, gI_pI, gB_pB, gL_pL, gA_pI, gA_pB, gA_pL, gI_pA, gI_pB, gI_pL, gB_pA, gB_pI, gB_pL, gL_pA, gL_pI, gL_pB, upd, vp_updL, actsR, c_2]; done))
  · skip
    refine g_iload (pc := 5) F 4 dX5_acts_5 rfl ?_
    refine g_bipush (pc := 7) (v := 6) F dX5_acts_7 (by decide) ?_
    refine g_icmp_le (pc := 9) (tgt := 14) F dX5_acts_9 (by decide) (fun c_9 => ?_) (fun c_9 => ?_)
    · skip
      obtain ⟨m, hm, rfl⟩ := nI_of2 (M := 6) (n := 6) (by decide) c_2 c_9
      have e_m : ix (nI m) = m := ix_nI (by omega)
      refine g_aload_n (pc := 14) F 0 dX5_acts_14 rfl rfl ?_
      refine g_iload_n (pc := 15) F 1 dX5_acts_15 rfl rfl ?_
      refine g_iload_n (pc := 16) F 2 dX5_acts_16 rfl rfl ?_
      refine g_callV (As := [.int (sh), .int (la)]) (pc := 17) (st2 := [.int (refuseC σ sh la)]) (rest := []) F (kX5_refusalOfRow l D cT ad σ n ns na (hI) sh la) tm_X5_286 ti_yX5_refusalOfRow ts_yX5_refusalOfRow tn_X5 tc_yX5_refusalOfRow hd_yX5_refusalOfRow rfl 0 (rfl : (cW cT ad _)[0]? = some (ad 0, .inr (5, cO0 ad _))) rfl ⟨rfl, rfl, Nat.le_of_ble_eq_true rfl, Nat.le_of_ble_eq_true rfl⟩ rfl (Nat.le_of_ble_eq_true rfl) dX5_acts_17 rfl ?_
      refine g_istore (pc := 20) (lv2 := [(0, .ref (ad 0)), (1, .int (sh)), (2, .int (la)), (3, .int (fx)), (4, .int (nI (m))), (5, .int (refuseC σ sh la))]) F [1, 2, 3, 4, 5, 0] dX5_acts_20 (by decide) rfl ?_
      refine g_iload (pc := 22) F 5 dX5_acts_22 rfl ?_
      refine g_if_eq (pc := 24) (tgt := 30) F dX5_acts_24 (by decide) (fun c_24 => ?_) (fun c_24 => ?_)
      · skip
        obtain ⟨j, hj, rfl⟩ := isIn_nI (n := 4) (by decide) (refuse_sh c_24)
        have e_j : ix (nI j) = j := ix_nI (by omega)
        refine g_iload_n (pc := 30) F 3 dX5_acts_30 rfl rfl ?_
        refine g_if_lt (pc := 31) (tgt := 53) F dX5_acts_31 (by decide) (fun c_31 => ?_) (fun c_31 => ?_)
        · skip
          refine g_bipush (pc := 53) (v := (-13)) F dX5_acts_53 (by decide) ?_
          exact g_iret (pc := 55) F hr hl dX5_acts_55 (rfl) (by first | rfl | (simp only [if_true, if_false, reduceIte, Bool.not_true, Bool.not_false, Bool.and_true, Bool.true_and, Bool.and_false, Bool.false_and, Bool.or_true, Bool.true_or, Bool.or_false, Bool.false_or, decide_true, decide_false, not_true_eq_false, not_false_eq_true, b2i_t, b2i_f, true_and, and_true, false_and, and_false, Bool.true_eq_false, Bool.false_eq_true, actsR, c_2, c_9, e_m, c_24, e_j, c_31]; done) | (simp only [if_true, if_false, reduceIte, Bool.not_true, Bool.not_false, Bool.and_true, Bool.true_and, Bool.and_false, Bool.false_and, Bool.or_true, Bool.true_or, Bool.or_false, Bool.false_or, decide_true, decide_false, not_true_eq_false, not_false_eq_true, b2i_t, b2i_f, true_and, and_true, false_and, and_false, Bool.true_eq_false, Bool.false_eq_true, actsR, c_2, c_9, e_m, c_24, e_j, c_31]; rfl) | (simp [actsR, c_2, c_9, e_m, c_24, e_j, c_31]; done) | (simp [actsR, c_2, c_9, e_m, c_24, e_j, c_31]; rfl) | (simp [gA_pA, gI_pI, gB_pB, gL_pL, gA_pI, gA_pB, gA_pL, gI_pA, gI_pB, gI_pL, gB_pA, gB_pI, gB_pL, gL_pA, gL_pI, gL_pB, upd, vp_updL, actsR, c_2, c_9, e_m, c_24, e_j, c_31]; done)) (by first | rfl | (simp only [if_true, if_false, reduceIte, Bool.not_true, Bool.not_false, Bool.and_true, Bool.true_and, Bool.and_false, Bool.false_and, Bool.or_true, Bool.true_or, Bool.or_false, Bool.false_or, decide_true, decide_false, not_true_eq_false, not_false_eq_true, b2i_t, b2i_f, true_and, and_true, false_and, and_false, Bool.true_eq_false, Bool.false_eq_true, actsR, c_2, c_9, e_m, c_24, e_j, c_31]; done) | (simp only [if_true, if_false, reduceIte, Bool.not_true, Bool.not_false, Bool.and_true, Bool.true_and, Bool.and_false, Bool.false_and, Bool.or_true, Bool.true_or, Bool.or_false, Bool.false_or, decide_true, decide_false, not_true_eq_false, not_false_eq_true, b2i_t, b2i_f, true_and, and_true, false_and, and_false, Bool.true_eq_false, Bool.false_eq_true, actsR, c_2, c_9, e_m, c_24, e_j, c_31]; rfl) | (simp [actsR, c_2, c_9, e_m, c_24, e_j, c_31]; done) | (simp [actsR, c_2, c_9, e_m, c_24, e_j, c_31]; rfl) | (simp [gA_pA, gI_pI, gB_pB, gL_pL, gA_pI, gA_pB, gA_pL, gI_pA, gI_pB, gI_pL, gB_pA, gB_pI, gB_pL, gL_pA, gL_pI, gL_pB, upd, vp_updL, actsR, c_2, c_9, e_m, c_24, e_j, c_31]; done))
        · skip
          refine g_iload_n (pc := 34) F 3 dX5_acts_34 rfl rfl ?_
          refine g_aload_n (pc := 35) F 0 dX5_acts_35 rfl rfl ?_
          refine get_c5_sheets (pc := 36) F tf_X5_40 dX5_acts_36 ?_
          refine get_c3_length (pc := 39) F tf_X5_283 dX5_acts_39 ?_
          refine g_iload_n (pc := 42) F 1 dX5_acts_42 rfl rfl ?_
          refine ald_c3_length (pc := 43) (j := j) F (by omega) dX5_acts_43 ?_
          refine g_iload (pc := 44) F 4 dX5_acts_44 rfl ?_
          refine g_bipush (pc := 46) (v := 6) F dX5_acts_46 (by decide) ?_
          refine g_imul (pc := 48) (v := nI (m * 6)) F dX5_acts_48 (pk_mul _ _) ?_
          refine g_isub (pc := 49) (v := (gA σ 29 j) - (nI (m * 6))) F dX5_acts_49 (rfl) ?_
          refine g_icmp_le (pc := 50) (tgt := 56) F dX5_acts_50 (by decide) (fun c_50 => ?_) (fun c_50 => ?_)
          · skip
            have hlen := hS j hj
            obtain ⟨f, rfl, hf⟩ := rng_le (L := lnC σ j) (M := m * 6) (by omega) (by omega) c_31 (by rw [← hlen.1]; exact c_50)
            have e_f : ix (nI f) = f := ix_nI (by omega)
            refine g_iconst (pc := 56) (v := 0) F dX5_acts_56 (by decide) ?_
            refine g_istore (pc := 57) (lv2 := [(0, .ref (ad 0)), (1, .int (nI (j))), (2, .int (la)), (3, .int (nI (f))), (4, .int (nI (m))), (5, .int (refuseC σ (nI j) la)), (6, .int 0)]) F [1, 2, 3, 4, 5, 6, 0] dX5_acts_57 (by decide) rfl ?_
            have ih_59 : ∀ (c : Nat) (d na' : Nat) (τ : sS), d + c = m → IC τ n ns na' → actsL n j f c d na' τ = actsL n j f m 0 na σ → G pp l ee ({ frames := 6, cells := 0, slots := 0, locals := 146 } : Room) ss mm av bel mth cod (gQ bel D (cW cT ad) (cA ad) av ss (some (.int (actsR σ n na (nI j) la (nI f) (nI m)).1)) ((actsR σ n na (nI j) la (nI f) (nI m)).2)) D (gR (cA ad) ss.heap.size) ss.heap 7 (cW cT ad) (τ) 59 [(0, .ref (ad 0)), (1, .int (nI (j))), (3, .int (nI (f))), (4, .int (nI (m))), (6, .int (nI (d)))] [] := by
              intro c
              induction c with
              | zero =>
                intro d na' τ hdc hIt hres
                refine g_iload (pc := 59) F 4 dX5_acts_59 rfl ?_
                refine g_iload (pc := 61) F 3 dX5_acts_61 rfl ?_
                refine gn_icmp_ge (pc := 63) (tgt := 87) (a := d) (b := m) F (by omega) (by omega) dX5_acts_63 (by decide) (fun c_63 => ?_) (fun c_63 => absurd (by omega) c_63)
                refine g_iload (pc := 87) F 4 dX5_acts_87 rfl ?_
                exact g_iret (pc := 89) F hr hl dX5_acts_89 (rfl) (by simp only [actsR, if_true, if_false, reduceIte, Bool.not_true, Bool.not_false, Bool.and_true, Bool.true_and, Bool.and_false, Bool.false_and, Bool.or_true, Bool.true_or, Bool.or_false, Bool.false_or, decide_true, decide_false, not_true_eq_false, not_false_eq_true, b2i_t, b2i_f, true_and, and_true, false_and, and_false, Bool.true_eq_false, Bool.false_eq_true, c_2, c_9, e_m, c_24, e_j, c_31, c_50, e_f, c_63]; rw [← hres]; rfl) (by simp only [actsR, if_true, if_false, reduceIte, Bool.not_true, Bool.not_false, Bool.and_true, Bool.true_and, Bool.and_false, Bool.false_and, Bool.or_true, Bool.true_or, Bool.or_false, Bool.false_or, decide_true, decide_false, not_true_eq_false, not_false_eq_true, b2i_t, b2i_f, true_and, and_true, false_and, and_false, Bool.true_eq_false, Bool.false_eq_true, c_2, c_9, e_m, c_24, e_j, c_31, c_50, e_f, c_63]; rw [← hres]; rfl)
              | succ c ih_59 =>
                intro d na' τ hdc hIt hres
                refine g_iload (pc := 59) F 4 dX5_acts_59 rfl ?_
                refine g_iload (pc := 61) F 3 dX5_acts_61 rfl ?_
                refine gn_icmp_ge (pc := 63) (tgt := 87) (a := d) (b := m) F (by omega) (by omega) dX5_acts_63 (by decide) (fun c_63 => absurd c_63 (by omega)) (fun c_63 => ?_)
                refine g_aload_n (pc := 66) F 0 dX5_acts_66 rfl rfl ?_
                refine g_iload_n (pc := 67) F 1 dX5_acts_67 rfl rfl ?_
                refine g_iload_n (pc := 68) F 2 dX5_acts_68 rfl rfl ?_
                refine g_iload (pc := 69) F 4 dX5_acts_69 rfl ?_
                refine g_bipush (pc := 71) (v := 6) F dX5_acts_71 (by decide) ?_
                refine g_imul (pc := 73) (v := nI (d * 6)) F dX5_acts_73 (pk_mul _ _) ?_
                refine g_iadd (pc := 74) (v := nI (f + d * 6)) F dX5_acts_74 (nI_add _ _) ?_
                refine g_callV (As := [.int (nI (j)), .int (nI (f + d * 6))]) (pc := 75) (st2 := [.int ((fromR τ n na' j (f + d * 6)).1)]) (rest := []) F (kX5_actFromSheet l D cT ad τ n ns na' (hIt) j (f + d * 6) (by omega) (by omega)) tm_X5_292 ti_yX5_actFromSheet ts_yX5_actFromSheet tn_X5 tc_yX5_actFromSheet hd_yX5_actFromSheet rfl 0 (rfl : (cW cT ad _)[0]? = some (ad 0, .inr (5, cO0 ad _))) rfl ⟨rfl, rfl, Nat.le_of_ble_eq_true rfl, Nat.le_of_ble_eq_true rfl⟩ rfl (Nat.le_of_ble_eq_true rfl) dX5_acts_75 rfl ?_
                refine g_if_lt (pc := 78) (tgt := 87) F dX5_acts_78 (by decide) (fun c_78 => ?_) (fun c_78 => ?_)
                · skip
                  refine g_iload (pc := 87) F 4 dX5_acts_87 rfl ?_
                  exact g_iret (pc := 89) F hr hl dX5_acts_89 (rfl) (by simp only [actsR, if_true, if_false, reduceIte, Bool.not_true, Bool.not_false, Bool.and_true, Bool.true_and, Bool.and_false, Bool.false_and, Bool.or_true, Bool.true_or, Bool.or_false, Bool.false_or, decide_true, decide_false, not_true_eq_false, not_false_eq_true, b2i_t, b2i_f, true_and, and_true, false_and, and_false, Bool.true_eq_false, Bool.false_eq_true, c_2, c_9, e_m, c_24, e_j, c_31, c_50, e_f, c_63, c_78]; rw [← hres, actsL, if_pos c_78]) (by simp only [actsR, if_true, if_false, reduceIte, Bool.not_true, Bool.not_false, Bool.and_true, Bool.true_and, Bool.and_false, Bool.false_and, Bool.or_true, Bool.true_or, Bool.or_false, Bool.false_or, decide_true, decide_false, not_true_eq_false, not_false_eq_true, b2i_t, b2i_f, true_and, and_true, false_and, and_false, Bool.true_eq_false, Bool.false_eq_true, c_2, c_9, e_m, c_24, e_j, c_31, c_50, e_f, c_63, c_78]; rw [← hres, actsL, if_pos c_78])
                · skip
                  refine g_iinc (pc := 81) (v := nI (d + 1)) (lv2 := [(0, .ref (ad 0)), (1, .int (nI (j))), (3, .int (nI (f))), (4, .int (nI (m))), (6, .int (nI (d + 1)))]) F 4 [1, 2, 3, 4, 0] dX5_acts_81 rfl (nI_add _ _) (by decide) rfl ?_
                  refine g_goto (pc := 84) (tgt := 59) F dX5_acts_84 (by decide) ?_
                  refine g_loc [0, 1, 2, 3, 4] (rfl : lv_pick _ _ = [(0, .ref (ad 0)), (1, .int (nI (j))), (3, .int (nI (f))), (4, .int (nI (m))), (6, .int (nI (d + 1)))]) ?_
                  exact ih_59 (d + 1) (na' + 1) ((fromR τ n na' j (f + d * 6)).2) (by omega) (IC_from hIt c_78) (by rw [← hres, actsL, if_neg c_78])
            refine g_loc [0, 1, 3, 4, 6] (rfl : lv_pick _ _ = [(0, .ref (ad 0)), (1, .int (nI (j))), (3, .int (nI (f))), (4, .int (nI (m))), (6, .int 0)]) ?_
            exact ih_59 m 0 na σ (Nat.zero_add m) hI rfl
          · skip
            refine g_bipush (pc := 53) (v := (-13)) F dX5_acts_53 (by decide) ?_
            exact g_iret (pc := 55) F hr hl dX5_acts_55 (rfl) (by first | rfl | (simp only [if_true, if_false, reduceIte, Bool.not_true, Bool.not_false, Bool.and_true, Bool.true_and, Bool.and_false, Bool.false_and, Bool.or_true, Bool.true_or, Bool.or_false, Bool.false_or, decide_true, decide_false, not_true_eq_false, not_false_eq_true, b2i_t, b2i_f, true_and, and_true, false_and, and_false, Bool.true_eq_false, Bool.false_eq_true, actsR, c_2, c_9, e_m, c_24, e_j, c_31, c_50]; done) | (simp only [if_true, if_false, reduceIte, Bool.not_true, Bool.not_false, Bool.and_true, Bool.true_and, Bool.and_false, Bool.false_and, Bool.or_true, Bool.true_or, Bool.or_false, Bool.false_or, decide_true, decide_false, not_true_eq_false, not_false_eq_true, b2i_t, b2i_f, true_and, and_true, false_and, and_false, Bool.true_eq_false, Bool.false_eq_true, actsR, c_2, c_9, e_m, c_24, e_j, c_31, c_50]; rfl) | (simp [actsR, c_2, c_9, e_m, c_24, e_j, c_31, c_50]; done) | (simp [actsR, c_2, c_9, e_m, c_24, e_j, c_31, c_50]; rfl) | (simp [gA_pA, gI_pI, gB_pB, gL_pL, gA_pI, gA_pB, gA_pL, gI_pA, gI_pB, gI_pL, gB_pA, gB_pI, gB_pL, gL_pA, gL_pI, gL_pB, upd, vp_updL, actsR, c_2, c_9, e_m, c_24, e_j, c_31, c_50]; done)) (by first | rfl | (simp only [if_true, if_false, reduceIte, Bool.not_true, Bool.not_false, Bool.and_true, Bool.true_and, Bool.and_false, Bool.false_and, Bool.or_true, Bool.true_or, Bool.or_false, Bool.false_or, decide_true, decide_false, not_true_eq_false, not_false_eq_true, b2i_t, b2i_f, true_and, and_true, false_and, and_false, Bool.true_eq_false, Bool.false_eq_true, actsR, c_2, c_9, e_m, c_24, e_j, c_31, c_50]; done) | (simp only [if_true, if_false, reduceIte, Bool.not_true, Bool.not_false, Bool.and_true, Bool.true_and, Bool.and_false, Bool.false_and, Bool.or_true, Bool.true_or, Bool.or_false, Bool.false_or, decide_true, decide_false, not_true_eq_false, not_false_eq_true, b2i_t, b2i_f, true_and, and_true, false_and, and_false, Bool.true_eq_false, Bool.false_eq_true, actsR, c_2, c_9, e_m, c_24, e_j, c_31, c_50]; rfl) | (simp [actsR, c_2, c_9, e_m, c_24, e_j, c_31, c_50]; done) | (simp [actsR, c_2, c_9, e_m, c_24, e_j, c_31, c_50]; rfl) | (simp [gA_pA, gI_pI, gB_pB, gL_pL, gA_pI, gA_pB, gA_pL, gI_pA, gI_pB, gI_pL, gB_pA, gB_pI, gB_pL, gL_pA, gL_pI, gL_pB, upd, vp_updL, actsR, c_2, c_9, e_m, c_24, e_j, c_31, c_50]; done))
      · skip
        refine g_iload (pc := 27) F 5 dX5_acts_27 rfl ?_
        exact g_iret (pc := 29) F hr hl dX5_acts_29 (rfl) (by first | rfl | (simp only [if_true, if_false, reduceIte, Bool.not_true, Bool.not_false, Bool.and_true, Bool.true_and, Bool.and_false, Bool.false_and, Bool.or_true, Bool.true_or, Bool.or_false, Bool.false_or, decide_true, decide_false, not_true_eq_false, not_false_eq_true, b2i_t, b2i_f, true_and, and_true, false_and, and_false, Bool.true_eq_false, Bool.false_eq_true, actsR, c_2, c_9, e_m, c_24]; done) | (simp only [if_true, if_false, reduceIte, Bool.not_true, Bool.not_false, Bool.and_true, Bool.true_and, Bool.and_false, Bool.false_and, Bool.or_true, Bool.true_or, Bool.or_false, Bool.false_or, decide_true, decide_false, not_true_eq_false, not_false_eq_true, b2i_t, b2i_f, true_and, and_true, false_and, and_false, Bool.true_eq_false, Bool.false_eq_true, actsR, c_2, c_9, e_m, c_24]; rfl) | (simp [actsR, c_2, c_9, e_m, c_24]; done) | (simp [actsR, c_2, c_9, e_m, c_24]; rfl) | (simp [gA_pA, gI_pI, gB_pB, gL_pL, gA_pI, gA_pB, gA_pL, gI_pA, gI_pB, gI_pL, gB_pA, gB_pI, gB_pL, gL_pA, gL_pI, gL_pB, upd, vp_updL, actsR, c_2, c_9, e_m, c_24]; done)) (by first | rfl | (simp only [if_true, if_false, reduceIte, Bool.not_true, Bool.not_false, Bool.and_true, Bool.true_and, Bool.and_false, Bool.false_and, Bool.or_true, Bool.true_or, Bool.or_false, Bool.false_or, decide_true, decide_false, not_true_eq_false, not_false_eq_true, b2i_t, b2i_f, true_and, and_true, false_and, and_false, Bool.true_eq_false, Bool.false_eq_true, actsR, c_2, c_9, e_m, c_24]; done) | (simp only [if_true, if_false, reduceIte, Bool.not_true, Bool.not_false, Bool.and_true, Bool.true_and, Bool.and_false, Bool.false_and, Bool.or_true, Bool.true_or, Bool.or_false, Bool.false_or, decide_true, decide_false, not_true_eq_false, not_false_eq_true, b2i_t, b2i_f, true_and, and_true, false_and, and_false, Bool.true_eq_false, Bool.false_eq_true, actsR, c_2, c_9, e_m, c_24]; rfl) | (simp [actsR, c_2, c_9, e_m, c_24]; done) | (simp [actsR, c_2, c_9, e_m, c_24]; rfl) | (simp [gA_pA, gI_pI, gB_pB, gL_pL, gA_pI, gA_pB, gA_pL, gI_pA, gI_pB, gI_pL, gB_pA, gB_pI, gB_pL, gL_pA, gL_pI, gL_pB, upd, vp_updL, actsR, c_2, c_9, e_m, c_24]; done))
    · skip
      refine g_iconst (pc := 12) (v := (-1)) F dX5_acts_12 (by decide) ?_
      exact g_iret (pc := 13) F hr hl dX5_acts_13 (rfl) (by first | rfl | (simp only [if_true, if_false, reduceIte, Bool.not_true, Bool.not_false, Bool.and_true, Bool.true_and, Bool.and_false, Bool.false_and, Bool.or_true, Bool.true_or, Bool.or_false, Bool.false_or, decide_true, decide_false, not_true_eq_false, not_false_eq_true, b2i_t, b2i_f, true_and, and_true, false_and, and_false, Bool.true_eq_false, Bool.false_eq_true, actsR, c_2, c_9]; done) | (simp only [if_true, if_false, reduceIte, Bool.not_true, Bool.not_false, Bool.and_true, Bool.true_and, Bool.and_false, Bool.false_and, Bool.or_true, Bool.true_or, Bool.or_false, Bool.false_or, decide_true, decide_false, not_true_eq_false, not_false_eq_true, b2i_t, b2i_f, true_and, and_true, false_and, and_false, Bool.true_eq_false, Bool.false_eq_true, actsR, c_2, c_9]; rfl) | (simp [actsR, c_2, c_9]; done) | (simp [actsR, c_2, c_9]; rfl) | (simp [gA_pA, gI_pI, gB_pB, gL_pL, gA_pI, gA_pB, gA_pL, gI_pA, gI_pB, gI_pL, gB_pA, gB_pI, gB_pL, gL_pA, gL_pI, gL_pB, upd, vp_updL, actsR, c_2, c_9]; done)) (by first | rfl | (simp only [if_true, if_false, reduceIte, Bool.not_true, Bool.not_false, Bool.and_true, Bool.true_and, Bool.and_false, Bool.false_and, Bool.or_true, Bool.true_or, Bool.or_false, Bool.false_or, decide_true, decide_false, not_true_eq_false, not_false_eq_true, b2i_t, b2i_f, true_and, and_true, false_and, and_false, Bool.true_eq_false, Bool.false_eq_true, actsR, c_2, c_9]; done) | (simp only [if_true, if_false, reduceIte, Bool.not_true, Bool.not_false, Bool.and_true, Bool.true_and, Bool.and_false, Bool.false_and, Bool.or_true, Bool.true_or, Bool.or_false, Bool.false_or, decide_true, decide_false, not_true_eq_false, not_false_eq_true, b2i_t, b2i_f, true_and, and_true, false_and, and_false, Bool.true_eq_false, Bool.false_eq_true, actsR, c_2, c_9]; rfl) | (simp [actsR, c_2, c_9]; done) | (simp [actsR, c_2, c_9]; rfl) | (simp [gA_pA, gI_pI, gB_pB, gL_pL, gA_pI, gA_pB, gA_pL, gI_pA, gI_pB, gI_pL, gB_pA, gB_pI, gB_pL, gL_pA, gL_pI, gL_pB, upd, vp_updL, actsR, c_2, c_9]; done))
