/-! WHAT ONE KNOWS: the class adds up all stones at once, the reference one stone at a time -/
theorem ru {f g : Nat → Int32} {s d : Nat} {x y : Int32} (h : ∀ p, p < 16 → f (s * 16 + p) = g p) (e : x = y) : ∀ p, p < 16 → upd f (s * 16 + d) x (s * 16 + p) = upd g d y p := by
  intro p hp
  by_cases c : p = d
  · subst c; rw [upd_s, upd_s]; exact e
  · rw [upd_n c, upd_n (by omega)]; exact h p hp
theorem ro {f g : Nat → Int32} {s S d : Nat} {x : Int32} (h : ∀ p, p < 16 → f (s * 16 + p) = g p) (hS : S ≠ s) (hd : d < 16) : ∀ p, p < 16 → upd f (S * 16 + d) x (s * 16 + p) = g p := by
  intro p hp
  rw [upd_n (by omega)]; exact h p hp
def K5 (st : Nat → Nat) (s k : Nat) (a b : Int64) (x y : Nat → Int32) : Prop := (∀ j, j < k → st j = s → btL a j = !decide (x j = 0) ∧ btL b j = !decide (y j = 0)) ∧ ∀ j, k ≤ j → btL a j = false ∧ btL b j = false
theorem K5.a {st : Nat → Nat} {s k : Nat} {a b : Int64} {x y : Nat → Int32} (h : K5 st s (k + 1) a b x y) (hk : k < 60) : K5 st s (k + 1) (a ||| oneL k) b (upd x k 1) y := by
  refine ⟨fun j hj e => ⟨?_, (h.1 j hj e).2⟩, fun j hj => ⟨?_, (h.2 j hj).2⟩⟩
  · rw [btL_or, btL_one (by omega)]
    by_cases c : j = k
    · subst c; rw [upd_s, decide_eq_true (p := j = j) rfl, Bool.or_true]; rfl
    · rw [upd_n c, decide_eq_false c, Bool.or_false]; exact (h.1 j hj e).1
  · rw [btL_or, btL_one (by omega), (h.2 j hj).1, decide_eq_false (by omega)]; rfl
theorem K5.ao {st : Nat → Nat} {s k : Nat} {a b : Int64} {x y : Nat → Int32} (h : K5 st s (k + 1) a b x y) (hk : k < 60) (hs : st k ≠ s) : K5 st s (k + 1) (a ||| oneL k) b x y := by
  refine ⟨fun j hj e => ⟨?_, (h.1 j hj e).2⟩, fun j hj => ⟨?_, (h.2 j hj).2⟩⟩
  · rw [btL_or, btL_one (by omega), decide_eq_false (show ¬ j = k from fun q => hs (q ▸ e)), Bool.or_false]; exact (h.1 j hj e).1
  · rw [btL_or, btL_one (by omega), (h.2 j hj).1, decide_eq_false (by omega)]; rfl
theorem K5.b {st : Nat → Nat} {s k o : Nat} {a b : Int64} {x y : Nat → Int32} (h : K5 st s (k + 1) a b x y) (hk : k < 60) (ho : o < k) : K5 st s (k + 1) a (b ||| oneL o) x (upd y o 1) := by
  refine ⟨fun j hj e => ⟨(h.1 j hj e).1, ?_⟩, fun j hj => ⟨(h.2 j hj).1, ?_⟩⟩
  · rw [btL_or, btL_one (by omega)]
    by_cases c : j = o
    · subst c; rw [upd_s, decide_eq_true (p := j = j) rfl, Bool.or_true]; rfl
    · rw [upd_n c, decide_eq_false c, Bool.or_false]; exact (h.1 j hj e).2
  · rw [btL_or, btL_one (by omega), (h.2 j hj).2, decide_eq_false (by omega)]; rfl
theorem K5.bo {st : Nat → Nat} {s k o : Nat} {a b : Int64} {x y : Nat → Int32} (h : K5 st s (k + 1) a b x y) (hk : k < 60) (ho : o < k) (hs : st o ≠ s) : K5 st s (k + 1) a (b ||| oneL o) x y := by
  refine ⟨fun j hj e => ⟨(h.1 j hj e).1, ?_⟩, fun j hj => ⟨(h.2 j hj).1, ?_⟩⟩
  · rw [btL_or, btL_one (by omega), decide_eq_false (show ¬ j = o from fun q => hs (q ▸ e)), Bool.or_false]; exact (h.1 j hj e).2
  · rw [btL_or, btL_one (by omega), (h.2 j hj).2, decide_eq_false (by omega)]; rfl
def Kn (st : Nat → Nat) (s k : Nat) (τ υ : sS) (f : Bool) : Prop := (∀ p, p < 16 → gA τ 24 (s * 16 + p) = gA υ 18 p) ∧ (∀ p, p < 16 → gA τ 25 (s * 16 + p) = gA υ 19 p) ∧ gA τ 26 s = gI υ 5 + 5 * gI υ 6 ∧ bt (gI τ 7) s = f ∧ K5 st s k (gL τ 1) (gL τ 2) (gA υ 16) (gA υ 17)
theorem Kn_T {st : Nat → Nat} {s k : Nat} {τ υ : sS} {f : Bool} (h : Kn st s k τ υ f) : Kn st s (k + 1) τ (fkT k υ) f := by
  obtain ⟨h1, h2, h3, h4, h5, h6⟩ := h
  refine ⟨h1, h2, h3, h4, fun j hj e => ?_, fun j hj => h6 j (by omega)⟩
  show btL (gL τ 1) j = !decide (upd (gA υ 16) k (b2i false) j = 0) ∧ btL (gL τ 2) j = !decide (upd (gA υ 17) k (b2i false) j = 0)
  by_cases c : j = k
  · subst c
    rw [upd_s, upd_s]
    exact h6 j (Nat.le_refl _)
  · rw [upd_n c, upd_n c]
    exact h5 j (by omega) e
theorem bt_or_one {x : Int32} {a s : Nat} (ha : a < 8) (hs : s < 8) : bt (x ||| one a) s = (bt x s || decide (s = a)) := by rw [bt_or, bt_one (by omega)]
theorem five (a b : Int32) : a + 5 * (b + 1) = a + 5 * b + 5 := by
  rw [Int32.mul_add, show (5 : Int32) * 1 = 5 by decide, Int32.add_assoc]
theorem hard (a b c : Int32) : a + c + 5 * b = a + 5 * b + c := by
  rw [Int32.add_assoc, Int32.add_comm c, ← Int32.add_assoc]
/-- taking an act of another stone -/
theorem Kn_other {st : Nat → Nat} {s k : Nat} {τ υ : sS} {f : Bool} (h : Kn st s (k + 1) τ υ f) (hs : s < 8) (hk : k < 60) (hst : stC τ k = st k) (hns : st k ≠ s) (h8 : st k < 8) (hd : doC τ k < 16) (hko : kdC τ k < 7) (ho : ¬ kdC τ k = 4 → otC τ k < 16) (h4 : kdC τ k = 4 → otC τ k < k ∧ st (otC τ k) = st k) : Kn st s (k + 1) (takeC (pL τ 1 (gL τ 1 ||| oneL k)) k) υ f := by
  obtain ⟨h1, h2, h3, h4', h5⟩ := h
  have hA : K5 st s (k + 1) (gL τ 1 ||| oneL k) (gL τ 2) (gA υ 16) (gA υ 17) := h5.ao hk hns
  unfold takeC
  rw [show kdC (pL τ 1 (gL τ 1 ||| oneL k)) k = kdC τ k from rfl, show stC (pL τ 1 (gL τ 1 ||| oneL k)) k = st k from hst, show doC (pL τ 1 (gL τ 1 ||| oneL k)) k = doC τ k from rfl, show otC (pL τ 1 (gL τ 1 ||| oneL k)) k = otC τ k from rfl]
  split
  · refine ⟨ro h1 hns hd, h2, h3, ?_, hA⟩
    show bt (gI τ 7 ||| one (st k)) s = f
    rw [bt_or_one h8 hs, decide_eq_false (fun q => hns q.symm), Bool.or_false]
    exact h4'
  split
  · have := ho (by omega)
    exact ⟨ro (ro h1 hns hd) hns this, h2, h3, h4', hA⟩
  split
  · have := ho (by omega)
    refine ⟨ro (ro h1 hns hd) hns this, h2, ?_, h4', hA⟩
    show upd (gA τ 26) (st k) _ s = _
    rw [upd_n (fun q => hns q.symm)]
    exact h3
  split
  · exact ⟨h1, ro h2 hns hd, h3, h4', hA⟩
  split
  · rename_i c4
    obtain ⟨z1, z2⟩ := h4 c4
    exact ⟨h1, ro h2 hns hd, h3, h4', hA.bo hk z1 (by rw [z2]; exact hns)⟩
  split
  · refine ⟨h1, h2, ?_, h4', hA⟩
    show upd (gA τ 26) (st k) _ s = _
    rw [upd_n (fun q => hns q.symm)]
    exact h3
  · exact ⟨h1, h2, h3, h4', hA⟩
/-- an act of the stone itself -/
theorem Kn_same {st : Nat → Nat} {s k : Nat} {τ υ : sS} {f : Bool} (h : Kn st s (k + 1) τ υ f) (hs : s < 8) (hk : k < 60) (hst : stC τ k = s) (hso : st k = s) (hd : doC τ k < 16) (hko : kdC τ k < 7) (ho : ¬ kdC τ k = 4 → otC τ k < 16) (h4 : kdC τ k = 4 → otC τ k < k ∧ st (otC τ k) = s)
    (ek : kdR υ k = kdC τ k) (ed : doR υ k = doC τ k) (eo : otR υ k = otC τ k) (e12 : gA υ 12 = gA τ 20) :
    Kn st s (k + 1) (if agreesC τ k = true then takeC (pL τ 1 (gL τ 1 ||| oneL k)) k else τ) (holdQ υ k f).2 (holdQ υ k f).1 := by
  obtain ⟨h1, h2, h3, h4', h5⟩ := id h
  have hA : K5 st s (k + 1) (gL τ 1 ||| oneL k) (gL τ 2) (upd (gA υ 16) k (b2i true)) (gA υ 17) := h5.a hk
  unfold agreesC takeC holdQ
  rw [ek, ed, eo, e12, show kdC (pL τ 1 (gL τ 1 ||| oneL k)) k = kdC τ k from rfl, show stC (pL τ 1 (gL τ 1 ||| oneL k)) k = s from hst, show doC (pL τ 1 (gL τ 1 ||| oneL k)) k = doC τ k from rfl, show otC (pL τ 1 (gL τ 1 ||| oneL k)) k = otC τ k from rfl, hst]
  have hfree : gA τ 24 (s * 16 + doC τ k) - gA τ 25 (s * 16 + doC τ k) = gA υ 18 (doC τ k) - gA υ 19 (doC τ k) := by rw [h1 _ hd, h2 _ hd]
  rw [hfree]
  by_cases k0 : kdC τ k = 0
  · rw [if_pos k0, if_pos k0, if_pos k0]
    rw [show (!decide (¬ (gI τ 7 &&& one s) = 0)) = !f by
      rw [decide_not, dec_and_one (show s < 32 by omega), h4']]
    cases f with
    | true =>
      rw [if_neg (show ¬ (!true) = true by decide), if_pos (show true = true from rfl)]
      exact ⟨h1, h2, h3, h4', h5⟩
    | false =>
      rw [if_pos (show (!false) = true from rfl), if_neg (show ¬ false = true by decide)]
      refine ⟨ru h1 rfl, h2, h3, ?_, hA⟩
      show bt (gI τ 7 ||| one s) s = true
      rw [bt_or_one hs hs, decide_eq_true (p := s = s) rfl, Bool.or_true]
  rw [if_neg k0, if_neg k0, if_neg k0]
  by_cases k12 : kdC τ k = 1 ∨ kdC τ k = 2
  · rw [if_pos (show kdC τ k = 1 ∨ kdC τ k = 2 ∨ kdC τ k = 3 from k12.elim Or.inl (fun q => Or.inr (Or.inl q))), if_pos k12]
    have hot := ho (by omega)
    by_cases c : gA υ 18 (doC τ k) - gA υ 19 (doC τ k) < gA τ 20 k
    · rw [decide_eq_true c, if_pos c, if_neg (by decide)]
      exact h
    · rw [decide_eq_false c, if_neg c, if_pos (show (!false) = true from rfl)]
      have m1 := ru (d := doC τ k) h1 (show gA τ 24 (s * 16 + doC τ k) - gA τ 20 k = gA υ 18 (doC τ k) - gA τ 20 k by rw [h1 _ hd])
      have m2 := ru (d := otC τ k) m1 (show upd (gA τ 24) (s * 16 + doC τ k) (gA τ 24 (s * 16 + doC τ k) - gA τ 20 k) (s * 16 + otC τ k) + gA τ 20 k = upd (gA υ 18) (doC τ k) (gA υ 18 (doC τ k) - gA τ 20 k) (otC τ k) + gA τ 20 k by rw [m1 _ hot])
      by_cases k1 : kdC τ k = 1
      · rw [if_pos k1, if_neg (show ¬ kdC τ k = 2 by omega)]
        refine ⟨m2, h2, ?_, h4', hA⟩
        show gA τ 26 s = gI υ 5 + 5 * (gI υ 6 + 0)
        rw [Int32.add_zero]; exact h3
      · have k2 : kdC τ k = 2 := by omega
        rw [if_neg k1, if_pos k2, if_pos k2]
        refine ⟨m2, h2, ?_, h4', hA⟩
        show upd (gA τ 26) s (gA τ 26 s + 5) s = gI υ 5 + 5 * (gI υ 6 + 1)
        rw [upd_s, five, h3]
  rw [if_neg k12]
  by_cases k3 : kdC τ k = 3
  · rw [if_pos (show kdC τ k = 1 ∨ kdC τ k = 2 ∨ kdC τ k = 3 from Or.inr (Or.inr k3))]
    simp only [if_pos k3, if_neg (show ¬ kdC τ k = 1 by omega), if_neg (show ¬ kdC τ k = 2 by omega)]
    by_cases c : gA υ 18 (doC τ k) - gA υ 19 (doC τ k) < gA τ 20 k
    · rw [decide_eq_true c, if_pos c, if_neg (show ¬ (!true) = true by decide)]
      exact h
    · rw [decide_eq_false c, if_neg c, if_pos (show (!false) = true from rfl)]
      exact ⟨h1, ru h2 (show gA τ 25 (s * 16 + doC τ k) + gA τ 20 k = gA υ 19 (doC τ k) + gA τ 20 k by rw [h2 _ hd]), h3, h4', hA⟩
  simp only [if_neg (show ¬ (kdC τ k = 1 ∨ kdC τ k = 2 ∨ kdC τ k = 3) by omega), if_neg (show ¬ kdC τ k = 1 by omega), if_neg (show ¬ kdC τ k = 2 by omega), if_neg k3]
  by_cases k4 : kdC τ k = 4
  · obtain ⟨z1, z2⟩ := h4 k4
    obtain ⟨b1, b2⟩ := h5.1 (otC τ k) (by omega) z2
    simp only [if_pos k4]
    rw [btL_and, btL_not _ _ (by omega), b1, b2]
    by_cases c1 : gA υ 16 (otC τ k) = 0
    · rw [if_pos c1, decide_eq_true c1, if_neg (by simp)]
      exact h
    · rw [if_neg c1, decide_eq_false c1]
      by_cases c2 : gA υ 17 (otC τ k) = 0
      · rw [if_pos c2, decide_eq_true c2, if_pos (show (!false && !!true) = true from rfl)]
        exact ⟨h1, ru h2 (show gA τ 25 (s * 16 + doC τ k) - gA τ 20 (otC τ k) = gA υ 19 (doC τ k) - gA τ 20 (otC τ k) by rw [h2 _ hd]), h3, h4', hA.b hk z1⟩
      · rw [if_neg c2, decide_eq_false c2, if_neg (show ¬ (!false && !!false) = true by decide)]
        exact h
  simp only [if_neg k4]
  by_cases k5 : kdC τ k = 5
  · simp only [if_pos k5]
    rw [if_pos trivial]
    refine ⟨h1, h2, ?_, h4', hA⟩
    show upd (gA τ 26) s (gA τ 26 s + gA τ 20 k) s = gI υ 5 + gA τ 20 k + 5 * gI υ 6
    rw [upd_s, hard, h3]
  · simp only [if_neg k5]
    rw [if_neg (show ¬ false = true by decide)]
    exact h
section PP
variable {σ ρ : sS} {n ns na : Nat}
theorem forget_v (σ : sS) (j : Nat) : ∀ i, (j < i → gA (itr forget1 i σ) 24 j = 0 ∧ gA (itr forget1 i σ) 25 j = 0)
  | 0 => fun h => absurd h (Nat.not_lt_zero j)
  | i + 1 => fun h => by
    rw [itr_s]
    show upd (gA (itr forget1 i σ) 24) i 0 j = 0 ∧ upd (gA (itr forget1 i σ) 25) i 0 j = 0
    by_cases c : j = i
    · subst c; rw [upd_s, upd_s]; exact ⟨rfl, rfl⟩
    · rw [upd_n c, upd_n c]; exact forget_v σ j i (by omega)
theorem forget2_v (σ : sS) (j : Nat) : ∀ i, (j < i → gA (itr forget2 i σ) 26 j = 0)
  | 0 => fun h => absurd h (Nat.not_lt_zero j)
  | i + 1 => fun h => by
    rw [itr_s]
    show upd (gA (itr forget2 i σ) 26) i 0 j = 0
    by_cases c : j = i
    · subst c; rw [upd_s]
    · rw [upd_n c]; exact forget2_v σ j i (by omega)
theorem forget2_A (σ : sS) {k : Nat} (hk : k ≠ 26) : ∀ i, gA (itr forget2 i σ) k = gA σ k
  | 0 => rfl
  | i + 1 => by
    rw [itr_s, ← forget2_A σ hk i]
    unfold forget2
    rw [gA_pA, if_neg hk]
theorem fk1_v (σ : sS) (j : Nat) : ∀ i, (j < i → gA (itr fk1 i σ) 18 j = 0 ∧ gA (itr fk1 i σ) 19 j = 0)
  | 0 => fun h => absurd h (Nat.not_lt_zero j)
  | i + 1 => fun h => by
    rw [itr_s]
    show upd (gA (itr fk1 i σ) 18) i 0 j = 0 ∧ upd (gA (itr fk1 i σ) 19) i 0 j = 0
    by_cases c : j = i
    · subst c; rw [upd_s, upd_s]; exact ⟨rfl, rfl⟩
    · rw [upd_n c, upd_n c]; exact fk1_v σ j i (by omega)
theorem forget_a (σ : sS) (k : Nat) : gA (forgetC σ) k = gA (itr forget2 8 (itr forget1 128 σ)) k := by
  unfold forgetC
  rw [gA_pI, gA_pL, gA_pL]
theorem fk0_a (ρ : sS) (k : Nat) : gA (fk0 ρ) k = gA (itr fk1 16 ρ) k := by
  unfold fk0
  rw [gA_pI, gA_pI]
theorem Kn_0 (σ ρ : sS) (st : Nat → Nat) {s : Nat} (hs : s < 8) : Kn st s 0 (forgetC σ) (fk0 ρ) false := by
  refine ⟨fun p hp => ?_, fun p hp => ?_, ?_, ?_, fun j hj => absurd hj (Nat.not_lt_zero j), fun j _ => ?_⟩
  · rw [forget_a, fk0_a, forget2_A _ (by decide), (forget_v σ _ 128 (by omega)).1, (fk1_v ρ p 16 hp).1]
  · rw [forget_a, fk0_a, forget2_A _ (by decide), (forget_v σ _ 128 (by omega)).2, (fk1_v ρ p 16 hp).2]
  · rw [forget_a, forget2_v _ _ 8 hs]
    unfold fk0
    rw [gI_pI, gI_pI, gI_pI, if_neg (by decide), if_pos rfl, if_pos rfl]
    decide
  · unfold forgetC
    rw [gI_pI, if_pos rfl]
    exact bt_0 s
  · unfold forgetC
    rw [gL_pI, gL_pL, gL_pL, gL_pI, gL_pL, if_neg (by decide), if_pos rfl, if_pos rfl]
    exact ⟨btL_0 j, btL_0 j⟩
/-- who knows what: the agreed, or a person's own -/
theorem knownAll_eq (ρ υ : sS) (e : eqR ρ υ) (n k : Nat) : knownAll υ n k = knownAll ρ n k := by
  unfold knownAll oldManyR
  have eo : oldR υ = oldR ρ := by
    funext p
    unfold oldR
    rw [e.1 1 (by decide), e.1 2 (by decide)]
  have ek : knR υ = knR ρ := by
    funext p j
    unfold knR
    rw [e.1 4 (by decide)]
  rw [eo, ek, e.1 15 (by decide)]
theorem isKnown_eq (ρ υ : sS) (e : eqR ρ υ) (n : Nat) (w : Int32) (k : Nat) : isKnownR υ n w k = isKnownR ρ n w k := by
  unfold isKnownR
  rw [knownAll_eq ρ υ e]
  unfold knR
  rw [e.1 4 (by decide)]
/-- the acts so far: class and reference hold the same of the stone s -/
theorem know_it (h : RelN σ ρ n ns na) {s : Nat} (hs : s < 8) {W : Int64} {w : Int32} (hW : ∀ k, k < na → btL W k = isKnownR ρ n w k) : ∀ k, k ≤ na → Kn (stC σ) s k (itr (addStep W) k (forgetC σ)) (itr (fkStep n w s) k (false, fk0 ρ)).2 (itr (fkStep n w s) k (false, fk0 ρ)).1
  | 0, _ => Kn_0 σ ρ _ hs
  | k + 1, hk => by
    have ih := know_it h hs hW k (by omega)
    have h60 := h.a60
    have eτ := eqK_it σ W k
    have eυ := eqR_fkI ρ n w s k
    rw [itr_s, itr_s]
    generalize itr (addStep W) k (forgetC σ) = τ at ih eτ ⊢
    generalize itr (fkStep n w s) k (false, fk0 ρ) = q at ih eυ ⊢
    obtain ⟨f, υ⟩ := q
    have okc := h.okc
    have a16 : gA τ 16 = gA σ 16 := eτ.1 16 (by decide) (by decide) (by decide)
    have a17 : gA τ 17 = gA σ 17 := eτ.1 17 (by decide) (by decide) (by decide)
    have a18 : gA τ 18 = gA σ 18 := eτ.1 18 (by decide) (by decide) (by decide)
    have a19 : gA τ 19 = gA σ 19 := eτ.1 19 (by decide) (by decide) (by decide)
    have a20 : gA τ 20 = gA σ 20 := eτ.1 20 (by decide) (by decide) (by decide)
    have ek : kdC τ k = kdC σ k := by unfold kdC; rw [a16]
    have es : stC τ k = stC σ k := by unfold stC; rw [a17]
    have ed : doC τ k = doC σ k := by unfold doC; rw [a18]
    have eo : otC τ k = otC σ k := by unfold otC; rw [a19]
    have hkd := (okc.1 k (by omega)).2
    have hst := (okc.2.1 k (by omega)).2
    have hdo := (okc.2.2.1 k (by omega)).2
    have hot := (okc.2.2.2 k (by omega)).2
    have h4 := (h.r6 k (by omega)).2.1
    have hT := Kn_T (k := k) ih
    have eυ' : eqR ρ (fkT k υ) := eυ.trans (eqR_fkT k υ)
    have rk : kdR (fkT k υ) k = kdC σ k := by rw [h.kd]; unfold kdR; rw [eυ'.1 8 (by decide)]
    have rs : stR υ k = stC σ k := by rw [h.st]; unfold stR; rw [eυ.1 9 (by decide)]
    have rd : doR (fkT k υ) k = doC σ k := by rw [h.dd]; unfold doR; rw [eυ'.1 10 (by decide)]
    have ro' : otR (fkT k υ) k = otC σ k := by rw [h.ot]; unfold otR; rw [eυ'.1 11 (by decide)]
    have r12 : gA (fkT k υ) 12 = gA τ 20 := by rw [a20, h.r1.2.2.2.2.2.2.2.2.2.1]; exact eυ'.1 12 (by decide)
    unfold addStep fkStep
    rw [hW k (by omega), rs, isKnown_eq ρ (fkT k υ) eυ' n w k]
    by_cases cs : stC σ k = s
    · rw [if_pos cs]
      by_cases ck : isKnownR ρ n w k = true
      · rw [if_pos ck, show (if isKnownR ρ n w k = true ∧ agreesC τ k = true then takeC (pL τ 1 (gL τ 1 ||| oneL k)) k else τ) = if agreesC τ k = true then takeC (pL τ 1 (gL τ 1 ||| oneL k)) k else τ by
          by_cases z : agreesC τ k = true
          · rw [if_pos ⟨ck, z⟩, if_pos z]
          · rw [if_neg (fun q => z q.2), if_neg z]]
        exact Kn_same hT hs (by omega) (es.trans cs) cs (by rw [ed]; exact hdo) (by rw [ek]; exact hkd) (by rw [ek, eo]; exact hot.2) (fun z => by
          rw [ek] at z
          rw [eo]
          exact ⟨(h4 z).1, (h4 z).2.2.1.trans cs⟩) (rk.trans ek.symm) (rd.trans ed.symm) (ro'.trans eo.symm) r12
      · rw [if_neg ck, if_neg (fun q => ck q.1)]
        exact hT
    · rw [if_neg cs]
      by_cases ck : isKnownR ρ n w k = true ∧ agreesC τ k = true
      · rw [if_pos ck]
        exact Kn_other hT hs (by omega) es cs hst (by rw [ed]; exact hdo) (by rw [ek]; exact hkd) (by rw [ek, eo]; exact hot.2) (fun z => by
          rw [ek] at z
          rw [eo]
          exact ⟨(h4 z).1, (h4 z).2.2.1⟩)
      · rw [if_neg ck]
        exact hT
theorem know_eq (h : RelN σ ρ n ns na) {s : Nat} (hs : s < 8) {W : Int64} {w : Int32} (hW : ∀ k, k < na → btL W k = isKnownR ρ n w k) : Kn (stC σ) s na (addUpC σ na W) (fkS ρ n na w s) (fkC ρ n na w s).1 := know_it h hs hW na (Nat.le_refl _)
end PP
