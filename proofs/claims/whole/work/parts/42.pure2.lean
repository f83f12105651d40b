/-! THE RELATION KEPT: years, about, kept, hearing, tell, sheets -/
theorem upd_self (f : Nat → Int32) (i : Nat) : upd f i (f i) = f := by
  funext j
  by_cases c : j = i
  · subst c; exact upd_s
  · exact upd_n c
theorem pA_self (σ : sS) (k : Nat) : pA σ k (gA σ k) = σ := by
  unfold pA gA
  have : va_up σ.1 k (σ.1 k) = σ.1 := by
    funext j
    unfold va_up
    by_cases c : j = k
    · rw [if_pos c, c]
    · rw [if_neg c]
  rw [this]
theorem allN_t {f : Nat → Bool} : ∀ {n : Nat}, allN f n = true ↔ ∀ i, i < n → f i = true
  | 0 => ⟨fun _ i hi => absurd hi (Nat.not_lt_zero i), fun _ => rfl⟩
  | n + 1 => by
    show (allN f n && f n) = true ↔ _
    rw [Bool.and_eq_true, allN_t]
    refine ⟨fun h i hi => ?_, fun h => ⟨fun i hi => h i (by omega), h n (by omega)⟩⟩
    by_cases c : i = n
    · rw [c]; exact h.2
    · exact h.1 i (by omega)
theorem itr_and (f : Nat → Bool) (b : Bool) : ∀ n, itr (fun k a => a && f k) n b = (b && allN f n)
  | 0 => by rw [itr_0]; exact (Bool.and_true b).symm
  | n + 1 => by
    rw [itr_s]
    show (itr (fun k a => a && f k) n b && f n) = (b && (allN f n && f n))
    rw [itr_and f b n, Bool.and_assoc]
theorem bool_ext {a b : Bool} (h : a = true ↔ b = true) : a = b := by
  cases a <;> cases b <;> simp_all
section PP
variable {σ ρ : sS} {n ns na : Nat}
theorem grow_rel (h : RelN σ ρ n ns na) {i a X t : Nat} (hi : i < n) (hX : 1 ≤ X) (hX2 : X ≤ 50) (ht : gI σ 0 = nI t) (ht2 : t ≤ 1000) (ha : gA ρ 1 i = nI a) (hb : a + X ≤ 60 + t) : RelN (growC (nI X) i σ) (yrStep (nI X) i ρ) n ns na := by
  have h16 := h.n16
  unfold growC yrStep
  rw [h.alv (by omega)]
  by_cases c : gA ρ 2 i = 0
  · rw [if_pos c, if_neg (by unfold lvR; rw [decide_eq_true c]; decide), show gA ρ 1 i + 0 = gA ρ 1 i from Int32.add_zero _, upd_self, pA_self]
    exact h
  · have hl : lvR ρ i = true := by unfold lvR; rw [decide_eq_false c]; rfl
    rw [if_neg c, if_pos hl]
    obtain ⟨a1, a2⟩ := h.r1
    obtain ⟨b1, b2, t', b3, b4, b5⟩ := h.r2
    have tt : t' = t := (nI_eq (by omega) (by omega)).mp (b3.symm.trans ht)
    subst tt
    have ev : gA σ 9 i + nI X = nI (a + X) := by rw [a1, ha, nI_add]
    have hr1 : R1 (pA σ 9 (upd (gA σ 9) i (gA σ 9 i + nI X))) (pA ρ 1 (upd (gA ρ 1) i (gA ρ 1 i + nI X))) := ⟨by show upd (gA σ 9) i (gA σ 9 i + nI X) = upd (gA ρ 1) i (gA ρ 1 i + nI X); rw [a1], a2⟩
    have hr2 : R2 (pA σ 9 (upd (gA σ 9) i (gA σ 9 i + nI X))) (pA ρ 1 (upd (gA ρ 1) i (gA ρ 1 i + nI X))) := ⟨b1, b2, t', b3, b4, fun p => by
      show ∃ a, upd (gA ρ 1) i (gA ρ 1 i + nI X) p = nI a ∧ a ≤ 60 + t'
      by_cases q : p = i
      · subst q; rw [upd_s, ha, nI_add]; exact ⟨_, rfl, hb⟩
      · rw [upd_n q]; exact b5 p⟩
    have ho : ∀ p, oldR (pA ρ 1 (upd (gA ρ 1) i (gA ρ 1 i + nI X))) p = if p = i then !decide (nI (a + X) < 40) else oldR ρ p := by
      intro p
      show (lvR ρ p && !decide (upd (gA ρ 1) i (gA ρ 1 i + nI X) p < 40)) = _
      by_cases q : p = i
      · subst q; rw [upd_s, if_pos rfl, hl, ha, nI_add]; rfl
      · rw [upd_n q, if_neg q]; rfl
    dsimp only
    have e40 : gA (pA σ 9 (upd (gA σ 9) i (gA σ 9 i + nI X))) 9 i = nI (a + X) := by
      show upd (gA σ 9) i (gA σ 9 i + nI X) i = _
      rw [upd_s, ev]
    rw [e40]
    by_cases q : nI (a + X) < 40
    · rw [if_pos q]
      refine ⟨IC_of h.ic rfl rfl rfl rfl rfl rfl rfl rfl rfl, IR_of h.ir rfl rfl rfl rfl rfl rfl rfl rfl rfl, hr1, hr2, ⟨h.r3.1, fun p hp => ?_, h.r3.2.2⟩, h.r4.same rfl rfl rfl rfl, h.r5.up rfl rfl rfl rfl, h.r6.up rfl rfl rfl rfl (Nat.le_refl _), h.r7, h.r8.up rfl rfl rfl⟩
      show bt (gI σ 4) p = _
      rw [ho, h.r3.2.1 p hp]
      by_cases z : p = i
      · subst z
        rw [if_pos rfl, decide_eq_true q]
        have : a + X < 40 := (nI_ltI (b := 40) (by omega) (by decide)).mp q
        unfold oldR
        rw [ha, decide_eq_true (show nI a < 40 from (nI_ltI (b := 40) (by omega) (by decide)).mpr (by omega)), Bool.and_comm]
        rfl
      · rw [if_neg z]
    · rw [if_neg q]
      refine ⟨IC_of h.ic rfl rfl rfl rfl rfl rfl rfl rfl rfl, IR_of h.ir rfl rfl rfl rfl rfl rfl rfl rfl rfl, hr1, hr2, ⟨h.r3.1, fun p hp => ?_, h.r3.2.2⟩, h.r4.same rfl rfl rfl rfl, h.r5.up rfl rfl rfl rfl, h.r6.up rfl rfl rfl rfl (Nat.le_refl _), h.r7, h.r8.up rfl rfl rfl⟩
      show bt (gI σ 4 ||| one i) p = _
      rw [ho, bt_or, bt_one (by omega), h.r3.2.1 p hp]
      by_cases z : p = i
      · subst z; rw [if_pos rfl, decide_eq_false q, decide_eq_true (p := p = p) rfl, Bool.or_true]; rfl
      · rw [if_neg z, decide_eq_false z, Bool.or_false]
theorem growC_0 (x : Int32) (i : Nat) (σ : sS) : gI (growC x i σ) 0 = gI σ 0 := by
  unfold growC
  dsimp only
  split
  · split <;> rfl
  · rfl
theorem yr_1 (x : Int32) (i j : Nat) (ρ : sS) (h : j ≠ i) : gA (yrStep x i ρ) 1 j = gA ρ 1 j := by
  unfold yrStep
  split
  · exact upd_n h
  · exact upd_n h
theorem grow_it (h : RelN σ ρ n ns na) {X t : Nat} (hX : 1 ≤ X) (hX2 : X ≤ 50) (ht : gI σ 0 = nI t) (ht2 : t ≤ 1000) (ha : ∀ p, ∃ a, gA ρ 1 p = nI a ∧ a + X ≤ 60 + t) : ∀ i, i ≤ n → RelN (itr (growC (nI X)) i σ) (itr (yrStep (nI X)) i ρ) n ns na ∧ gI (itr (growC (nI X)) i σ) 0 = nI t ∧ ∀ p, i ≤ p → gA (itr (yrStep (nI X)) i ρ) 1 p = gA ρ 1 p
  | 0, _ => ⟨h, ht, fun _ _ => rfl⟩
  | i + 1, hi => by
    obtain ⟨k1, k2, k3⟩ := grow_it h hX hX2 ht ht2 ha i (by omega)
    rw [itr_s, itr_s]
    obtain ⟨a, e1, e2⟩ := ha i
    refine ⟨grow_rel k1 (by omega) hX hX2 k2 ht2 ((k3 i (Nat.le_refl _)).trans e1) e2, (growC_0 _ _ _).trans k2, fun p hp => ?_⟩
    rw [yr_1 _ _ _ _ (by omega)]
    exact k3 p (by omega)
theorem nlt0 {x : Int32} (c : ¬ x < 1) : ¬ x < 0 := fun q => c (by
  rw [Int32.lt_iff_toInt_lt] at q ⊢
  have z0 : (0 : Int32).toInt = 0 := by decide
  have z1 : (1 : Int32).toInt = 1 := by decide
  rw [z0] at q
  rw [z1]
  omega)
theorem years_rel (h : RelN σ ρ n ns na) (x : Int32) : SR (yearsR σ n x) (yearsQ ρ n x) := by
  unfold yearsR yearsQ
  by_cases c1 : x < 1
  · rw [if_pos c1, if_neg (fun q => (inB_t.mp q).1 c1)]; exact h.same _
  rw [if_neg c1]
  by_cases c2 : x ≤ 50
  · rw [if_pos c2, if_pos (show inB x 1 50 = true from inB_t.mpr ⟨c1, nlt.mpr c2⟩), ← h.r2.1]
    by_cases c3 : gI σ 0 + x ≤ 1000
    · rw [if_pos c3, if_pos c3]
      obtain ⟨X, hX, rfl⟩ := nI_of2 (x := x) (M := 50) (n := 50) (by decide) (nlt0 c1) c2
      have hX1 : 1 ≤ X := by
        rcases Nat.lt_or_ge X 1 with q | q
        · exact absurd ((nI_ltI (b := 1) (by omega) (by decide)).mpr q) c1
        · exact q
      obtain ⟨b1, b2, t, b3, b4, b5⟩ := h.r2
      rw [b3, nI_add] at c3 ⊢
      have ht : t + X ≤ 1000 := (nI_leI (b := 1000) (by omega) (by decide)).mp c3
      have h2 : RelN (pI σ 0 (nI (t + X))) (pI ρ 1 (nI (t + X))) n ns na :=
        ⟨IC_of h.ic rfl rfl rfl rfl rfl rfl rfl rfl rfl, IR_of h.ir rfl rfl rfl rfl rfl rfl rfl rfl rfl, h.r1, ⟨rfl, b2, t + X, rfl, ht, fun p => by
          obtain ⟨a, e1, e2⟩ := b5 p
          exact ⟨a, e1, by omega⟩⟩, h.r3.up rfl rfl rfl rfl, h.r4.same rfl rfl rfl rfl, h.r5.up rfl rfl rfl rfl, h.r6.up rfl rfl rfl rfl (Nat.le_refl _), h.r7, h.r8.up rfl rfl rfl⟩
      obtain ⟨k1, k2, -⟩ := grow_it h2 hX1 hX (t := t + X) rfl ht (fun p => by
        obtain ⟨a, e1, e2⟩ := b5 p
        exact ⟨a, e1, by omega⟩) n (Nat.le_refl _)
      exact ⟨k1.r2.1, n, ns, na, k1⟩
    · rw [if_neg c3, if_neg c3]; exact h.same _
  · rw [if_neg c2, if_neg (fun q => c2 (nlt.mp (inB_t.mp q).2))]; exact h.same _
/-- who knows -/
theorem RelN.knl (h : RelN σ ρ n ns na) {p k : Nat} (hp : p < 16) (hk : k < 60) : (lvR ρ p && knR ρ p k) = knR ρ p k := by
  cases e : knR ρ p k
  · rw [Bool.and_false]
  · rw [(h.r4.2.2.2 p k hp hk e).1]; rfl
theorem subL_t {x y : Int64} : subL x y = true ↔ ∀ i, i < 64 → btL x i = true → btL y i = true := by
  unfold subL
  rw [decide_eq_true_iff, sub_64]
theorem subL_one {y : Int64} {k : Nat} (hk : k < 64) : subL (oneL k) y = btL y k := by
  refine bool_ext (subL_t.trans ⟨fun h => h k hk (by rw [btL_one hk]; exact decide_eq_true rfl), fun h i hi e => ?_⟩)
  rw [btL_one hk] at e
  rw [of_decide_eq_true e]; exact h
theorem RelN.knowers1 (h : RelN σ ρ n ns na) {k : Nat} (hk : k < 60) : knowersC σ n (oneL k) = knownByR ρ n k := by
  unfold knowersC knownByR
  have := h.n16
  refine cnt_congr (fun p hp => ?_)
  rw [h.alv (by omega), subL_one (by omega), h.kn (by omega) hk, h.knl (by omega) hk]
theorem about_rel (h : RelN σ ρ n ns na) (k what : Int32) : aboutV σ n k what = aboutW ρ n k what := by
  unfold aboutV aboutW
  rw [h.inA]
  by_cases c : isIn k (gI ρ 3) = true
  · rw [if_pos c, if_pos c]
    obtain ⟨j, hj, rfl⟩ := h.aI c
    have h60 := h.a60
    obtain ⟨-, -, -, -, -, a6, a7, a8, a9, a10, a11, a12, -⟩ := h.r1
    rw [ix_nI (by omega), a6, a7, a8, a9, a10, a11, a12, h.knowers1 (by omega), h.r5.1 j, decide_eq_true (show j < 60 by omega), Bool.true_and]
  · rw [if_neg c, if_neg c]
/-- one hears of an act -/
def hvR (ρ : sS) (t k : Nat) (v : Int32) : sS := if gA ρ 4 (60 * t + k) = 0 then pA ρ 4 (upd (gA ρ 4) (60 * t + k) v) else if gA ρ 4 (60 * t + k) ≤ v then ρ else pA ρ 4 (upd (gA ρ 4) (60 * t + k) v)
theorem byte_small : ∀ d, d < 128 → (nI d).toInt8.toInt32 = nI d := by decide +kernel
theorem knR_pos {ρ : sS} {p k d : Nat} (hd : d < 1000) (e : gA ρ 4 (60 * p + k) = nI (d + 1)) : knR ρ p k = true := by
  unfold knR
  rw [e, decide_eq_false (nI_nle (by omega) (by omega))]; rfl
theorem RelN.kn0 (h : RelN σ ρ n ns na) {p k : Nat} (hp : p < 16) (hk : k < 60) : gA ρ 4 (60 * p + k) = 0 ↔ knR ρ p k = false := by
  constructor
  · intro e
    unfold knR
    rw [e]; rfl
  · exact h.r4.2.2.1 p k hp hk
theorem RelN.d16 (h : RelN σ ρ n ns na) {p k : Nat} (hp : p < 16) (hk : k < 60) (c : knR ρ p k = true) : ∃ d, gA ρ 4 (60 * p + k) = nI (d + 1) ∧ gA σ 12 (p * 60 + k) = nI d ∧ d < 16 ∧ d + 1 ≤ cnt (fun q => knR ρ q k || !lvR ρ q) n := by
  obtain ⟨d, h1, h2, h3⟩ := h.r4.2.1 p k hp hk c
  have := cnt_le (fun q => knR ρ q k || !lvR ρ q) n
  have := h.n16
  exact ⟨d, h1, h2, by omega, h3⟩
theorem set_rel (h : RelN σ ρ n ns na) {t k D : Nat} (ht : t < n) (hk : k < na) (hl : lvR ρ t = true) (hD : D < 17) (hc : if knR ρ t k = true then D + 1 ≤ cnt (fun q => knR ρ q k || !lvR ρ q) n else D ≤ cnt (fun q => knR ρ q k || !lvR ρ q) n) :
    RelN (pA (pB σ 11 (vp_updL (gB σ 11) t (gB σ 11 t ||| oneL k))) 12 (upd (gA σ 12) (t * 60 + k) (nI D))) (pA ρ 4 (upd (gA ρ 4) (60 * t + k) (nI (D + 1)))) n ns na := by
  have h16 := h.n16
  have h60 := h.a60
  have hkn : ∀ p j, j < 60 → knR (pA ρ 4 (upd (gA ρ 4) (60 * t + k) (nI (D + 1)))) p j = if p = t ∧ j = k then true else knR ρ p j := by
    intro p j hj
    show (!decide (upd (gA ρ 4) (60 * t + k) (nI (D + 1)) (60 * p + j) ≤ 0)) = _
    by_cases c : p = t ∧ j = k
    · rw [if_pos c, c.1, c.2, upd_s, decide_eq_false (nI_nle (by omega) (by omega))]; rfl
    · rw [if_neg c, upd_n (by omega)]; rfl
  have hcnt : ∀ j, j < 60 → cnt (fun q => knR ρ q j || !lvR ρ q) n ≤ cnt (fun q => knR (pA ρ 4 (upd (gA ρ 4) (60 * t + k) (nI (D + 1)))) q j || !lvR ρ q) n := fun j hj =>
    cnt_mono (fun i _ e => by
      rw [hkn i j hj]
      by_cases c : i = t ∧ j = k
      · rw [if_pos c]; rfl
      · rw [if_neg c]; exact e)
  have hcD : D + 1 ≤ cnt (fun q => knR (pA ρ 4 (upd (gA ρ 4) (60 * t + k) (nI (D + 1)))) q k || !lvR ρ q) n := by
    cases e : knR ρ t k with
    | true => rw [e, if_pos rfl] at hc; exact Nat.le_trans hc (hcnt k (by omega))
    | false =>
      rw [e, if_neg (by decide)] at hc
      have := cnt_lt (f := fun q => knR ρ q k || !lvR ρ q) (g := fun q => knR (pA ρ 4 (upd (gA ρ 4) (60 * t + k) (nI (D + 1)))) q k || !lvR ρ q) (n := n) (j := t) (fun i _ z => by
        rw [hkn i k (by omega)]
        by_cases c : i = t ∧ k = k
        · rw [if_pos c]; rfl
        · rw [if_neg c]; exact z) ht (by rw [e, hl]; rfl) (by rw [hkn t k (by omega), if_pos ⟨rfl, rfl⟩]; rfl)
      omega
  refine ⟨IC_of h.ic rfl rfl rfl rfl rfl rfl rfl rfl rfl, IR_of h.ir rfl rfl rfl rfl rfl rfl rfl rfl rfl, h.r1, h.r2, h.r3.up rfl rfl rfl rfl, ⟨?_, ?_, ?_, ?_⟩, h.r5.up rfl rfl rfl rfl, h.r6.up rfl rfl rfl rfl (Nat.le_refl _), h.r7, h.r8.up rfl rfl rfl⟩
  · intro p j hp
    show btL (vp_updL (gB σ 11) t (gB σ 11 t ||| oneL k) p) j = _
    by_cases j60 : j < 60
    · rw [hkn p j j60, decide_eq_true j60, Bool.true_and]
      by_cases c : p = t
      · subst c
        rw [pk_uLs, btL_or, btL_one (by omega), h.kn hp j60]
        by_cases z : j = k
        · rw [if_pos ⟨rfl, z⟩, decide_eq_true z, Bool.or_true]
        · rw [if_neg (fun q => z q.2), decide_eq_false z, Bool.or_false]
      · rw [pk_uLn c, if_neg (fun q => c q.1), h.kn hp j60]
    · rw [decide_eq_false j60, Bool.false_and]
      by_cases c : p = t
      · subst c
        rw [pk_uLs, btL_or, btL_one (by omega), decide_eq_false (show ¬ j = k by omega), Bool.or_false, h.r4.1 p j hp, decide_eq_false j60]; rfl
      · rw [pk_uLn c, h.r4.1 p j hp, decide_eq_false j60]; rfl
  · intro p j hp hj e
    rw [hkn p j hj] at e
    show ∃ d, upd (gA ρ 4) (60 * t + k) (nI (D + 1)) (60 * p + j) = nI (d + 1) ∧ upd (gA σ 12) (t * 60 + k) (nI D) (p * 60 + j) = nI d ∧ _
    by_cases c : p = t ∧ j = k
    · obtain ⟨rfl, rfl⟩ := c
      rw [upd_s, upd_s]
      exact ⟨D, rfl, rfl, hcD⟩
    · rw [if_neg c] at e
      obtain ⟨d, e1, e2, e3⟩ := h.r4.2.1 p j hp hj e
      rw [upd_n (by omega), upd_n (by omega)]
      exact ⟨d, e1, e2, Nat.le_trans e3 (hcnt j hj)⟩
  · intro p j hp hj e
    rw [hkn p j hj] at e
    show upd (gA ρ 4) (60 * t + k) (nI (D + 1)) (60 * p + j) = 0
    by_cases c : p = t ∧ j = k
    · rw [if_pos c] at e; cases e
    · rw [if_neg c] at e
      rw [upd_n (by omega)]
      exact h.r4.2.2.1 p j hp hj e
  · intro p j hp hj e
    rw [hkn p j hj] at e
    by_cases c : p = t ∧ j = k
    · obtain ⟨rfl, rfl⟩ := c
      exact ⟨hl, hk⟩
    · rw [if_neg c] at e
      exact h.r4.2.2.2 p j hp hj e
theorem hear_rel (h : RelN σ ρ n ns na) {t k D : Nat} (ht : t < n) (hk : k < na) (hl : lvR ρ t = true) (hD : D ≤ cnt (fun q => knR ρ q k || !lvR ρ q) n) :
    RelN (hearC σ n t k (nI D)) (hvR ρ t k (nI (D + 1))) n ns na := by
  have h16 := h.n16
  have h60 := h.a60
  have hc16 := cnt_le (fun q => knR ρ q k || !lvR ρ q) n
  unfold hearC hvR
  rw [h.heard (by omega) (by omega), byte_small D (by omega)]
  cases e : knR ρ t k with
  | false =>
    rw [if_neg (by rintro ⟨q, -⟩; cases q), if_pos ((h.kn0 (by omega) (by omega)).mpr e)]
    exact set_rel h ht hk hl (by omega) (by rw [e, if_neg (by decide)]; exact hD)
  | true =>
    obtain ⟨d, e1, e2, e3, e4⟩ := h.d16 (by omega) (by omega) e
    rw [e1, e2, if_neg (nI_ne0 (by omega) (by omega))]
    by_cases c : D < d
    · rw [if_neg (by rintro ⟨-, q⟩; exact q ((nI_ltI (by omega) (by omega)).mpr c)), if_neg (by rw [nI_leI (by omega) (by omega)]; omega)]
      exact set_rel h ht hk hl (by omega) (by rw [e, if_pos rfl]; omega)
    · rw [if_pos (show true = true ∧ ¬ nI D < nI d from ⟨rfl, fun q => c ((nI_ltI (by omega) (by omega)).mp q)⟩), if_pos (by rw [nI_leI (by omega) (by omega)]; omega)]
      exact h
theorem hearS_hv (ρ : sS) (f t k : Nat) : hearS ρ f t k = hvR ρ t k (gA ρ 4 (60 * f + k) + 1) := rfl
theorem tell_rel (h : RelN σ ρ n ns na) (f t k : Int32) : SR (tellR σ n f t k) (tellQ ρ f t k) := by
  unfold tellR tellQ
  rw [h.inP, h.inP, h.inA]
  by_cases c : isIn f (gI ρ 0) = true ∧ isIn t (gI ρ 0) = true ∧ isIn k (gI ρ 3) = true ∧ ¬ ix f = ix t
  · rw [if_pos c, if_pos (show isIn f (gI ρ 0) = true ∧ isIn t (gI ρ 0) = true ∧ ¬ ix f = ix t ∧ isIn k (gI ρ 3) = true from ⟨c.1, c.2.1, c.2.2.2, c.2.2.1⟩)]
    obtain ⟨a, ha, rfl⟩ := h.pI c.1
    obtain ⟨b, hb, rfl⟩ := h.pI c.2.1
    obtain ⟨j, hj, rfl⟩ := h.aI c.2.2.1
    have h16 := h.n16
    have h60 := h.a60
    rw [ix_nI (n := a) (by omega), ix_nI (n := b) (by omega), ix_nI (n := j) (by omega), h.heard (by omega) (by omega), h.ban (by omega), h.alv (by omega)]
    by_cases c2 : knR ρ a j = true ∧ lvR ρ b = true ∧ banR2 ρ j = false
    · have hla := (h.r4.2.2.2 a j (by omega) (by omega) c2.1).1
      rw [if_pos c2, if_pos (show ¬ gA ρ 2 a = 0 ∧ ¬ gA ρ 2 b = 0 ∧ knR ρ a j = true ∧ banR2 ρ j = false from ⟨by revert hla; unfold lvR; simp, by have := c2.2.1; revert this; unfold lvR; simp, c2.1, c2.2.2⟩)]
      obtain ⟨d, e1, e2, e3, e4⟩ := h.d16 (by omega) (by omega) c2.1
      rw [hearS_hv, e1, e2, nI_1, nI_1]
      have hr := hear_rel h hb hj c2.2.1 e4
      refine ⟨?_, n, ns, na, hr⟩
      have hk : knR (hvR ρ b j (nI (d + 1 + 1))) b j = true := by
        unfold hvR
        split
        · exact knR_pos (d := d + 1) (by omega) upd_s
        · split
          · cases e : knR ρ b j
            · rename_i q _
              exact absurd ((h.kn0 (by omega) (by omega)).mpr e) q
            · rfl
          · exact knR_pos (d := d + 1) (by omega) upd_s
      obtain ⟨d', z1, z2, -⟩ := hr.r4.2.1 b j (by omega) (by omega) hk
      show gA (hearC σ n b j (nI (d + 1))) 12 (b * 60 + j) = gA (hvR ρ b j (nI (d + 1 + 1))) 4 (60 * b + j) - 1
      rw [z1, z2, nI_pred]
    · rw [if_neg c2, if_neg (show ¬ (¬ gA ρ 2 a = 0 ∧ ¬ gA ρ 2 b = 0 ∧ knR ρ a j = true ∧ banR2 ρ j = false) from fun q => c2 ⟨q.2.2.1, by unfold lvR; rw [decide_eq_false q.2.1]; rfl, q.2.2.2⟩)]
      exact h.same _
  · rw [if_neg c, if_neg (show ¬ (isIn f (gI ρ 0) = true ∧ isIn t (gI ρ 0) = true ∧ ¬ ix f = ix t ∧ isIn k (gI ρ 3) = true) from fun q => c ⟨q.1, q.2.1, q.2.2.2, q.2.2.1⟩)]
    exact h.same _
end PP
