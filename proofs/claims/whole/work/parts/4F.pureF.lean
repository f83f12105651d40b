/-! THE RELATION KEPT: fewest, teller. Both searches give the first row, in the order of rows, of the least length -/
def eT (m : Nat) (U V : Nat → Nat) : Prop := ∀ t, t < m → U t = V t
def lx (m : Nat) (U V : Nat → Nat) : Prop := ∃ d, d < m ∧ (∀ t, t < d → U t = V t) ∧ U d < V d
def leT (m : Nat) (U V : Nat → Nat) : Prop := eT m U V ∨ lx m U V
theorem tri : ∀ (m : Nat) (U V : Nat → Nat), eT m U V ∨ lx m U V ∨ lx m V U
  | 0, _, _ => Or.inl (fun t ht => absurd ht (Nat.not_lt_zero t))
  | m + 1, U, V => by
    rcases tri m U V with h | ⟨d, h1, h2, h3⟩ | ⟨d, h1, h2, h3⟩
    · rcases Nat.lt_trichotomy (U m) (V m) with q | q | q
      · exact Or.inr (Or.inl ⟨m, by omega, h, q⟩)
      · refine Or.inl (fun t ht => ?_)
        by_cases e : t = m
        · rw [e]; exact q
        · exact h t (by omega)
      · exact Or.inr (Or.inr ⟨m, by omega, fun t ht => (h t ht).symm, q⟩)
    · exact Or.inr (Or.inl ⟨d, by omega, h2, h3⟩)
    · exact Or.inr (Or.inr ⟨d, by omega, h2, h3⟩)
theorem lx_asym {m : Nat} {U V : Nat → Nat} (h : lx m U V) (k : lx m V U) : False := by
  obtain ⟨d, h1, h2, h3⟩ := h
  obtain ⟨c, k1, k2, k3⟩ := k
  rcases Nat.lt_trichotomy d c with q | q | q
  · have := k2 d q; omega
  · subst q; omega
  · have := h2 c q; omega
theorem leT_anti {m : Nat} {U V : Nat → Nat} (h : leT m U V) (k : leT m V U) : eT m U V := by
  rcases h with h | h
  · exact h
  · rcases k with k | k
    · exact fun t ht => (k t ht).symm
    · exact (lx_asym h k).elim
theorem leT_pw {m : Nat} {U V : Nat → Nat} (h : ∀ t, t < m → U t ≤ V t) : leT m U V := by
  rcases tri m U V with q | q | ⟨d, h1, h2, h3⟩
  · exact Or.inl q
  · exact Or.inr q
  · have := h d h1; omega
def Va (N fr m : Nat) (U : Nat → Nat) : Prop := (∀ t, t + 1 < m → U t < U (t + 1)) ∧ ∀ t, t < m → U t < N ∧ fr ≤ U t
theorem Va.up {N fr m : Nat} {U : Nat → Nat} (h : Va N fr m U) {d : Nat} : ∀ i, d + i < m → U d + i ≤ U (d + i)
  | 0, _ => Nat.le_refl _
  | i + 1, hi => by
    have := h.up (d := d) i (by omega)
    have := h.1 (d + i) (by omega)
    rw [show d + (i + 1) = d + i + 1 by omega]
    omega
theorem Va.top {N fr m : Nat} {U : Nat → Nat} (h : Va N fr m U) {t : Nat} (ht : t < m) : U t + (m - t) ≤ N := by
  have := h.up (d := t) (m - 1 - t) (by omega)
  have := (h.2 (t + (m - 1 - t)) (by omega)).1
  omega
theorem Va.le {N fr m : Nat} {U : Nat → Nat} (h : Va N fr m U) : m ≤ N := by
  rcases Nat.eq_zero_or_pos m with q | q
  · omega
  · have := h.top (t := 0) q; omega
theorem Va.lo {N fr fr' m : Nat} {U : Nat → Nat} (h : Va N fr m U) (k : fr' ≤ U 0) : Va N fr' m U := ⟨h.1, fun t ht => ⟨(h.2 t ht).1, by
  have := h.up (d := 0) t (by omega)
  rw [Nat.zero_add] at this
  omega⟩⟩
theorem Va.wk {N N' fr fr' m : Nat} {U : Nat → Nat} (h : Va N fr m U) (a : N ≤ N') (b : fr' ≤ fr) : Va N' fr' m U := ⟨h.1, fun t ht => ⟨by have := (h.2 t ht).1; omega, by have := (h.2 t ht).2; omega⟩⟩
def cons (w : Nat) (U : Nat → Nat) : Nat → Nat := fun t => if t = 0 then w else U (t - 1)
theorem cons_0 (w : Nat) (U : Nat → Nat) : cons w U 0 = w := if_pos rfl
theorem cons_s (w : Nat) (U : Nat → Nat) (t : Nat) : cons w U (t + 1) = U t := by
  unfold cons
  rw [if_neg (Nat.succ_ne_zero t), Nat.add_sub_cancel]
theorem Va.cons {N w m : Nat} {U : Nat → Nat} (h : Va N (w + 1) m U) (hw : w < N) : Va N w (m + 1) (cons w U) := by
  refine ⟨fun t ht => ?_, fun t ht => ?_⟩
  · cases t with
    | zero => rw [cons_0, cons_s]; have := (h.2 0 (by omega)).2; omega
    | succ t => rw [cons_s, cons_s]; exact h.1 t (by omega)
  · cases t with
    | zero => rw [cons_0]; omega
    | succ t => rw [cons_s]; have := h.2 t (by omega); omega
theorem Va.tail {N fr m : Nat} {V : Nat → Nat} (h : Va N fr (m + 1) V) : Va N (V 0 + 1) m (fun t => V (t + 1)) := by
  refine ⟨fun t ht => h.1 (t + 1) (by omega), fun t ht => ⟨(h.2 (t + 1) (by omega)).1, ?_⟩⟩
  have := h.up (d := 0) (t + 1) (by omega)
  rw [Nat.zero_add] at this
  show V 0 + 1 ≤ V (t + 1)
  omega
theorem leT_cons {m : Nat} {U V : Nat → Nat} (h : leT m U (fun t => V (t + 1))) : leT (m + 1) (cons (V 0) U) V := by
  rcases h with h | ⟨d, h1, h2, h3⟩
  · refine Or.inl (fun t ht => ?_)
    cases t with
    | zero => exact cons_0 _ _
    | succ t => rw [cons_s]; exact h t (by omega)
  · refine Or.inr ⟨d + 1, by omega, fun t ht => ?_, by rw [cons_s]; exact h3⟩
    cases t with
    | zero => exact cons_0 _ _
    | succ t => rw [cons_s]; exact h2 t (by omega)
def Cv (miss : Int64) (T : Nat → Int64) (m : Nat) (U : Nat → Nat) : Prop := ∀ k, k < 64 → btL miss k = true → ∃ t, t < m ∧ btL (T (U t)) k = true
theorem Cv_0 {miss : Int64} {T : Nat → Int64} {U : Nat → Nat} : Cv miss T 0 U ↔ miss = 0 := by
  constructor
  · intro h
    apply btL_ext
    intro i hi
    rw [btL_0]
    cases e : btL miss i with
    | false => rfl
    | true => obtain ⟨t, ht, -⟩ := h i hi e; exact absurd ht (Nat.not_lt_zero t)
  · rintro rfl k _ e
    rw [btL_0] at e
    cases e
theorem Cv_cons {miss : Int64} {T : Nat → Int64} {m w : Nat} {U : Nat → Nat} (h : Cv (miss &&& (T w ^^^ (-1))) T m U) : Cv miss T (m + 1) (cons w U) := by
  intro k hk e
  cases c : btL (T w) k with
  | true => exact ⟨0, by omega, by rw [cons_0]; exact c⟩
  | false =>
    obtain ⟨t, h1, h2⟩ := h k hk (by rw [btL_and, btL_not _ _ hk, e, c]; rfl)
    exact ⟨t + 1, by omega, by rw [cons_s]; exact h2⟩
theorem Cv_tail {miss : Int64} {T : Nat → Int64} {m : Nat} {V : Nat → Nat} (h : Cv miss T (m + 1) V) : Cv (miss &&& (T (V 0) ^^^ (-1))) T m (fun t => V (t + 1)) := by
  intro k hk e
  rw [btL_and, btL_not _ _ hk, Bool.and_eq_true, Bool.not_eq_true'] at e
  obtain ⟨t, h1, h2⟩ := h k hk e.1
  cases t with
  | zero => rw [e.2] at h2; cases h2
  | succ t => exact ⟨t, by omega, h2⟩
/-- the class's search -/
def E8 (dep : Nat) (τ υ : sS) : Prop := (∀ k, k ≠ 8 → gA υ k = gA τ k) ∧ υ.2 = τ.2 ∧ ∀ j, j < dep → gA υ 8 j = gA τ 8 j
theorem E8.trans {dep : Nat} {τ υ ω : sS} (h : E8 dep τ υ) (k : E8 dep υ ω) : E8 dep τ ω := ⟨fun j hj => (k.1 j hj).trans (h.1 j hj), k.2.1.trans h.2.1, fun j hj => (k.2.2 j hj).trans (h.2.2 j hj)⟩
theorem E8.lo {dep dep' : Nat} {τ υ : sS} (h : E8 dep τ υ) (k : dep' ≤ dep) : E8 dep' τ υ := ⟨h.1, h.2.1, fun j hj => h.2.2 j (by omega)⟩
theorem E8.set (dep : Nat) (τ : sS) (x : Int32) : E8 dep τ (pA τ 8 (upd (gA τ 8) dep x)) := ⟨fun k hk => by rw [gA_pA, if_neg hk], rfl, fun j hj => by
  show upd (gA τ 8) dep x j = _
  rw [upd_n (by omega)]⟩
def F3 (T : Nat → Int64) (miss : Int64) (fr L dep : Nat) (τ : sS) (r : Bool × sS) : Prop := E8 dep τ r.2 ∧ (r.1 = false → ∀ V, Va 16 fr L V → ¬ Cv miss T L V) ∧ (r.1 = true → ∃ U, Va 16 fr L U ∧ Cv miss T L U ∧ (∀ t, t < L → gA r.2 8 (dep + t) = nI (U t)) ∧ ∀ V, Va 16 fr L V → Cv miss T L V → leT L U V)
theorem ftL_ok {T : Nat → Int64} {L dep : Nat} (ih : ∀ miss fr τ, gB τ 7 = T → F3 T miss fr L (dep + 1) τ (ftC L miss fr (dep + 1) τ)) (miss : Int64) : ∀ c w τ, gB τ 7 = T → 16 ≤ w + c ∧ (0 < c → w + c ≤ 16) → F3 T miss w (L + 1) dep τ (ftL dep (fun m w υ => ftC L m w (dep + 1) υ) miss c w τ)
  | 0, w, τ, _, hc => ⟨⟨fun _ _ => rfl, rfl, fun _ _ => rfl⟩, fun _ V hV _ => by have := hV.2 0 (by omega); omega, fun q => by cases q⟩
  | c + 1, w, τ, hT, hc => by
    have hT1 : gB (pA τ 8 (upd (gA τ 8) dep (nI w))) 7 = T := hT
    have hw16 : w + (c + 1) = 16 := by have := hc.2 (by omega); omega
    obtain ⟨e, f, g⟩ := ih (miss &&& (T w ^^^ (-1))) (w + 1) (pA τ 8 (upd (gA τ 8) dep (nI w))) hT1
    have hcell : gA (pA τ 8 (upd (gA τ 8) dep (nI w))) 8 dep = nI w := upd_s
    have e0 := E8.set dep τ (nI w)
    unfold ftL
    rw [show gB τ 7 w = T w from congrFun hT w]
    generalize pA τ 8 (upd (gA τ 8) dep (nI w)) = τ1 at e f g e0 hcell hT1 ⊢
    generalize ftC L (miss &&& (T w ^^^ (-1))) (w + 1) (dep + 1) τ1 = r at e f g ⊢
    by_cases cr : r.1 = true
    · rw [if_pos cr]
      obtain ⟨U, u1, u2, u3, u4⟩ := g cr
      refine ⟨e0.trans (e.lo (Nat.le_succ _)), fun q => (by cases q), fun _ => ⟨cons w U, u1.cons (by omega), Cv_cons u2, fun t ht => ?_, fun V v1 v2 => ?_⟩⟩
      · cases t with
        | zero => rw [cons_0, Nat.add_zero]; exact (e.2.2 dep (by omega)).trans hcell
        | succ t => rw [cons_s, show dep + (t + 1) = dep + 1 + t by omega]; exact u3 t (by omega)
      · have v0 := (v1.2 0 (by omega)).2
        by_cases q : V 0 = w
        · subst q
          exact leT_cons (u4 _ v1.tail (Cv_tail v2))
        · exact Or.inr ⟨0, by omega, fun t ht => absurd ht (Nat.not_lt_zero t), by rw [cons_0]; omega⟩
    · rw [if_neg cr]
      have hr : gB r.2 7 = T := by
        have : gB r.2 7 = gB τ1 7 := by unfold gB; rw [e.2.1]
        rw [this]; exact hT1
      obtain ⟨a1, a2, a3⟩ := ftL_ok ih miss c (w + 1) r.2 hr (by omega)
      have hno : ∀ V, Va 16 w (L + 1) V → Cv miss T (L + 1) V → w + 1 ≤ V 0 := fun V v1 v2 => by
        have v0 := (v1.2 0 (by omega)).2
        by_cases q : V 0 = w
        · subst q
          exact absurd (Cv_tail v2) (f (Bool.eq_false_iff.mpr cr) _ v1.tail)
        · omega
      refine ⟨(e0.trans (e.lo (Nat.le_succ _))).trans a1, fun q V v1 v2 => a2 q V (v1.lo (hno V v1 v2)) v2, fun q => ?_⟩
      obtain ⟨U, u1, u2, u3, u4⟩ := a3 q
      exact ⟨U, u1.wk (Nat.le_refl _) (Nat.le_succ _), u2, u3, fun V v1 v2 => u4 V (v1.lo (hno V v1 v2)) v2⟩
theorem ft_ok {T : Nat → Int64} : ∀ L dep miss fr τ, gB τ 7 = T → F3 T miss fr L dep τ (ftC L miss fr dep τ)
  | 0, dep, miss, fr, τ, _ => by
    refine ⟨⟨fun _ _ => rfl, rfl, fun _ _ => rfl⟩, fun q V _ v => ?_, fun q => ⟨fun _ => 0, ⟨fun t ht => absurd ht (Nat.not_lt_zero _), fun t ht => absurd ht (Nat.not_lt_zero _)⟩, Cv_0.mpr (of_decide_eq_true q), fun t ht => absurd ht (Nat.not_lt_zero _), fun V _ _ => Or.inl (fun t ht => absurd ht (Nat.not_lt_zero _))⟩⟩
    exact absurd (Cv_0.mp v) (of_decide_eq_false q)
  | L + 1, dep, miss, fr, τ, hT => ftL_ok (L := L) (dep := dep) (fun m w υ hυ => ft_ok L (dep + 1) m w υ hυ) miss (16 - fr) fr τ hT (by omega)
def FW (T : Nat → Int64) (miss : Int64) (r : Int32 × sS) : Prop := (∃ f, f ≤ 4 ∧ r.1 = nI f ∧ (∀ g, g < f → ∀ V, Va 16 0 g V → ¬ Cv miss T g V) ∧ ∃ U, Va 16 0 f U ∧ Cv miss T f U ∧ (∀ t, t < f → gA r.2 8 t = nI (U t)) ∧ ∀ V, Va 16 0 f V → Cv miss T f V → leT f U V) ∨ (r.1 = -4 ∧ ∀ g, g ≤ 4 → ∀ V, Va 16 0 g V → ¬ Cv miss T g V)
theorem fw_ok {T : Nat → Int64} {miss : Int64} : ∀ c f τ, gB τ 7 = T → f + c = 5 → (∀ g, g < f → ∀ V, Va 16 0 g V → ¬ Cv miss T g V) → E8 0 τ (fwL miss c f τ).2 ∧ FW T miss (fwL miss c f τ)
  | 0, f, τ, _, hc, hn => ⟨⟨fun _ _ => rfl, rfl, fun _ _ => rfl⟩, Or.inr ⟨rfl, fun g hg => hn g (by omega)⟩⟩
  | c + 1, f, τ, hT, hc, hn => by
    obtain ⟨e, a, b⟩ := ft_ok (T := T) f 0 miss 0 τ hT
    unfold fwL
    generalize ftC f miss 0 0 τ = r at e a b ⊢
    by_cases cr : r.1 = true
    · rw [if_pos cr]
      obtain ⟨U, u1, u2, u3, u4⟩ := b cr
      exact ⟨e, Or.inl ⟨f, by omega, rfl, hn, U, u1, u2, fun t ht => by have := u3 t ht; rwa [Nat.zero_add] at this, u4⟩⟩
    · rw [if_neg cr]
      have hr : gB r.2 7 = T := by
        have : gB r.2 7 = gB τ 7 := by unfold gB; rw [e.2.1]
        rw [this]; exact hT
      obtain ⟨k1, k2⟩ := fw_ok c (f + 1) r.2 hr (by omega) (fun g hg V v => by
        by_cases q : g = f
        · subst q; exact a (Bool.eq_false_iff.mpr cr) V v
        · exact hn g (by omega) V v)
      exact ⟨e.trans k1, k2⟩
/-- the reference's search -/
def PR (ρ : sS) (n na s m : Nat) (V : Nat → Nat) : Prop := (∀ t, t < m → lvR ρ (V t) = true) ∧ ∀ k, k < na → told0 ρ n s k = true ∨ ∃ t, t < m ∧ banR2 ρ k = false ∧ knR ρ (V t) k = true
theorem PR.eq {ρ : sS} {n na s m : Nat} {U V : Nat → Nat} (h : PR ρ n na s m U) (e : eT m U V) : PR ρ n na s m V := by
  refine ⟨fun t ht => by rw [← e t ht]; exact h.1 t ht, fun k hk => (h.2 k hk).imp_right ?_⟩
  rintro ⟨t, h1, h2, h3⟩
  exact ⟨t, h1, h2, by rw [← e t h1]; exact h3⟩
def orN (f : Nat → Bool) : Nat → Bool
  | 0 => false
  | n + 1 => orN f n || f n
theorem orN_t {f : Nat → Bool} : ∀ {n : Nat}, orN f n = true ↔ ∃ i, i < n ∧ f i = true
  | 0 => ⟨fun h => (by cases h), fun ⟨i, hi, _⟩ => absurd hi (Nat.not_lt_zero i)⟩
  | n + 1 => by
    show (orN f n || f n) = true ↔ _
    rw [Bool.or_eq_true, orN_t]
    constructor
    · rintro (⟨i, hi, e⟩ | e)
      · exact ⟨i, by omega, e⟩
      · exact ⟨n, by omega, e⟩
    · rintro ⟨i, hi, e⟩
      by_cases c : i = n
      · subst c; exact Or.inr e
      · exact Or.inl ⟨i, by omega, e⟩
theorem itr_or (f : Nat → Bool) (b : Bool) : ∀ n, itr (fun k a => a || f k) n b = (b || orN f n)
  | 0 => by rw [itr_0]; exact (Bool.or_false b).symm
  | n + 1 => by
    rw [itr_s]
    show (itr (fun k a => a || f k) n b || f n) = (b || (orN f n || f n))
    rw [itr_or f b n, Bool.or_assoc]
theorem told_eq {ρ τ : sS} (e : eqR ρ τ) (n s k : Nat) : told0 τ n s k = told0 ρ n s k := by
  unfold told0 stR knownByR livR knR
  rw [e.1 9 (by decide), e.1 4 (by decide), e.1 2 (by decide)]
theorem P_iff {ρ τ : sS} (e : eqR ρ τ) (n na s m : Nat) : (aliveTR τ m = true ∧ isToldB τ n na s m = true) ↔ PR ρ n na s m (tlR τ) := by
  have e1 : aliveTR τ m = allN (fun t => lvR ρ (tlR τ t)) m := by
    unfold aliveTR
    rw [itr_and (fun t => !decide (gA τ 2 (tlR τ t) = 0)), Bool.true_and]
    unfold lvR
    rw [e.1 2 (by decide)]
  have e2 : ∀ k, toldK τ n s m k = (told0 ρ n s k || orN (fun t => !banR2 ρ k && knR ρ (tlR τ t) k) m) := fun k => by
    unfold toldK
    rw [itr_or (fun t => !banR2 τ k && knR τ (tlR τ t) k), told_eq e]
    unfold banR2 kdR knR
    rw [e.1 8 (by decide), e.1 4 (by decide), e.2 4 (by decide)]
  unfold isToldB PR
  rw [e1, allN_t, allN_t]
  refine and_congr Iff.rfl (forall_congr' (fun k => imp_congr Iff.rfl ?_))
  rw [e2, Bool.or_eq_true, orN_t]
  refine or_congr Iff.rfl (exists_congr (fun t => and_congr Iff.rfl ?_))
  rw [Bool.and_eq_true, Bool.not_eq_true']
theorem stL_f {n m : Nat} : ∀ {c : Nat} {τ : sS}, (stL n m c τ).1 = false → ∀ t, t < c → tlR τ t = n - m + t
  | 0, _, _, t, ht => absurd ht (Nat.not_lt_zero t)
  | c + 1, τ, h, t, ht => by
    unfold stL at h
    split at h
    · rename_i e
      by_cases q : t = c
      · rw [q]; exact e
      · exact stL_f h t (by omega)
    · cases h
theorem va_of {n m : Nat} {τ : sS} (hm : m ≤ n) (h : okT τ n m) (hr : ∀ t, t + 1 < m → tlR τ t < tlR τ (t + 1)) : Va n 0 m (tlR τ) := ⟨hr, fun t ht => ⟨by have := (h t ht).2; omega, Nat.zero_le _⟩⟩
theorem step_ok {n m : Nat} {τ : sS} (hm : m ≤ n) (hn : n ≤ 16) (hT : okT τ n m) (hv : Va n 0 m (tlR τ)) (h : (stL n m m τ).1 = true) : Va n 0 m (tlR (stL n m m τ).2) ∧ ∀ V, Va n 0 m V → lx m (tlR τ) V → leT m (tlR (stL n m m τ).2) V := by
  obtain ⟨d, hd, hne, hmax, he⟩ := stL_c h
  have hval := stL_v hd hm hn hT hne
  have hok := stL_ok hm hn hT h
  have hb := (hT d hd).2
  have htl : ∀ t, t < m → tlR (stL n m m τ).2 t = if t < d then tlR τ t else tlR τ d + 1 + (t - d) := fun t ht => by
    unfold tlR
    rw [he, hval t]
    by_cases c : t < d
    · rw [if_pos (Or.inl c), if_pos c]
    · rw [if_neg (by omega), if_neg c]
      exact ix_nI (by omega)
  refine ⟨va_of hm hok (fun t ht => ?_), fun V hV hl => ?_⟩
  · rw [htl t (by omega), htl (t + 1) ht]
    have h1 := hv.1 t ht
    by_cases c : t + 1 < d
    · rw [if_pos (by omega), if_pos c]; exact h1
    · rw [if_neg c]
      by_cases c2 : t < d
      · rw [if_pos c2]
        rw [show d = t + 1 by omega]
        omega
      · rw [if_neg c2]; omega
  · obtain ⟨d0, g1, g2, g3⟩ := hl
    have hle : d0 ≤ d := by
      rcases Nat.lt_or_ge d d0 with q | q
      · have := hmax d0 q g1
        have := hV.top g1
        omega
      · exact q
    rcases Nat.lt_or_eq_of_le hle with q | q
    · exact Or.inr ⟨d0, g1, fun t ht => by rw [htl t (by omega), if_pos (by omega)]; exact g2 t ht, by rw [htl d0 g1, if_pos q]; exact g3⟩
    · subst q
      refine leT_pw (fun t ht => ?_)
      rw [htl t ht]
      by_cases c : t < d0
      · rw [if_pos c, g2 t c]; exact Nat.le_refl _
      · rw [if_neg c]
        have := hV.up (d := d0) (t - d0) (by omega)
        rw [show d0 + (t - d0) = t by omega] at this
        omega
theorem last_ok {n m : Nat} {τ : sS} (hm : m ≤ n) (h : (stL n m m τ).1 = false) : ∀ V, Va n 0 m V → ¬ lx m (tlR τ) V := by
  rintro V hV ⟨d, h1, -, h3⟩
  have := stL_f h d h1
  have := hV.top h1
  omega
def F4 (ρ : sS) (n na s m : Nat) (r : Bool × sS) : Prop := (r.1 = false → ∀ V, Va n 0 m V → ¬ PR ρ n na s m V) ∧ (r.1 = true → okT r.2 n m ∧ Va n 0 m (tlR r.2) ∧ PR ρ n na s m (tlR r.2) ∧ ∀ V, Va n 0 m V → PR ρ n na s m V → leT m (tlR r.2) V)
theorem fq_ok {ρ : sS} {n na s m : Nat} (hm : m ≤ n) (hn : n ≤ 16) : ∀ f τ, eqR ρ τ → okT τ n m → Va n 0 m (tlR τ) → ms (tlR τ) m + 1 ≤ f → (∀ V, Va n 0 m V → PR ρ n na s m V → leT m (tlR τ) V) → F4 ρ n na s m (ftW n na s m f τ)
  | 0, _, _, _, _, h, _ => absurd h (by omega)
  | f + 1, τ, e, hT, hv, hf, hl => by
    unfold ftW
    by_cases c : aliveTR τ m = true ∧ isToldB τ n na s m = true
    · rw [if_pos c]
      exact ⟨fun q => (by cases q), fun _ => ⟨hT, hv, (P_iff e n na s m).mp c, hl⟩⟩
    · rw [if_neg c]
      have hlx : ∀ V, Va n 0 m V → PR ρ n na s m V → lx m (tlR τ) V := fun V v p => by
        rcases hl V v p with q | q
        · exact absurd ((P_iff e n na s m).mpr (p.eq (fun t ht => (q t ht).symm))) c
        · exact q
      by_cases c2 : (stL n m m τ).1 = true
      · rw [if_pos c2]
        obtain ⟨a, b⟩ := step_ok hm hn hT hv c2
        have := stL_ms hm hn hT c2
        exact fq_ok hm hn f _ (e.trans (eqR_stL n m m τ)) (stL_ok hm hn hT c2) a (by omega) (fun V v p => b V v (hlx V v p))
      · rw [if_neg c2]
        exact ⟨fun _ V v p => last_ok hm (Bool.eq_false_iff.mpr c2) V v (hlx V v p), fun q => (by cases q)⟩
theorem fm_ok {ρ : sS} {n na s m : Nat} (hm : m ≤ n) (hn : n ≤ 16) {τ : sS} (e : eqR ρ τ) : F4 ρ n na s m (ftM n na s m τ) := by
  have htl : ∀ t, t < m → tlR (ftI m τ) t = t := fun t ht => by
    unfold tlR ftI
    rw [initT_v, if_pos ht, ix_nI (by omega)]
  unfold ftM
  refine fq_ok hm hn _ _ (e.trans (eqR_ftI m τ)) (ftI_ok hm hn) (va_of hm (ftI_ok hm hn) (fun t ht => by rw [htl t (by omega), htl (t + 1) ht]; omega)) (Nat.le_refl _) (fun V v _ => leT_pw (fun t ht => ?_))
  rw [htl t ht]
  have := v.up (d := 0) t (by omega)
  rw [Nat.zero_add] at this
  omega
def FO (ρ : sS) (n na s : Nat) (r : Int32 × sS) : Prop := (∃ f, f ≤ 4 ∧ r.1 = nI f ∧ (∀ g, g < f → ∀ V, Va n 0 g V → ¬ PR ρ n na s g V) ∧ okT r.2 n f ∧ Va n 0 f (tlR r.2) ∧ PR ρ n na s f (tlR r.2) ∧ ∀ V, Va n 0 f V → PR ρ n na s f V → leT f (tlR r.2) V) ∨ (r.1 = -4 ∧ ∀ g, g ≤ 4 → ∀ V, Va n 0 g V → ¬ PR ρ n na s g V)
theorem fo_ok {ρ : sS} {n na s : Nat} (hn : n ≤ 16) : ∀ c m τ, eqR ρ τ → m + c = 5 → (∀ g, g < m → ∀ V, Va n 0 g V → ¬ PR ρ n na s g V) → FO ρ n na s (ftO n na s c m τ)
  | 0, m, τ, _, hc, hno => Or.inr ⟨rfl, fun g hg => hno g (by omega)⟩
  | c + 1, m, τ, e, hc, hno => by
    unfold ftO
    by_cases q : n < m
    · rw [if_pos q]
      refine Or.inr ⟨rfl, fun g hg V v => ?_⟩
      have := v.le
      exact hno g (by omega) V v
    · rw [if_neg q]
      obtain ⟨a, b⟩ := fm_ok (ρ := ρ) (na := na) (s := s) (m := m) (by omega) hn e
      have e2 := e.trans (eqR_ftM n na s m τ)
      generalize ftM n na s m τ = r at a b e2 ⊢
      by_cases cr : r.1 = true
      · rw [if_pos cr]
        obtain ⟨b1, b2, b3, b4⟩ := b cr
        exact Or.inl ⟨m, by omega, rfl, hno, b1, b2, b3, b4⟩
      · rw [if_neg cr]
        exact fo_ok hn c (m + 1) r.2 e2 (by omega) (fun g hg V v => by
          by_cases z : g = m
          · subst z; exact a (Bool.eq_false_iff.mpr cr) V v
          · exact hno g (by omega) V v)
