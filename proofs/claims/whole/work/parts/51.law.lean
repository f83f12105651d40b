/-! THE CLAIM OUT OF ONE WALK OF THE LAW'S BODY. Your part is whole_start (and what it stands on); all else here is the same for every law, but numbers. -/
def R_law : String := "StoneVillageLaw"
def lw_P (b : Addr) (xs : List Int32) (args : Array Value) (s : State) : Prop := args = #[.ref b] ∧ s.IntsAt b xs ∧ xs.length ≤ 3584 ∧ (Jvm.Cond.and given_1 narrow_1).before args s = true
def lw_Q (_ : Array Value) (s : State) (o : Outcome) (t : State) : Prop := o = .returned (some (.int 1)) ∧ Framed s o t [] 600000 7302250
def lw_Z (below : List Frame) (a : Array Value) (s : State) : State → Prop := fun t => ∃ o, t.status = .running ∧ Ended t below o ∧ lw_Q a s o t
/-- the law's own end, with 1 on the stack, nothing written that was there before, its room as the claim has it -/
theorem lw_ret {p : Program} {l : Launch} {e : Env} {s : State} {m : MethodId} {below : List Frame} {meth : Method} {c : Code} {b : Nat} (hx : p.tables.exec = Jvm.exec) (hb : c.code = code) (hr : meth.sig.returnType = ret) (hlocks : meth.locks = false) {pc : Nat} {H : Heap} {ls : Array Slot} (hdg : decode code pc = .ok (.ireturn, 1)) : W p l e room_1 s m #[Value.ref b] below meth c H [] 600000 7302250 (lw_Z below #[Value.ref b] s) (F0 m pc ls [.int 1]) := by
  intro T hT X
  obtain ⟨fs, hret, hrun, hended, hW, hframe⟩ := X.leave (v := some (.int 1)) (hlocks := hlocks) (fun h => by rw [hr] at h; cases h)
  have hmeth' : T.vm.method? m = some meth := X.method'
  refine ⟨T.setFrames fs, ?_, .returned (some (.int 1)), hrun, hended, rfl, ⟨_, rfl⟩, hW, hframe⟩
  jvm_step X.here [X.here.top, hx, hb, hdg, hmeth', hr, ret, narrow_b1]
  (try refine ⟨rfl, ?_⟩); (try refine ⟨rfl, ?_⟩)
  first | (intro acts; rw [hret _ acts rfl rfl rfl]) | rw [hret _ _ rfl rfl rfl]
  exact Steps.refl _
/-- what holds at the law's entry: the machine, the code, the tables' words (any of lw_tbl by 'hts w (by decide +kernel)'), the script of L ints xs at the cell b, what the Statement gives of the start (any of its parts by flat_of_before) -/
def lw_At (p : Program) (s : State) (m : MethodId) (meth : Method) (c : Code) (b L : Nat) (xs : Nat → Int32) : Prop :=
  p.tables.exec = Jvm.exec ∧ c.code = code ∧ meth.sig.returnType = ret ∧ c.maxLocals = 4 ∧ s.vm.findClass R_law = some m.cls ∧ (∀ w ∈ lw_tbl, w.before #[Value.ref b] s = true) ∧ va_X b L xs s s.heap ∧ b < s.heap.size ∧ meth.locks = false ∧ (Jvm.Cond.and given_1 narrow_1).before #[Value.ref b] s = true
/-! THE LAW: its calls and its loop. Laid by wip/whole/law.py -/
def lwA (s : State) : Nat → Prop := fun q : Nat => s.heap.size ≤ q
def lvI (b : Nat) (ad bd : Nat → Nat) (i : Nat) : List (Nat × Value) := [(0, .ref b), (1, .ref (ad 0)), (2, .ref (bd 0)), (3, .int (nI i))]
def gFL (p : Program) (s : State) (m : MethodId) (c : Code) (D : va_G) (cT : Nat → ClassId) (ad bd : Nat → Nat) (b L : Nat) (xs : Nat → Int32) : Prop :=
  CallFix p m c cL_law 4 s #[Value.ref b] TB "StoneVillageLaw" ∧ gK D cT s ∧ gD (lwA s) (cA ad) ∧ gD (lwA s) (rA bd) ∧ (∀ q, q ∈ cA ad → q ∈ rA bd → False) ∧ va_X b L xs s s.heap ∧ b < s.heap.size ∧ L ≤ 3584
section LW
variable {p : Program} {l : Launch} {e : Env} {s : State} {m : MethodId} {below : List Frame} {meth : Method} {c : Code} {D : va_G} {cT : Nat → ClassId} {ad bd : Nat → Nat} {b L : Nat} {xs : Nat → Int32} {Q : State → Prop}
def GL (p : Program) (l : Launch) (e : Env) (s : State) (m : MethodId) (below : List Frame) (meth : Method) (c : Code) (D : va_G) (cT : Nat → ClassId) (ad bd : Nat → Nat) (b : Nat) (Q : State → Prop) (σ ρ : sS) (pc : Nat) (lv : List (Nat × Value)) (st : List Value) : Prop :=
  ∀ (H : Heap) (locs : List Loc) (ls : Array Slot), va_P D vwCl (cW cT ad σ) H → va_P D vwCl (rW cT bd ρ) H → va_S (lwA s) s.heap H locs → lv_has ls 4 lv → W p l e room_1 s m #[Value.ref b] below meth c H locs 56 3938 Q (F0 m pc ls st)
variable {σ ρ : sS} {pc i : Nat} {lv : List (Nat × Value)} {rest : List Value}
theorem gl_core {Wd : sS → va_W} {ads : List Nat} {Wo : va_W} {v : Option Value} {u : sS} {a : Array Value} {H : Heap} {locs : List Loc} {ls : Array Slot} {st0 : List Value} (hA : gD (lwA s) ads) (hd : ∀ (k : Nat) (q : Nat × va_E), Wo[k]? = some q → ¬ q.1 ∈ ads)
    (hr : va_Run p l e room_1 s m #[Value.ref b] below meth c H locs 56 3938 0 0 (F0 m pc ls st0) rest (gPo D Wd ads H.size v u a) (gR ads H.size)) (hQ : va_P D vwCl Wo H) (hS : va_S (lwA s) s.heap H locs)
    (kk : ∀ (H1 : Heap) (locs1 : List Loc), va_P D vwCl (Wd u) H1 → va_P D vwCl Wo H1 → va_S (lwA s) s.heap H1 locs1 → W p l e room_1 s m #[Value.ref b] below meth c H1 locs1 56 3938 Q (F0 m (pc + 3) ls (v.toList ++ rest))) : W p l e room_1 s m #[Value.ref b] below meth c H locs 56 3938 Q (F0 m pc ls st0) := by
  intro T hT X
  obtain ⟨w, st₀, t, T', L, h0, X', hL, e1, e2, ⟨⟨hv, hb⟩, hz, hk⟩, st⟩ := hr T hT X
  cases hv
  rw [h0] at hz hk
  have hR : ∀ q, gR ads H.size q → lwA s q := fun q h => by
    rcases h with h | h
    · obtain ⟨k, hk⟩ := List.getElem?_of_mem h
      exact hA.2 k q hk
    · exact Nat.le_trans hS.1 h
  obtain ⟨t2, a1, b1⟩ := kk T'.heap (locs ++ L) (by rw [e1]; exact hb) (hQ.kept (fun k q hq => by
      rw [e1]
      have hlt := (hQ k q hq).lt
      exact hk q.1 hlt (fun z => z.elim (hd k q hq) (fun y => by omega)))) ⟨Nat.le_trans hS.1 (by rw [e1]; exact hz), fun q h1 h2 => by rw [e1, hk q (Nat.lt_of_lt_of_le h1 hS.1) (fun z => h2 (hR q z))]; exact hS.2.1 q h1 h2, fun q hq => by
    rcases List.mem_append.mp hq with h | h
    · exact hS.2.2 q h
    · exact hR _ (hL q h)⟩ T' rfl X'
  exact ⟨t2, st t2 a1, b1⟩
theorem ads_not {Wo : va_W} {ads2 : List Nat} {ads : List Nat} (hw : Wo.map Prod.fst = ads2) (hx : ∀ q, q ∈ ads → q ∈ ads2 → False) : ∀ (k : Nat) (q : Nat × va_E), Wo[k]? = some q → ¬ q.1 ∈ ads := fun k q hq z => hx q.1 z (by
  rw [← hw]
  exact List.mem_map.mpr ⟨q, List.mem_of_getElem? hq, rfl⟩)
theorem gl_callC (F : gFL p s m c D cT ad bd b L xs) {y : MethodName} {bc : ByteArray} {n : Nat} {rm : Room} {As : List Value} {v : Int32} {u : sS} {index n0 : Nat} {st : List Value} (hC : CT l D cT (cW cT ad) (cA ad) y bc n (some .int) rm (.ref (ad 0) :: As) σ (some (.int v)) u)
    (hcl : y.cls = RX5) (hlink : Cond.methodLink "StoneVillageLaw" index y ∈ TB) (hinst : Cond.instanceMethod y ∈ TB) (hsel : Cond.selects y.cls y y ∈ TB) (hini : Cond.initialized y.cls ∈ TB) (hcode : Cond.code y bc n (some .int) ∈ TB)
    (hd : y.cls ≠ "java/lang/invoke/MethodHandle" ∧ y.cls ≠ "java/lang/invoke/VarHandle" ∧ (parseMethodDescriptor y.desc).map (fun d => d.parameters.length) = some n0) (hln : As.length = n0)
    (hR : rm.cells = 0 ∧ rm.slots = 0 ∧ rm.frames + 1 ≤ room_1.frames ∧ 8 + (n + 11) + rm.locals ≤ room_1.locals) (hst : st = As.reverse ++ .ref (ad 0) :: rest) (hcat : (rest.map fun v => v.category).sum ≤ 8) (hdg : decode cL_law pc = .ok (.invokevirtual index, 3))
    (k : GL p l e s m below meth c D cT ad bd b Q u ρ (pc + 3) lv (.int v :: rest)) : GL p l e s m below meth c D cT ad bd b Q σ ρ pc lv st := fun H locs ls hP hQ hS hl => by
  obtain ⟨⟨hx, hb, hml, hown, hts⟩, hGK, hA1, hA2, hdis, hX, hbl, hL⟩ := F
  exact gl_core hA1 (ads_not (rWA cT bd ρ) hdis) (va_runV (As := As) (rest := rest) ⟨hx, hb, hml, hown, hts⟩ (hC H.size) ⟨callB_of n0 hts (tb_call hcode) rfl hR.1 hR.2.1 (hts _ hini) (hts _ hlink) hd hR.2.2, hts _ hinst, hts _ hsel⟩
    ⟨gBlind, va_recv (ci := 5) (q0 := 0) hGK.1 hP (show vwCl[5]? = some (y.cls, TX5, 10) by rw [hcl]; rfl) (rfl : (cW cT ad σ)[0]? = some (ad 0, .inr (5, cO0 ad σ))), fun U hU hW => ⟨rfl, by rw [hU], by rw [hU]; exact hP, hGK.warm hW, hA1.weak (fun _ _ _ => trivial)⟩⟩ rfl hln hl.1 hst (lv_room hcat) hdg ⟨Nat.le_of_ble_eq_true rfl, Nat.le_of_ble_eq_true rfl⟩) hQ hS (fun H1 locs1 hP1 hQ1 hS1 => k H1 locs1 ls hP1 hQ1 hS1 hl)
theorem gl_callR (F : gFL p s m c D cT ad bd b L xs) {y : MethodName} {bc : ByteArray} {n : Nat} {rm : Room} {As : List Value} {v : Int32} {u : sS} {index n0 : Nat} {st : List Value} (hC : CT l D cT (rW cT bd) (rA bd) y bc n (some .int) rm (.ref (bd 0) :: As) ρ (some (.int v)) u)
    (hcl : y.cls = RX6) (hlink : Cond.methodLink "StoneVillageLaw" index y ∈ TB) (hinst : Cond.instanceMethod y ∈ TB) (hsel : Cond.selects y.cls y y ∈ TB) (hini : Cond.initialized y.cls ∈ TB) (hcode : Cond.code y bc n (some .int) ∈ TB)
    (hd : y.cls ≠ "java/lang/invoke/MethodHandle" ∧ y.cls ≠ "java/lang/invoke/VarHandle" ∧ (parseMethodDescriptor y.desc).map (fun d => d.parameters.length) = some n0) (hln : As.length = n0)
    (hR : rm.cells = 0 ∧ rm.slots = 0 ∧ rm.frames + 1 ≤ room_1.frames ∧ 8 + (n + 11) + rm.locals ≤ room_1.locals) (hst : st = As.reverse ++ .ref (bd 0) :: rest) (hcat : (rest.map fun v => v.category).sum ≤ 8) (hdg : decode cL_law pc = .ok (.invokevirtual index, 3))
    (k : GL p l e s m below meth c D cT ad bd b Q σ u (pc + 3) lv (.int v :: rest)) : GL p l e s m below meth c D cT ad bd b Q σ ρ pc lv st := fun H locs ls hP hQ hS hl => by
  obtain ⟨⟨hx, hb, hml, hown, hts⟩, hGK, hA1, hA2, hdis, hX, hbl, hL⟩ := F
  exact gl_core hA2 (ads_not (cWA cT ad σ) (fun q z1 z2 => hdis q z2 z1)) (va_runV (As := As) (rest := rest) ⟨hx, hb, hml, hown, hts⟩ (hC H.size) ⟨callB_of n0 hts (tb_call hcode) rfl hR.1 hR.2.1 (hts _ hini) (hts _ hlink) hd hR.2.2, hts _ hinst, hts _ hsel⟩
    ⟨gBlind, va_recv (ci := 6) (q0 := 0) hGK.1 hQ (show vwCl[6]? = some (y.cls, TX6, 33) by rw [hcl]; rfl) (rfl : (rW cT bd ρ)[0]? = some (bd 0, .inr (6, rO0 bd ρ))), fun U hU hW => ⟨rfl, by rw [hU], by rw [hU]; exact hQ, hGK.warm hW, hA2.weak (fun _ _ _ => trivial)⟩⟩ rfl hln hl.1 hst (lv_room hcat) hdg ⟨Nat.le_of_ble_eq_true rfl, Nat.le_of_ble_eq_true rfl⟩) hP hS (fun H1 locs1 hP1 hQ1 hS1 => k H1 locs1 ls hQ1 hP1 hS1 hl)
theorem gl_a1 (F : gFL p s m c D cT ad bd b L xs) (hdg : decode cL_law pc = .ok (.aload_n 1, 1)) (k : GL p l e s m below meth c D cT ad bd b Q σ ρ (pc + 1) (lvI b ad bd i) (.ref (ad 0) :: rest)) : GL p l e s m below meth c D cT ad bd b Q σ ρ pc (lvI b ad bd i) rest := fun H locs ls hP hQ hS hl => lv_aload_n F.1.1 F.1.2.1 hdg rfl (lv_at hl 1 rfl) (k H locs ls hP hQ hS hl)
theorem gl_a2 (F : gFL p s m c D cT ad bd b L xs) (hdg : decode cL_law pc = .ok (.aload_n 2, 1)) (k : GL p l e s m below meth c D cT ad bd b Q σ ρ (pc + 1) (lvI b ad bd i) (.ref (bd 0) :: rest)) : GL p l e s m below meth c D cT ad bd b Q σ ρ pc (lvI b ad bd i) rest := fun H locs ls hP hQ hS hl => lv_aload_n F.1.1 F.1.2.1 hdg rfl (lv_at hl 2 rfl) (k H locs ls hP hQ hS hl)
theorem lw_notb (h : b < s.heap.size) : ¬ lwA s b := Nat.not_le.mpr h
/-- the script's int at i + k -/
theorem gl_arg (F : gFL p s m c D cT ad bd b L xs) {k : Nat} {z : Int} (h0 : decode cL_law pc = .ok (.aload_n 0, 1)) (h1 : decode cL_law (pc + 1) = .ok (.iload_n 3, 1)) (h2 : decode cL_law (pc + 1 + 1) = .ok (.iconst z, 1)) (h3 : decode cL_law (pc + 1 + 1 + 1) = .ok (.iadd, 1)) (h4 : decode cL_law (pc + 1 + 1 + 1 + 1) = .ok (.iaload, 1)) (hz : Int32.ofInt z = nI k) (hk : i + k < L)
    (kk : GL p l e s m below meth c D cT ad bd b Q σ ρ (pc + 1 + 1 + 1 + 1 + 1) (lvI b ad bd i) (.int (xs (i + k)) :: rest)) : GL p l e s m below meth c D cT ad bd b Q σ ρ pc (lvI b ad bd i) rest := fun H locs ls hP hQ hS hl => by
  obtain ⟨⟨hx, hb, hml, hown, hts⟩, hGK, hA1, hA2, hdis, hX, hbl, hL⟩ := F
  refine lv_aload_n hx hb h0 rfl (lv_at hl 0 rfl) ?_
  refine lv_iload_n hx hb h1 rfl (lv_at hl 3 rfl) ?_
  refine lv_iconst (v := nI k) hx hb h2 hz ?_
  refine lv_iadd hx hb h3 ?_
  rw [nI_add]
  refine va_sld hx hb hX hbl (lw_notb hbl) hS (vp_in_nI hk (by omega)) h4 ?_
  rw [nI_clamp (by omega)]
  exact kk H locs ls hP hQ hS hl
theorem gl_argB (F : gFL p s m c D cT ad bd b L xs) {k : Nat} {z : Int} (h0 : decode cL_law pc = .ok (.aload_n 0, 1)) (h1 : decode cL_law (pc + 1) = .ok (.iload_n 3, 1)) (h2 : decode cL_law (pc + 1 + 1) = .ok (.bipush z, 2)) (h3 : decode cL_law (pc + 1 + 1 + 2) = .ok (.iadd, 1)) (h4 : decode cL_law (pc + 1 + 1 + 2 + 1) = .ok (.iaload, 1)) (hz : (Int8.ofInt z).toInt32 = nI k) (hk : i + k < L)
    (kk : GL p l e s m below meth c D cT ad bd b Q σ ρ (pc + 1 + 1 + 2 + 1 + 1) (lvI b ad bd i) (.int (xs (i + k)) :: rest)) : GL p l e s m below meth c D cT ad bd b Q σ ρ pc (lvI b ad bd i) rest := fun H locs ls hP hQ hS hl => by
  obtain ⟨⟨hx, hb, hml, hown, hts⟩, hGK, hA1, hA2, hdis, hX, hbl, hL⟩ := F
  refine lv_aload_n hx hb h0 rfl (lv_at hl 0 rfl) ?_
  refine lv_iload_n hx hb h1 rfl (lv_at hl 3 rfl) ?_
  refine lv_bipush (v := nI k) hx hb h2 hz ?_
  refine lv_iadd hx hb h3 ?_
  rw [nI_add]
  refine va_sld hx hb hX hbl (lw_notb hbl) hS (vp_in_nI hk (by omega)) h4 ?_
  rw [nI_clamp (by omega)]
  exact kk H locs ls hP hQ hS hl
/-- both answers alike: on to the loop's end -/
theorem gl_cmp (F : gFL p s m c D cT ad bd b L xs) {x y : Int32} {off : Int} {tgt : Nat} (hdg : decode cL_law pc = .ok (.if_icmp .eq off, 3)) (ht : (pc : Int) + off = (tgt : Int)) (hxy : x = y) (k : GL p l e s m below meth c D cT ad bd b Q σ ρ tgt lv rest) : GL p l e s m below meth c D cT ad bd b Q σ ρ pc lv (.int y :: .int x :: rest) := fun H locs ls hP hQ hS hl =>
  lv_icmp_eq F.1.1 F.1.2.1 hdg ht (fun _ => k H locs ls hP hQ hS hl) (fun z => absurd hxy z)
def LE (p : Program) (l : Launch) (e : Env) (s : State) (m : MethodId) (below : List Frame) (meth : Method) (c : Code) (D : va_G) (cT : Nat → ClassId) (ad bd : Nat → Nat) (b i : Nat) (Q : State → Prop) : Prop := ∀ (σ' ρ' : sS) (n' ns' na' : Nat), RelN σ' ρ' n' ns' na' → GL p l e s m below meth c D cT ad bd b Q σ' ρ' 1274 (lvI b ad bd i) []
variable {n ns na : Nat}
set_option maxHeartbeats 4000000 in
set_option maxRecDepth 100000 in
theorem lc_person (F : gFL p s m c D cT ad bd b L xs) (hr : RelN σ ρ n ns na) (hi : i + 6 < L) (KK : LE p l e s m below meth c D cT ad bd b i Q) : GL p l e s m below meth c D cT ad bd b Q σ ρ 176 (lvI b ad bd i) [] := by
  obtain ⟨key, n', ns', na', hr'⟩ := person_rel hr (xs (i + 1))
  refine gl_a1 F dL_law_176 ?_
  refine gl_arg F dL_law_177 dL_law_178 dL_law_179 dL_law_180 dL_law_181 (k := 1) (by decide) (by omega) ?_
  refine gl_callC F (kX5_person l D cT ad σ n ns na hr.ic (xs (i + 1))) rfl tm_L_13 ti_yX5_person ts_yX5_person tn_X5 tc_yX5_person (n0 := 1) (by decide +kernel) rfl ⟨rfl, rfl, Nat.le_of_ble_eq_true rfl, Nat.le_of_ble_eq_true rfl⟩ rfl (Nat.le_of_ble_eq_true rfl) dL_law_182 ?_
  refine gl_a2 F dL_law_185 ?_
  refine gl_arg F dL_law_186 dL_law_187 dL_law_188 dL_law_189 dL_law_190 (k := 1) (by decide) (by omega) ?_
  refine gl_callR F (kX6_person l D cT bd ρ n ns na hr.ir (xs (i + 1))) rfl tm_L_17 ti_yX6_person ts_yX6_person tn_X6 tc_yX6_person (n0 := 1) (by decide +kernel) rfl ⟨rfl, rfl, Nat.le_of_ble_eq_true rfl, Nat.le_of_ble_eq_true rfl⟩ rfl (Nat.le_of_ble_eq_true rfl) dL_law_191 ?_
  exact gl_cmp F (tgt := 1274) dL_law_194 (by decide) key (KK _ _ _ _ _ hr')
set_option maxHeartbeats 4000000 in
set_option maxRecDepth 100000 in
theorem lc_years (F : gFL p s m c D cT ad bd b L xs) (hr : RelN σ ρ n ns na) (hi : i + 6 < L) (KK : LE p l e s m below meth c D cT ad bd b i Q) : GL p l e s m below meth c D cT ad bd b Q σ ρ 199 (lvI b ad bd i) [] := by
  obtain ⟨key, n', ns', na', hr'⟩ := years_rel hr (xs (i + 1))
  refine gl_a1 F dL_law_199 ?_
  refine gl_arg F dL_law_200 dL_law_201 dL_law_202 dL_law_203 dL_law_204 (k := 1) (by decide) (by omega) ?_
  refine gl_callC F (kX5_years l D cT ad σ n ns na hr.ic (xs (i + 1))) rfl tm_L_18 ti_yX5_years ts_yX5_years tn_X5 tc_yX5_years (n0 := 1) (by decide +kernel) rfl ⟨rfl, rfl, Nat.le_of_ble_eq_true rfl, Nat.le_of_ble_eq_true rfl⟩ rfl (Nat.le_of_ble_eq_true rfl) dL_law_205 ?_
  refine gl_a2 F dL_law_208 ?_
  refine gl_arg F dL_law_209 dL_law_210 dL_law_211 dL_law_212 dL_law_213 (k := 1) (by decide) (by omega) ?_
  refine gl_callR F (kX6_years l D cT bd ρ n ns na hr.ir (xs (i + 1))) rfl tm_L_21 ti_yX6_years ts_yX6_years tn_X6 tc_yX6_years (n0 := 1) (by decide +kernel) rfl ⟨rfl, rfl, Nat.le_of_ble_eq_true rfl, Nat.le_of_ble_eq_true rfl⟩ rfl (Nat.le_of_ble_eq_true rfl) dL_law_214 ?_
  exact gl_cmp F (tgt := 1274) dL_law_217 (by decide) key (KK _ _ _ _ _ hr')
set_option maxHeartbeats 4000000 in
set_option maxRecDepth 100000 in
theorem lc_dies (F : gFL p s m c D cT ad bd b L xs) (hr : RelN σ ρ n ns na) (hi : i + 6 < L) (KK : LE p l e s m below meth c D cT ad bd b i Q) : GL p l e s m below meth c D cT ad bd b Q σ ρ 222 (lvI b ad bd i) [] := by
  obtain ⟨key, n', ns', na', hr'⟩ := dies_rel hr (xs (i + 1))
  refine gl_a1 F dL_law_222 ?_
  refine gl_arg F dL_law_223 dL_law_224 dL_law_225 dL_law_226 dL_law_227 (k := 1) (by decide) (by omega) ?_
  refine gl_callC F (kX5_dies l D cT ad σ n ns na hr.ic (xs (i + 1))) rfl tm_L_22 ti_yX5_dies ts_yX5_dies tn_X5 tc_yX5_dies (n0 := 1) (by decide +kernel) rfl ⟨rfl, rfl, Nat.le_of_ble_eq_true rfl, Nat.le_of_ble_eq_true rfl⟩ rfl (Nat.le_of_ble_eq_true rfl) dL_law_228 ?_
  refine gl_a2 F dL_law_231 ?_
  refine gl_arg F dL_law_232 dL_law_233 dL_law_234 dL_law_235 dL_law_236 (k := 1) (by decide) (by omega) ?_
  refine gl_callR F (kX6_dies l D cT bd ρ n ns na hr.ir (xs (i + 1))) rfl tm_L_25 ti_yX6_dies ts_yX6_dies tn_X6 tc_yX6_dies (n0 := 1) (by decide +kernel) rfl ⟨rfl, rfl, Nat.le_of_ble_eq_true rfl, Nat.le_of_ble_eq_true rfl⟩ rfl (Nat.le_of_ble_eq_true rfl) dL_law_237 ?_
  exact gl_cmp F (tgt := 1274) dL_law_240 (by decide) key (KK _ _ _ _ _ hr')
set_option maxHeartbeats 4000000 in
set_option maxRecDepth 100000 in
theorem lc_told (F : gFL p s m c D cT ad bd b L xs) (hr : RelN σ ρ n ns na) (hi : i + 6 < L) (KK : LE p l e s m below meth c D cT ad bd b i Q) : GL p l e s m below meth c D cT ad bd b Q σ ρ 245 (lvI b ad bd i) [] := by
  have key := told_rel hr (xs (i + 1)) (xs (i + 2))
  refine gl_a1 F dL_law_245 ?_
  refine gl_arg F dL_law_246 dL_law_247 dL_law_248 dL_law_249 dL_law_250 (k := 1) (by decide) (by omega) ?_
  refine gl_arg F dL_law_251 dL_law_252 dL_law_253 dL_law_254 dL_law_255 (k := 2) (by decide) (by omega) ?_
  refine gl_callC F (kX5_told l D cT ad σ n ns na hr.ic (xs (i + 1)) (xs (i + 2))) rfl tm_L_26 ti_yX5_told ts_yX5_told tn_X5 tc_yX5_told (n0 := 2) (by decide +kernel) rfl ⟨rfl, rfl, Nat.le_of_ble_eq_true rfl, Nat.le_of_ble_eq_true rfl⟩ rfl (Nat.le_of_ble_eq_true rfl) dL_law_256 ?_
  refine gl_a2 F dL_law_259 ?_
  refine gl_arg F dL_law_260 dL_law_261 dL_law_262 dL_law_263 dL_law_264 (k := 1) (by decide) (by omega) ?_
  refine gl_arg F dL_law_265 dL_law_266 dL_law_267 dL_law_268 dL_law_269 (k := 2) (by decide) (by omega) ?_
  refine gl_callR F (kX6_told l D cT bd ρ n ns na hr.ir (xs (i + 1)) (xs (i + 2))) rfl tm_L_30 ti_yX6_told ts_yX6_told tn_X6 tc_yX6_told (n0 := 2) (by decide +kernel) rfl ⟨rfl, rfl, Nat.le_of_ble_eq_true rfl, Nat.le_of_ble_eq_true rfl⟩ rfl (Nat.le_of_ble_eq_true rfl) dL_law_270 ?_
  exact gl_cmp F (tgt := 1274) dL_law_273 (by decide) key (KK _ _ _ _ _ hr)
set_option maxHeartbeats 4000000 in
set_option maxRecDepth 100000 in
theorem lc_stone (F : gFL p s m c D cT ad bd b L xs) (hr : RelN σ ρ n ns na) (hi : i + 6 < L) (KK : LE p l e s m below meth c D cT ad bd b i Q) : GL p l e s m below meth c D cT ad bd b Q σ ρ 278 (lvI b ad bd i) [] := by
  obtain ⟨key, n', ns', na', hr'⟩ := stone_rel hr (xs (i + 1)) (xs (i + 2))
  refine gl_a1 F dL_law_278 ?_
  refine gl_arg F dL_law_279 dL_law_280 dL_law_281 dL_law_282 dL_law_283 (k := 1) (by decide) (by omega) ?_
  refine gl_arg F dL_law_284 dL_law_285 dL_law_286 dL_law_287 dL_law_288 (k := 2) (by decide) (by omega) ?_
  refine gl_callC F (kX5_stone l D cT ad σ n ns na hr.ic (xs (i + 1)) (xs (i + 2))) rfl tm_L_31 ti_yX5_stone ts_yX5_stone tn_X5 tc_yX5_stone (n0 := 2) (by decide +kernel) rfl ⟨rfl, rfl, Nat.le_of_ble_eq_true rfl, Nat.le_of_ble_eq_true rfl⟩ rfl (Nat.le_of_ble_eq_true rfl) dL_law_289 ?_
  refine gl_a2 F dL_law_292 ?_
  refine gl_arg F dL_law_293 dL_law_294 dL_law_295 dL_law_296 dL_law_297 (k := 1) (by decide) (by omega) ?_
  refine gl_arg F dL_law_298 dL_law_299 dL_law_300 dL_law_301 dL_law_302 (k := 2) (by decide) (by omega) ?_
  refine gl_callR F (kX6_stone l D cT bd ρ n ns na hr.ir (xs (i + 1)) (xs (i + 2))) rfl tm_L_34 ti_yX6_stone ts_yX6_stone tn_X6 tc_yX6_stone (n0 := 2) (by decide +kernel) rfl ⟨rfl, rfl, Nat.le_of_ble_eq_true rfl, Nat.le_of_ble_eq_true rfl⟩ rfl (Nat.le_of_ble_eq_true rfl) dL_law_303 ?_
  exact gl_cmp F (tgt := 1274) dL_law_306 (by decide) key (KK _ _ _ _ _ hr')
set_option maxHeartbeats 4000000 in
set_option maxRecDepth 100000 in
theorem lc_moves (F : gFL p s m c D cT ad bd b L xs) (hr : RelN σ ρ n ns na) (hi : i + 6 < L) (KK : LE p l e s m below meth c D cT ad bd b i Q) : GL p l e s m below meth c D cT ad bd b Q σ ρ 311 (lvI b ad bd i) [] := by
  obtain ⟨key, n', ns', na', hr'⟩ := moves_rel hr (xs (i + 1)) (xs (i + 2))
  refine gl_a1 F dL_law_311 ?_
  refine gl_arg F dL_law_312 dL_law_313 dL_law_314 dL_law_315 dL_law_316 (k := 1) (by decide) (by omega) ?_
  refine gl_arg F dL_law_317 dL_law_318 dL_law_319 dL_law_320 dL_law_321 (k := 2) (by decide) (by omega) ?_
  refine gl_callC F (kX5_moves l D cT ad σ n ns na hr.ic (xs (i + 1)) (xs (i + 2))) rfl tm_L_35 ti_yX5_moves ts_yX5_moves tn_X5 tc_yX5_moves (n0 := 2) (by decide +kernel) rfl ⟨rfl, rfl, Nat.le_of_ble_eq_true rfl, Nat.le_of_ble_eq_true rfl⟩ rfl (Nat.le_of_ble_eq_true rfl) dL_law_322 ?_
  refine gl_a2 F dL_law_325 ?_
  refine gl_arg F dL_law_326 dL_law_327 dL_law_328 dL_law_329 dL_law_330 (k := 1) (by decide) (by omega) ?_
  refine gl_arg F dL_law_331 dL_law_332 dL_law_333 dL_law_334 dL_law_335 (k := 2) (by decide) (by omega) ?_
  refine gl_callR F (kX6_moves l D cT bd ρ n ns na hr.ir (xs (i + 1)) (xs (i + 2))) rfl tm_L_38 ti_yX6_moves ts_yX6_moves tn_X6 tc_yX6_moves (n0 := 2) (by decide +kernel) rfl ⟨rfl, rfl, Nat.le_of_ble_eq_true rfl, Nat.le_of_ble_eq_true rfl⟩ rfl (Nat.le_of_ble_eq_true rfl) dL_law_336 ?_
  exact gl_cmp F (tgt := 1274) dL_law_339 (by decide) key (KK _ _ _ _ _ hr')
set_option maxHeartbeats 4000000 in
set_option maxRecDepth 100000 in
theorem lc_act (F : gFL p s m c D cT ad bd b L xs) (hr : RelN σ ρ n ns na) (hi : i + 6 < L) (KK : LE p l e s m below meth c D cT ad bd b i Q) : GL p l e s m below meth c D cT ad bd b Q σ ρ 344 (lvI b ad bd i) [] := by
  obtain ⟨key, n', ns', na', hr'⟩ := act_rel hr (xs (i + 1)) (xs (i + 2)) (xs (i + 3)) (xs (i + 4)) (xs (i + 5)) (xs (i + 6))
  refine gl_a1 F dL_law_344 ?_
  refine gl_arg F dL_law_345 dL_law_346 dL_law_347 dL_law_348 dL_law_349 (k := 1) (by decide) (by omega) ?_
  refine gl_arg F dL_law_350 dL_law_351 dL_law_352 dL_law_353 dL_law_354 (k := 2) (by decide) (by omega) ?_
  refine gl_arg F dL_law_355 dL_law_356 dL_law_357 dL_law_358 dL_law_359 (k := 3) (by decide) (by omega) ?_
  refine gl_arg F dL_law_360 dL_law_361 dL_law_362 dL_law_363 dL_law_364 (k := 4) (by decide) (by omega) ?_
  refine gl_arg F dL_law_365 dL_law_366 dL_law_367 dL_law_368 dL_law_369 (k := 5) (by decide) (by omega) ?_
  refine gl_argB F dL_law_370 dL_law_371 dL_law_372 dL_law_374 dL_law_375 (k := 6) (by decide) (by omega) ?_
  refine gl_callC F (kX5_act l D cT ad σ n ns na hr.ic (xs (i + 1)) (xs (i + 2)) (xs (i + 3)) (xs (i + 4)) (xs (i + 5)) (xs (i + 6))) rfl tm_L_39 ti_yX5_act ts_yX5_act tn_X5 tc_yX5_act (n0 := 6) (by decide +kernel) rfl ⟨rfl, rfl, Nat.le_of_ble_eq_true rfl, Nat.le_of_ble_eq_true rfl⟩ rfl (Nat.le_of_ble_eq_true rfl) dL_law_376 ?_
  refine gl_a2 F dL_law_379 ?_
  refine gl_arg F dL_law_380 dL_law_381 dL_law_382 dL_law_383 dL_law_384 (k := 1) (by decide) (by omega) ?_
  refine gl_arg F dL_law_385 dL_law_386 dL_law_387 dL_law_388 dL_law_389 (k := 2) (by decide) (by omega) ?_
  refine gl_arg F dL_law_390 dL_law_391 dL_law_392 dL_law_393 dL_law_394 (k := 3) (by decide) (by omega) ?_
  refine gl_arg F dL_law_395 dL_law_396 dL_law_397 dL_law_398 dL_law_399 (k := 4) (by decide) (by omega) ?_
  refine gl_arg F dL_law_400 dL_law_401 dL_law_402 dL_law_403 dL_law_404 (k := 5) (by decide) (by omega) ?_
  refine gl_argB F dL_law_405 dL_law_406 dL_law_407 dL_law_409 dL_law_410 (k := 6) (by decide) (by omega) ?_
  refine gl_callR F (kX6_act l D cT bd ρ n ns na hr.ir (xs (i + 1)) (xs (i + 2)) (xs (i + 3)) (xs (i + 4)) (xs (i + 5)) (xs (i + 6))) rfl tm_L_43 ti_yX6_act ts_yX6_act tn_X6 tc_yX6_act (n0 := 6) (by decide +kernel) rfl ⟨rfl, rfl, Nat.le_of_ble_eq_true rfl, Nat.le_of_ble_eq_true rfl⟩ rfl (Nat.le_of_ble_eq_true rfl) dL_law_411 ?_
  exact gl_cmp F (tgt := 1274) dL_law_414 (by decide) key (KK _ _ _ _ _ hr')
set_option maxHeartbeats 4000000 in
set_option maxRecDepth 100000 in
theorem lc_about (F : gFL p s m c D cT ad bd b L xs) (hr : RelN σ ρ n ns na) (hi : i + 6 < L) (KK : LE p l e s m below meth c D cT ad bd b i Q) : GL p l e s m below meth c D cT ad bd b Q σ ρ 419 (lvI b ad bd i) [] := by
  have key := about_rel hr (xs (i + 1)) (xs (i + 2))
  refine gl_a1 F dL_law_419 ?_
  refine gl_arg F dL_law_420 dL_law_421 dL_law_422 dL_law_423 dL_law_424 (k := 1) (by decide) (by omega) ?_
  refine gl_arg F dL_law_425 dL_law_426 dL_law_427 dL_law_428 dL_law_429 (k := 2) (by decide) (by omega) ?_
  refine gl_callC F (kX5_about l D cT ad σ n ns na hr.ic (xs (i + 1)) (xs (i + 2))) rfl tm_L_44 ti_yX5_about ts_yX5_about tn_X5 tc_yX5_about (n0 := 2) (by decide +kernel) rfl ⟨rfl, rfl, Nat.le_of_ble_eq_true rfl, Nat.le_of_ble_eq_true rfl⟩ rfl (Nat.le_of_ble_eq_true rfl) dL_law_430 ?_
  refine gl_a2 F dL_law_433 ?_
  refine gl_arg F dL_law_434 dL_law_435 dL_law_436 dL_law_437 dL_law_438 (k := 1) (by decide) (by omega) ?_
  refine gl_arg F dL_law_439 dL_law_440 dL_law_441 dL_law_442 dL_law_443 (k := 2) (by decide) (by omega) ?_
  refine gl_callR F (kX6_about l D cT bd ρ n ns na hr.ir (xs (i + 1)) (xs (i + 2))) rfl tm_L_47 ti_yX6_about ts_yX6_about tn_X6 tc_yX6_about (n0 := 2) (by decide +kernel) rfl ⟨rfl, rfl, Nat.le_of_ble_eq_true rfl, Nat.le_of_ble_eq_true rfl⟩ rfl (Nat.le_of_ble_eq_true rfl) dL_law_444 ?_
  exact gl_cmp F (tgt := 1274) dL_law_447 (by decide) key (KK _ _ _ _ _ hr)
set_option maxHeartbeats 4000000 in
set_option maxRecDepth 100000 in
theorem lc_knows (F : gFL p s m c D cT ad bd b L xs) (hr : RelN σ ρ n ns na) (hi : i + 6 < L) (KK : LE p l e s m below meth c D cT ad bd b i Q) : GL p l e s m below meth c D cT ad bd b Q σ ρ 452 (lvI b ad bd i) [] := by
  have key := knows_rel hr (xs (i + 1)) (xs (i + 2))
  refine gl_a1 F dL_law_452 ?_
  refine gl_arg F dL_law_453 dL_law_454 dL_law_455 dL_law_456 dL_law_457 (k := 1) (by decide) (by omega) ?_
  refine gl_arg F dL_law_458 dL_law_459 dL_law_460 dL_law_461 dL_law_462 (k := 2) (by decide) (by omega) ?_
  refine gl_callC F (kX5_knows l D cT ad σ n ns na hr.ic (xs (i + 1)) (xs (i + 2))) rfl tm_L_48 ti_yX5_knows ts_yX5_knows tn_X5 tc_yX5_knows (n0 := 2) (by decide +kernel) rfl ⟨rfl, rfl, Nat.le_of_ble_eq_true rfl, Nat.le_of_ble_eq_true rfl⟩ rfl (Nat.le_of_ble_eq_true rfl) dL_law_463 ?_
  refine gl_a2 F dL_law_466 ?_
  refine gl_arg F dL_law_467 dL_law_468 dL_law_469 dL_law_470 dL_law_471 (k := 1) (by decide) (by omega) ?_
  refine gl_arg F dL_law_472 dL_law_473 dL_law_474 dL_law_475 dL_law_476 (k := 2) (by decide) (by omega) ?_
  refine gl_callR F (kX6_knows l D cT bd ρ n ns na hr.ir (xs (i + 1)) (xs (i + 2))) rfl tm_L_51 ti_yX6_knows ts_yX6_knows tn_X6 tc_yX6_knows (n0 := 2) (by decide +kernel) rfl ⟨rfl, rfl, Nat.le_of_ble_eq_true rfl, Nat.le_of_ble_eq_true rfl⟩ rfl (Nat.le_of_ble_eq_true rfl) dL_law_477 ?_
  exact gl_cmp F (tgt := 1274) dL_law_480 (by decide) key (KK _ _ _ _ _ hr)
set_option maxHeartbeats 4000000 in
set_option maxRecDepth 100000 in
theorem lc_tell (F : gFL p s m c D cT ad bd b L xs) (hr : RelN σ ρ n ns na) (hi : i + 6 < L) (KK : LE p l e s m below meth c D cT ad bd b i Q) : GL p l e s m below meth c D cT ad bd b Q σ ρ 485 (lvI b ad bd i) [] := by
  obtain ⟨key, n', ns', na', hr'⟩ := tell_rel hr (xs (i + 1)) (xs (i + 2)) (xs (i + 3))
  refine gl_a1 F dL_law_485 ?_
  refine gl_arg F dL_law_486 dL_law_487 dL_law_488 dL_law_489 dL_law_490 (k := 1) (by decide) (by omega) ?_
  refine gl_arg F dL_law_491 dL_law_492 dL_law_493 dL_law_494 dL_law_495 (k := 2) (by decide) (by omega) ?_
  refine gl_arg F dL_law_496 dL_law_497 dL_law_498 dL_law_499 dL_law_500 (k := 3) (by decide) (by omega) ?_
  refine gl_callC F (kX5_tell l D cT ad σ n ns na hr.ic (xs (i + 1)) (xs (i + 2)) (xs (i + 3))) rfl tm_L_52 ti_yX5_tell ts_yX5_tell tn_X5 tc_yX5_tell (n0 := 3) (by decide +kernel) rfl ⟨rfl, rfl, Nat.le_of_ble_eq_true rfl, Nat.le_of_ble_eq_true rfl⟩ rfl (Nat.le_of_ble_eq_true rfl) dL_law_501 ?_
  refine gl_a2 F dL_law_504 ?_
  refine gl_arg F dL_law_505 dL_law_506 dL_law_507 dL_law_508 dL_law_509 (k := 1) (by decide) (by omega) ?_
  refine gl_arg F dL_law_510 dL_law_511 dL_law_512 dL_law_513 dL_law_514 (k := 2) (by decide) (by omega) ?_
  refine gl_arg F dL_law_515 dL_law_516 dL_law_517 dL_law_518 dL_law_519 (k := 3) (by decide) (by omega) ?_
  refine gl_callR F (kX6_tell l D cT bd ρ n ns na hr.ir (xs (i + 1)) (xs (i + 2)) (xs (i + 3))) rfl tm_L_56 ti_yX6_tell ts_yX6_tell tn_X6 tc_yX6_tell (n0 := 3) (by decide +kernel) rfl ⟨rfl, rfl, Nat.le_of_ble_eq_true rfl, Nat.le_of_ble_eq_true rfl⟩ rfl (Nat.le_of_ble_eq_true rfl) dL_law_520 ?_
  exact gl_cmp F (tgt := 1274) dL_law_523 (by decide) key (KK _ _ _ _ _ hr')
set_option maxHeartbeats 4000000 in
set_option maxRecDepth 100000 in
theorem lc_parts (F : gFL p s m c D cT ad bd b L xs) (hr : RelN σ ρ n ns na) (hi : i + 6 < L) (KK : LE p l e s m below meth c D cT ad bd b i Q) : GL p l e s m below meth c D cT ad bd b Q σ ρ 528 (lvI b ad bd i) [] := by
  obtain ⟨key, n', ns', na', hr'⟩ := parts_rel hr (xs (i + 1)) (xs (i + 2)) (xs (i + 3))
  refine gl_a1 F dL_law_528 ?_
  refine gl_arg F dL_law_529 dL_law_530 dL_law_531 dL_law_532 dL_law_533 (k := 1) (by decide) (by omega) ?_
  refine gl_arg F dL_law_534 dL_law_535 dL_law_536 dL_law_537 dL_law_538 (k := 2) (by decide) (by omega) ?_
  refine gl_arg F dL_law_539 dL_law_540 dL_law_541 dL_law_542 dL_law_543 (k := 3) (by decide) (by omega) ?_
  refine gl_callC F (kX5_parts l D cT ad σ n ns na hr.ic (xs (i + 1)) (xs (i + 2)) (xs (i + 3))) rfl tm_L_57 ti_yX5_parts ts_yX5_parts tn_X5 tc_yX5_parts (n0 := 3) (by decide +kernel) rfl ⟨rfl, rfl, Nat.le_of_ble_eq_true rfl, Nat.le_of_ble_eq_true rfl⟩ rfl (Nat.le_of_ble_eq_true rfl) dL_law_544 ?_
  refine gl_a2 F dL_law_547 ?_
  refine gl_arg F dL_law_548 dL_law_549 dL_law_550 dL_law_551 dL_law_552 (k := 1) (by decide) (by omega) ?_
  refine gl_arg F dL_law_553 dL_law_554 dL_law_555 dL_law_556 dL_law_557 (k := 2) (by decide) (by omega) ?_
  refine gl_arg F dL_law_558 dL_law_559 dL_law_560 dL_law_561 dL_law_562 (k := 3) (by decide) (by omega) ?_
  refine gl_callR F (kX6_parts l D cT bd ρ n ns na hr.ir (xs (i + 1)) (xs (i + 2)) (xs (i + 3))) rfl tm_L_60 ti_yX6_parts ts_yX6_parts tn_X6 tc_yX6_parts (n0 := 3) (by decide +kernel) rfl ⟨rfl, rfl, Nat.le_of_ble_eq_true rfl, Nat.le_of_ble_eq_true rfl⟩ rfl (Nat.le_of_ble_eq_true rfl) dL_law_563 ?_
  exact gl_cmp F (tgt := 1274) dL_law_566 (by decide) key (KK _ _ _ _ _ hr')
set_option maxHeartbeats 4000000 in
set_option maxRecDepth 100000 in
theorem lc_bound (F : gFL p s m c D cT ad bd b L xs) (hr : RelN σ ρ n ns na) (hi : i + 6 < L) (KK : LE p l e s m below meth c D cT ad bd b i Q) : GL p l e s m below meth c D cT ad bd b Q σ ρ 571 (lvI b ad bd i) [] := by
  obtain ⟨key, n', ns', na', hr'⟩ := bound_rel hr (xs (i + 1)) (xs (i + 2)) (xs (i + 3))
  refine gl_a1 F dL_law_571 ?_
  refine gl_arg F dL_law_572 dL_law_573 dL_law_574 dL_law_575 dL_law_576 (k := 1) (by decide) (by omega) ?_
  refine gl_arg F dL_law_577 dL_law_578 dL_law_579 dL_law_580 dL_law_581 (k := 2) (by decide) (by omega) ?_
  refine gl_arg F dL_law_582 dL_law_583 dL_law_584 dL_law_585 dL_law_586 (k := 3) (by decide) (by omega) ?_
  refine gl_callC F (kX5_bound l D cT ad σ n ns na hr.ic (xs (i + 1)) (xs (i + 2)) (xs (i + 3))) rfl tm_L_61 ti_yX5_bound ts_yX5_bound tn_X5 tc_yX5_bound (n0 := 3) (by decide +kernel) rfl ⟨rfl, rfl, Nat.le_of_ble_eq_true rfl, Nat.le_of_ble_eq_true rfl⟩ rfl (Nat.le_of_ble_eq_true rfl) dL_law_587 ?_
  refine gl_a2 F dL_law_590 ?_
  refine gl_arg F dL_law_591 dL_law_592 dL_law_593 dL_law_594 dL_law_595 (k := 1) (by decide) (by omega) ?_
  refine gl_arg F dL_law_596 dL_law_597 dL_law_598 dL_law_599 dL_law_600 (k := 2) (by decide) (by omega) ?_
  refine gl_arg F dL_law_601 dL_law_602 dL_law_603 dL_law_604 dL_law_605 (k := 3) (by decide) (by omega) ?_
  refine gl_callR F (kX6_bound l D cT bd ρ n ns na hr.ir (xs (i + 1)) (xs (i + 2)) (xs (i + 3))) rfl tm_L_64 ti_yX6_bound ts_yX6_bound tn_X6 tc_yX6_bound (n0 := 3) (by decide +kernel) rfl ⟨rfl, rfl, Nat.le_of_ble_eq_true rfl, Nat.le_of_ble_eq_true rfl⟩ rfl (Nat.le_of_ble_eq_true rfl) dL_law_606 ?_
  exact gl_cmp F (tgt := 1274) dL_law_609 (by decide) key (KK _ _ _ _ _ hr')
set_option maxHeartbeats 4000000 in
set_option maxRecDepth 100000 in
theorem lc_holds (F : gFL p s m c D cT ad bd b L xs) (hr : RelN σ ρ n ns na) (hi : i + 6 < L) (KK : LE p l e s m below meth c D cT ad bd b i Q) : GL p l e s m below meth c D cT ad bd b Q σ ρ 614 (lvI b ad bd i) [] := by
  obtain ⟨key, n', ns', na', hr'⟩ := holds_rel hr (xs (i + 1)) (xs (i + 2))
  refine gl_a1 F dL_law_614 ?_
  refine gl_arg F dL_law_615 dL_law_616 dL_law_617 dL_law_618 dL_law_619 (k := 1) (by decide) (by omega) ?_
  refine gl_arg F dL_law_620 dL_law_621 dL_law_622 dL_law_623 dL_law_624 (k := 2) (by decide) (by omega) ?_
  refine gl_callC F (kX5_holds l D cT ad σ n ns na hr.ic (xs (i + 1)) (xs (i + 2))) rfl tm_L_65 ti_yX5_holds ts_yX5_holds tn_X5 tc_yX5_holds (n0 := 2) (by decide +kernel) rfl ⟨rfl, rfl, Nat.le_of_ble_eq_true rfl, Nat.le_of_ble_eq_true rfl⟩ rfl (Nat.le_of_ble_eq_true rfl) dL_law_625 ?_
  refine gl_a2 F dL_law_628 ?_
  refine gl_arg F dL_law_629 dL_law_630 dL_law_631 dL_law_632 dL_law_633 (k := 1) (by decide) (by omega) ?_
  refine gl_arg F dL_law_634 dL_law_635 dL_law_636 dL_law_637 dL_law_638 (k := 2) (by decide) (by omega) ?_
  refine gl_callR F (kX6_holds l D cT bd ρ n ns na hr.ir (xs (i + 1)) (xs (i + 2))) rfl tm_L_68 ti_yX6_holds ts_yX6_holds tn_X6 tc_yX6_holds (n0 := 2) (by decide +kernel) rfl ⟨rfl, rfl, Nat.le_of_ble_eq_true rfl, Nat.le_of_ble_eq_true rfl⟩ rfl (Nat.le_of_ble_eq_true rfl) dL_law_639 ?_
  exact gl_cmp F (tgt := 1274) dL_law_642 (by decide) key (KK _ _ _ _ _ hr')
set_option maxHeartbeats 4000000 in
set_option maxRecDepth 100000 in
theorem lc_owner (F : gFL p s m c D cT ad bd b L xs) (hr : RelN σ ρ n ns na) (hi : i + 6 < L) (KK : LE p l e s m below meth c D cT ad bd b i Q) : GL p l e s m below meth c D cT ad bd b Q σ ρ 647 (lvI b ad bd i) [] := by
  obtain ⟨key, n', ns', na', hr'⟩ := owner_rel hr (xs (i + 1)) (xs (i + 2))
  refine gl_a1 F dL_law_647 ?_
  refine gl_arg F dL_law_648 dL_law_649 dL_law_650 dL_law_651 dL_law_652 (k := 1) (by decide) (by omega) ?_
  refine gl_arg F dL_law_653 dL_law_654 dL_law_655 dL_law_656 dL_law_657 (k := 2) (by decide) (by omega) ?_
  refine gl_callC F (kX5_owner l D cT ad σ n ns na hr.ic (xs (i + 1)) (xs (i + 2))) rfl tm_L_69 ti_yX5_owner ts_yX5_owner tn_X5 tc_yX5_owner (n0 := 2) (by decide +kernel) rfl ⟨rfl, rfl, Nat.le_of_ble_eq_true rfl, Nat.le_of_ble_eq_true rfl⟩ rfl (Nat.le_of_ble_eq_true rfl) dL_law_658 ?_
  refine gl_a2 F dL_law_661 ?_
  refine gl_arg F dL_law_662 dL_law_663 dL_law_664 dL_law_665 dL_law_666 (k := 1) (by decide) (by omega) ?_
  refine gl_arg F dL_law_667 dL_law_668 dL_law_669 dL_law_670 dL_law_671 (k := 2) (by decide) (by omega) ?_
  refine gl_callR F (kX6_owner l D cT bd ρ n ns na hr.ir (xs (i + 1)) (xs (i + 2))) rfl tm_L_72 ti_yX6_owner ts_yX6_owner tn_X6 tc_yX6_owner (n0 := 2) (by decide +kernel) rfl ⟨rfl, rfl, Nat.le_of_ble_eq_true rfl, Nat.le_of_ble_eq_true rfl⟩ rfl (Nat.le_of_ble_eq_true rfl) dL_law_672 ?_
  exact gl_cmp F (tgt := 1274) dL_law_675 (by decide) key (KK _ _ _ _ _ hr')
set_option maxHeartbeats 4000000 in
set_option maxRecDepth 100000 in
theorem lc_worth (F : gFL p s m c D cT ad bd b L xs) (hr : RelN σ ρ n ns na) (hi : i + 6 < L) (KK : LE p l e s m below meth c D cT ad bd b i Q) : GL p l e s m below meth c D cT ad bd b Q σ ρ 680 (lvI b ad bd i) [] := by
  obtain ⟨key, n', ns', na', hr'⟩ := worth_rel hr (xs (i + 1)) (xs (i + 2))
  refine gl_a1 F dL_law_680 ?_
  refine gl_arg F dL_law_681 dL_law_682 dL_law_683 dL_law_684 dL_law_685 (k := 1) (by decide) (by omega) ?_
  refine gl_arg F dL_law_686 dL_law_687 dL_law_688 dL_law_689 dL_law_690 (k := 2) (by decide) (by omega) ?_
  refine gl_callC F (kX5_worth l D cT ad σ n ns na hr.ic (xs (i + 1)) (xs (i + 2))) rfl tm_L_73 ti_yX5_worth ts_yX5_worth tn_X5 tc_yX5_worth (n0 := 2) (by decide +kernel) rfl ⟨rfl, rfl, Nat.le_of_ble_eq_true rfl, Nat.le_of_ble_eq_true rfl⟩ rfl (Nat.le_of_ble_eq_true rfl) dL_law_691 ?_
  refine gl_a2 F dL_law_694 ?_
  refine gl_arg F dL_law_695 dL_law_696 dL_law_697 dL_law_698 dL_law_699 (k := 1) (by decide) (by omega) ?_
  refine gl_arg F dL_law_700 dL_law_701 dL_law_702 dL_law_703 dL_law_704 (k := 2) (by decide) (by omega) ?_
  refine gl_callR F (kX6_worth l D cT bd ρ n ns na hr.ir (xs (i + 1)) (xs (i + 2))) rfl tm_L_76 ti_yX6_worth ts_yX6_worth tn_X6 tc_yX6_worth (n0 := 2) (by decide +kernel) rfl ⟨rfl, rfl, Nat.le_of_ble_eq_true rfl, Nat.le_of_ble_eq_true rfl⟩ rfl (Nat.le_of_ble_eq_true rfl) dL_law_705 ?_
  exact gl_cmp F (tgt := 1274) dL_law_708 (by decide) key (KK _ _ _ _ _ hr')
set_option maxHeartbeats 4000000 in
set_option maxRecDepth 100000 in
theorem lc_wealth (F : gFL p s m c D cT ad bd b L xs) (hr : RelN σ ρ n ns na) (hi : i + 6 < L) (KK : LE p l e s m below meth c D cT ad bd b i Q) : GL p l e s m below meth c D cT ad bd b Q σ ρ 713 (lvI b ad bd i) [] := by
  obtain ⟨key, n', ns', na', hr'⟩ := wealth_rel hr (xs (i + 1)) (xs (i + 2))
  refine gl_a1 F dL_law_713 ?_
  refine gl_arg F dL_law_714 dL_law_715 dL_law_716 dL_law_717 dL_law_718 (k := 1) (by decide) (by omega) ?_
  refine gl_arg F dL_law_719 dL_law_720 dL_law_721 dL_law_722 dL_law_723 (k := 2) (by decide) (by omega) ?_
  refine gl_callC F (kX5_wealth l D cT ad σ n ns na hr.ic (xs (i + 1)) (xs (i + 2))) rfl tm_L_77 ti_yX5_wealth ts_yX5_wealth tn_X5 tc_yX5_wealth (n0 := 2) (by decide +kernel) rfl ⟨rfl, rfl, Nat.le_of_ble_eq_true rfl, Nat.le_of_ble_eq_true rfl⟩ rfl (Nat.le_of_ble_eq_true rfl) dL_law_724 ?_
  refine gl_a2 F dL_law_727 ?_
  refine gl_arg F dL_law_728 dL_law_729 dL_law_730 dL_law_731 dL_law_732 (k := 1) (by decide) (by omega) ?_
  refine gl_arg F dL_law_733 dL_law_734 dL_law_735 dL_law_736 dL_law_737 (k := 2) (by decide) (by omega) ?_
  refine gl_callR F (kX6_wealth l D cT bd ρ n ns na hr.ir (xs (i + 1)) (xs (i + 2))) rfl tm_L_80 ti_yX6_wealth ts_yX6_wealth tn_X6 tc_yX6_wealth (n0 := 2) (by decide +kernel) rfl ⟨rfl, rfl, Nat.le_of_ble_eq_true rfl, Nat.le_of_ble_eq_true rfl⟩ rfl (Nat.le_of_ble_eq_true rfl) dL_law_738 ?_
  exact gl_cmp F (tgt := 1274) dL_law_741 (by decide) key (KK _ _ _ _ _ hr')
set_option maxHeartbeats 4000000 in
set_option maxRecDepth 100000 in
theorem lc_quarrel (F : gFL p s m c D cT ad bd b L xs) (hr : RelN σ ρ n ns na) (hi : i + 6 < L) (KK : LE p l e s m below meth c D cT ad bd b i Q) : GL p l e s m below meth c D cT ad bd b Q σ ρ 746 (lvI b ad bd i) [] := by
  obtain ⟨key, n', ns', na', hr'⟩ := quarrel_rel hr (xs (i + 1)) (xs (i + 2)) (xs (i + 3))
  refine gl_a1 F dL_law_746 ?_
  refine gl_arg F dL_law_747 dL_law_748 dL_law_749 dL_law_750 dL_law_751 (k := 1) (by decide) (by omega) ?_
  refine gl_arg F dL_law_752 dL_law_753 dL_law_754 dL_law_755 dL_law_756 (k := 2) (by decide) (by omega) ?_
  refine gl_arg F dL_law_757 dL_law_758 dL_law_759 dL_law_760 dL_law_761 (k := 3) (by decide) (by omega) ?_
  refine gl_callC F (kX5_quarrel l D cT ad σ n ns na hr.ic (xs (i + 1)) (xs (i + 2)) (xs (i + 3))) rfl tm_L_81 ti_yX5_quarrel ts_yX5_quarrel tn_X5 tc_yX5_quarrel (n0 := 3) (by decide +kernel) rfl ⟨rfl, rfl, Nat.le_of_ble_eq_true rfl, Nat.le_of_ble_eq_true rfl⟩ rfl (Nat.le_of_ble_eq_true rfl) dL_law_762 ?_
  refine gl_a2 F dL_law_765 ?_
  refine gl_arg F dL_law_766 dL_law_767 dL_law_768 dL_law_769 dL_law_770 (k := 1) (by decide) (by omega) ?_
  refine gl_arg F dL_law_771 dL_law_772 dL_law_773 dL_law_774 dL_law_775 (k := 2) (by decide) (by omega) ?_
  refine gl_arg F dL_law_776 dL_law_777 dL_law_778 dL_law_779 dL_law_780 (k := 3) (by decide) (by omega) ?_
  refine gl_callR F (kX6_quarrel l D cT bd ρ n ns na hr.ir (xs (i + 1)) (xs (i + 2)) (xs (i + 3))) rfl tm_L_84 ti_yX6_quarrel ts_yX6_quarrel tn_X6 tc_yX6_quarrel (n0 := 3) (by decide +kernel) rfl ⟨rfl, rfl, Nat.le_of_ble_eq_true rfl, Nat.le_of_ble_eq_true rfl⟩ rfl (Nat.le_of_ble_eq_true rfl) dL_law_781 ?_
  exact gl_cmp F (tgt := 1274) dL_law_784 (by decide) key (KK _ _ _ _ _ hr')
set_option maxHeartbeats 4000000 in
set_option maxRecDepth 100000 in
theorem lc_weight (F : gFL p s m c D cT ad bd b L xs) (hr : RelN σ ρ n ns na) (hi : i + 6 < L) (KK : LE p l e s m below meth c D cT ad bd b i Q) : GL p l e s m below meth c D cT ad bd b Q σ ρ 789 (lvI b ad bd i) [] := by
  obtain ⟨key, n', ns', na', hr'⟩ := weight_rel hr (xs (i + 1)) (xs (i + 2)) (xs (i + 3))
  refine gl_a1 F dL_law_789 ?_
  refine gl_arg F dL_law_790 dL_law_791 dL_law_792 dL_law_793 dL_law_794 (k := 1) (by decide) (by omega) ?_
  refine gl_arg F dL_law_795 dL_law_796 dL_law_797 dL_law_798 dL_law_799 (k := 2) (by decide) (by omega) ?_
  refine gl_arg F dL_law_800 dL_law_801 dL_law_802 dL_law_803 dL_law_804 (k := 3) (by decide) (by omega) ?_
  refine gl_callC F (kX5_weight l D cT ad σ n ns na hr.ic (xs (i + 1)) (xs (i + 2)) (xs (i + 3))) rfl tm_L_85 ti_yX5_weight ts_yX5_weight tn_X5 tc_yX5_weight (n0 := 3) (by decide +kernel) rfl ⟨rfl, rfl, Nat.le_of_ble_eq_true rfl, Nat.le_of_ble_eq_true rfl⟩ rfl (Nat.le_of_ble_eq_true rfl) dL_law_805 ?_
  refine gl_a2 F dL_law_808 ?_
  refine gl_arg F dL_law_809 dL_law_810 dL_law_811 dL_law_812 dL_law_813 (k := 1) (by decide) (by omega) ?_
  refine gl_arg F dL_law_814 dL_law_815 dL_law_816 dL_law_817 dL_law_818 (k := 2) (by decide) (by omega) ?_
  refine gl_arg F dL_law_819 dL_law_820 dL_law_821 dL_law_822 dL_law_823 (k := 3) (by decide) (by omega) ?_
  refine gl_callR F (kX6_weight l D cT bd ρ n ns na hr.ir (xs (i + 1)) (xs (i + 2)) (xs (i + 3))) rfl tm_L_88 ti_yX6_weight ts_yX6_weight tn_X6 tc_yX6_weight (n0 := 3) (by decide +kernel) rfl ⟨rfl, rfl, Nat.le_of_ble_eq_true rfl, Nat.le_of_ble_eq_true rfl⟩ rfl (Nat.le_of_ble_eq_true rfl) dL_law_824 ?_
  exact gl_cmp F (tgt := 1274) dL_law_827 (by decide) key (KK _ _ _ _ _ hr')
set_option maxHeartbeats 4000000 in
set_option maxRecDepth 100000 in
theorem lc_split (F : gFL p s m c D cT ad bd b L xs) (hr : RelN σ ρ n ns na) (hi : i + 6 < L) (KK : LE p l e s m below meth c D cT ad bd b i Q) : GL p l e s m below meth c D cT ad bd b Q σ ρ 832 (lvI b ad bd i) [] := by
  obtain ⟨key, n', ns', na', hr'⟩ := split_rel hr 
  refine gl_a1 F dL_law_832 ?_
  refine gl_callC F (kX5_split l D cT ad σ n ns na hr.ic) rfl tm_L_89 ti_yX5_split ts_yX5_split tn_X5 tc_yX5_split (n0 := 0) (by decide +kernel) rfl ⟨rfl, rfl, Nat.le_of_ble_eq_true rfl, Nat.le_of_ble_eq_true rfl⟩ rfl (Nat.le_of_ble_eq_true rfl) dL_law_833 ?_
  refine gl_a2 F dL_law_836 ?_
  refine gl_callR F (kX6_split l D cT bd ρ n ns na hr.ir) rfl tm_L_93 ti_yX6_split ts_yX6_split tn_X6 tc_yX6_split (n0 := 0) (by decide +kernel) rfl ⟨rfl, rfl, Nat.le_of_ble_eq_true rfl, Nat.le_of_ble_eq_true rfl⟩ rfl (Nat.le_of_ble_eq_true rfl) dL_law_837 ?_
  exact gl_cmp F (tgt := 1274) dL_law_840 (by decide) key (KK _ _ _ _ _ hr')
set_option maxHeartbeats 4000000 in
set_option maxRecDepth 100000 in
theorem lc_ban (F : gFL p s m c D cT ad bd b L xs) (hr : RelN σ ρ n ns na) (hi : i + 6 < L) (KK : LE p l e s m below meth c D cT ad bd b i Q) : GL p l e s m below meth c D cT ad bd b Q σ ρ 845 (lvI b ad bd i) [] := by
  obtain ⟨key, n', ns', na', hr'⟩ := ban_rel hr (xs (i + 1))
  refine gl_a1 F dL_law_845 ?_
  refine gl_arg F dL_law_846 dL_law_847 dL_law_848 dL_law_849 dL_law_850 (k := 1) (by decide) (by omega) ?_
  refine gl_callC F (kX5_ban l D cT ad σ n ns na hr.ic (xs (i + 1))) rfl tm_L_94 ti_yX5_ban ts_yX5_ban tn_X5 tc_yX5_ban (n0 := 1) (by decide +kernel) rfl ⟨rfl, rfl, Nat.le_of_ble_eq_true rfl, Nat.le_of_ble_eq_true rfl⟩ rfl (Nat.le_of_ble_eq_true rfl) dL_law_851 ?_
  refine gl_a2 F dL_law_854 ?_
  refine gl_arg F dL_law_855 dL_law_856 dL_law_857 dL_law_858 dL_law_859 (k := 1) (by decide) (by omega) ?_
  refine gl_callR F (kX6_ban l D cT bd ρ n ns na hr.ir (xs (i + 1))) rfl tm_L_97 ti_yX6_ban ts_yX6_ban tn_X6 tc_yX6_ban (n0 := 1) (by decide +kernel) rfl ⟨rfl, rfl, Nat.le_of_ble_eq_true rfl, Nat.le_of_ble_eq_true rfl⟩ rfl (Nat.le_of_ble_eq_true rfl) dL_law_860 ?_
  exact gl_cmp F (tgt := 1274) dL_law_863 (by decide) key (KK _ _ _ _ _ hr')
set_option maxHeartbeats 4000000 in
set_option maxRecDepth 100000 in
theorem lc_feast (F : gFL p s m c D cT ad bd b L xs) (hr : RelN σ ρ n ns na) (hi : i + 6 < L) (KK : LE p l e s m below meth c D cT ad bd b i Q) : GL p l e s m below meth c D cT ad bd b Q σ ρ 868 (lvI b ad bd i) [] := by
  obtain ⟨key, n', ns', na', hr'⟩ := feast_rel hr (xs (i + 1)) (xs (i + 2)) (xs (i + 3))
  refine gl_a1 F dL_law_868 ?_
  refine gl_arg F dL_law_869 dL_law_870 dL_law_871 dL_law_872 dL_law_873 (k := 1) (by decide) (by omega) ?_
  refine gl_arg F dL_law_874 dL_law_875 dL_law_876 dL_law_877 dL_law_878 (k := 2) (by decide) (by omega) ?_
  refine gl_arg F dL_law_879 dL_law_880 dL_law_881 dL_law_882 dL_law_883 (k := 3) (by decide) (by omega) ?_
  refine gl_callC F (kX5_feast l D cT ad σ n ns na hr.ic (xs (i + 1)) (xs (i + 2)) (xs (i + 3))) rfl tm_L_98 ti_yX5_feast ts_yX5_feast tn_X5 tc_yX5_feast (n0 := 3) (by decide +kernel) rfl ⟨rfl, rfl, Nat.le_of_ble_eq_true rfl, Nat.le_of_ble_eq_true rfl⟩ rfl (Nat.le_of_ble_eq_true rfl) dL_law_884 ?_
  refine gl_a2 F dL_law_887 ?_
  refine gl_arg F dL_law_888 dL_law_889 dL_law_890 dL_law_891 dL_law_892 (k := 1) (by decide) (by omega) ?_
  refine gl_arg F dL_law_893 dL_law_894 dL_law_895 dL_law_896 dL_law_897 (k := 2) (by decide) (by omega) ?_
  refine gl_arg F dL_law_898 dL_law_899 dL_law_900 dL_law_901 dL_law_902 (k := 3) (by decide) (by omega) ?_
  refine gl_callR F (kX6_feast l D cT bd ρ n ns na hr.ir (xs (i + 1)) (xs (i + 2)) (xs (i + 3))) rfl tm_L_101 ti_yX6_feast ts_yX6_feast tn_X6 tc_yX6_feast (n0 := 3) (by decide +kernel) rfl ⟨rfl, rfl, Nat.le_of_ble_eq_true rfl, Nat.le_of_ble_eq_true rfl⟩ rfl (Nat.le_of_ble_eq_true rfl) dL_law_903 ?_
  exact gl_cmp F (tgt := 1274) dL_law_906 (by decide) key (KK _ _ _ _ _ hr')
set_option maxHeartbeats 4000000 in
set_option maxRecDepth 100000 in
theorem lc_kept (F : gFL p s m c D cT ad bd b L xs) (hr : RelN σ ρ n ns na) (hi : i + 6 < L) (KK : LE p l e s m below meth c D cT ad bd b i Q) : GL p l e s m below meth c D cT ad bd b Q σ ρ 911 (lvI b ad bd i) [] := by
  have key := kept_rel hr (xs (i + 1))
  refine gl_a1 F dL_law_911 ?_
  refine gl_arg F dL_law_912 dL_law_913 dL_law_914 dL_law_915 dL_law_916 (k := 1) (by decide) (by omega) ?_
  refine gl_callC F (kX5_kept l D cT ad σ n ns na hr.ic (xs (i + 1))) rfl tm_L_102 ti_yX5_kept ts_yX5_kept tn_X5 tc_yX5_kept (n0 := 1) (by decide +kernel) rfl ⟨rfl, rfl, Nat.le_of_ble_eq_true rfl, Nat.le_of_ble_eq_true rfl⟩ rfl (Nat.le_of_ble_eq_true rfl) dL_law_917 ?_
  refine gl_a2 F dL_law_920 ?_
  refine gl_arg F dL_law_921 dL_law_922 dL_law_923 dL_law_924 dL_law_925 (k := 1) (by decide) (by omega) ?_
  refine gl_callR F (kX6_kept l D cT bd ρ n ns na hr.ir (xs (i + 1))) rfl tm_L_105 ti_yX6_kept ts_yX6_kept tn_X6 tc_yX6_kept (n0 := 1) (by decide +kernel) rfl ⟨rfl, rfl, Nat.le_of_ble_eq_true rfl, Nat.le_of_ble_eq_true rfl⟩ rfl (Nat.le_of_ble_eq_true rfl) dL_law_926 ?_
  exact gl_cmp F (tgt := 1274) dL_law_929 (by decide) key (KK _ _ _ _ _ hr)
set_option maxHeartbeats 4000000 in
set_option maxRecDepth 100000 in
theorem lc_fewest (F : gFL p s m c D cT ad bd b L xs) (hr : RelN σ ρ n ns na) (hi : i + 6 < L) (KK : LE p l e s m below meth c D cT ad bd b i Q) : GL p l e s m below meth c D cT ad bd b Q σ ρ 934 (lvI b ad bd i) [] := by
  obtain ⟨key, n', ns', na', hr'⟩ := fewest_rel hr (xs (i + 1))
  refine gl_a1 F dL_law_934 ?_
  refine gl_arg F dL_law_935 dL_law_936 dL_law_937 dL_law_938 dL_law_939 (k := 1) (by decide) (by omega) ?_
  refine gl_callC F (kX5_fewest l D cT ad σ n ns na hr.ic (xs (i + 1))) rfl tm_L_106 ti_yX5_fewest ts_yX5_fewest tn_X5 tc_yX5_fewest (n0 := 1) (by decide +kernel) rfl ⟨rfl, rfl, Nat.le_of_ble_eq_true rfl, Nat.le_of_ble_eq_true rfl⟩ rfl (Nat.le_of_ble_eq_true rfl) dL_law_940 ?_
  refine gl_a2 F dL_law_943 ?_
  refine gl_arg F dL_law_944 dL_law_945 dL_law_946 dL_law_947 dL_law_948 (k := 1) (by decide) (by omega) ?_
  refine gl_callR F (kX6_fewest l D cT bd ρ n ns na hr.ir (xs (i + 1))) rfl tm_L_109 ti_yX6_fewest ts_yX6_fewest tn_X6 tc_yX6_fewest (n0 := 1) (by decide +kernel) rfl ⟨rfl, rfl, Nat.le_of_ble_eq_true rfl, Nat.le_of_ble_eq_true rfl⟩ rfl (Nat.le_of_ble_eq_true rfl) dL_law_949 ?_
  exact gl_cmp F (tgt := 1274) dL_law_952 (by decide) key (KK _ _ _ _ _ hr')
set_option maxHeartbeats 4000000 in
set_option maxRecDepth 100000 in
theorem lc_teller (F : gFL p s m c D cT ad bd b L xs) (hr : RelN σ ρ n ns na) (hi : i + 6 < L) (KK : LE p l e s m below meth c D cT ad bd b i Q) : GL p l e s m below meth c D cT ad bd b Q σ ρ 957 (lvI b ad bd i) [] := by
  obtain ⟨key, n', ns', na', hr'⟩ := teller_rel hr (xs (i + 1)) (xs (i + 2))
  refine gl_a1 F dL_law_957 ?_
  refine gl_arg F dL_law_958 dL_law_959 dL_law_960 dL_law_961 dL_law_962 (k := 1) (by decide) (by omega) ?_
  refine gl_arg F dL_law_963 dL_law_964 dL_law_965 dL_law_966 dL_law_967 (k := 2) (by decide) (by omega) ?_
  refine gl_callC F (kX5_teller l D cT ad σ n ns na hr.ic (xs (i + 1)) (xs (i + 2))) rfl tm_L_110 ti_yX5_teller ts_yX5_teller tn_X5 tc_yX5_teller (n0 := 2) (by decide +kernel) rfl ⟨rfl, rfl, Nat.le_of_ble_eq_true rfl, Nat.le_of_ble_eq_true rfl⟩ rfl (Nat.le_of_ble_eq_true rfl) dL_law_968 ?_
  refine gl_a2 F dL_law_971 ?_
  refine gl_arg F dL_law_972 dL_law_973 dL_law_974 dL_law_975 dL_law_976 (k := 1) (by decide) (by omega) ?_
  refine gl_arg F dL_law_977 dL_law_978 dL_law_979 dL_law_980 dL_law_981 (k := 2) (by decide) (by omega) ?_
  refine gl_callR F (kX6_teller l D cT bd ρ n ns na hr.ir (xs (i + 1)) (xs (i + 2))) rfl tm_L_113 ti_yX6_teller ts_yX6_teller tn_X6 tc_yX6_teller (n0 := 2) (by decide +kernel) rfl ⟨rfl, rfl, Nat.le_of_ble_eq_true rfl, Nat.le_of_ble_eq_true rfl⟩ rfl (Nat.le_of_ble_eq_true rfl) dL_law_982 ?_
  exact gl_cmp F (tgt := 1274) dL_law_985 (by decide) key (KK _ _ _ _ _ hr')
set_option maxHeartbeats 4000000 in
set_option maxRecDepth 100000 in
theorem lc_count (F : gFL p s m c D cT ad bd b L xs) (hr : RelN σ ρ n ns na) (hi : i + 6 < L) (KK : LE p l e s m below meth c D cT ad bd b i Q) : GL p l e s m below meth c D cT ad bd b Q σ ρ 990 (lvI b ad bd i) [] := by
  have key := count_rel hr (xs (i + 1))
  refine gl_a1 F dL_law_990 ?_
  refine gl_arg F dL_law_991 dL_law_992 dL_law_993 dL_law_994 dL_law_995 (k := 1) (by decide) (by omega) ?_
  refine gl_callC F (kX5_count l D cT ad σ n ns na hr.ic (xs (i + 1))) rfl tm_L_114 ti_yX5_count ts_yX5_count tn_X5 tc_yX5_count (n0 := 1) (by decide +kernel) rfl ⟨rfl, rfl, Nat.le_of_ble_eq_true rfl, Nat.le_of_ble_eq_true rfl⟩ rfl (Nat.le_of_ble_eq_true rfl) dL_law_996 ?_
  refine gl_a2 F dL_law_999 ?_
  refine gl_arg F dL_law_1000 dL_law_1001 dL_law_1002 dL_law_1003 dL_law_1004 (k := 1) (by decide) (by omega) ?_
  refine gl_callR F (kX6_count l D cT bd ρ n ns na hr.ir (xs (i + 1))) rfl tm_L_117 ti_yX6_count ts_yX6_count tn_X6 tc_yX6_count (n0 := 1) (by decide +kernel) rfl ⟨rfl, rfl, Nat.le_of_ble_eq_true rfl, Nat.le_of_ble_eq_true rfl⟩ rfl (Nat.le_of_ble_eq_true rfl) dL_law_1005 ?_
  exact gl_cmp F (tgt := 1274) dL_law_1008 (by decide) key (KK _ _ _ _ _ hr)
set_option maxHeartbeats 4000000 in
set_option maxRecDepth 100000 in
theorem lc_cross (F : gFL p s m c D cT ad bd b L xs) (hr : RelN σ ρ n ns na) (hi : i + 6 < L) (KK : LE p l e s m below meth c D cT ad bd b i Q) : GL p l e s m below meth c D cT ad bd b Q σ ρ 1013 (lvI b ad bd i) [] := by
  obtain ⟨key, n', ns', na', hr'⟩ := cross_rel hr (xs (i + 1))
  refine gl_a1 F dL_law_1013 ?_
  refine gl_arg F dL_law_1014 dL_law_1015 dL_law_1016 dL_law_1017 dL_law_1018 (k := 1) (by decide) (by omega) ?_
  refine gl_callC F (kX5_cross l D cT ad σ n ns na hr.ic (xs (i + 1))) rfl tm_L_118 ti_yX5_cross ts_yX5_cross tn_X5 tc_yX5_cross (n0 := 1) (by decide +kernel) rfl ⟨rfl, rfl, Nat.le_of_ble_eq_true rfl, Nat.le_of_ble_eq_true rfl⟩ rfl (Nat.le_of_ble_eq_true rfl) dL_law_1019 ?_
  refine gl_a2 F dL_law_1022 ?_
  refine gl_arg F dL_law_1023 dL_law_1024 dL_law_1025 dL_law_1026 dL_law_1027 (k := 1) (by decide) (by omega) ?_
  refine gl_callR F (kX6_cross l D cT bd ρ n ns na hr.ir (xs (i + 1))) rfl tm_L_121 ti_yX6_cross ts_yX6_cross tn_X6 tc_yX6_cross (n0 := 1) (by decide +kernel) rfl ⟨rfl, rfl, Nat.le_of_ble_eq_true rfl, Nat.le_of_ble_eq_true rfl⟩ rfl (Nat.le_of_ble_eq_true rfl) dL_law_1028 ?_
  exact gl_cmp F (tgt := 1274) dL_law_1031 (by decide) key (KK _ _ _ _ _ hr')
set_option maxHeartbeats 4000000 in
set_option maxRecDepth 100000 in
theorem lc_works (F : gFL p s m c D cT ad bd b L xs) (hr : RelN σ ρ n ns na) (hi : i + 6 < L) (KK : LE p l e s m below meth c D cT ad bd b i Q) : GL p l e s m below meth c D cT ad bd b Q σ ρ 1036 (lvI b ad bd i) [] := by
  obtain ⟨key, n', ns', na', hr'⟩ := works_rel hr (xs (i + 1)) (xs (i + 2)) (xs (i + 3))
  refine gl_a1 F dL_law_1036 ?_
  refine gl_arg F dL_law_1037 dL_law_1038 dL_law_1039 dL_law_1040 dL_law_1041 (k := 1) (by decide) (by omega) ?_
  refine gl_arg F dL_law_1042 dL_law_1043 dL_law_1044 dL_law_1045 dL_law_1046 (k := 2) (by decide) (by omega) ?_
  refine gl_arg F dL_law_1047 dL_law_1048 dL_law_1049 dL_law_1050 dL_law_1051 (k := 3) (by decide) (by omega) ?_
  refine gl_callC F (kX5_works l D cT ad σ n ns na hr.ic (xs (i + 1)) (xs (i + 2)) (xs (i + 3))) rfl tm_L_122 ti_yX5_works ts_yX5_works tn_X5 tc_yX5_works (n0 := 3) (by decide +kernel) rfl ⟨rfl, rfl, Nat.le_of_ble_eq_true rfl, Nat.le_of_ble_eq_true rfl⟩ rfl (Nat.le_of_ble_eq_true rfl) dL_law_1052 ?_
  refine gl_a2 F dL_law_1055 ?_
  refine gl_arg F dL_law_1056 dL_law_1057 dL_law_1058 dL_law_1059 dL_law_1060 (k := 1) (by decide) (by omega) ?_
  refine gl_arg F dL_law_1061 dL_law_1062 dL_law_1063 dL_law_1064 dL_law_1065 (k := 2) (by decide) (by omega) ?_
  refine gl_arg F dL_law_1066 dL_law_1067 dL_law_1068 dL_law_1069 dL_law_1070 (k := 3) (by decide) (by omega) ?_
  refine gl_callR F (kX6_works l D cT bd ρ n ns na hr.ir (xs (i + 1)) (xs (i + 2)) (xs (i + 3))) rfl tm_L_125 ti_yX6_works ts_yX6_works tn_X6 tc_yX6_works (n0 := 3) (by decide +kernel) rfl ⟨rfl, rfl, Nat.le_of_ble_eq_true rfl, Nat.le_of_ble_eq_true rfl⟩ rfl (Nat.le_of_ble_eq_true rfl) dL_law_1071 ?_
  exact gl_cmp F (tgt := 1274) dL_law_1074 (by decide) key (KK _ _ _ _ _ hr')
set_option maxHeartbeats 4000000 in
set_option maxRecDepth 100000 in
theorem lc_worked (F : gFL p s m c D cT ad bd b L xs) (hr : RelN σ ρ n ns na) (hi : i + 6 < L) (KK : LE p l e s m below meth c D cT ad bd b i Q) : GL p l e s m below meth c D cT ad bd b Q σ ρ 1079 (lvI b ad bd i) [] := by
  have key := worked_rel hr (xs (i + 1))
  refine gl_a1 F dL_law_1079 ?_
  refine gl_arg F dL_law_1080 dL_law_1081 dL_law_1082 dL_law_1083 dL_law_1084 (k := 1) (by decide) (by omega) ?_
  refine gl_callC F (kX5_worked l D cT ad σ n ns na hr.ic (xs (i + 1))) rfl tm_L_126 ti_yX5_worked ts_yX5_worked tn_X5 tc_yX5_worked (n0 := 1) (by decide +kernel) rfl ⟨rfl, rfl, Nat.le_of_ble_eq_true rfl, Nat.le_of_ble_eq_true rfl⟩ rfl (Nat.le_of_ble_eq_true rfl) dL_law_1085 ?_
  refine gl_a2 F dL_law_1088 ?_
  refine gl_arg F dL_law_1089 dL_law_1090 dL_law_1091 dL_law_1092 dL_law_1093 (k := 1) (by decide) (by omega) ?_
  refine gl_callR F (kX6_worked l D cT bd ρ n ns na hr.ir (xs (i + 1))) rfl tm_L_129 ti_yX6_worked ts_yX6_worked tn_X6 tc_yX6_worked (n0 := 1) (by decide +kernel) rfl ⟨rfl, rfl, Nat.le_of_ble_eq_true rfl, Nat.le_of_ble_eq_true rfl⟩ rfl (Nat.le_of_ble_eq_true rfl) dL_law_1094 ?_
  exact gl_cmp F (tgt := 1274) dL_law_1097 (by decide) key (KK _ _ _ _ _ hr)
set_option maxHeartbeats 4000000 in
set_option maxRecDepth 100000 in
theorem lc_sheet (F : gFL p s m c D cT ad bd b L xs) (hr : RelN σ ρ n ns na) (hi : i + 6 < L) (KK : LE p l e s m below meth c D cT ad bd b i Q) : GL p l e s m below meth c D cT ad bd b Q σ ρ 1102 (lvI b ad bd i) [] := by
  obtain ⟨key, n', ns', na', hr'⟩ := sheet_rel hr (xs (i + 1)) (xs (i + 2)) (xs (i + 3))
  refine gl_a1 F dL_law_1102 ?_
  refine gl_arg F dL_law_1103 dL_law_1104 dL_law_1105 dL_law_1106 dL_law_1107 (k := 1) (by decide) (by omega) ?_
  refine gl_arg F dL_law_1108 dL_law_1109 dL_law_1110 dL_law_1111 dL_law_1112 (k := 2) (by decide) (by omega) ?_
  refine gl_arg F dL_law_1113 dL_law_1114 dL_law_1115 dL_law_1116 dL_law_1117 (k := 3) (by decide) (by omega) ?_
  refine gl_callC F (kX5_sheet l D cT ad σ n ns na hr.ic (xs (i + 1)) (xs (i + 2)) (xs (i + 3))) rfl tm_L_130 ti_yX5_sheet ts_yX5_sheet tn_X5 tc_yX5_sheet (n0 := 3) (by decide +kernel) rfl ⟨rfl, rfl, Nat.le_of_ble_eq_true rfl, Nat.le_of_ble_eq_true rfl⟩ rfl (Nat.le_of_ble_eq_true rfl) dL_law_1118 ?_
  refine gl_a2 F dL_law_1121 ?_
  refine gl_arg F dL_law_1122 dL_law_1123 dL_law_1124 dL_law_1125 dL_law_1126 (k := 1) (by decide) (by omega) ?_
  refine gl_arg F dL_law_1127 dL_law_1128 dL_law_1129 dL_law_1130 dL_law_1131 (k := 2) (by decide) (by omega) ?_
  refine gl_arg F dL_law_1132 dL_law_1133 dL_law_1134 dL_law_1135 dL_law_1136 (k := 3) (by decide) (by omega) ?_
  refine gl_callR F (kX6_sheet l D cT bd ρ n ns na hr.ir (xs (i + 1)) (xs (i + 2)) (xs (i + 3))) rfl tm_L_133 ti_yX6_sheet ts_yX6_sheet tn_X6 tc_yX6_sheet (n0 := 3) (by decide +kernel) rfl ⟨rfl, rfl, Nat.le_of_ble_eq_true rfl, Nat.le_of_ble_eq_true rfl⟩ rfl (Nat.le_of_ble_eq_true rfl) dL_law_1137 ?_
  exact gl_cmp F (tgt := 1274) dL_law_1140 (by decide) key (KK _ _ _ _ _ hr')
set_option maxHeartbeats 4000000 in
set_option maxRecDepth 100000 in
theorem lc_drop (F : gFL p s m c D cT ad bd b L xs) (hr : RelN σ ρ n ns na) (hi : i + 6 < L) (KK : LE p l e s m below meth c D cT ad bd b i Q) : GL p l e s m below meth c D cT ad bd b Q σ ρ 1145 (lvI b ad bd i) [] := by
  obtain ⟨key, n', ns', na', hr'⟩ := drop_rel hr (xs (i + 1))
  refine gl_a1 F dL_law_1145 ?_
  refine gl_arg F dL_law_1146 dL_law_1147 dL_law_1148 dL_law_1149 dL_law_1150 (k := 1) (by decide) (by omega) ?_
  refine gl_callC F (kX5_drop l D cT ad σ n ns na hr.ic (xs (i + 1))) rfl tm_L_134 ti_yX5_drop ts_yX5_drop tn_X5 tc_yX5_drop (n0 := 1) (by decide +kernel) rfl ⟨rfl, rfl, Nat.le_of_ble_eq_true rfl, Nat.le_of_ble_eq_true rfl⟩ rfl (Nat.le_of_ble_eq_true rfl) dL_law_1151 ?_
  refine gl_a2 F dL_law_1154 ?_
  refine gl_arg F dL_law_1155 dL_law_1156 dL_law_1157 dL_law_1158 dL_law_1159 (k := 1) (by decide) (by omega) ?_
  refine gl_callR F (kX6_drop l D cT bd ρ n ns na hr.ir (xs (i + 1))) rfl tm_L_137 ti_yX6_drop ts_yX6_drop tn_X6 tc_yX6_drop (n0 := 1) (by decide +kernel) rfl ⟨rfl, rfl, Nat.le_of_ble_eq_true rfl, Nat.le_of_ble_eq_true rfl⟩ rfl (Nat.le_of_ble_eq_true rfl) dL_law_1160 ?_
  exact gl_cmp F (tgt := 1274) dL_law_1163 (by decide) key (KK _ _ _ _ _ hr')
set_option maxHeartbeats 4000000 in
set_option maxRecDepth 100000 in
theorem lc_item (F : gFL p s m c D cT ad bd b L xs) (hr : RelN σ ρ n ns na) (hi : i + 6 < L) (KK : LE p l e s m below meth c D cT ad bd b i Q) : GL p l e s m below meth c D cT ad bd b Q σ ρ 1168 (lvI b ad bd i) [] := by
  obtain ⟨key, n', ns', na', hr'⟩ := item_rel hr (xs (i + 1)) (xs (i + 2)) (xs (i + 3)) (xs (i + 4))
  refine gl_a1 F dL_law_1168 ?_
  refine gl_arg F dL_law_1169 dL_law_1170 dL_law_1171 dL_law_1172 dL_law_1173 (k := 1) (by decide) (by omega) ?_
  refine gl_arg F dL_law_1174 dL_law_1175 dL_law_1176 dL_law_1177 dL_law_1178 (k := 2) (by decide) (by omega) ?_
  refine gl_arg F dL_law_1179 dL_law_1180 dL_law_1181 dL_law_1182 dL_law_1183 (k := 3) (by decide) (by omega) ?_
  refine gl_arg F dL_law_1184 dL_law_1185 dL_law_1186 dL_law_1187 dL_law_1188 (k := 4) (by decide) (by omega) ?_
  refine gl_callC F (kX5_item l D cT ad σ n ns na hr.ic (xs (i + 1)) (xs (i + 2)) (xs (i + 3)) (xs (i + 4))) rfl tm_L_138 ti_yX5_item ts_yX5_item tn_X5 tc_yX5_item (n0 := 4) (by decide +kernel) rfl ⟨rfl, rfl, Nat.le_of_ble_eq_true rfl, Nat.le_of_ble_eq_true rfl⟩ rfl (Nat.le_of_ble_eq_true rfl) dL_law_1189 ?_
  refine gl_a2 F dL_law_1192 ?_
  refine gl_arg F dL_law_1193 dL_law_1194 dL_law_1195 dL_law_1196 dL_law_1197 (k := 1) (by decide) (by omega) ?_
  refine gl_arg F dL_law_1198 dL_law_1199 dL_law_1200 dL_law_1201 dL_law_1202 (k := 2) (by decide) (by omega) ?_
  refine gl_arg F dL_law_1203 dL_law_1204 dL_law_1205 dL_law_1206 dL_law_1207 (k := 3) (by decide) (by omega) ?_
  refine gl_arg F dL_law_1208 dL_law_1209 dL_law_1210 dL_law_1211 dL_law_1212 (k := 4) (by decide) (by omega) ?_
  refine gl_callR F (kX6_item l D cT bd ρ n ns na hr.ir (xs (i + 1)) (xs (i + 2)) (xs (i + 3)) (xs (i + 4))) rfl tm_L_142 ti_yX6_item ts_yX6_item tn_X6 tc_yX6_item (n0 := 4) (by decide +kernel) rfl ⟨rfl, rfl, Nat.le_of_ble_eq_true rfl, Nat.le_of_ble_eq_true rfl⟩ rfl (Nat.le_of_ble_eq_true rfl) dL_law_1213 ?_
  exact gl_cmp F (tgt := 1274) dL_law_1216 (by decide) key (KK _ _ _ _ _ hr')
set_option maxHeartbeats 4000000 in
set_option maxRecDepth 100000 in
theorem lc_acts (F : gFL p s m c D cT ad bd b L xs) (hr : RelN σ ρ n ns na) (hi : i + 6 < L) (KK : LE p l e s m below meth c D cT ad bd b i Q) : GL p l e s m below meth c D cT ad bd b Q σ ρ 1221 (lvI b ad bd i) [] := by
  obtain ⟨key, n', ns', na', hr'⟩ := acts_rel hr (xs (i + 1)) (xs (i + 2)) (xs (i + 3)) (xs (i + 4))
  refine gl_a1 F dL_law_1221 ?_
  refine gl_arg F dL_law_1222 dL_law_1223 dL_law_1224 dL_law_1225 dL_law_1226 (k := 1) (by decide) (by omega) ?_
  refine gl_arg F dL_law_1227 dL_law_1228 dL_law_1229 dL_law_1230 dL_law_1231 (k := 2) (by decide) (by omega) ?_
  refine gl_arg F dL_law_1232 dL_law_1233 dL_law_1234 dL_law_1235 dL_law_1236 (k := 3) (by decide) (by omega) ?_
  refine gl_arg F dL_law_1237 dL_law_1238 dL_law_1239 dL_law_1240 dL_law_1241 (k := 4) (by decide) (by omega) ?_
  refine gl_callC F (kX5_acts l D cT ad σ n ns na hr.ic (xs (i + 1)) (xs (i + 2)) (xs (i + 3)) (xs (i + 4))) rfl tm_L_143 ti_yX5_acts ts_yX5_acts tn_X5 tc_yX5_acts (n0 := 4) (by decide +kernel) rfl ⟨rfl, rfl, Nat.le_of_ble_eq_true rfl, Nat.le_of_ble_eq_true rfl⟩ rfl (Nat.le_of_ble_eq_true rfl) dL_law_1242 ?_
  refine gl_a2 F dL_law_1245 ?_
  refine gl_arg F dL_law_1246 dL_law_1247 dL_law_1248 dL_law_1249 dL_law_1250 (k := 1) (by decide) (by omega) ?_
  refine gl_arg F dL_law_1251 dL_law_1252 dL_law_1253 dL_law_1254 dL_law_1255 (k := 2) (by decide) (by omega) ?_
  refine gl_arg F dL_law_1256 dL_law_1257 dL_law_1258 dL_law_1259 dL_law_1260 (k := 3) (by decide) (by omega) ?_
  refine gl_arg F dL_law_1261 dL_law_1262 dL_law_1263 dL_law_1264 dL_law_1265 (k := 4) (by decide) (by omega) ?_
  refine gl_callR F (kX6_acts l D cT bd ρ n ns na hr.ir (xs (i + 1)) (xs (i + 2)) (xs (i + 3)) (xs (i + 4))) rfl tm_L_146 ti_yX6_acts ts_yX6_acts tn_X6 tc_yX6_acts (n0 := 4) (by decide +kernel) rfl ⟨rfl, rfl, Nat.le_of_ble_eq_true rfl, Nat.le_of_ble_eq_true rfl⟩ rfl (Nat.le_of_ble_eq_true rfl) dL_law_1266 ?_
  exact gl_cmp F (tgt := 1274) dL_law_1269 (by decide) key (KK _ _ _ _ _ hr')
theorem and31 (x : Int32) : ∃ j, j < 32 ∧ x &&& 31 = nI j := ⟨_, Nat.mod_lt _ (by decide), pk_and x (m := 31) 5 (by decide)⟩
set_option maxHeartbeats 4000000 in
set_option maxRecDepth 100000 in
/-- one call of the script -/
theorem law_case (F : gFL p s m c D cT ad bd b L xs) (hr : RelN σ ρ n ns na) (hi : i + 6 < L) (KK : LE p l e s m below meth c D cT ad bd b i Q) : GL p l e s m below meth c D cT ad bd b Q σ ρ 27 (lvI b ad bd i) [] := fun H locs ls hP hQ hS hl => by
  obtain ⟨⟨hx, hb, hml, hown, hts⟩, hGK, hA1, hA2, hdis, hX, hbl, hL⟩ := id F
  refine lv_aload_n hx hb dL_law_27 rfl (lv_at hl 0 rfl) ?_
  refine lv_iload_n hx hb dL_law_28 rfl (lv_at hl 3 rfl) ?_
  refine va_sld hx hb hX hbl (lw_notb hbl) hS (vp_in_nI (show i < L by omega) (by omega)) dL_law_29 ?_
  rw [nI_clamp (by omega)]
  refine lv_bipush (v := 31) hx hb dL_law_30 (by decide) ?_
  refine lv_iand hx hb dL_law_32 ?_
  obtain ⟨j, hj, ej⟩ := and31 (xs i)
  rw [ej]
  match j, hj with
  | 0, _ => exact lv_tableIn (off := 143) (tgt := 176) hx hb dL_law_33 (by decide) (by decide) (by decide) (by decide) (lc_person F hr hi KK H locs ls hP hQ hS hl)
  | 1, _ => exact lv_tableIn (off := 166) (tgt := 199) hx hb dL_law_33 (by decide) (by decide) (by decide) (by decide) (lc_years F hr hi KK H locs ls hP hQ hS hl)
  | 2, _ => exact lv_tableIn (off := 189) (tgt := 222) hx hb dL_law_33 (by decide) (by decide) (by decide) (by decide) (lc_dies F hr hi KK H locs ls hP hQ hS hl)
  | 3, _ => exact lv_tableIn (off := 212) (tgt := 245) hx hb dL_law_33 (by decide) (by decide) (by decide) (by decide) (lc_told F hr hi KK H locs ls hP hQ hS hl)
  | 4, _ => exact lv_tableIn (off := 245) (tgt := 278) hx hb dL_law_33 (by decide) (by decide) (by decide) (by decide) (lc_stone F hr hi KK H locs ls hP hQ hS hl)
  | 5, _ => exact lv_tableIn (off := 278) (tgt := 311) hx hb dL_law_33 (by decide) (by decide) (by decide) (by decide) (lc_moves F hr hi KK H locs ls hP hQ hS hl)
  | 6, _ => exact lv_tableIn (off := 311) (tgt := 344) hx hb dL_law_33 (by decide) (by decide) (by decide) (by decide) (lc_act F hr hi KK H locs ls hP hQ hS hl)
  | 7, _ => exact lv_tableIn (off := 386) (tgt := 419) hx hb dL_law_33 (by decide) (by decide) (by decide) (by decide) (lc_about F hr hi KK H locs ls hP hQ hS hl)
  | 8, _ => exact lv_tableIn (off := 419) (tgt := 452) hx hb dL_law_33 (by decide) (by decide) (by decide) (by decide) (lc_knows F hr hi KK H locs ls hP hQ hS hl)
  | 9, _ => exact lv_tableIn (off := 452) (tgt := 485) hx hb dL_law_33 (by decide) (by decide) (by decide) (by decide) (lc_tell F hr hi KK H locs ls hP hQ hS hl)
  | 10, _ => exact lv_tableIn (off := 495) (tgt := 528) hx hb dL_law_33 (by decide) (by decide) (by decide) (by decide) (lc_parts F hr hi KK H locs ls hP hQ hS hl)
  | 11, _ => exact lv_tableIn (off := 538) (tgt := 571) hx hb dL_law_33 (by decide) (by decide) (by decide) (by decide) (lc_bound F hr hi KK H locs ls hP hQ hS hl)
  | 12, _ => exact lv_tableIn (off := 581) (tgt := 614) hx hb dL_law_33 (by decide) (by decide) (by decide) (by decide) (lc_holds F hr hi KK H locs ls hP hQ hS hl)
  | 13, _ => exact lv_tableIn (off := 614) (tgt := 647) hx hb dL_law_33 (by decide) (by decide) (by decide) (by decide) (lc_owner F hr hi KK H locs ls hP hQ hS hl)
  | 14, _ => exact lv_tableIn (off := 647) (tgt := 680) hx hb dL_law_33 (by decide) (by decide) (by decide) (by decide) (lc_worth F hr hi KK H locs ls hP hQ hS hl)
  | 15, _ => exact lv_tableIn (off := 680) (tgt := 713) hx hb dL_law_33 (by decide) (by decide) (by decide) (by decide) (lc_wealth F hr hi KK H locs ls hP hQ hS hl)
  | 16, _ => exact lv_tableIn (off := 713) (tgt := 746) hx hb dL_law_33 (by decide) (by decide) (by decide) (by decide) (lc_quarrel F hr hi KK H locs ls hP hQ hS hl)
  | 17, _ => exact lv_tableIn (off := 756) (tgt := 789) hx hb dL_law_33 (by decide) (by decide) (by decide) (by decide) (lc_weight F hr hi KK H locs ls hP hQ hS hl)
  | 18, _ => exact lv_tableIn (off := 799) (tgt := 832) hx hb dL_law_33 (by decide) (by decide) (by decide) (by decide) (lc_split F hr hi KK H locs ls hP hQ hS hl)
  | 19, _ => exact lv_tableIn (off := 812) (tgt := 845) hx hb dL_law_33 (by decide) (by decide) (by decide) (by decide) (lc_ban F hr hi KK H locs ls hP hQ hS hl)
  | 20, _ => exact lv_tableIn (off := 835) (tgt := 868) hx hb dL_law_33 (by decide) (by decide) (by decide) (by decide) (lc_feast F hr hi KK H locs ls hP hQ hS hl)
  | 21, _ => exact lv_tableIn (off := 878) (tgt := 911) hx hb dL_law_33 (by decide) (by decide) (by decide) (by decide) (lc_kept F hr hi KK H locs ls hP hQ hS hl)
  | 22, _ => exact lv_tableIn (off := 901) (tgt := 934) hx hb dL_law_33 (by decide) (by decide) (by decide) (by decide) (lc_fewest F hr hi KK H locs ls hP hQ hS hl)
  | 23, _ => exact lv_tableIn (off := 924) (tgt := 957) hx hb dL_law_33 (by decide) (by decide) (by decide) (by decide) (lc_teller F hr hi KK H locs ls hP hQ hS hl)
  | 24, _ => exact lv_tableIn (off := 957) (tgt := 990) hx hb dL_law_33 (by decide) (by decide) (by decide) (by decide) (lc_count F hr hi KK H locs ls hP hQ hS hl)
  | 25, _ => exact lv_tableIn (off := 980) (tgt := 1013) hx hb dL_law_33 (by decide) (by decide) (by decide) (by decide) (lc_cross F hr hi KK H locs ls hP hQ hS hl)
  | 26, _ => exact lv_tableIn (off := 1003) (tgt := 1036) hx hb dL_law_33 (by decide) (by decide) (by decide) (by decide) (lc_works F hr hi KK H locs ls hP hQ hS hl)
  | 27, _ => exact lv_tableIn (off := 1046) (tgt := 1079) hx hb dL_law_33 (by decide) (by decide) (by decide) (by decide) (lc_worked F hr hi KK H locs ls hP hQ hS hl)
  | 28, _ => exact lv_tableIn (off := 1069) (tgt := 1102) hx hb dL_law_33 (by decide) (by decide) (by decide) (by decide) (lc_sheet F hr hi KK H locs ls hP hQ hS hl)
  | 29, _ => exact lv_tableIn (off := 1112) (tgt := 1145) hx hb dL_law_33 (by decide) (by decide) (by decide) (by decide) (lc_drop F hr hi KK H locs ls hP hQ hS hl)
  | 30, _ => exact lv_tableIn (off := 1135) (tgt := 1168) hx hb dL_law_33 (by decide) (by decide) (by decide) (by decide) (lc_item F hr hi KK H locs ls hP hQ hS hl)
  | 31, _ => exact lv_tableIn (off := 1188) (tgt := 1221) hx hb dL_law_33 (by decide) (by decide) (by decide) (by decide) (lc_acts F hr hi KK H locs ls hP hQ hS hl)
  | k + 32, hk => exact absurd hk (by omega)
end LW
set_option maxHeartbeats 4000000 in
set_option maxRecDepth 100000 in
/-- the law's loop -/
theorem law_loop {p : Program} {l : Launch} {e : Env} {s : State} {m : MethodId} {below : List Frame} {meth : Method} {c : Code} {D : va_G} {cT : Nat → ClassId} {ad bd : Nat → Nat} {b L : Nat} {xs : Nat → Int32} (hret : meth.sig.returnType = ret) (hlocks : meth.locks = false) (F : gFL p s m c D cT ad bd b L xs) :
    ∀ (c0 i : Nat), L < i + 7 * c0 → i ≤ L → ∀ (σ ρ : sS) (n ns na : Nat), RelN σ ρ n ns na → GL p l e s m below meth c D cT ad bd b (lw_Z below #[Value.ref b] s) σ ρ 18 (lvI b ad bd i) []
  | c0, i, hc, hiL, σ, ρ, n, ns, na, hr, H, locs, ls, hP, hQ, hS, hl => by
    obtain ⟨⟨hx, hb, hml, hown, hts⟩, hGK, hA1, hA2, hdis, hX, hbl, hL⟩ := id F
    refine lv_iload_n hx hb dL_law_18 rfl (lv_at hl 3 rfl) ?_
    refine lv_aload_n hx hb dL_law_19 rfl (lv_at hl 0 rfl) ?_
    refine va_slen hx hb hX hbl (lw_notb hbl) hS dL_law_20 ?_
    refine lv_bipush (v := nI 7) hx hb dL_law_21 (by decide) ?_
    refine lv_isub hx hb dL_law_23 ?_
    have e7 : (Int32.ofNat L - nI 7).toInt = (L : Int) - 7 := pk_sub_toInt (a := L) (b := 7) (by omega) (by decide)
    refine lv_icmp_gt (tgt := 1280) hx hb dL_law_24 (by decide) (fun k => ?_) (fun k => ?_)
    · refine lv_iconst (v := 1) hx hb dL_law_1280 (by decide) ?_
      refine va_forget (fun q hq => hS.2.2 q hq) ?_
      refine W.widen (k := 600000) (n := 7302250) (Nat.le_of_ble_eq_true rfl) (Nat.le_of_ble_eq_true rfl) ?_
      exact lw_ret hx hb hret hlocks dL_law_1281
    · rw [Int32.lt_iff_toInt_lt, e7, nI_toInt (by omega)] at k
      cases c0 with
      | zero => omega
      | succ c0 =>
        refine law_case F hr (by omega) (fun σ' ρ' n' ns' na' hr' H locs ls hP hQ hS hl => ?_) H locs ls hP hQ hS hl
        refine lv_iinc (v := nI (i + 7)) (lv' := [(3, .int (nI (i + 7))), (0, .ref b), (1, .ref (ad 0)), (2, .ref (bd 0))]) hx hb dL_law_1274 hl (k := 3) rfl (nI_add i 7) (by decide) rfl (fun ls hl => ?_)
        refine lv_goto (tgt := 18) hx hb dL_law_1277 (by decide) ?_
        exact law_loop hret hlocks F c0 (i + 7) (by omega) (by omega) σ' ρ' n' ns' na' hr' H locs ls hP hQ hS (lv_sub hl [1, 2, 3, 0] rfl)
