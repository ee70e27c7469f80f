def bq_cls : Nat → String
  | 0 => "java/lang/IllegalArgumentException"
  | 1 => "java/lang/IllegalStateException"
  | _ => "java/lang/IndexOutOfBoundsException"
section BQX
variable {p : Program} {l : Launch} {e : Env} {R : Room} {s : State} {m : MethodId} {args : Array Value} {below : List Frame} {meth : Method} {c : Code} {H : Heap} {locs : List Loc} {cells slots : Nat} {Q : State → Prop}
variable {cc : ByteArray} {pc nL : Nat} {ls : Array Slot} {rest st0 : List Value} {D : va_G} {A : Nat → Prop} {a : Nat} {ws wc : va_W} {H0 : Heap} {own : String} {cI cJ : ClassId}
variable {y : MethodName} {bytes : ByteArray} {maxL n index : Nat} {ret : Option FieldType} {rm : Room} {As : List Value} {res : Option Value}
def bq_NC (U : State) : Prop := va_Nc "java/lang/IllegalStateException" "java/lang/IllegalArgumentException" U ∧ va_Nc "java/lang/IllegalArgumentException" "java/lang/IndexOutOfBoundsException" U ∧ va_Nc "java/lang/IllegalStateException" "java/lang/IndexOutOfBoundsException" U
theorem bq_NCm {s U : State} (h : s.vm.Alike U.vm) (hN : bq_NC s) : bq_NC U := ⟨hN.1.moved h, hN.2.1.moved h, hN.2.2.moved h⟩
/-- what a throw needs of the heap and of the constant pools: two statics of Throwable, the texts -/
def bq_XS (A : Nat → Prop) (U : State) : Prop := vx_Zq Bundle.tN "UNASSIGNED_STACK" Bundle.steD A U U.heap ∧ vx_Zq Bundle.tN "SUPPRESSED_SENTINEL" Bundle.listD A U U.heap ∧ (∀ q ∈ lw_strs, ∃ sa : Nat, vk_R q.1 q.2.1 q.2.2 sa U) ∧ bq_NC U
theorem bq_XSat {U : State} (h : bq_XS A s) (hS : va_S A s.heap H locs) (hF : ∀ q, va_A wc H.size q → A q) (hU : U.heap = H) (hW : s.WarmedH U.vm) : bq_XS (va_A wc H.size) U := by
  subst hU
  exact ⟨((h.1.kept (fun a h1 h2 => hS.2.1 a h1 h2)).narrow hF).moved hW.alike, ((h.2.1.kept (fun a h1 h2 => hS.2.1 a h1 h2)).narrow hF).moved hW.alike, fun q hq => (h.2.2.1 q hq).imp (fun sa h => vk_R.warm hW h), bq_NCm hW.alike h.2.2.2⟩
def bq_XC (D : va_G) (wc : va_W) (cls : String) (A : Nat → Prop) : String → State → State → Prop := fun E st t => E = cls ∧ va_P D vwCl wc t.heap ∧ va_D A wc ∧ va_F A st t
def bq_No : Array Value → State → Outcome → State → Prop := fun _ _ _ _ => False
def bq_PcX (D : va_G) (cI cJ : ClassId) (av : List Value) (wc : va_W) (sz : Nat) : Array Value → State → Prop := va_Pc av (fun U => U.heap.size = sz ∧ va_P D vwCl wc U.heap ∧ bq_K D cI cJ U ∧ va_D (fun _ => True) wc ∧ bq_XS (va_A wc sz) U)
/-- with these arguments the method throws cls, its cells are as they were -/
def bq_MT (l : Launch) (D : va_G) (cI cJ : ClassId) (y : MethodName) (bytes : ByteArray) (maxL : Nat) (ret : Option FieldType) (rm : Room) (av : List Value) (wc : va_W) (cls : String) : Prop :=
  ∀ sz : Nat, vx_Met l y (Cond.code y bytes maxL ret :: lw_good) rm (bq_PcX D cI cJ av wc sz) bq_No (bq_XC D wc cls (va_A wc sz)) rm.cells rm.slots (va_A wc sz)
theorem bq_startT {av : List Value} {cls : String} (hy : plainName y.cls = true) (hlen : (lg_sl av).length ≤ maxL)
    (body : ∀ (p : Program) (e : Env) (s : State) (m : MethodId) (av9 : Array Value) (below : List Frame) (meth : Method) (c : Code) (A : Nat → Prop) (ls : Array Slot) (Q : State → Prop) (H : Heap) (locs : List Loc), bq_E p m c bytes maxL s av9 y.cls → bq_K D cI cJ s → bq_w D A s.heap wc H locs → (∀ q : Nat, s.heap.size ≤ q → A q) → (∀ x ∈ c.exceptionTable.toList, False) → meth.locks = false → bq_XS A s → Q = vx_MQ below bq_No (bq_XC D wc cls A) av9 s rm.cells rm.slots A → lv_has ls maxL (lv_args 0 av) →
      W p l e rm s m av9 below meth c H locs 0 0 Q (F0 m 0 ls [])) : bq_MT l D cI cJ y bytes maxL ret rm av wc cls := by
  intro sz
  refine vx_ofW (cc := bytes) (maxL := maxL) (ret := ret) hy rfl ?_
  intro p e s m args below meth c s₁ B hml hnt hv
  obtain ⟨rfl, hsz, hP, hK, hD0, hX⟩ := hv
  have hts := atoms_spec (ws := Cond.code y bytes maxL ret :: lw_good) B.pre
  subst hsz
  have hl := lv_entry av (n := maxL) hlen
  rw [lg_entry_eq]
  exact body p e s m _ below meth c (va_A wc s.heap.size) _ _ s.heap [] ⟨B.exec, B.bytes, hml, findClass_of_methodNamed B.named, fun w h => hts w (List.mem_cons_of_mem _ h)⟩ hK ⟨hP, hD0.self, va_S.rf⟩ (fun q h => Or.inr h) hnt B.notSynchronized hX rfl hl
theorem bq_throw (hlf : l.stackTraces = false) (E : bq_E p m c cc nL s args own) (K : bq_K D cI cJ s) (w : bq_w D A s.heap wc H locs) (hX : bq_XS A s) (hnt : ∀ x ∈ c.exceptionTable.toList, False) (hk : meth.locks = false) {cls text : String} {ik is ic : Nat} {names : List String}
    (hQ : Q = vx_MQ below bq_No (bq_XC D wc cls A) args s (0 + 1) (0 + 6) A) (hf : Bundle.fit cls = true) (hnf : ∀ n ∈ names, Bundle.fit n = true) (hcl : Cond.classLink own ik cls ∈ lw_good) (hini : Cond.initialized cls ∈ lw_good) (hstr : (own, is, text) ∈ lw_strs)
    (h1 : ∀ w ∈ (vx_atS own ic cls names).filter goodWord, w ∈ lw_good) (h2 : ∀ w ∈ (vx_atS own ic cls names).filter (fun w => !goodWord w), w ∈ lw_nest) (hg : ∀ w ∈ Cond.classLink own ik cls :: Cond.initialized cls :: vx_atS own ic cls names, vx_ot w = true) (hsz : ls.size = nL)
    (d0 : decode cc pc = .ok (.new ik, 3)) (d3 : decode cc (pc + 3) = .ok (.dup, 1)) (d4 : decode cc (pc + 4) = .ok (.ldc is, 2)) (d6 : decode cc (pc + 6) = .ok (.invokespecial ic, 3)) (d9 : decode cc (pc + 9) = .ok (.athrow, 1))
    (r1 : names.length + 3 < R.frames) (r2 : (rest.map fun v => v.category).sum + (13 * (names.length + 1) + 43) ≤ R.locals) (r3 : 0 + 1 ≤ R.cells) (r4 : 0 + 6 ≤ R.slots) : W p l e R s m args below meth c H locs 0 0 Q (F0 m pc ls rest) := by
  subst hQ
  obtain ⟨sa, hsa⟩ := hX.2.2.1 _ hstr
  refine vx_throwS E.1 E.2.1 hlf E.2.2.2.1 hf hnf (E.2.2.2.2 _ hcl) (E.2.2.2.2 _ hini) hsa (vx_hat (B := lw_nest) (fun w h => E.2.2.2.2 _ (h1 w h)) h2 (fun w h => va_Nw.use (lw_nest_ot w h) (K.2 w h))) hg hX.1 hX.2.1 w.2.2 (hsz.trans E.2.2.1.symm) d0 d3 d4 d6 d9 (fun x h => (hnt x h).elim) r1 r2 r3 r4 hk ?_ w.2.2.2.2 (Nat.le_refl _) (Nat.le_refl _)
  exact fun t hal hsz9 hsame => ⟨rfl, w.1.kept (fun k q hq => hsame q.1 (w.1 k q hq).lt), w.2.1, Nat.le_trans w.2.2.1 hsz9, fun q h1 h2 => (hsame q (Nat.lt_of_lt_of_le h1 w.2.2.1)).trans (w.2.2.2.1 q h1 h2)⟩
theorem bq_throwW (hlf : l.stackTraces = false) (E : bq_E p m c cc nL s args own) (K : bq_K D cI cJ s) (w : bq_w D A s.heap wc H locs) (hX : bq_XS A s) (hnt : ∀ x ∈ c.exceptionTable.toList, False) (hk : meth.locks = false) {cls text : String} {ik is ic : Nat} {names : List String}
    (hQ : Q = vx_MQ below bq_No (bq_XC D wc cls A) args s (0 + 1) (0 + 6) A) (hf : Bundle.fit cls = true) (hnf : ∀ n ∈ names, Bundle.fit n = true) (hcl : Cond.classLink own ik cls ∈ lw_good) (hini : Cond.initialized cls ∈ lw_good) (hstr : (own, is, text) ∈ lw_strs)
    (h1 : ∀ w ∈ (vx_atS own ic cls names).filter goodWord, w ∈ lw_good) (h2 : ∀ w ∈ (vx_atS own ic cls names).filter (fun w => !goodWord w), w ∈ lw_nest) (hg : ∀ w ∈ Cond.classLink own ik cls :: Cond.initialized cls :: vx_atS own ic cls names, vx_ot w = true) (hsz : ls.size = nL)
    (d0 : decode cc pc = .ok (.new ik, 3)) (d3 : decode cc (pc + 3) = .ok (.dup, 1)) (d4 : decode cc (pc + 4) = .ok (.ldc_w is, 3)) (d6 : decode cc (pc + 7) = .ok (.invokespecial ic, 3)) (d9 : decode cc (pc + 10) = .ok (.athrow, 1))
    (r1 : names.length + 3 < R.frames) (r2 : (rest.map fun v => v.category).sum + (13 * (names.length + 1) + 43) ≤ R.locals) (r3 : 0 + 1 ≤ R.cells) (r4 : 0 + 6 ≤ R.slots) : W p l e R s m args below meth c H locs 0 0 Q (F0 m pc ls rest) := by
  subst hQ
  obtain ⟨sa, hsa⟩ := hX.2.2.1 _ hstr
  refine vx_throwSW E.1 E.2.1 hlf E.2.2.2.1 hf hnf (E.2.2.2.2 _ hcl) (E.2.2.2.2 _ hini) hsa (vx_hat (B := lw_nest) (fun w h => E.2.2.2.2 _ (h1 w h)) h2 (fun w h => va_Nw.use (lw_nest_ot w h) (K.2 w h))) hg hX.1 hX.2.1 w.2.2 (hsz.trans E.2.2.1.symm) d0 d3 d4 d6 d9 (fun x h => (hnt x h).elim) r1 r2 r3 r4 hk ?_ w.2.2.2.2 (Nat.le_refl _) (Nat.le_refl _)
  exact fun t hal hsz9 hsame => ⟨rfl, w.1.kept (fun k q hq => hsame q.1 (w.1 k q hq).lt), w.2.1, Nat.le_trans w.2.2.1 hsz9, fun q h1 h2 => (hsame q (Nat.lt_of_lt_of_le h1 w.2.2.1)).trans (w.2.2.2.1 q h1 h2)⟩
theorem bq_blindT {av : List Value} {sz : Nat} : FrameBlind (bq_PcX D cI cJ av wc sz) := fun a U g mk q => by
  obtain ⟨q0, q1, qP, qK, qD, qX⟩ := q
  exact ⟨q0, q1, qP, bq_Ksame (s := U) (U := U.calling g mk a) rfl qK, qD, qX.1.moved (Vm.Alike.refl U.vm), qX.2.1.moved (Vm.Alike.refl U.vm), fun q hq => (qX.2.2.1 q hq).imp (fun sa h => vk_R.same rfl h), bq_NCm (Vm.Alike.refl U.vm) qX.2.2.2⟩
theorem bq_contT {cls : String} {as1 : Array Value} (w : bq_w D A s.heap ws H locs) (hA : ∀ q, s.heap.size ≤ q → A q) (hc : bq_cut ws wc wc ws) (hX : bq_XS A s) (hnt : ∀ x ∈ c.exceptionTable.toList, False) (hk : meth.locks = false)
    (hr : va_P D vwCl wc H → va_D (fun _ => True) wc → (∀ U : State, U.heap = H → s.WarmedH U.vm → bq_XS (va_A wc H.size) U) → vx_Run p l e R s m args below meth c H locs 0 0 1 6 (F0 m pc ls st0) rest (bq_No as1) (bq_XC D wc cls (va_A wc H.size)) (va_A wc H.size))
    (hQ : Q = vx_MQ below bq_No (bq_XC D ws cls A) args s (0 + 1) (0 + 6) A) : W p l e R s m args below meth c H locs 0 0 Q (F0 m pc ls st0) := by
  subst hQ
  obtain ⟨isC, isR, isP, rfl, hC, hR, hnC, hnR, hdis, e9, hp, hnP⟩ := hc
  have hC := bq_pick_map hC
  have hR := bq_pick_map hR
  have hp := bq_pick_map hp
  have hdis : ∀ i ∈ isR, i ∉ isC := fun i hi => of_decide_eq_true (List.all_eq_true.mp hdis i hi)
  have hF := va_free w.2.1 w.2.2 hA isC hC
  have hDc : va_D A (bq_pick ws isC) := w.2.1.sub isC hnC hC
  have hPc : va_P D vwCl (bq_pick ws isC) H := w.1.sub isC rfl
  intro T hT X
  rcases hr hPc (hDc.weaken (fun _ _ _ _ => trivial)) (fun U hU hW => bq_XSat hX w.2.2 hF hU hW) T hT X with ⟨v, st₀, t, T', L, h0, X', hL, e1, e2, hno, st⟩ | ⟨q, st₀, t, T', L, E, ce, h0, X', hL, e1, e2, ⟨rfl, hP1, hD1, hF1⟩, hce, hcv, hcl, st⟩
  · exact hno.elim
  · obtain ⟨g1, g2, g3⟩ := vx_keep h0 e1 w.2.2 (fun q _ h => hF q h) hF hL hF1
    have hP1 : va_P D vwCl (bq_pick ws isC) T'.heap := by rw [e1]; exact hP1
    obtain ⟨hP2, hD2⟩ := va_join w.1 w.2.1 isC isR hC hR hnR hdis g2 hF hP1 hD1
    have hP3 : va_P D vwCl ws T'.heap := by rw [e9]; exact hP2.sub isP rfl
    obtain ⟨t2, a1, b1⟩ := vx_out (Qc := bq_No) (XC := bq_XC D ws E A) (free := A) (pc := pc) (ls := ls) (rest := rest) (fun x h => (hnt x h).elim) hk (by rw [e1]; exact hce) hcv hcl (fun t ht _ => ⟨rfl, by rw [ht]; exact hP3, w.2.1, g3.F ht⟩) g3.2.2 (Nat.le_refl _) (Nat.le_refl _) T' rfl X'
    exact ⟨t2, st.trans a1, b1⟩
theorem bq_TV {cls : String} (E : bq_E p m c cc nL s args own) (K : bq_K D cI cJ s) (w : bq_w D A s.heap ws H locs) (hA : ∀ q, s.heap.size ≤ q → A q) (hX : bq_XS A s) (hnt : ∀ x ∈ c.exceptionTable.toList, False) (hk : meth.locks = false) {b : Nat} {C : String} (hrm : rm.cells = 1 ∧ rm.slots = 6)
    (M : bq_MT l D cI cJ y bytes maxL ret rm (.ref b :: As) wc cls) (G : GoodIn lw_good (wsV own index C y (Cond.code y bytes maxL ret :: lw_good))) (hd : y.cls = C ∧ y.cls ≠ "java/lang/invoke/MethodHandle" ∧ y.cls ≠ "java/lang/invoke/VarHandle" ∧ (parseMethodDescriptor y.desc).map (fun d => d.parameters.length) = some n)
    (hR : rm.frames + 1 ≤ R.frames ∧ 8 + (maxL + 11) + rm.locals ≤ R.locals) (hf : 0 + 1 ≤ R.cells ∧ 0 + 6 ≤ R.slots) (hc : bq_cut ws wc wc ws) (q0 : Nat) {ci N : Nat} {T : u_T} {fs : List Value} (he : ws[q0]? = some (b, .inr (ci, fs))) (hci : vwCl[ci]? = some (C, T, N)) (hn : As.length = n) (hsz : ls.size = nL) (hst : st0 = As.reverse ++ .ref b :: rest) (hW : (rest.map fun v => v.category).sum ≤ 8) (hdg : decode cc pc = .ok (.invokevirtual index, 3))
    (hQ : Q = vx_MQ below bq_No (bq_XC D ws cls A) args s (0 + 1) (0 + 6) A) : W p l e R s m args below meth c H locs 0 0 Q (F0 m pc ls st0) :=
  bq_contT w hA hc hX hnt hk (fun hPc hDc hXc => vx_runV E (hrm.1 ▸ hrm.2 ▸ M H.size) (cwV n E.2.2.2.2 G rfl hrm.1 hrm.2 hd hR) ⟨bq_blindT, va_recv K.1 w.1 hci he, fun U hU hW => ⟨rfl, by rw [hU], by rw [hU]; exact hPc, bq_Kmoved hW K, hDc, hXc U hU hW⟩⟩ rfl hn hsz hst (lv_room hW) hdg hf) hQ
theorem bq_TS {cls : String} (E : bq_E p m c cc nL s args own) (K : bq_K D cI cJ s) (w : bq_w D A s.heap ws H locs) (hA : ∀ q, s.heap.size ≤ q → A q) (hX : bq_XS A s) (hnt : ∀ x ∈ c.exceptionTable.toList, False) (hk : meth.locks = false) (hrm : rm.cells = 1 ∧ rm.slots = 6)
    (M : bq_MT l D cI cJ y bytes maxL ret rm As wc cls) (hcd : Cond.code y bytes maxL ret ∈ lw_good) (hml : Cond.methodLink own index y ∈ lw_good) (hini : Cond.initialized y.cls ∈ lw_good) (hstt : Cond.static y ∈ lw_good) (hd : y.cls ≠ "java/lang/invoke/MethodHandle" ∧ y.cls ≠ "java/lang/invoke/VarHandle" ∧ (parseMethodDescriptor y.desc).map (fun d => d.parameters.length) = some n)
    (hR : rm.frames + 1 ≤ R.frames ∧ 8 + (maxL + 11) + rm.locals ≤ R.locals) (hf : 0 + 1 ≤ R.cells ∧ 0 + 6 ≤ R.slots) (hc : bq_cut ws wc wc ws) (hn : As.length = n) (hsz : ls.size = nL) (hst : st0 = As.reverse ++ rest) (hW : (rest.map fun v => v.category).sum ≤ 8) (hdg : decode cc pc = .ok (.invokestatic index, 3))
    (hQ : Q = vx_MQ below bq_No (bq_XC D ws cls A) args s (0 + 1) (0 + 6) A) : W p l e R s m args below meth c H locs 0 0 Q (F0 m pc ls st0) :=
  bq_contT w hA hc hX hnt hk (fun hPc hDc hXc => vx_runS E (hrm.1 ▸ hrm.2 ▸ M H.size) ⟨callB_of n E.2.2.2.2 (bq_gC hcd) rfl hrm.1 hrm.2 (E.2.2.2.2 _ hini) (E.2.2.2.2 _ hml) hd hR, E.2.2.2.2 _ hstt⟩ ⟨bq_blindT, fun U hU hW => ⟨rfl, by rw [hU], by rw [hU]; exact hPc, bq_Kmoved hW K, hDc, hXc U hU hW⟩⟩ rfl hn hsz hst (lv_room hW) hdg hf) hQ
end BQX
section BQI
variable {p : Program} {l : Launch} {e : Env} {R : Room} {s : State} {m : MethodId} {args : Array Value} {below : List Frame} {meth : Method} {c : Code} {H : Heap} {locs : List Loc} {cells slots : Nat} {Q : State → Prop}
variable {cc : ByteArray} {pc nL : Nat} {ls : Array Slot} {rest st0 : List Value} {D : va_G} {A : Nat → Prop} {a : Nat} {ws wc : va_W} {H0 : Heap} {own : String} {cI cJ : ClassId}
variable {y : MethodName} {bytes : ByteArray} {maxL n index : Nat} {rm : Room} {As : List Value} {wp : va_W → Prop}
theorem bq_newa (E : bq_E p m c cc nL s args own) (K : bq_K D cI cJ s) (w : bq_w D A H0 ws H locs) (hA : ∀ q, H0.size ≤ q → A q) {n : Int32} (k : Nat) (hn : ¬ n < 0) (hk : n.toNatClampNeg = k) (hby : k * componentBytes .int ≤ 536870912) (hc : cells + 1 ≤ R.cells) (hs : slots + k ≤ R.slots) (hdg : decode cc pc = .ok (.newarray .int, 2))
    (kk : ∀ (q : Nat) (H1 : Heap), bq_w D A H0 (ws ++ [(q, .inl (cI, k, .inl bq_z0))]) H1 locs → W p l e R s m args below meth c H1 locs (cells + 1) (slots + k) Q (F0 m (pc + 2) ls (.ref q :: rest))) : W p l e R s m args below meth c H locs cells slots Q (F0 m pc ls (.int n :: rest)) := by
  refine va_newa (atype := .int) (a0 := (k, .inl bq_z0)) E.1 E.2.1 (E.2.2.2.2 _ ac_int) (ty := .int) rfl K.1 w.1 w.2.1 w.2.2 hA (fun cA => rfl) hn hk hby hc hs hdg (fun q cA H1 hK h1 h2 h3 => ?_)
  have e1 : s.vm.findClass ("[" ++ FieldType.int.toString) = some cA := (hK.2 2 _ rfl).2
  have e2 : s.vm.findClass ("[" ++ FieldType.int.toString) = some cI := (K.1.2 0 _ rfl).2
  rw [e2] at e1
  cases e1
  exact kk q H1 ⟨h1, h2, h3⟩
theorem bq_obj (E : bq_E p m c cc nL s args own) (hml : Cond.methodLink own index Lib.objectInit ∈ lw_good) (hsz : ls.size = nL) (hdg : decode cc pc = .ok (.invokespecial index, 3)) (hfr : 1 ≤ R.frames) (hlo : (rest.map fun v => v.category).sum + 12 ≤ R.locals)
    (kk : W p l e R s m args below meth c H locs cells slots Q (F0 m (pc + 3) ls rest)) : W p l e R s m args below meth c H locs cells slots Q (F0 m pc ls (.ref a :: rest)) :=
  W.objInit E.1 E.2.1 E.2.2.2.1 (E.2.2.2.2 _ hml) (E.2.2.2.2 _ im_obj) (E.2.2.2.2 _ cd_obj) rfl (hsz.trans E.2.2.1.symm) rfl hdg hfr (by show 2 * 0 + _ + 12 ≤ _; omega) kk
def bq_QcC (D : va_G) (wp : va_W → Prop) (A : Nat → Prop) : Array Value → State → Outcome → State → Prop := fun _ st oc t => (oc = .returned none ∧ ∃ wc' : va_W, wp wc' ∧ va_P D vwCl wc' t.heap ∧ va_D A wc') ∧ va_F A st t
def bq_MC (l : Launch) (D : va_G) (cI cJ : ClassId) (y : MethodName) (bytes : ByteArray) (maxL : Nat) (rm : Room) (av : List Value) (wc : va_W) (wp : va_W → Prop) : Prop :=
  ∀ sz : Nat, Met l y (Cond.code y bytes maxL none :: lw_good) rm (bq_Pc D cI cJ av wc sz) (bq_QcC D wp (va_A wc sz)) rm.cells rm.slots (va_A wc sz)
theorem bq_startC {av : List Value} (hy : plainName y.cls = true) (hlen : (lg_sl av).length ≤ maxL)
    (body : ∀ (p : Program) (e : Env) (s : State) (m : MethodId) (av9 : Array Value) (below : List Frame) (meth : Method) (c : Code) (A : Nat → Prop) (ls : Array Slot) (Q : State → Prop) (H : Heap) (locs : List Loc), bq_E p m c bytes maxL s av9 y.cls → bq_K D cI cJ s → bq_w D A s.heap wc H locs → (∀ q : Nat, s.heap.size ≤ q → A q) → meth.sig.returnType = none → meth.locks = false → meth.name = y.name → Q = MQ below (bq_QcC D wp A) av9 s rm.cells rm.slots A → lv_has ls maxL (lv_args 0 av) →
      W p l e rm s m av9 below meth c H locs 0 0 Q (F0 m 0 ls [])) : bq_MC l D cI cJ y bytes maxL rm av wc wp := by
  intro sz
  refine Met.ofW (cc := bytes) (maxL := maxL) (ret := none) hy rfl ?_
  intro p e s m args below meth c s₁ B hml hv
  obtain ⟨rfl, hsz, hP, hK, hD0⟩ := hv
  have hts := atoms_spec (ws := Cond.code y bytes maxL none :: lw_good) B.pre
  subst hsz
  have hl := lv_entry av (n := maxL) hlen
  rw [lg_entry_eq]
  exact body p e s m _ below meth c (va_A wc s.heap.size) _ _ s.heap [] ⟨B.exec, B.bytes, hml, findClass_of_methodNamed B.named, fun w h => hts w (List.mem_cons_of_mem _ h)⟩ hK ⟨hP, hD0.self, va_S.rf⟩ (fun q h => Or.inr h) B.returns B.notSynchronized (name_of_methodNamed B.named B.method).1 rfl hl
theorem bq_cret (E : bq_E p m c cc nL s args own) {wc' : va_W} (w : bq_w D A s.heap wc' H locs) (hr : meth.sig.returnType = none) (hk : meth.locks = false) (hdg : decode cc pc = .ok (.return_, 1)) (hQ : Q = MQ below (bq_QcC D wp A) args s cells slots A) (hwp : wp wc') : W p l e R s m args below meth c H locs cells slots Q (F0 m pc ls []) := by
  subst hQ
  exact W.vret E.1 E.2.1 hr (fun t ht _ => ⟨⟨rfl, wc', hwp, by rw [ht]; exact w.1, w.2.1⟩, w.2.2.F ht⟩) w.2.2.2.2 hdg hk
theorem bq_contC {A1 : Nat → Prop} {mc ms : Nat} {free : Addr → Prop} {av : Array Value} (hr : va_Run p l e R s m args below meth c H locs cells slots mc ms (F0 m pc ls st0) rest (bq_QcC D wp A1 av) free) (hS : va_S A H0 H locs) (hA : ∀ q, A1 q → A q) (hf : ∀ q, free q → A q)
    (kk : ∀ (wc' : va_W) (H1 : Heap) (locs1 : List Loc), wp wc' → va_P D vwCl wc' H1 → va_D A1 wc' → (∀ q : Nat, q < H.size → ¬ A1 q → H1[q]? = H[q]?) → va_S A H0 H1 locs1 → W p l e R s m args below meth c H1 locs1 (cells + mc) (slots + ms) Q (F0 m (pc + 3) ls rest)) : W p l e R s m args below meth c H locs cells slots Q (F0 m pc ls st0) := by
  intro T hT X
  obtain ⟨v, st₀, t, T', L, h0, X', hL, e1, e2, ⟨⟨hv, wc', hwp, hp, hd⟩, hz, hk⟩, st⟩ := hr T hT X
  cases hv
  rw [h0] at hz hk
  obtain ⟨t2, a1, b1⟩ := kk wc' T'.heap (locs ++ L) hwp (by rw [e1]; exact hp) hd (fun q h1 h2 => by rw [e1]; exact hk q h1 h2)
    ⟨Nat.le_trans hS.1 (by rw [e1]; exact hz), fun q h1 h2 => by rw [e1, hk q (Nat.lt_of_lt_of_le h1 hS.1) (fun z => h2 (hA q z))]; exact hS.2.1 q h1 h2, fun q hq => by
      rcases List.mem_append.mp hq with h | h
      · exact hS.2.2 q h
      · exact hf _ (hL q h)⟩ T' rfl X'
  exact ⟨t2, st t2 a1, b1⟩
theorem bq_backC (w : bq_w D A H0 ws H locs) (hA : ∀ q, H0.size ≤ q → A q) (isC isR : List Nat) (e1 : wc = bq_pick ws isC) (hC : isC.all (fun i => decide (i < ws.length)) = true) (hR : isR.all (fun i => decide (i < ws.length)) = true) (hnC : va_nd isC = true) (hnR : va_nd isR = true) (hdis : isR.all (fun i => decide (i ∉ isC)) = true) {as1 : Array Value}
    (hr : va_P D vwCl wc H → va_D (fun _ => True) wc → va_Run p l e R s m args below meth c H locs cells slots rm.cells rm.slots (F0 m pc ls st0) rest (bq_QcC D wp (va_A wc H.size) as1) (va_A wc H.size))
    (kk : ∀ (wc' : va_W) (H1 : Heap) (locs1 : List Loc), wp wc' → bq_w D A H0 (bq_pick ws isR ++ wc') H1 locs1 → W p l e R s m args below meth c H1 locs1 (cells + rm.cells) (slots + rm.slots) Q (F0 m (pc + 3) ls rest)) : W p l e R s m args below meth c H locs cells slots Q (F0 m pc ls st0) := by
  subst e1
  have hC := bq_pick_map hC
  have hR := bq_pick_map hR
  have hdis : ∀ i ∈ isR, i ∉ isC := fun i hi => of_decide_eq_true (List.all_eq_true.mp hdis i hi)
  have hF := va_free w.2.1 w.2.2 hA isC hC
  have hDc : va_D A (bq_pick ws isC) := w.2.1.sub isC hnC hC
  have hPc : va_P D vwCl (bq_pick ws isC) H := w.1.sub isC rfl
  refine bq_contC (hr hPc (hDc.weaken (fun _ _ _ _ => trivial))) w.2.2 hF hF (fun wc' H1 locs1 hwp hP1 hD1 hk hS1 => kk wc' H1 locs1 hwp ?_)
  obtain ⟨hP2, hD2⟩ := va_join w.1 w.2.1 isC isR hC hR hnR hdis hk hF hP1 hD1
  exact ⟨hP2, hD2, hS1⟩
theorem bq_I (E : bq_E p m c cc nL s args own) (K : bq_K D cI cJ s) (w : bq_w D A s.heap ws H locs) (hA : ∀ q, s.heap.size ≤ q → A q) {b : Nat}
    (M : bq_MC l D cI cJ y bytes maxL rm (.ref b :: As) wc wp) (hcd : Cond.code y bytes maxL none ∈ lw_good) (hml : Cond.methodLink own index y ∈ lw_good) (hini : Cond.initialized y.cls ∈ lw_good) (him : Cond.instanceMethod y ∈ lw_good) (hd : y.cls ≠ "java/lang/invoke/MethodHandle" ∧ y.cls ≠ "java/lang/invoke/VarHandle" ∧ y.name = "<init>" ∧ (parseMethodDescriptor y.desc).map (fun d => d.parameters.length) = some n)
    (hR : rm.frames + 1 ≤ R.frames ∧ 8 + (maxL + 11) + rm.locals ≤ R.locals) (hf : cells + rm.cells ≤ R.cells ∧ slots + rm.slots ≤ R.slots) (isC isR : List Nat) (e1 : wc = bq_pick ws isC) (hC : isC.all (fun i => decide (i < ws.length)) = true) (hR2 : isR.all (fun i => decide (i < ws.length)) = true) (hnC : va_nd isC = true) (hnR : va_nd isR = true) (hdis : isR.all (fun i => decide (i ∉ isC)) = true)
    (hn : As.length = n) (hsz : ls.size = nL) (hst : st0 = As.reverse ++ .ref b :: rest) (hW : (rest.map fun v => v.category).sum ≤ 8) (hdg : decode cc pc = .ok (.invokespecial index, 3))
    (kk : ∀ (wc' : va_W) (H1 : Heap) (locs1 : List Loc), wp wc' → bq_w D A s.heap (bq_pick ws isR ++ wc') H1 locs1 → W p l e R s m args below meth c H1 locs1 (cells + rm.cells) (slots + rm.slots) Q (F0 m (pc + 3) ls rest)) : W p l e R s m args below meth c H locs cells slots Q (F0 m pc ls st0) :=
  bq_backC w hA isC isR e1 hC hR2 hnC hnR hdis (fun hPc hDc => va_runI E (M H.size) (cwI n E.2.2.2.2 (bq_gC hcd) rfl rfl rfl (E.2.2.2.2 _ hini) (E.2.2.2.2 _ hml) (E.2.2.2.2 _ him) hd.2.2.1 ⟨hd.1, hd.2.1, hd.2.2.2⟩ hR) ⟨bq_blind, fun U hU hW => ⟨rfl, by rw [hU], by rw [hU]; exact hPc, bq_Kmoved hW K, hDc⟩⟩ rfl hn hsz hst (lv_room hW) hdg hf) kk
theorem bq_IN (E : bq_E p m c cc nL s args own) (K : bq_K D cI cJ s) (w : bq_w D A s.heap ws H locs) (hA : ∀ q, s.heap.size ≤ q → A q) {b : Nat} {host : String}
    (M : bq_MC l D cI cJ y bytes maxL rm (.ref b :: As) wc wp) (hcd : Cond.code y bytes maxL none ∈ lw_good) (hml : Cond.methodLinkNest own index y host ∈ lw_nest) (hini : Cond.initialized y.cls ∈ lw_good) (him : Cond.instanceMethod y ∈ lw_good) (hd : y.cls ≠ "java/lang/invoke/MethodHandle" ∧ y.cls ≠ "java/lang/invoke/VarHandle" ∧ y.name = "<init>" ∧ (parseMethodDescriptor y.desc).map (fun d => d.parameters.length) = some n)
    (hR : rm.frames + 1 ≤ R.frames ∧ 8 + (maxL + 11) + rm.locals ≤ R.locals) (hf : cells + rm.cells ≤ R.cells ∧ slots + rm.slots ≤ R.slots) (isC isR : List Nat) (e1 : wc = bq_pick ws isC) (hC : isC.all (fun i => decide (i < ws.length)) = true) (hR2 : isR.all (fun i => decide (i < ws.length)) = true) (hnC : va_nd isC = true) (hnR : va_nd isR = true) (hdis : isR.all (fun i => decide (i ∉ isC)) = true)
    (hn : As.length = n) (hsz : ls.size = nL) (hst : st0 = As.reverse ++ .ref b :: rest) (hW : (rest.map fun v => v.category).sum ≤ 8) (hdg : decode cc pc = .ok (.invokespecial index, 3))
    (kk : ∀ (wc' : va_W) (H1 : Heap) (locs1 : List Loc), wp wc' → bq_w D A s.heap (bq_pick ws isR ++ wc') H1 locs1 → W p l e R s m args below meth c H1 locs1 (cells + rm.cells) (slots + rm.slots) Q (F0 m (pc + 3) ls rest)) : W p l e R s m args below meth c H locs cells slots Q (F0 m pc ls st0) :=
  bq_backC w hA isC isR e1 hC hR2 hnC hnR hdis (fun hPc hDc => va_runIN E (M H.size) ⟨va_cnB n E.2.2.2.2 (bq_gC hcd) rfl rfl rfl (K.2 _ hml) (E.2.2.2.2 _ hini) ⟨hd.1, hd.2.1, hd.2.2.2⟩ hR, hd.2.2.1, E.2.2.2.2 _ him⟩ ⟨bq_blind, fun U hU hW => ⟨rfl, by rw [hU], by rw [hU]; exact hPc, bq_Kmoved hW K, hDc⟩⟩ rfl hn hsz hst (lv_room hW) hdg hf) kk
end BQI
section BQH
variable {p : Program} {l : Launch} {e : Env} {R : Room} {s : State} {m : MethodId} {args : Array Value} {below : List Frame} {meth : Method} {c : Code} {H : Heap} {locs : List Loc} {cells slots : Nat} {Q : State → Prop}
variable {cc : ByteArray} {pc nL : Nat} {ls : Array Slot} {rest st0 : List Value} {D : va_G} {A : Nat → Prop} {a : Nat} {ws wc wc' ws' : va_W} {H0 : Heap} {own : String} {cI cJ : ClassId}
variable {y : MethodName} {bytes : ByteArray} {maxL n index : Nat} {ret : Option FieldType} {rm : Room} {As : List Value} {res : Option Value} {hh : List (Nat × Nat × Nat × Nat)}
abbrev oJ (cJ : ClassId) (n : Nat) (f : Nat → Int64) : va_E := .inl (cJ, n, .inr (.inl f))
theorem bq_laldk (E : bq_E p m c cc nL s args own) (K : bq_K D cI cJ s) (w : bq_w D A H0 ws H locs) (q0 : Nat) {n : Nat} {f : Nat → Int64} (ha : ws[q0]? = some (a, .inl (cJ, n, .inr (.inl f)))) {i : Int32} (k : Nat) (hk : i.toNatClampNeg = k) (hin : vp_in i n) (hdg : decode cc pc = .ok (.laload, 1))
    (kk : W p l e R s m args below meth c H locs cells slots Q (F0 m (pc + 1) ls (.long (f k) :: rest))) : W p l e R s m args below meth c H locs cells slots Q (F0 m pc ls (.int i :: .ref a :: rest)) := by
  subst hk
  exact va_lald E.1 E.2.1 K.1 w.1 q0 1 ha rfl hin hdg kk
theorem bq_lastk (E : bq_E p m c cc nL s args own) (K : bq_K D cI cJ s) (w : bq_w D A H0 ws H locs) (q0 : Nat) {n : Nat} {f : Nat → Int64} (ha : ws[q0]? = some (a, .inl (cJ, n, .inr (.inl f)))) {i : Int32} {x : Int64} (k : Nat) (hk : i.toNatClampNeg = k) (hin : vp_in i n) (hdg : decode cc pc = .ok (.lastore, 1))
    (kk : ∀ (H1 : Heap) (locs1 : List Loc), bq_w D A H0 (ws.set q0 (a, .inl (cJ, n, .inr (.inl (vp_updL f k x))))) H1 locs1 → W p l e R s m args below meth c H1 locs1 cells slots Q (F0 m (pc + 1) ls rest)) : W p l e R s m args below meth c H locs cells slots Q (F0 m pc ls (.long x :: .int i :: .ref a :: rest)) := by
  subst hk
  exact va_last E.1 E.2.1 K.1 w.1 w.2.1 w.2.2 q0 1 ha rfl hin hdg (fun H1 locs1 h1 h2 h3 => kk H1 locs1 ⟨h1, h2, h3⟩)
def bq_NX : String → State → State → Prop := fun _ _ _ => False
/-- a method with a table of its own: it returns -/
def bq_MH (l : Launch) (D : va_G) (cI cJ : ClassId) (y : MethodName) (bytes : ByteArray) (maxL : Nat) (ret : Option FieldType) (hh : List (Nat × Nat × Nat × Nat)) (rm : Room) (av : List Value) (wc wc' : va_W) (res : Option Value) : Prop :=
  ∀ sz : Nat, vx_Met l y (Cond.codeWith y bytes maxL ret hh :: lw_good) rm (bq_PcX D cI cJ av wc sz) (bq_Qc D wc' res (va_A wc sz)) bq_NX rm.cells rm.slots (va_A wc sz)
theorem bq_startH {av : List Value} (hy : plainName y.cls = true) (hlen : (lg_sl av).length ≤ maxL)
    (body : ∀ (p : Program) (e : Env) (s : State) (m : MethodId) (av9 : Array Value) (below : List Frame) (meth : Method) (c : Code) (A : Nat → Prop) (ls : Array Slot) (Q : State → Prop) (H : Heap) (locs : List Loc), bq_E p m c bytes maxL s av9 y.cls → bq_K D cI cJ s → bq_w D A s.heap wc H locs → (∀ q : Nat, s.heap.size ≤ q → A q) → meth.sig.returnType = ret → meth.locks = false → bq_XS A s → c.exceptionTable.toList = tableOf hh → Q = vx_MQ below (bq_Qc D wc' res A) bq_NX av9 s rm.cells rm.slots A → lv_has ls maxL (lv_args 0 av) →
      W p l e rm s m av9 below meth c H locs 0 0 Q (F0 m 0 ls [])) : bq_MH l D cI cJ y bytes maxL ret hh rm av wc wc' res := by
  intro sz
  refine vx_ofWH (cc := bytes) (maxL := maxL) (ret := ret) (hh := hh) hy rfl ?_
  intro p e s m args below meth c s₁ B hml hv
  obtain ⟨rfl, hsz, hP, hK, hD0, hX⟩ := hv
  have hts := atoms_spec (ws := Cond.codeWith y bytes maxL ret hh :: lw_good) B.pre
  subst hsz
  have hl := lv_entry av (n := maxL) hlen
  rw [lg_entry_eq]
  exact body p e s m _ below meth c (va_A wc s.heap.size) _ _ s.heap [] ⟨B.exec, B.bytes, hml, findClass_of_methodNamed B.named, fun w h => hts w (List.mem_cons_of_mem _ h)⟩ hK ⟨hP, hD0.self, va_S.rf⟩ (fun q h => Or.inr h) B.returns B.notSynchronized hX (vx_table (x := y) B (hts _ List.mem_cons_self)) rfl hl
theorem bq_hret (E : bq_E p m c cc nL s args own) (w : bq_w D A s.heap wc' H locs) (hr : meth.sig.returnType = some .int) (hk : meth.locks = false) {v : Int32} (hdg : decode cc pc = .ok (.ireturn, 1)) (hQ : Q = vx_MQ below (bq_Qc D wc' (some (.int v)) A) bq_NX args s cells slots A) : W p l e R s m args below meth c H locs cells slots Q (F0 m pc ls [.int v]) := by
  subst hQ
  exact vx_ret (W.iret E.1 E.2.1 hr (fun t ht _ => ⟨⟨rfl, by rw [ht]; exact w.1, w.2.1⟩, w.2.2.F ht⟩) w.2.2.2.2 hdg hk)
theorem bq_HV {cls : String} (E : bq_E p m c cc nL s args own) (K : bq_K D cI cJ s) (w : bq_w D A s.heap ws H locs) (hA : ∀ q, s.heap.size ≤ q → A q) (hX : bq_XS A s) {b : Nat} {C : String} (hrm : rm.cells = 1 ∧ rm.slots = 6)
    (M : bq_MT l D cI cJ y bytes maxL ret rm (.ref b :: As) wc cls) (G : GoodIn lw_good (wsV own index C y (Cond.code y bytes maxL ret :: lw_good))) (hd : y.cls = C ∧ y.cls ≠ "java/lang/invoke/MethodHandle" ∧ y.cls ≠ "java/lang/invoke/VarHandle" ∧ (parseMethodDescriptor y.desc).map (fun d => d.parameters.length) = some n)
    (hR : rm.frames + 1 ≤ R.frames ∧ 8 + (maxL + 11) + rm.locals ≤ R.locals) (hf : 0 + 1 ≤ R.cells ∧ 0 + 6 ≤ R.slots) (hc : bq_cut ws wc wc ws) (q0 : Nat) {ci N : Nat} {T : u_T} {fs : List Value} (he : ws[q0]? = some (b, .inr (ci, fs))) (hci : vwCl[ci]? = some (C, T, N)) (hn : As.length = n) (hsz : ls.size = nL) (hst : st0 = As.reverse ++ .ref b :: rest) (hW : (rest.map fun v => v.category).sum ≤ 8) (hdg : decode cc pc = .ok (.invokevirtual index, 3))
    (kx : ∀ (q : Addr) (ce : Cell) (H1 : Heap) (locs1 : List Loc), bq_w D A s.heap ws H1 locs1 → H1[q]? = some ce → ce.vm = .none → s.vm.findClass cls = some ce.cls → vx_W p l e R s m args below meth c H1 locs1 (0 + 1) (0 + 6) Q (F0 m pc ls rest) q) : W p l e R s m args below meth c H locs 0 0 Q (F0 m pc ls st0) := by
  obtain ⟨isC, isR, isP, rfl, hC, hR2, hnC, hnR, hdis, e9, hp, hnP⟩ := hc
  have hC := bq_pick_map hC
  have hR2 := bq_pick_map hR2
  have hp := bq_pick_map hp
  have hdis : ∀ i ∈ isR, i ∉ isC := fun i hi => of_decide_eq_true (List.all_eq_true.mp hdis i hi)
  have hF := va_free w.2.1 w.2.2 hA isC hC
  have hDc : va_D A (bq_pick ws isC) := w.2.1.sub isC hnC hC
  have hPc : va_P D vwCl (bq_pick ws isC) H := w.1.sub isC rfl
  have hr := vx_runV (rest := rest) (g := F0 m pc ls st0) (e := e) (below := below) (meth := meth) (H := H) (locs := locs) (cells := 0) (slots := 0) E (hrm.1 ▸ hrm.2 ▸ M H.size) (cwV n E.2.2.2.2 G rfl hrm.1 hrm.2 hd hR) ⟨bq_blindT, va_recv K.1 w.1 hci he, fun U hU hW => ⟨rfl, by rw [hU], by rw [hU]; exact hPc, bq_Kmoved hW K, hDc.weaken (fun _ _ _ _ => trivial), bq_XSat hX w.2.2 hF hU hW⟩⟩ rfl hn hsz hst (lv_room hW) hdg hf
  intro T hT X
  rcases hr T hT X with ⟨v, st₀, t, T', L, h0, X', hL, e1, e2, hno, st⟩ | ⟨q, st₀, t, T', L, E9, ce, h0, X', hL, e1, e2, ⟨rfl, hP1, hD1, hF1⟩, hce, hcv, hcl, st⟩
  · exact hno.elim
  · obtain ⟨g1, g2, g3⟩ := vx_keep h0 e1 w.2.2 (fun q _ h => hF q h) hF hL hF1
    have hP1 : va_P D vwCl (bq_pick ws isC) T'.heap := by rw [e1]; exact hP1
    obtain ⟨hP2, hD2⟩ := va_join w.1 w.2.1 isC isR hC hR2 hnR hdis g2 hF hP1 hD1
    have hP3 : va_P D vwCl ws T'.heap := by rw [e9]; exact hP2.sub isP rfl
    obtain ⟨t2, a1, b1⟩ := kx q ce T'.heap (locs ++ L) ⟨hP3, w.2.1, g3⟩ (by rw [e1]; exact hce) hcv hcl T' rfl X'
    exact ⟨t2, st.trans a1, b1⟩
end BQH
