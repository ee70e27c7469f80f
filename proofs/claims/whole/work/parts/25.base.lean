section BQB
variable {p : Program} {l : Launch} {e : Env} {R : Room} {s : State} {m : MethodId} {args : Array Value} {below : List Frame} {meth : Method} {c : Code} {H : Heap} {locs : List Loc} {cells slots : Nat} {Q : State → Prop}
variable {cc : ByteArray} {pc nL : Nat} {ls : Array Slot} {rest : List Value} {D : va_G} {A : Nat → Prop} {a : Nat} {ws : va_W} {H0 : Heap} {own : String} {cI cJ : ClassId}
def bq_w (D : va_G) (A : Nat → Prop) (H0 : Heap) (ws : va_W) (H : Heap) (locs : List Loc) : Prop := va_P D vwCl ws H ∧ va_D A ws ∧ va_S A H0 H locs
def bq_K (D : va_G) (cI cJ : ClassId) (s : State) : Prop := va_K D vwCl [(cI, .int), (cJ, .long)] s ∧ ∀ w ∈ lw_nest, va_Nw w s
theorem bq_Kmoved {s U : State} (hW : s.WarmedH U.vm) (h : bq_K D cI cJ s) : bq_K D cI cJ U := ⟨va_K.moved hW.alike h.1, fun w hw => by
  have h9 := h.2 w hw
  rcases lw_nest_is w hw with ⟨a, i, x, h, rfl⟩ | ⟨a, b, rfl⟩ | ⟨x, rfl⟩
  · exact va_Nw.warmM hW h9
  · exact va_Nw.warmC hW h9
  · exact va_tabs rfl (rfl : (s.setVm U.vm).vm = U.vm) (by rw [Cond.declares_setVm hW.alike]; exact h9)⟩
theorem bq_Ksame {s U : State} (hW : s.vm = U.vm) (h : bq_K D cI cJ s) : bq_K D cI cJ U := ⟨va_K.moved (by rw [hW]; exact Vm.Alike.refl U.vm) h.1, fun w hw => by
  have h9 := h.2 w hw
  exact va_Nw.same (lw_nest_ot w hw) hW h9⟩
abbrev bq_E (p : Program) (m : MethodId) (c : Code) (cc : ByteArray) (nL : Nat) (s : State) (args : Array Value) (own : String) : Prop := CallFix p m c cc nL s args lw_good own
theorem bq_get (E : bq_E p m c cc nL s args own) (K : bq_K D cI cJ s) (w : bq_w D A H0 ws H locs) (q0 : Nat) {C : String} {T : u_T} {N ci index : Nat} (hin : ∀ w ∈ u_ws C T N, w ∈ lw_good) (hc : vwCl[ci]? = some (C, T, N)) (k : Nat) (hk : k < N) (hl : Cond.fieldLink own index C (T k).2.1 (T k).2.2.1 ∈ lw_good) (ho : (T k).1 = C) {fs : List Value} {v : Value} (he : ws[q0]? = some (a, .inr (ci, fs))) (hv : fs[k]? = some v) (hdg : decode cc pc = .ok (.getfield index, 3))
    (kk : W p l e R s m args below meth c H locs cells slots Q (F0 m (pc + 3) ls (v :: rest))) : W p l e R s m args below meth c H locs cells slots Q (F0 m pc ls (.ref a :: rest)) :=
  va_get E.1 E.2.1 E.2.2.2.2 hin E.2.2.2.1 K.1 w.1 q0 he hc k hk (E.2.2.2.2 _ hl) (fun x h => by rw [ho] at h; exact h) hv hdg kk
theorem bq_put (E : bq_E p m c cc nL s args own) (K : bq_K D cI cJ s) (w : bq_w D A H0 ws H locs) (q0 : Nat) {C : String} {T : u_T} {N ci index : Nat} (hin : ∀ w ∈ u_ws C T N, w ∈ lw_good) (ty0 : Nat → FieldType) (hty : ∀ k, k < N → parseFieldDescriptor (T k).2.2.1 = some (ty0 k)) (hnm : ∀ a, a < N → ∀ b, b < N → a ≠ b → (T a).2.1 ≠ (T b).2.1) (hc : vwCl[ci]? = some (C, T, N)) (k : Nat) (hk : k < N) (hl : Cond.fieldLink own index C (T k).2.1 (T k).2.2.1 ∈ lw_good) (ho : (T k).1 = C) (hfin : (T k).2.2.2 = false) {fs : List Value} {v : Value} (hn : narrow (ty0 k) v = v) (hfit : fits (ty0 k) v = true) (he : ws[q0]? = some (a, .inr (ci, fs))) (hlen : k < fs.length) (hdg : decode cc pc = .ok (.putfield index, 3))
    (kk : ∀ (H1 : Heap) (locs1 : List Loc), bq_w D A H0 (ws.set q0 (a, .inr (ci, fs.set k v))) H1 locs1 → W p l e R s m args below meth c H1 locs1 cells slots Q (F0 m (pc + 3) ls rest)) : W p l e R s m args below meth c H locs cells slots Q (F0 m pc ls (v :: .ref a :: rest)) :=
  va_put E.1 E.2.1 E.2.2.2.2 hin ty0 hty hnm E.2.2.2.1 K.1 w.1 w.2.1 w.2.2 q0 he hc k hk (E.2.2.2.2 _ hl) (fun x h => by rw [ho] at h; exact h) hfin (hty k hk) hn hfit hlen hdg (fun H1 locs1 h1 h2 h3 => kk H1 locs1 ⟨h1, h2, h3⟩)
theorem bq_putF (E : bq_E p m c cc nL s args own) (K : bq_K D cI cJ s) (w : bq_w D A H0 ws H locs) (q0 : Nat) {T : u_T} {N ci index : Nat} (hin : ∀ w ∈ u_ws own T N, w ∈ lw_good) (ty0 : Nat → FieldType) (hty : ∀ k, k < N → parseFieldDescriptor (T k).2.2.1 = some (ty0 k)) (hnm : ∀ a, a < N → ∀ b, b < N → a ≠ b → (T a).2.1 ≠ (T b).2.1) (hc : vwCl[ci]? = some (own, T, N)) (k : Nat) (hk : k < N) (hl : Cond.fieldLink own index own (T k).2.1 (T k).2.2.1 ∈ lw_good) (ho : (T k).1 = own) (hfin : (T k).2.2.2 = true) (hinit : meth.name = "<init>") {fs : List Value} {v : Value} (hn : narrow (ty0 k) v = v) (hfit : fits (ty0 k) v = true) (he : ws[q0]? = some (a, .inr (ci, fs))) (hlen : k < fs.length) (hdg : decode cc pc = .ok (.putfield index, 3))
    (kk : ∀ (H1 : Heap) (locs1 : List Loc), bq_w D A H0 (ws.set q0 (a, .inr (ci, fs.set k v))) H1 locs1 → W p l e R s m args below meth c H1 locs1 cells slots Q (F0 m (pc + 3) ls rest)) : W p l e R s m args below meth c H locs cells slots Q (F0 m pc ls (v :: .ref a :: rest)) :=
  va_putF E.1 E.2.1 E.2.2.2.2 hin ty0 hty hnm E.2.2.2.1 K.1 w.1 w.2.1 w.2.2 q0 he hc k hk (E.2.2.2.2 _ hl) (fun x h => by rw [ho] at h; exact h) hfin hinit ho (hty k hk) hn hfit hlen hdg (fun H1 locs1 h1 h2 h3 => kk H1 locs1 ⟨h1, h2, h3⟩)
theorem bq_ald (E : bq_E p m c cc nL s args own) (K : bq_K D cI cJ s) (w : bq_w D A H0 ws H locs) (q0 : Nat) {n : Nat} {f : Nat → Int32} (ha : ws[q0]? = some (a, .inl (cI, n, .inl f))) {i : Int32} (hin : vp_in i n) (hdg : decode cc pc = .ok (.iaload, 1))
    (kk : W p l e R s m args below meth c H locs cells slots Q (F0 m (pc + 1) ls (.int (f i.toNatClampNeg) :: rest))) : W p l e R s m args below meth c H locs cells slots Q (F0 m pc ls (.int i :: .ref a :: rest)) :=
  va_iald E.1 E.2.1 K.1 w.1 q0 0 ha rfl hin hdg kk
theorem bq_ast (E : bq_E p m c cc nL s args own) (K : bq_K D cI cJ s) (w : bq_w D A H0 ws H locs) (q0 : Nat) {n : Nat} {f : Nat → Int32} (ha : ws[q0]? = some (a, .inl (cI, n, .inl f))) {i x : Int32} (hin : vp_in i n) (hdg : decode cc pc = .ok (.iastore, 1))
    (kk : ∀ (H1 : Heap) (locs1 : List Loc), bq_w D A H0 (ws.set q0 (a, .inl (cI, n, .inl (upd f i.toNatClampNeg x)))) H1 locs1 → W p l e R s m args below meth c H1 locs1 cells slots Q (F0 m (pc + 1) ls rest)) : W p l e R s m args below meth c H locs cells slots Q (F0 m pc ls (.int x :: .int i :: .ref a :: rest)) :=
  va_iast E.1 E.2.1 K.1 w.1 w.2.1 w.2.2 q0 0 ha rfl hin hdg (fun H1 locs1 h1 h2 h3 => kk H1 locs1 ⟨h1, h2, h3⟩)
theorem bq_aldk (E : bq_E p m c cc nL s args own) (K : bq_K D cI cJ s) (w : bq_w D A H0 ws H locs) (q0 : Nat) {n : Nat} {f : Nat → Int32} (ha : ws[q0]? = some (a, .inl (cI, n, .inl f))) {i : Int32} (k : Nat) (hk : i.toNatClampNeg = k) (hin : vp_in i n) (hdg : decode cc pc = .ok (.iaload, 1))
    (kk : W p l e R s m args below meth c H locs cells slots Q (F0 m (pc + 1) ls (.int (f k) :: rest))) : W p l e R s m args below meth c H locs cells slots Q (F0 m pc ls (.int i :: .ref a :: rest)) := by
  subst hk
  exact bq_ald E K w q0 ha hin hdg kk
theorem bq_astk (E : bq_E p m c cc nL s args own) (K : bq_K D cI cJ s) (w : bq_w D A H0 ws H locs) (q0 : Nat) {n : Nat} {f : Nat → Int32} (ha : ws[q0]? = some (a, .inl (cI, n, .inl f))) {i x : Int32} (k : Nat) (hk : i.toNatClampNeg = k) (hin : vp_in i n) (hdg : decode cc pc = .ok (.iastore, 1))
    (kk : ∀ (H1 : Heap) (locs1 : List Loc), bq_w D A H0 (ws.set q0 (a, .inl (cI, n, .inl (upd f k x)))) H1 locs1 → W p l e R s m args below meth c H1 locs1 cells slots Q (F0 m (pc + 1) ls rest)) : W p l e R s m args below meth c H locs cells slots Q (F0 m pc ls (.int x :: .int i :: .ref a :: rest)) := by
  subst hk
  exact bq_ast E K w q0 ha hin hdg kk
theorem bq_alen (E : bq_E p m c cc nL s args own) (K : bq_K D cI cJ s) (w : bq_w D A H0 ws H locs) (q0 : Nat) {n : Nat} {f : Nat → Int32} (ha : ws[q0]? = some (a, .inl (cI, n, .inl f))) {v : Int32} (hv : Int32.ofNat n = v) (hdg : decode cc pc = .ok (.arraylength, 1))
    (kk : W p l e R s m args below meth c H locs cells slots Q (F0 m (pc + 1) ls (.int v :: rest))) : W p l e R s m args below meth c H locs cells slots Q (F0 m pc ls (.ref a :: rest)) :=
  va_alen E.1 E.2.1 K.1 w.1 q0 0 ha rfl hv hdg kk
theorem bq_copy (E : bq_E p m c cc nL s args own) (K : bq_K D cI cJ s) (w : bq_w D A H0 ws H locs) {index : Nat} (hml : Cond.methodLink own index arraycopyName ∈ lw_good) (q0 q1 : Nat) {a0 n0 n1 : Nat} {f g : Nat → Int32} (ha0 : ws[q0]? = some (a0, .inl (cI, n0, .inl f))) (ha1 : ws[q1]? = some (a, .inl (cI, n1, .inl g))) {sp dp n : Int32} {sk dk nk : Nat} (e1 : sp.toNatClampNeg = sk) (e2 : dp.toNatClampNeg = dk) (e3 : n.toNatClampNeg = nk) (h1 : ¬ sp < 0) (h2 : ¬ dp < 0) (h3 : ¬ n < 0) (h4 : sk + nk ≤ n0) (h5 : dk + nk ≤ n1) (hfr : 1 ≤ R.frames) (hlo : (rest.map fun v => v.category).sum + (nativeFrameWords "java/lang/System" "arraycopy" 5 + 11) ≤ R.locals) (hsz : ls.size = nL) (hdg : decode cc pc = .ok (.invokestatic index, 3))
    (kk : ∀ (H1 : Heap) (locs1 : List Loc), bq_w D A H0 (ws.set q1 (a, .inl (cI, n1, .inl (va_cpy f g sk dk nk)))) H1 locs1 → W p l e R s m args below meth c H1 locs1 cells slots Q (F0 m (pc + 3) ls rest)) : W p l e R s m args below meth c H locs cells slots Q (F0 m pc ls (.int n :: .int dp :: .ref a :: .int sp :: .ref a0 :: rest)) := by
  subst e1 e2 e3
  exact va_copyi E.1 E.2.1 (E.2.2.1.trans hsz.symm) E.2.2.2.1 (E.2.2.2.2 _ hml) (E.2.2.2.2 _ nt_arraycopy) (E.2.2.2.2 _ st_arraycopy) (E.2.2.2.2 _ in_J10) K.1 w.1 w.2.1 w.2.2 q0 q1 0 0 ha0 ha1 rfl rfl rfl h1 h2 h3 h4 h5 (fun _ _ => rfl) hfr hlo hdg (fun H1 locs1 h1 h2 h3 => kk H1 locs1 ⟨h1, h2, h3⟩)
theorem bq_min (E : bq_E p m c cc nL s args own) {index : Nat} (hml : Cond.methodLink own index yJ9_min_7cf53 ∈ lw_good) (hsz : ls.size = nL) (hfr : 1 ≤ R.frames) (hlo : (rest.map fun v => v.category).sum + 13 ≤ R.locals) (hc : cells ≤ R.cells) (hs : slots ≤ R.slots) {x y : Int32} (hdg : decode cc pc = .ok (.invokestatic index, 3))
    (kk : W p l e R s m args below meth c H locs cells slots Q (F0 m (pc + 3) ls (.int (if y < x then y else x) :: rest))) : W p l e R s m args below meth c H locs cells slots Q (F0 m pc ls (.int y :: .int x :: rest)) :=
  va_mmin E.1 E.2.1 (E.2.2.1.trans hsz.symm) E.2.2.2.1 (E.2.2.2.2 _ hml) (E.2.2.2.2 _ st_J9_min_7cf53) (E.2.2.2.2 _ in_J9) (E.2.2.2.2 _ cd_J9_min_7cf53) hfr hlo hc hs hdg kk
theorem bq_bool {x : Int32} (h : x = 0 ∨ x = 1) : narrow .boolean (.int x) = .int x := by rcases h with rfl | rfl <;> rfl
theorem bq_boolf {x : Int32} (h : x = 0 ∨ x = 1) : fits .boolean (.int x) = true := by rcases h with rfl | rfl <;> rfl
theorem bq_good {w : Cond} (h : w ∈ lw_good) : w ∈ lw_good ∧ ((w.onTables && w.keeps) = true ∨ ∃ ty, w = .arrayClass ty) := ⟨h, good_of_word (List.mem_filter.mp h).2⟩
theorem bq_gC {y : MethodName} {b : ByteArray} {n : Nat} {r : Option FieldType} (h : Cond.code y b n r ∈ lw_good) : GoodIn lw_good (Cond.code y b n r :: lw_good) := fun w hw => by
  rcases List.mem_cons.mp hw with rfl | hw
  · exact bq_good h
  · exact bq_good hw
theorem bq_gV {own C : String} {idx : Nat} {y : MethodName} {b : ByteArray} {n : Nat} {r : Option FieldType} (h1 : Cond.methodLink own idx y ∈ lw_good) (h2 : Cond.instanceMethod y ∈ lw_good) (h3 : Cond.selects C y y ∈ lw_good) (h4 : Cond.initialized C ∈ lw_good) (h5 : Cond.code y b n r ∈ lw_good) : GoodIn lw_good (wsV own idx C y (Cond.code y b n r :: lw_good)) := fun w hw => by
  unfold wsV at hw
  rcases List.mem_append.mp hw with hw | hw
  · simp only [List.mem_cons, List.not_mem_nil, or_false] at hw
    rcases hw with rfl | rfl | rfl | rfl
    · exact bq_good h1
    · exact bq_good h2
    · exact bq_good h3
    · exact bq_good h4
  · exact bq_gC h5 w hw
theorem bq_gS {own : String} {idx : Nat} {y : MethodName} {b : ByteArray} {n : Nat} {r : Option FieldType} (h1 : Cond.methodLink own idx y ∈ lw_good) (h2 : Cond.static y ∈ lw_good) (h4 : Cond.initialized y.cls ∈ lw_good) (h5 : Cond.code y b n r ∈ lw_good) : GoodIn lw_good (va_wsS own idx y (Cond.code y b n r :: lw_good)) := fun w hw => by
  unfold va_wsS at hw
  rcases List.mem_append.mp hw with hw | hw
  · simp only [List.mem_cons, List.not_mem_nil, or_false] at hw
    rcases hw with rfl | rfl | rfl
    · exact bq_good h1
    · exact bq_good h2
    · exact bq_good h4
  · exact bq_gC h5 w hw
/-- what a method owes: with these arguments, over the cells wc, it returns res, and the cells are wc' -/
def bq_Qc (D : va_G) (wc' : va_W) (res : Option Value) (A : Nat → Prop) : Array Value → State → Outcome → State → Prop := fun _ st oc t => (oc = .returned res ∧ va_P D vwCl wc' t.heap ∧ va_D A wc') ∧ va_F A st t
def bq_Pc (D : va_G) (cI cJ : ClassId) (av : List Value) (wc : va_W) (sz : Nat) : Array Value → State → Prop := va_Pc av (fun U => U.heap.size = sz ∧ va_P D vwCl wc U.heap ∧ bq_K D cI cJ U ∧ va_D (fun _ => True) wc)
def bq_M (l : Launch) (D : va_G) (cI cJ : ClassId) (y : MethodName) (bytes : ByteArray) (maxL : Nat) (ret : Option FieldType) (rm : Room) (av : List Value) (wc wc' : va_W) (res : Option Value) : Prop :=
  ∀ sz : Nat, Met l y (Cond.code y bytes maxL ret :: lw_good) rm (bq_Pc D cI cJ av wc sz) (bq_Qc D wc' res (va_A wc sz)) rm.cells rm.slots (va_A wc sz)
theorem bq_start {y : MethodName} {bytes : ByteArray} {maxL : Nat} {ret : Option FieldType} {rm : Room} {av : List Value} {wc wc' : va_W} {res : Option Value} (hy : plainName y.cls = true) (hlen : (lg_sl av).length ≤ maxL)
    (body : ∀ (p : Program) (e : Env) (s : State) (m : MethodId) (av9 : Array Value) (below : List Frame) (meth : Method) (c : Code) (A : Nat → Prop) (ls : Array Slot) (Q : State → Prop) (H : Heap) (locs : List Loc), bq_E p m c bytes maxL s av9 y.cls → bq_K D cI cJ s → bq_w D A s.heap wc H locs → (∀ q : Nat, s.heap.size ≤ q → A q) → meth.sig.returnType = ret → meth.locks = false → meth.name = y.name → Q = MQ below (bq_Qc D wc' res A) av9 s rm.cells rm.slots A → lv_has ls maxL (lv_args 0 av) →
      W p l e rm s m av9 below meth c H locs 0 0 Q (F0 m 0 ls [])) : bq_M l D cI cJ y bytes maxL ret rm av wc wc' res := by
  intro sz
  refine Met.ofW (cc := bytes) (maxL := maxL) (ret := ret) hy rfl ?_
  intro p e s m args below meth c s₁ B hml hv
  obtain ⟨rfl, hsz, hP, hK, hD0⟩ := hv
  have hts := atoms_spec (ws := Cond.code y bytes maxL ret :: lw_good) B.pre
  subst hsz
  have hl := lv_entry av (n := maxL) hlen
  rw [lg_entry_eq]
  exact body p e s m _ below meth c (va_A wc s.heap.size) _ _ s.heap [] ⟨B.exec, B.bytes, hml, findClass_of_methodNamed B.named, fun w h => hts w (List.mem_cons_of_mem _ h)⟩ hK ⟨hP, hD0.self, va_S.rf⟩ (fun q h => Or.inr h) B.returns B.notSynchronized (name_of_methodNamed B.named B.method).1 rfl hl
variable {wc' : va_W} {A1 : Nat → Prop}
theorem bq_iret (E : bq_E p m c cc nL s args own) (w : bq_w D A s.heap wc' H locs) (hr : meth.sig.returnType = some .int) (hk : meth.locks = false) {v : Int32} (hdg : decode cc pc = .ok (.ireturn, 1)) (hQ : Q = MQ below (bq_Qc D wc' (some (.int v)) A) args s cells slots A) : W p l e R s m args below meth c H locs cells slots Q (F0 m pc ls [.int v]) := by
  subst hQ
  exact W.iret E.1 E.2.1 hr (fun t ht _ => ⟨⟨rfl, by rw [ht]; exact w.1, w.2.1⟩, w.2.2.F ht⟩) w.2.2.2.2 hdg hk
theorem bq_zret (E : bq_E p m c cc nL s args own) (w : bq_w D A s.heap wc' H locs) (hr : meth.sig.returnType = some .boolean) (hk : meth.locks = false) {v : Int32} (hv : v = 0 ∨ v = 1) (hdg : decode cc pc = .ok (.ireturn, 1)) (hQ : Q = MQ below (bq_Qc D wc' (some (.int v)) A) args s cells slots A) : W p l e R s m args below meth c H locs cells slots Q (F0 m pc ls [.int v]) := by
  subst hQ
  exact W.zret E.1 E.2.1 hr (bq_bool hv) (fun t ht _ => ⟨⟨rfl, by rw [ht]; exact w.1, w.2.1⟩, w.2.2.F ht⟩) w.2.2.2.2 hdg hk
theorem bq_lret (E : bq_E p m c cc nL s args own) (w : bq_w D A s.heap wc' H locs) (hr : meth.sig.returnType = some .long) (hk : meth.locks = false) {v : Int64} (hdg : decode cc pc = .ok (.lreturn, 1)) (hQ : Q = MQ below (bq_Qc D wc' (some (.long v)) A) args s cells slots A) : W p l e R s m args below meth c H locs cells slots Q (F0 m pc ls [.long v]) := by
  subst hQ
  exact W.lret E.1 E.2.1 hr (fun t ht _ => ⟨⟨rfl, by rw [ht]; exact w.1, w.2.1⟩, w.2.2.F ht⟩) w.2.2.2.2 hdg hk
theorem bq_vret (E : bq_E p m c cc nL s args own) (w : bq_w D A s.heap wc' H locs) (hr : meth.sig.returnType = none) (hk : meth.locks = false) (hdg : decode cc pc = .ok (.return_, 1)) (hQ : Q = MQ below (bq_Qc D wc' none A) args s cells slots A) : W p l e R s m args below meth c H locs cells slots Q (F0 m pc ls []) := by
  subst hQ
  exact W.vret E.1 E.2.1 hr (fun t ht _ => ⟨⟨rfl, by rw [ht]; exact w.1, w.2.1⟩, w.2.2.F ht⟩) w.2.2.2.2 hdg hk
theorem bq_nmi {x y : Int32} (h : y = x) (k : W p l e R s m args below meth c H locs cells slots Q (F0 m pc ls (.int y :: rest))) : W p l e R s m args below meth c H locs cells slots Q (F0 m pc ls (.int x :: rest)) := by
  subst h
  exact k
theorem bq_nml {x y : Int64} (h : y = x) (k : W p l e R s m args below meth c H locs cells slots Q (F0 m pc ls (.long y :: rest))) : W p l e R s m args below meth c H locs cells slots Q (F0 m pc ls (.long x :: rest)) := by
  subst h
  exact k
end BQB
section BQC
variable {p : Program} {l : Launch} {e : Env} {R : Room} {s : State} {m : MethodId} {args : Array Value} {below : List Frame} {meth : Method} {c : Code} {H : Heap} {locs : List Loc} {cells slots : Nat} {Q : State → Prop}
variable {cc : ByteArray} {pc nL : Nat} {ls : Array Slot} {rest st0 : List Value} {D : va_G} {A : Nat → Prop} {a : Nat} {ws wc wc' ws' : va_W} {H0 : Heap} {own : String} {cI cJ : ClassId}
variable {y : MethodName} {bytes : ByteArray} {maxL n index : Nat} {ret : Option FieldType} {rm : Room} {As : List Value} {res : Option Value}
theorem bq_cont {A1 : Nat → Prop} {mc ms : Nat} {free : Addr → Prop} {av : Array Value} (hr : va_Run p l e R s m args below meth c H locs cells slots mc ms (F0 m pc ls st0) rest (bq_Qc D wc' res A1 av) free) (hS : va_S A H0 H locs) (hA : ∀ q, A1 q → A q) (hf : ∀ q, free q → A q)
    (kk : ∀ (H1 : Heap) (locs1 : List Loc), va_P D vwCl wc' H1 → va_D A1 wc' → (∀ q : Nat, q < H.size → ¬ A1 q → H1[q]? = H[q]?) → va_S A H0 H1 locs1 → W p l e R s m args below meth c H1 locs1 (cells + mc) (slots + ms) Q (F0 m (pc + 3) ls (res.toList ++ rest))) : W p l e R s m args below meth c H locs cells slots Q (F0 m pc ls st0) := by
  intro T hT X
  obtain ⟨v, st₀, t, T', L, h0, X', hL, e1, e2, ⟨⟨hv, hp, hd⟩, hz, hk⟩, st⟩ := hr T hT X
  cases hv
  rw [h0] at hz hk
  obtain ⟨t2, a1, b1⟩ := kk T'.heap (locs ++ L) (by rw [e1]; exact hp) hd (fun q h1 h2 => by rw [e1]; exact hk q h1 h2)
    ⟨Nat.le_trans hS.1 (by rw [e1]; exact hz), fun q h1 h2 => by rw [e1, hk q (Nat.lt_of_lt_of_le h1 hS.1) (fun z => h2 (hA q z))]; exact hS.2.1 q h1 h2, fun q hq => by
      rcases List.mem_append.mp hq with h | h
      · exact hS.2.2 q h
      · exact hf _ (hL q h)⟩ T' rfl X'
  exact ⟨t2, st t2 a1, b1⟩
def bq_pick (ws : va_W) (is : List Nat) : va_W := is.filterMap (fun i => ws[i]?)
theorem bq_pick_map {ws : va_W} : ∀ {is : List Nat}, is.all (fun i => decide (i < ws.length)) = true → is.map (fun i => ws[i]?) = (bq_pick ws is).map some := by
  intro is
  induction is with
  | nil => intro _; rfl
  | cons i is ih =>
    intro h
    rw [List.all_cons, Bool.and_eq_true, decide_eq_true_eq] at h
    have h1 := List.getElem?_eq_getElem h.1
    unfold bq_pick
    rw [List.filterMap_cons, List.map_cons, h1, ih h.2]
    rfl
/-- the worlds of a call: the callee's cells out of the caller's, and back again in the caller's order -/
def bq_cut (ws wc wc' ws' : va_W) : Prop := ∃ (isC isR isP : List Nat), wc = bq_pick ws isC ∧ isC.all (fun i => decide (i < ws.length)) = true ∧ isR.all (fun i => decide (i < ws.length)) = true ∧ va_nd isC = true ∧ va_nd isR = true ∧ isR.all (fun i => decide (i ∉ isC)) = true ∧ ws' = bq_pick (bq_pick ws isR ++ wc') isP ∧ isP.all (fun i => decide (i < (bq_pick ws isR ++ wc').length)) = true ∧ va_nd isP = true
theorem bq_back (hP : va_P D vwCl ws H) (hD : va_D A ws) (hS : va_S A H0 H locs) (hA : ∀ q, H0.size ≤ q → A q) (hc : bq_cut ws wc wc' ws') {as1 : Array Value}
    (hr : va_P D vwCl wc H → va_D (fun _ => True) wc → va_Run p l e R s m args below meth c H locs cells slots rm.cells rm.slots (F0 m pc ls st0) rest (bq_Qc D wc' res (va_A wc H.size) as1) (va_A wc H.size))
    (kk : ∀ (H1 : Heap) (locs1 : List Loc), bq_w D A H0 ws' H1 locs1 → W p l e R s m args below meth c H1 locs1 (cells + rm.cells) (slots + rm.slots) Q (F0 m (pc + 3) ls (res.toList ++ rest))) : W p l e R s m args below meth c H locs cells slots Q (F0 m pc ls st0) := by
  obtain ⟨isC, isR, isP, rfl, hC, hR, hnC, hnR, hdis, rfl, hp, hnP⟩ := hc
  have hC := bq_pick_map hC
  have hR := bq_pick_map hR
  have hp := bq_pick_map hp
  have hdis : ∀ i ∈ isR, i ∉ isC := fun i hi => of_decide_eq_true (List.all_eq_true.mp hdis i hi)
  have hF := va_free hD hS hA isC hC
  have hDc : va_D A (bq_pick ws isC) := hD.sub isC hnC hC
  have hPc : va_P D vwCl (bq_pick ws isC) H := hP.sub isC rfl
  refine bq_cont (hr hPc (hDc.weaken (fun _ _ _ _ => trivial))) hS hF hF (fun H1 locs1 hP1 hD1 hk hS1 => kk H1 locs1 ?_)
  obtain ⟨hP2, hD2⟩ := va_join hP hD isC isR hC hR hnR hdis hk hF hP1 hD1
  exact ⟨hP2.sub isP rfl, hD2.sub isP hnP hp, hS1⟩
theorem bq_back0 (hP : va_P D vwCl ws H) (hD : va_D A ws) (hS : va_S A H0 H locs) (hA : ∀ q, H0.size ≤ q → A q) {as1 : Array Value}
    (hr : va_Run p l e R s m args below meth c H locs cells slots rm.cells rm.slots (F0 m pc ls st0) rest (bq_Qc D [] res (va_A [] H.size) as1) (va_A [] H.size))
    (kk : ∀ (H1 : Heap) (locs1 : List Loc), bq_w D A H0 ws H1 locs1 → W p l e R s m args below meth c H1 locs1 (cells + rm.cells) (slots + rm.slots) Q (F0 m (pc + 3) ls (res.toList ++ rest))) : W p l e R s m args below meth c H locs cells slots Q (F0 m pc ls st0) := by
  have hF : ∀ q, va_A [] H.size q → A q := by
    intro q h
    rcases h with ⟨k, e, h⟩ | h
    · cases h
    · exact hA q (Nat.le_trans hS.1 h)
  refine bq_cont hr hS hF hF (fun H1 locs1 hP1 hD1 hk hS1 => kk H1 locs1 ⟨?_, hD, hS1⟩)
  refine hP.kept (fun k q hq => hk q.1 (hP k q hq).lt ?_)
  rintro (⟨k, e, h⟩ | h)
  · cases h
  · exact Nat.not_le_of_lt (hP k q hq).lt h
theorem bq_nilP {D : va_G} {H : Heap} : va_P D vwCl [] H := fun k q h => by cases h
theorem bq_nilD {A : Nat → Prop} : va_D A [] := ⟨fun i j p q h => (by cases h), fun k q h => (by cases h)⟩
theorem bq_blind {av : List Value} {sz : Nat} : FrameBlind (bq_Pc D cI cJ av wc sz) := fun a U g mk q => by
  obtain ⟨q0, q1, qP, qK, qD⟩ := q
  exact ⟨q0, q1, qP, bq_Ksame (s := U) (U := U.calling g mk a) rfl qK, qD⟩
theorem bq_V (E : bq_E p m c cc nL s args own) (K : bq_K D cI cJ s) (w : bq_w D A s.heap ws H locs) (hA : ∀ q, s.heap.size ≤ q → A q) {b : Nat} {C : String}
    (M : bq_M l D cI cJ y bytes maxL ret rm (.ref b :: As) wc wc' res) (G : GoodIn lw_good (wsV own index C y (Cond.code y bytes maxL ret :: lw_good))) (hd : y.cls = C ∧ y.cls ≠ "java/lang/invoke/MethodHandle" ∧ y.cls ≠ "java/lang/invoke/VarHandle" ∧ (parseMethodDescriptor y.desc).map (fun d => d.parameters.length) = some n)
    (hR : rm.frames + 1 ≤ R.frames ∧ 8 + (maxL + 11) + rm.locals ≤ R.locals) (hf : cells + rm.cells ≤ R.cells ∧ slots + rm.slots ≤ R.slots) (hc : bq_cut ws wc wc' ws') (q0 : Nat) {ci N : Nat} {T : u_T} {fs : List Value} (he : ws[q0]? = some (b, .inr (ci, fs))) (hci : vwCl[ci]? = some (C, T, N)) (hn : As.length = n) (hsz : ls.size = nL) (hst : st0 = As.reverse ++ .ref b :: rest) (hW : (rest.map fun v => v.category).sum ≤ 8) {st1 : List Value} (hs1 : res.toList ++ rest = st1) (hdg : decode cc pc = .ok (.invokevirtual index, 3))
    (kk : ∀ (H1 : Heap) (locs1 : List Loc), bq_w D A s.heap ws' H1 locs1 → W p l e R s m args below meth c H1 locs1 (cells + rm.cells) (slots + rm.slots) Q (F0 m (pc + 3) ls st1)) : W p l e R s m args below meth c H locs cells slots Q (F0 m pc ls st0) :=
  bq_back w.1 w.2.1 w.2.2 hA hc (fun hPc hDc => va_runV E (M H.size) (cwV n E.2.2.2.2 G rfl rfl rfl hd hR) ⟨bq_blind, va_recv K.1 w.1 hci he, fun U hU hW => ⟨rfl, by rw [hU], by rw [hU]; exact hPc, bq_Kmoved hW K, hDc⟩⟩ rfl hn hsz hst (lv_room hW) hdg hf) (fun H1 locs1 h => by rw [hs1]; exact kk H1 locs1 h)
theorem bq_S (E : bq_E p m c cc nL s args own) (K : bq_K D cI cJ s) (w : bq_w D A s.heap ws H locs) (hA : ∀ q, s.heap.size ≤ q → A q)
    (M : bq_M l D cI cJ y bytes maxL ret rm As wc wc' res) (hcd : Cond.code y bytes maxL ret ∈ lw_good) (hml : Cond.methodLink own index y ∈ lw_good) (hini : Cond.initialized y.cls ∈ lw_good) (hstt : Cond.static y ∈ lw_good) (hd : y.cls ≠ "java/lang/invoke/MethodHandle" ∧ y.cls ≠ "java/lang/invoke/VarHandle" ∧ (parseMethodDescriptor y.desc).map (fun d => d.parameters.length) = some n)
    (hR : rm.frames + 1 ≤ R.frames ∧ 8 + (maxL + 11) + rm.locals ≤ R.locals) (hf : cells + rm.cells ≤ R.cells ∧ slots + rm.slots ≤ R.slots) (hc : bq_cut ws wc wc' ws') (hn : As.length = n) (hsz : ls.size = nL) (hst : st0 = As.reverse ++ rest) (hW : (rest.map fun v => v.category).sum ≤ 8) {st1 : List Value} (hs1 : res.toList ++ rest = st1) (hdg : decode cc pc = .ok (.invokestatic index, 3))
    (kk : ∀ (H1 : Heap) (locs1 : List Loc), bq_w D A s.heap ws' H1 locs1 → W p l e R s m args below meth c H1 locs1 (cells + rm.cells) (slots + rm.slots) Q (F0 m (pc + 3) ls st1)) : W p l e R s m args below meth c H locs cells slots Q (F0 m pc ls st0) :=
  bq_back w.1 w.2.1 w.2.2 hA hc (fun hPc hDc => va_runS E (M H.size) ⟨callB_of n E.2.2.2.2 (bq_gC hcd) rfl rfl rfl (E.2.2.2.2 _ hini) (E.2.2.2.2 _ hml) hd hR, E.2.2.2.2 _ hstt⟩ ⟨bq_blind, fun U hU hW => ⟨rfl, by rw [hU], by rw [hU]; exact hPc, bq_Kmoved hW K, hDc⟩⟩ rfl hn hsz hst (lv_room hW) hdg hf) (fun H1 locs1 h => by rw [hs1]; exact kk H1 locs1 h)
theorem bq_SN (E : bq_E p m c cc nL s args own) (K : bq_K D cI cJ s) (w : bq_w D A s.heap ws H locs) (hA : ∀ q, s.heap.size ≤ q → A q) {host : String}
    (M : bq_M l D cI cJ y bytes maxL ret rm As wc wc' res) (hcd : Cond.code y bytes maxL ret ∈ lw_good) (hml : Cond.methodLinkNest own index y host ∈ lw_nest) (hini : Cond.initialized y.cls ∈ lw_good) (hstt : Cond.static y ∈ lw_good) (hd : y.cls ≠ "java/lang/invoke/MethodHandle" ∧ y.cls ≠ "java/lang/invoke/VarHandle" ∧ (parseMethodDescriptor y.desc).map (fun d => d.parameters.length) = some n)
    (hR : rm.frames + 1 ≤ R.frames ∧ 8 + (maxL + 11) + rm.locals ≤ R.locals) (hf : cells + rm.cells ≤ R.cells ∧ slots + rm.slots ≤ R.slots) (hc : bq_cut ws wc wc' ws') (hn : As.length = n) (hsz : ls.size = nL) (hst : st0 = As.reverse ++ rest) (hW : (rest.map fun v => v.category).sum ≤ 8) {st1 : List Value} (hs1 : res.toList ++ rest = st1) (hdg : decode cc pc = .ok (.invokestatic index, 3))
    (kk : ∀ (H1 : Heap) (locs1 : List Loc), bq_w D A s.heap ws' H1 locs1 → W p l e R s m args below meth c H1 locs1 (cells + rm.cells) (slots + rm.slots) Q (F0 m (pc + 3) ls st1)) : W p l e R s m args below meth c H locs cells slots Q (F0 m pc ls st0) :=
  bq_back w.1 w.2.1 w.2.2 hA hc (fun hPc hDc => va_runSN E (M H.size) ⟨va_cnB n E.2.2.2.2 (bq_gC hcd) rfl rfl rfl (K.2 _ hml) (E.2.2.2.2 _ hini) hd hR, E.2.2.2.2 _ hstt, trivial⟩ ⟨bq_blind, fun U hU hW => ⟨rfl, by rw [hU], by rw [hU]; exact hPc, bq_Kmoved hW K, hDc⟩⟩ rfl hn hsz hst (lv_room hW) hdg hf) (fun H1 locs1 h => by rw [hs1]; exact kk H1 locs1 h)
theorem bq_S0 (E : bq_E p m c cc nL s args own) (K : bq_K D cI cJ s) (w : bq_w D A s.heap ws H locs) (hA : ∀ q, s.heap.size ≤ q → A q)
    (M : bq_M l D cI cJ y bytes maxL ret rm As [] [] res) (hcd : Cond.code y bytes maxL ret ∈ lw_good) (hml : Cond.methodLink own index y ∈ lw_good) (hini : Cond.initialized y.cls ∈ lw_good) (hstt : Cond.static y ∈ lw_good) (hd : y.cls ≠ "java/lang/invoke/MethodHandle" ∧ y.cls ≠ "java/lang/invoke/VarHandle" ∧ (parseMethodDescriptor y.desc).map (fun d => d.parameters.length) = some n)
    (hR : rm.frames + 1 ≤ R.frames ∧ 8 + (maxL + 11) + rm.locals ≤ R.locals) (hf : cells + rm.cells ≤ R.cells ∧ slots + rm.slots ≤ R.slots) (hn : As.length = n) (hsz : ls.size = nL) (hst : st0 = As.reverse ++ rest) (hW : (rest.map fun v => v.category).sum ≤ 8) {st1 : List Value} (hs1 : res.toList ++ rest = st1) (hdg : decode cc pc = .ok (.invokestatic index, 3))
    (kk : ∀ (H1 : Heap) (locs1 : List Loc), bq_w D A s.heap ws H1 locs1 → W p l e R s m args below meth c H1 locs1 (cells + rm.cells) (slots + rm.slots) Q (F0 m (pc + 3) ls st1)) : W p l e R s m args below meth c H locs cells slots Q (F0 m pc ls st0) :=
  bq_back0 w.1 w.2.1 w.2.2 hA (va_runS E (M H.size) ⟨callB_of n E.2.2.2.2 (bq_gC hcd) rfl rfl rfl (E.2.2.2.2 _ hini) (E.2.2.2.2 _ hml) hd hR, E.2.2.2.2 _ hstt⟩ ⟨bq_blind, fun U hU hW => ⟨rfl, by rw [hU], bq_nilP, bq_Kmoved hW K, bq_nilD⟩⟩ rfl hn hsz hst (lv_room hW) hdg hf) (fun H1 locs1 h => by rw [hs1]; exact kk H1 locs1 h)
theorem bq_SN0 (E : bq_E p m c cc nL s args own) (K : bq_K D cI cJ s) (w : bq_w D A s.heap ws H locs) (hA : ∀ q, s.heap.size ≤ q → A q) {host : String}
    (M : bq_M l D cI cJ y bytes maxL ret rm As [] [] res) (hcd : Cond.code y bytes maxL ret ∈ lw_good) (hml : Cond.methodLinkNest own index y host ∈ lw_nest) (hini : Cond.initialized y.cls ∈ lw_good) (hstt : Cond.static y ∈ lw_good) (hd : y.cls ≠ "java/lang/invoke/MethodHandle" ∧ y.cls ≠ "java/lang/invoke/VarHandle" ∧ (parseMethodDescriptor y.desc).map (fun d => d.parameters.length) = some n)
    (hR : rm.frames + 1 ≤ R.frames ∧ 8 + (maxL + 11) + rm.locals ≤ R.locals) (hf : cells + rm.cells ≤ R.cells ∧ slots + rm.slots ≤ R.slots) (hn : As.length = n) (hsz : ls.size = nL) (hst : st0 = As.reverse ++ rest) (hW : (rest.map fun v => v.category).sum ≤ 8) {st1 : List Value} (hs1 : res.toList ++ rest = st1) (hdg : decode cc pc = .ok (.invokestatic index, 3))
    (kk : ∀ (H1 : Heap) (locs1 : List Loc), bq_w D A s.heap ws H1 locs1 → W p l e R s m args below meth c H1 locs1 (cells + rm.cells) (slots + rm.slots) Q (F0 m (pc + 3) ls st1)) : W p l e R s m args below meth c H locs cells slots Q (F0 m pc ls st0) :=
  bq_back0 w.1 w.2.1 w.2.2 hA (va_runSN E (M H.size) ⟨va_cnB n E.2.2.2.2 (bq_gC hcd) rfl rfl rfl (K.2 _ hml) (E.2.2.2.2 _ hini) hd hR, E.2.2.2.2 _ hstt, trivial⟩ ⟨bq_blind, fun U hU hW => ⟨rfl, by rw [hU], bq_nilP, bq_Kmoved hW K, bq_nilD⟩⟩ rfl hn hsz hst (lv_room hW) hdg hf) (fun H1 locs1 h => by rw [hs1]; exact kk H1 locs1 h)
theorem bq_z {H1 : Heap} {locs1 : List Loc} {g : JFrame} (hz : rm.cells = 0 ∧ rm.slots = 0) (k : W p l e R s m args below meth c H1 locs1 cells slots Q g) : W p l e R s m args below meth c H1 locs1 (cells + rm.cells) (slots + rm.slots) Q g := by
  rw [hz.1, hz.2]
  exact k
end BQC
