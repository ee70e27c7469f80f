/-! A call's worlds by a mask: the callee's cells are those marked true -/
def bq_sel (v : Bool) : List Bool → va_W → va_W
  | c :: bs, x :: xs => bif c.xor v then bq_sel v bs xs else x :: bq_sel v bs xs
  | _, _ => []
def bq_mrg : List Bool → va_W → va_W → va_W
  | true :: bs, _ :: xs, e :: es => e :: bq_mrg bs xs es
  | false :: bs, x :: xs, es => x :: bq_mrg bs xs es
  | _, _, _ => []
def bq_ix (v : Bool) : List Bool → Nat → List Nat
  | [], _ => []
  | c :: bs, n => bif c.xor v then bq_ix v bs (n + 1) else n :: bq_ix v bs (n + 1)
theorem bq_ix_at (v : Bool) : ∀ (bs : List Bool) (n i : Nat), i ∈ bq_ix v bs n → n ≤ i ∧ bs[i - n]? = some v := by
  intro bs
  induction bs with
  | nil => intro n i h; cases h
  | cons c bs ih =>
    intro n i h
    unfold bq_ix at h
    have step : i ∈ bq_ix v bs (n + 1) → n ≤ i ∧ (c :: bs)[i - n]? = some v := fun h => by
      obtain ⟨h1, h2⟩ := ih _ _ h
      have e : i - n = (i - (n + 1)) + 1 := by omega
      exact ⟨by omega, by rw [e, List.getElem?_cons_succ]; exact h2⟩
    cases hc : c.xor v with
    | true => rw [hc] at h; exact step h
    | false =>
      rw [hc] at h
      rcases List.mem_cons.mp h with rfl | h
      · refine ⟨Nat.le_refl _, ?_⟩
        rw [Nat.sub_self]
        have : c = v := by cases c <;> cases v <;> first | rfl | cases hc
        rw [this]
        rfl
      · exact step h
theorem bq_ix_nd (v : Bool) : ∀ (bs : List Bool) (n : Nat), va_nd (bq_ix v bs n) = true := by
  intro bs
  induction bs with
  | nil => intro n; rfl
  | cons c bs ih =>
    intro n
    unfold bq_ix
    cases c.xor v with
    | true => exact ih _
    | false =>
      show va_nd (n :: bq_ix v bs (n + 1)) = true
      unfold va_nd
      rw [Bool.and_eq_true, decide_eq_true_eq]
      exact ⟨fun h => absurd (bq_ix_at v bs _ _ h).1 (by omega), ih _⟩
theorem bq_ix_map (v : Bool) : ∀ (bs : List Bool) (ws pre : va_W), bs.length = ws.length → (bq_ix v bs pre.length).map (fun i => (pre ++ ws)[i]?) = (bq_sel v bs ws).map some := by
  intro bs
  induction bs with
  | nil => intro ws pre _; rfl
  | cons c bs ih =>
    intro ws pre h
    cases ws with
    | nil => cases h
    | cons x xs =>
      have h9 := ih xs (pre ++ [x]) (by simpa using h)
      rw [List.length_append, List.length_singleton, List.append_assoc] at h9
      unfold bq_ix bq_sel
      cases c.xor v with
      | true => exact h9
      | false =>
        show (pre ++ x :: xs)[pre.length]? :: _ = some x :: _
        rw [List.getElem?_append_right (Nat.le_refl _), Nat.sub_self]
        exact congrArg _ h9
theorem bq_mrg_perm : ∀ (bs : List Bool) (ws es : va_W), bs.length = ws.length → es.length = (bq_sel true bs ws).length → List.Perm (bq_mrg bs ws es) (bq_sel false bs ws ++ es) := by
  intro bs
  induction bs with
  | nil => intro ws es h1 h2; cases ws with
    | nil => cases es with
      | nil => exact List.Perm.refl _
      | cons e es => cases h2
    | cons x xs => cases h1
  | cons c bs ih =>
    intro ws es h1 h2
    cases ws with
    | nil => cases h1
    | cons x xs =>
      have h1' : bs.length = xs.length := Nat.succ.inj h1
      cases c with
      | false => exact (ih xs es h1' h2).cons x
      | true =>
        cases es with
        | nil => cases h2
        | cons e es => exact ((ih xs es h1' (Nat.succ.inj h2)).cons e).trans List.perm_middle.symm
theorem bq_permP {D : va_G} {cl : List vw_C} {w1 w2 : va_W} {H : Heap} (hp : List.Perm w1 w2) (h : va_P D cl w2 H) : va_P D cl w1 H := fun k q hk => by
  obtain ⟨j, hj⟩ := List.getElem?_of_mem (hp.mem_iff.mp (List.mem_of_getElem? hk))
  exact h j q hj
theorem bq_Dnd {A : Nat → Prop} {ws : va_W} : va_D A ws ↔ (ws.map (fun q => q.1)).Nodup ∧ ∀ q ∈ ws, A q.1 := by
  constructor
  · intro h
    refine ⟨?_, fun q hq => ?_⟩
    · rw [List.nodup_iff_pairwise_ne, List.pairwise_iff_getElem]
      intro i j hi hj hij he
      rw [List.getElem_map, List.getElem_map] at he
      rw [List.length_map] at hi hj
      have := h.1 i j _ _ (List.getElem?_eq_getElem hi) (List.getElem?_eq_getElem hj) he
      omega
    · obtain ⟨j, hj⟩ := List.getElem?_of_mem hq
      exact h.2 j q hj
  · rintro ⟨h1, h2⟩
    refine ⟨fun i j x y hi hj hxy => ?_, fun k q hk => h2 q (List.mem_of_getElem? hk)⟩
    rw [List.nodup_iff_pairwise_ne, List.pairwise_iff_getElem] at h1
    obtain ⟨li, ei⟩ := List.getElem?_eq_some_iff.mp hi
    obtain ⟨lj, ej⟩ := List.getElem?_eq_some_iff.mp hj
    rcases Nat.lt_trichotomy i j with h | h | h
    · exact absurd (by rw [List.getElem_map, List.getElem_map, ei, ej]; exact hxy) (h1 i j (by rw [List.length_map]; exact li) (by rw [List.length_map]; exact lj) h)
    · exact h
    · exact absurd (by rw [List.getElem_map, List.getElem_map, ei, ej]; exact hxy.symm) (h1 j i (by rw [List.length_map]; exact lj) (by rw [List.length_map]; exact li) h)
theorem bq_permD {A : Nat → Prop} {w1 w2 : va_W} (hp : List.Perm w1 w2) (h : va_D A w2) : va_D A w1 := by
  obtain ⟨h1, h2⟩ := bq_Dnd.mp h
  exact bq_Dnd.mpr ⟨(hp.map _).nodup_iff.mpr h1, fun q hq => h2 q (hp.mem_iff.mp hq)⟩
def bq_cutM (ws wc wc' ws' : va_W) : Prop := ∃ bs : List Bool, bs.length = ws.length ∧ wc = bq_sel true bs ws ∧ wc'.length = wc.length ∧ ws' = bq_mrg bs ws wc'
section BQM
variable {p : Program} {l : Launch} {e : Env} {R : Room} {s : State} {m : MethodId} {args : Array Value} {below : List Frame} {meth : Method} {c : Code} {H : Heap} {locs : List Loc} {cells slots : Nat} {Q : State → Prop}
variable {cc : ByteArray} {pc nL : Nat} {ls : Array Slot} {rest st0 : List Value} {D : va_G} {A : Nat → Prop} {a : Nat} {ws wc wc' ws' : va_W} {H0 : Heap} {own : String} {cI cJ : ClassId}
variable {y : MethodName} {bytes : ByteArray} {maxL n index : Nat} {ret : Option FieldType} {rm : Room} {As : List Value} {res : Option Value} {hh : List (Nat × Nat × Nat × Nat)}
theorem bq_backM (hP : va_P D vwCl ws H) (hD : va_D A ws) (hS : va_S A H0 H locs) (hA : ∀ q, H0.size ≤ q → A q) (hc : bq_cutM ws wc wc' ws') {as1 : Array Value}
    (hr : va_P D vwCl wc H → va_D (fun _ => True) wc → (∀ q, va_A wc H.size q → A q) → va_Run p l e R s m args below meth c H locs cells slots rm.cells rm.slots (F0 m pc ls st0) rest (bq_Qc D wc' res (va_A wc H.size) as1) (va_A wc H.size))
    (kk : ∀ (H1 : Heap) (locs1 : List Loc), bq_w D A H0 ws' H1 locs1 → W p l e R s m args below meth c H1 locs1 (cells + rm.cells) (slots + rm.slots) Q (F0 m (pc + 3) ls (res.toList ++ rest))) : W p l e R s m args below meth c H locs cells slots Q (F0 m pc ls st0) := by
  obtain ⟨bs, h1, rfl, h2, rfl⟩ := hc
  have hC : (bq_ix true bs 0).map (fun i => ws[i]?) = (bq_sel true bs ws).map some := bq_ix_map true bs ws [] h1
  have hR : (bq_ix false bs 0).map (fun i => ws[i]?) = (bq_sel false bs ws).map some := bq_ix_map false bs ws [] h1
  have hdis : ∀ i ∈ bq_ix false bs 0, i ∉ bq_ix true bs 0 := fun i h h9 => by
    have e1 := (bq_ix_at _ _ _ _ h).2
    have e2 := (bq_ix_at _ _ _ _ h9).2
    rw [e1] at e2
    cases e2
  have hF := va_free hD hS hA _ hC
  have hDc : va_D A (bq_sel true bs ws) := hD.sub _ (bq_ix_nd true bs 0) hC
  have hPc : va_P D vwCl (bq_sel true bs ws) H := hP.sub (bq_ix true bs 0) (by
    have h9 : (bq_ix true bs 0).filterMap (fun i => ws[i]?) = ((bq_ix true bs 0).map (fun i => ws[i]?)).filterMap id := by rw [List.filterMap_map]; rfl
    rw [h9, hC, List.filterMap_map]
    exact List.filterMap_some)
  refine bq_cont (hr hPc (hDc.weaken (fun _ _ _ _ => trivial)) hF) hS hF hF (fun H1 locs1 hP1 hD1 hk hS1 => kk H1 locs1 ?_)
  obtain ⟨hP2, hD2⟩ := va_join hP hD _ _ hC hR (bq_ix_nd false bs 0) hdis hk hF hP1 hD1
  have hp := bq_mrg_perm bs ws wc' h1 h2
  exact ⟨bq_permP hp hP2, bq_permD hp hD2, hS1⟩
theorem bq_VM (E : bq_E p m c cc nL s args own) (K : bq_K D cI cJ s) (w : bq_w D A s.heap ws H locs) (hA : ∀ q, s.heap.size ≤ q → A q) {b : Nat} {C : String}
    (M : bq_M l D cI cJ y bytes maxL ret rm (.ref b :: As) wc wc' res) (G : GoodIn lw_good (wsV own index C y (Cond.code y bytes maxL ret :: lw_good))) (hd : y.cls = C ∧ y.cls ≠ "java/lang/invoke/MethodHandle" ∧ y.cls ≠ "java/lang/invoke/VarHandle" ∧ (parseMethodDescriptor y.desc).map (fun d => d.parameters.length) = some n)
    (hR : rm.frames + 1 ≤ R.frames ∧ 8 + (maxL + 11) + rm.locals ≤ R.locals) (hf : cells + rm.cells ≤ R.cells ∧ slots + rm.slots ≤ R.slots) (hc : bq_cutM ws wc wc' ws') (q0 : Nat) {ci N : Nat} {T : u_T} {fs : List Value} (he : ws[q0]? = some (b, .inr (ci, fs))) (hci : vwCl[ci]? = some (C, T, N)) (hn : As.length = n) (hsz : ls.size = nL) (hst : st0 = As.reverse ++ .ref b :: rest) (hW : (rest.map fun v => v.category).sum ≤ 8) {st1 : List Value} (hs1 : res.toList ++ rest = st1) (hdg : decode cc pc = .ok (.invokevirtual index, 3))
    (kk : ∀ (H1 : Heap) (locs1 : List Loc), bq_w D A s.heap ws' H1 locs1 → W p l e R s m args below meth c H1 locs1 (cells + rm.cells) (slots + rm.slots) Q (F0 m (pc + 3) ls st1)) : W p l e R s m args below meth c H locs cells slots Q (F0 m pc ls st0) :=
  bq_backM w.1 w.2.1 w.2.2 hA hc (fun hPc hDc _ => va_runV E (M H.size) (cwV n E.2.2.2.2 G rfl rfl rfl hd hR) ⟨bq_blind, va_recv K.1 w.1 hci he, fun U hU hW => ⟨rfl, by rw [hU], by rw [hU]; exact hPc, bq_Kmoved hW K, hDc⟩⟩ rfl hn hsz hst (lv_room hW) hdg hf) (fun H1 locs1 h => by rw [hs1]; exact kk H1 locs1 h)
theorem bq_SHM (E : bq_E p m c cc nL s args own) (K : bq_K D cI cJ s) (w : bq_w D A s.heap ws H locs) (hA : ∀ q, s.heap.size ≤ q → A q) (hX : bq_XS A s)
    (M : bq_MH l D cI cJ y bytes maxL ret hh rm As wc wc' res) (hcd : Cond.codeWith y bytes maxL ret hh ∈ lw_good) (hml : Cond.methodLink own index y ∈ lw_good) (hini : Cond.initialized y.cls ∈ lw_good) (hstt : Cond.static y ∈ lw_good) (hd : y.cls ≠ "java/lang/invoke/MethodHandle" ∧ y.cls ≠ "java/lang/invoke/VarHandle" ∧ (parseMethodDescriptor y.desc).map (fun d => d.parameters.length) = some n)
    (hR : rm.frames + 1 ≤ R.frames ∧ 8 + (maxL + 11) + rm.locals ≤ R.locals) (hf : cells + rm.cells ≤ R.cells ∧ slots + rm.slots ≤ R.slots) (hc : bq_cutM ws wc wc' ws') (hn : As.length = n) (hsz : ls.size = nL) (hst : st0 = As.reverse ++ rest) (hW : (rest.map fun v => v.category).sum ≤ 8) {st1 : List Value} (hs1 : res.toList ++ rest = st1) (hdg : decode cc pc = .ok (.invokestatic index, 3))
    (kk : ∀ (H1 : Heap) (locs1 : List Loc), bq_w D A s.heap ws' H1 locs1 → W p l e R s m args below meth c H1 locs1 (cells + rm.cells) (slots + rm.slots) Q (F0 m (pc + 3) ls st1)) : W p l e R s m args below meth c H locs cells slots Q (F0 m pc ls st0) :=
  bq_backM w.1 w.2.1 w.2.2 hA hc (fun hPc hDc hF => bq_noX (vx_runSX E (M H.size) (vx_cwSW n E.2.2.2.2 (bq_gW hml hstt hini hcd) rfl rfl rfl hd hR) ⟨bq_blindT, fun U hU hW => ⟨rfl, by rw [hU], by rw [hU]; exact hPc, bq_Kmoved hW K, hDc, bq_XSat hX w.2.2 hF hU hW⟩⟩ rfl hn hsz hst (lv_room hW) hdg hf)) (fun H1 locs1 h => by rw [hs1]; exact kk H1 locs1 h)
end BQM
