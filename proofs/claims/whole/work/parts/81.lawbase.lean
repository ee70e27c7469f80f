section BQS
variable {p : Program} {l : Launch} {e : Env} {R : Room} {s : State} {m : MethodId} {args : Array Value} {below : List Frame} {meth : Method} {c : Code} {H : Heap} {locs : List Loc} {cells slots : Nat} {Q : State → Prop}
variable {cc : ByteArray} {pc nL : Nat} {ls : Array Slot} {rest st0 : List Value} {D : va_G} {A : Nat → Prop} {a : Nat} {ws wc wc' ws' : va_W} {H0 : Heap} {own : String} {cI cJ : ClassId}
variable {y : MethodName} {bytes : ByteArray} {maxL n index : Nat} {ret : Option FieldType} {rm : Room} {As : List Value} {res : Option Value} {hh : List (Nat × Nat × Nat × Nat)}
theorem bq_noX {mc ms : Nat} {g : JFrame} {Qa : State → Outcome → State → Prop} {free : Addr → Prop} (h : vx_Run p l e R s m args below meth c H locs cells slots mc ms g rest Qa bq_NX free) : va_Run p l e R s m args below meth c H locs cells slots mc ms g rest Qa free := by
  intro T hT X
  rcases h T hT X with ⟨v, st₀, t, T', L, h0, X', hL, e1, e2, hq, st⟩ | ⟨q, st₀, t, T', L, E9, ce, h0, X', hL, e1, e2, hno, _⟩
  · exact ⟨v, st₀, t, T', L, h0, X', hL, e1, e2, hq, st⟩
  · exact hno.elim
theorem bq_gW {own : String} {idx : Nat} {y : MethodName} {b : ByteArray} {n : Nat} {r : Option FieldType} {hh : List (Nat × Nat × Nat × Nat)} (h1 : Cond.methodLink own idx y ∈ lw_good) (h2 : Cond.static y ∈ lw_good) (h4 : Cond.initialized y.cls ∈ lw_good) (h5 : Cond.codeWith y b n r hh ∈ lw_good) : GoodIn lw_good (va_wsS own idx y (Cond.codeWith y b n r hh :: lw_good)) := fun w hw => by
  unfold va_wsS at hw
  rcases List.mem_append.mp hw with hw | hw
  · simp only [List.mem_cons, List.not_mem_nil, or_false] at hw
    rcases hw with rfl | rfl | rfl
    · exact bq_good h1
    · exact bq_good h2
    · exact bq_good h4
  · rcases List.mem_cons.mp hw with rfl | hw
    · exact bq_good h5
    · exact bq_good hw
theorem bq_SH (E : bq_E p m c cc nL s args own) (K : bq_K D cI cJ s) (w : bq_w D A s.heap ws H locs) (hA : ∀ q, s.heap.size ≤ q → A q) (hX : bq_XS A s)
    (M : bq_MH l D cI cJ y bytes maxL ret hh rm As wc wc' res) (hcd : Cond.codeWith y bytes maxL ret hh ∈ lw_good) (hml : Cond.methodLink own index y ∈ lw_good) (hini : Cond.initialized y.cls ∈ lw_good) (hstt : Cond.static y ∈ lw_good) (hd : y.cls ≠ "java/lang/invoke/MethodHandle" ∧ y.cls ≠ "java/lang/invoke/VarHandle" ∧ (parseMethodDescriptor y.desc).map (fun d => d.parameters.length) = some n)
    (hR : rm.frames + 1 ≤ R.frames ∧ 8 + (maxL + 11) + rm.locals ≤ R.locals) (hf : cells + rm.cells ≤ R.cells ∧ slots + rm.slots ≤ R.slots) (hc : bq_cut ws wc wc' ws') (hn : As.length = n) (hsz : ls.size = nL) (hst : st0 = As.reverse ++ rest) (hW : (rest.map fun v => v.category).sum ≤ 8) {st1 : List Value} (hs1 : res.toList ++ rest = st1) (hdg : decode cc pc = .ok (.invokestatic index, 3))
    (kk : ∀ (H1 : Heap) (locs1 : List Loc), bq_w D A s.heap ws' H1 locs1 → W p l e R s m args below meth c H1 locs1 (cells + rm.cells) (slots + rm.slots) Q (F0 m (pc + 3) ls st1)) : W p l e R s m args below meth c H locs cells slots Q (F0 m pc ls st0) := by
  have hF : ∀ (isC : List Nat), isC.all (fun i => decide (i < ws.length)) = true → wc = bq_pick ws isC → ∀ q, va_A wc H.size q → A q := fun isC h1 h2 => by
    subst h2
    exact va_free w.2.1 w.2.2 hA isC (bq_pick_map h1)
  have hF9 : ∀ q, va_A wc H.size q → A q := by
    obtain ⟨isC, isR, isP, h1, h2, _⟩ := hc
    exact hF isC h2 h1
  exact bq_back w.1 w.2.1 w.2.2 hA hc (fun hPc hDc => bq_noX (vx_runSX E (M H.size) (vx_cwSW n E.2.2.2.2 (bq_gW hml hstt hini hcd) rfl rfl rfl hd hR) ⟨bq_blindT, fun U hU hW => ⟨rfl, by rw [hU], by rw [hU]; exact hPc, bq_Kmoved hW K, hDc, bq_XSat hX w.2.2 hF9 hU hW⟩⟩ rfl hn hsz hst (lv_room hW) hdg hf)) (fun H1 locs1 h => by rw [hs1]; exact kk H1 locs1 h)
theorem bq_newJ (E : bq_E p m c cc nL s args own) (K : bq_K D cI cJ s) (w : bq_w D A H0 ws H locs) (hA : ∀ q, H0.size ≤ q → A q) {n : Int32} (k : Nat) (hn : ¬ n < 0) (hk : n.toNatClampNeg = k) (hby : k * componentBytes .long ≤ 536870912) (hc : cells + 1 ≤ R.cells) (hs : slots + k ≤ R.slots) (hdg : decode cc pc = .ok (.newarray .long, 2))
    (kk : ∀ (q : Nat) (H1 : Heap), bq_w D A H0 (ws ++ [(q, oJ cJ k (fun _ => 0))]) H1 locs → W p l e R s m args below meth c H1 locs (cells + 1) (slots + k) Q (F0 m (pc + 2) ls (.ref q :: rest))) : W p l e R s m args below meth c H locs cells slots Q (F0 m pc ls (.int n :: rest)) := by
  refine va_newa (atype := .long) (a0 := (k, .inr (.inl (fun _ => 0)))) E.1 E.2.1 (E.2.2.2.2 _ ac_long) (ty := .long) rfl K.1 w.1 w.2.1 w.2.2 hA (fun cA => rfl) hn hk hby hc hs hdg (fun q cA H1 hK h1 h2 h3 => ?_)
  have e1 : s.vm.findClass ("[" ++ FieldType.long.toString) = some cA := (hK.2 2 _ rfl).2
  have e2 : s.vm.findClass ("[" ++ FieldType.long.toString) = some cJ := (K.1.2 1 _ rfl).2
  rw [e2] at e1
  cases e1
  exact kk q H1 ⟨h1, h2, h3⟩
end BQS
abbrev wdL (cI cJ : ClassId) (a : Nat → Nat) (q : Nat) (σ : Nat → Nat → Int32) (o : Nat → Int64) : va_W := [(a 0, oX7 (a 1) (a 3) (a 30) (a 20) (a 23) (σ 0)), (a 1, oX2 (a 2) (σ 1)), (a 2, oA cI 80 (σ 2)), (a 3, oX3 (a 11) (a 4) (a 6) (a 10) (a 18) (a 9) (a 19) (a 5) (σ 3)), (a 4, oX0 (σ 4)), (a 5, oA cI 5 (σ 5)), (a 6, oX1 (a 8) (a 7) (σ 6)), (a 7, oA cI 40 (σ 7)), (a 8, oA cI 40 (σ 8)), (a 9, oA cI 6 (σ 9)), (a 10, oX4 (σ 10)), (a 11, oX5 (a 17) (a 14) (a 16) (a 15) (a 12) (a 13) (σ 11)), (a 12, oA cI 16 (σ 12)), (a 13, oA cI 16 (σ 13)), (a 14, oA cI 16 (σ 14)), (a 15, oA cI 16 (σ 15)), (a 16, oA cI 16 (σ 16)), (a 17, oA cI 16 (σ 17)), (a 18, oA cI 6 (σ 18)), (a 19, oA cI 16 (σ 19)), (a 20, oX6 (a 21) (a 22) (σ 20)), (a 21, oA cI 6 (σ 21)), (a 22, oA cI 16 (σ 22)), (a 23, oX5 (a 29) (a 26) (a 28) (a 27) (a 24) (a 25) (σ 23)), (a 24, oA cI 16 (σ 24)), (a 25, oA cI 16 (σ 25)), (a 26, oA cI 16 (σ 26)), (a 27, oA cI 16 (σ 27)), (a 28, oA cI 16 (σ 28)), (a 29, oA cI 16 (σ 29)), (a 30, oX3 q (a 31) (a 33) (a 37) (a 38) (a 36) (a 39) (a 32) (σ 30)), (a 31, oX0 (σ 31)), (a 32, oA cI 5 (σ 32)), (a 33, oX1 (a 35) (a 34) (σ 33)), (a 34, oA cI 40 (σ 34)), (a 35, oA cI 40 (σ 35)), (a 36, oA cI 6 (σ 36)), (a 37, oX4 (σ 37)), (a 38, oA cI 6 (σ 38)), (a 39, oA cI 16 (σ 39)), (a 40, oX8 (a 48) (a 51) (a 49) (a 43) (a 41) (a 44) (a 42) (a 50) (a 46) (a 45) (a 47) (σ 40)), (a 41, oA cI 16 (σ 41)), (a 42, oA cI 16 (σ 42)), (a 43, oA cI 16 (σ 43)), (a 44, oA cI 16 (σ 44)), (a 45, oA cI 17 (σ 45)), (a 46, oA cI 17 (σ 46)), (a 47, oA cI 17 (σ 47)), (a 48, oA cI 140 (σ 48)), (a 49, oA cI 6 (σ 49)), (a 50, oA cI 80 (σ 50)), (a 51, oA cI 140 (σ 51)), (a 52, oJ cJ 1 o)]
def sw (a : Nat → Nat) (k : Nat) : Nat := bif Nat.ble 11 k && Nat.ble k 17 then a (k + 12) else bif Nat.ble 23 k && Nat.ble k 29 then a (k - 12) else a k
abbrev LV (b x m9 o9 i : Nat) : List (Nat × Value) := [(0, .ref b), (1, .ref x), (2, .ref m9), (3, .ref o9), (4, .int (nI i))]
abbrev lwA (s : State) : Nat → Prop := fun q => s.heap.size ≤ q
