def LC (p : Program) (l : Launch) (s : State) (m : MethodId) (c : Code) (b L : Nat) (xs : Nat → Int32) (D : va_G) (cI cJ : ClassId) : Prop := l.stackTraces = false ∧ bq_E p m c cL_law 7 s #[Value.ref b] RL ∧ bq_K D cI cJ s ∧ bq_XS (lwA s) s ∧ va_X b L xs s s.heap ∧ b < s.heap.size ∧ L ≤ 2048
def LK (p : Program) (l : Launch) (e : Env) (s : State) (m : MethodId) (below : List Frame) (meth : Method) (c : Code) (b : Nat) (D : va_G) (cI cJ : ClassId) (i T n cells slots : Nat) (Q : State → Prop) : Prop :=
  ∀ (σ : Nat → Nat → Int32) (o : Nat → Int64) (a : Nat → Nat) (q : Nat) (H : Heap) (locs : List Loc) (ls : Array Slot), INV (T + 5000) (n + 30000) σ → bq_w D (lwA s) s.heap (wdL cI cJ a q σ o) H locs → lv_has ls 7 (LV b (a 0) (a 40) (a 52) i) → W p l e room_1 s m #[Value.ref b] below meth c H locs (cells + 1) (slots + 6) Q (F0 m 1966 ls [])
/-- one case of the switch: all that it may use -/
def LGo (p : Program) (l : Launch) (e : Env) (s : State) (m : MethodId) (below : List Frame) (meth : Method) (c : Code) (b L : Nat) (xs : Nat → Int32) (D : va_G) (cI cJ : ClassId) (i T n cells slots : Nat) (Q : State → Prop) : Prop :=
  LC p l s m c b L xs D cI cJ ∧ i + 4 ≤ L ∧ n + 30100 < 2 ^ 31 ∧ T < 2 ^ 31 ∧ (cells + 1 ≤ room_1.cells ∧ slots + 6 ≤ room_1.slots) ∧ LK p l e s m below meth c b D cI cJ i T n cells slots Q
section LAW
variable {p : Program} {l : Launch} {e : Env} {s : State} {m : MethodId} {below : List Frame} {meth : Method} {c : Code} {H : Heap} {locs : List Loc} {cells slots : Nat} {Q : State → Prop} {ls : Array Slot} {D : va_G} {cI cJ : ClassId} {b L : Nat} {xs : Nat → Int32} {i T n : Nat} {σ : Nat → Nat → Int32} {o : Nat → Int64} {a : Nat → Nat} {q : Nat}
theorem la_arg {rest : List Value} {pc : Nat} (G : LGo p l e s m below meth c b L xs D cI cJ i T n cells slots Q) (hS : va_S (lwA s) s.heap H locs) (h0 : ls[0]? = some (.val (.ref b))) (h4 : ls[4]? = some (.val (.int (nI i)))) (k : Nat) (hk : k < 4) {z : Int} (hz : Int32.ofInt z = nI k) {cells' slots' : Nat}
    (d0 : decode cL_law pc = .ok (.aload_n 0, 1)) (d1 : decode cL_law (pc + 1) = .ok (.iload 4, 2)) (d2 : decode cL_law (pc + 3) = .ok (.iconst z, 1)) (d3 : decode cL_law (pc + 4) = .ok (.iadd, 1)) (d4 : decode cL_law (pc + 5) = .ok (.iaload, 1))
    (kk : W p l e room_1 s m #[Value.ref b] below meth c H locs cells' slots' Q (F0 m (pc + 6) ls (.int (xs (i + k)) :: rest))) : W p l e room_1 s m #[Value.ref b] below meth c H locs cells' slots' Q (F0 m pc ls rest) := by
  obtain ⟨⟨hlf, E, K, hX, hXs, hbl, hL⟩, hi, _⟩ := G
  have hx := E.1
  have hb := E.2.1
  refine lv_aload_n hx hb d0 rfl h0 ?_
  refine lv_iload hx hb d1 h4 ?_
  refine lv_iconst (v := nI k) hx hb d2 hz ?_
  refine lv_iadd hx hb d3 ?_
  refine bq_nmi (y := nI (i + k)) (nI_add i k).symm ?_
  refine va_sld hx hb hXs hbl (Nat.not_le_of_lt hbl) hS (vp_in_nI (n := i + k) (N := L) (by omega) (by omega)) d4 ?_
  exact bq_nmi (y := xs (i + k)) (by rw [nI_clamp (by omega)]) kk
abbrev LT (b x m9 o9 i : Nat) (k v : Int32) : List (Nat × Value) := [(6, .int v), (5, .int k), (0, .ref b), (1, .ref x), (2, .ref m9), (3, .ref o9), (4, .int (nI i))]
set_option maxHeartbeats 4000000 in
set_option maxRecDepth 100000 in
theorem lt_X (G : LGo p l e s m below meth c b L xs D cI cJ i T n cells slots Q) (w : bq_w D (lwA s) s.heap (wdL cI cJ a q σ o) H locs) {k v : Int32} (hl : lv_has ls 7 (LT b (a 0) (a 40) (a 52) i k v)) (h3 : σ 40 3 = k) (t : Nat)
    (d0 : decode cL_law t = .ok (.aload_n 2, 1)) (d1 : decode cL_law (t + 1) = .ok (.invokevirtual 110, 3)) (d2 : decode cL_law (t + 4) = .ok (.iload 5, 2)) (d3 : decode cL_law (t + 6) = .ok (.if_icmp .eq 5, 3)) (d4 : decode cL_law (t + 11) = .ok (.iload 5, 2))
    (kk : ∀ (H : Heap) (locs : List Loc), bq_w D (lwA s) s.heap (wdL cI cJ a q σ o) H locs → W p l e room_1 s m #[Value.ref b] below meth c H locs (cells + 1) (slots + 6) Q (F0 m (t + 13) ls [.int k])) : W p l e room_1 s m #[Value.ref b] below meth c H locs (cells + 1) (slots + 6) Q (F0 m t ls []) := by
  obtain ⟨⟨hlf, E, K, hX, hXs, hbl, hL⟩, hi, hn, hT, hf, _⟩ := G
  have hx := E.1
  have hb := E.2.1
  have hA : ∀ q : Nat, s.heap.size ≤ q → lwA s q := fun q h => h
  refine lv_aload_n hx hb d0 rfl (lv_at hl 4 rfl) ?_
  refine bq_VM (As := []) (rest := []) (st1 := [.int (σ 40 3)]) (ws' := wdL cI cJ a q σ o) E K w hA (kX8_thrown l D cI cJ (a 40) (a 48) (a 51) (a 49) (a 43) (a 41) (a 44) (a 42) (a 50) (a 46) (a 45) (a 47) (σ 40) (σ 40 3) rfl) (bq_gV ml_L_110 im_X8_thrown sl_X8_thrown in_X8 cd_X8_thrown) hd_X8_thrown ⟨Nat.le_of_ble_eq_true rfl, Nat.le_of_ble_eq_true rfl⟩ hf ⟨[false, false, false, false, false, false, false, false, false, false, false, false, false, false, false, false, false, false, false, false, false, false, false, false, false, false, false, false, false, false, false, false, false, false, false, false, false, false, false, false, true, false, false, false, false, false, false, false, false, false, false, false, false], rfl, rfl, rfl, rfl⟩ 40 rfl rfl rfl hl.1 rfl (Nat.le_of_ble_eq_true rfl) rfl d1 (fun H locs w => bq_z ⟨rfl, rfl⟩ ?_)
  refine lv_iload hx hb d2 (lv_at hl 1 rfl) ?_
  refine lv_icmp_eq (tgt := t + 11) hx hb d3 (by omega) (fun _ => ?_) (fun hc => absurd h3 hc)
  exact lv_iload hx hb d4 (lv_at hl 1 rfl) (kk _ _ w)
theorem lt_T (G : LGo p l e s m below meth c b L xs D cI cJ i T n cells slots Q) (hv : INV T n σ) (w : bq_w D (lwA s) s.heap (wdL cI cJ a q σ o) H locs) {k v : Int32} (hl : lv_has ls 7 (LT b (a 0) (a 40) (a 52) i k v)) (h3 : σ 40 3 = k) (hk : ¬ k = 0) (t t' : Nat) {off off' : Int}
    (d0 : decode cL_law t = .ok (.aload_n 2, 1)) (d1 : decode cL_law (t + 1) = .ok (.invokevirtual 110, 3)) (d2 : decode cL_law (t + 4) = .ok (.iload 5, 2)) (d3 : decode cL_law (t + 6) = .ok (.if_icmp .eq 5, 3)) (d4 : decode cL_law (t + 11) = .ok (.iload 5, 2)) (d5 : decode cL_law (t + 13) = .ok (.ifCond .ne off, 3)) (d6 : decode cL_law t' = .ok (.goto off', 3)) (e1 : ((t + 13 : Nat) : Int) + off = (t' : Int)) (e2 : (t' : Int) + off' = ((1966 : Nat) : Int)) :
    W p l e room_1 s m #[Value.ref b] below meth c H locs (cells + 1) (slots + 6) Q (F0 m t ls []) := by
  refine lt_X G w hl h3 t d0 d1 d2 d3 d4 (fun H locs w => ?_)
  obtain ⟨⟨hlf, E, K, hX, hXs, hbl, hL⟩, hi, hn, hT, hf, kk⟩ := G
  refine lv_if_ne (tgt := t') E.1 E.2.1 d5 e1 (fun _ => ?_) (fun hc => absurd hc hk)
  refine lv_goto (tgt := 1966) E.1 E.2.1 d6 e2 ?_
  exact kk σ o a q _ _ _ (inv_le hv (by omega) (by omega)) w (lv_sub hl [2, 3, 4, 5, 6] rfl)
theorem lt_I (G : LGo p l e s m below meth c b L xs D cI cJ i T n cells slots Q) (hv : INV (T + 5000) (n + 30000) σ) (w : bq_w D (lwA s) s.heap (wdL cI cJ a q σ o) H locs) {v : Int32} (hl : lv_has ls 7 (LT b (a 0) (a 40) (a 52) i 0 v)) (h3 : σ 40 3 = 0) (ho : o 0 = Int32.toInt64 v) (t : Nat) {off' : Int}
    (d0 : decode cL_law t = .ok (.aload_n 2, 1)) (d1 : decode cL_law (t + 1) = .ok (.invokevirtual 110, 3)) (d2 : decode cL_law (t + 4) = .ok (.iload 5, 2)) (d3 : decode cL_law (t + 6) = .ok (.if_icmp .eq 5, 3)) (d4 : decode cL_law (t + 11) = .ok (.iload 5, 2)) (d5 : decode cL_law (t + 13) = .ok (.ifCond .ne 15, 3))
    (d7 : decode cL_law (t + 16) = .ok (.aload_n 3, 1)) (d8 : decode cL_law (t + 17) = .ok (.iconst 0, 1)) (d9 : decode cL_law (t + 18) = .ok (.laload, 1)) (d10 : decode cL_law (t + 19) = .ok (.iload 6, 2)) (d11 : decode cL_law (t + 21) = .ok (.i2l, 1)) (d12 : decode cL_law (t + 22) = .ok (.lcmp, 1)) (d13 : decode cL_law (t + 23) = .ok (.ifCond .eq 5, 3)) (d6 : decode cL_law (t + 28) = .ok (.goto off', 3)) (e2 : ((t + 28 : Nat) : Int) + off' = ((1966 : Nat) : Int)) :
    W p l e room_1 s m #[Value.ref b] below meth c H locs (cells + 1) (slots + 6) Q (F0 m t ls []) := by
  refine lt_X G w hl h3 t d0 d1 d2 d3 d4 (fun H locs w => ?_)
  obtain ⟨⟨hlf, E, K, hX, hXs, hbl, hL⟩, hi, hn, hT, hf, kk⟩ := G
  have hx := E.1
  have hb := E.2.1
  refine lv_if_ne (tgt := t + 28) hx hb d5 (by omega) (fun hc => absurd rfl hc) (fun _ => ?_)
  refine lv_aload_n hx hb d7 rfl (lv_at hl 5 rfl) ?_
  refine lv_iconst (v := 0) hx hb d8 (by decide) ?_
  refine bq_laldk E K w 52 rfl 0 (by decide) (by unfold vp_in; decide) d9 ?_
  refine lv_iload hx hb d10 (lv_at hl 0 rfl) ?_
  refine lv_i2l hx hb d11 rfl ?_
  refine W.lcmp hx hb d12 ?_
  refine lv_if_eq (tgt := t + 28) hx hb d13 (by omega) (fun _ => ?_) (fun hc => absurd ((lg_cmp_eq _ _).mpr ho) hc)
  refine lv_goto (tgt := 1966) hx hb d6 e2 ?_
  exact kk σ o a q _ _ _ hv w (lv_sub hl [2, 3, 4, 5, 6] rfl)
theorem lt_B (G : LGo p l e s m below meth c b L xs D cI cJ i T n cells slots Q) (hv : INV (T + 5000) (n + 30000) σ) (w : bq_w D (lwA s) s.heap (wdL cI cJ a q σ o) H locs) {v : Int32} (hl : lv_has ls 7 (LT b (a 0) (a 40) (a 52) i 0 v)) (h3 : σ 40 3 = 0) (ho : o 0 = (if v = 0 then 0 else 1)) (t : Nat) {off' : Int}
    (d0 : decode cL_law t = .ok (.aload_n 2, 1)) (d1 : decode cL_law (t + 1) = .ok (.invokevirtual 110, 3)) (d2 : decode cL_law (t + 4) = .ok (.iload 5, 2)) (d3 : decode cL_law (t + 6) = .ok (.if_icmp .eq 5, 3)) (d4 : decode cL_law (t + 11) = .ok (.iload 5, 2)) (d5 : decode cL_law (t + 13) = .ok (.ifCond .ne 22, 3))
    (d7 : decode cL_law (t + 16) = .ok (.aload_n 3, 1)) (d8 : decode cL_law (t + 17) = .ok (.iconst 0, 1)) (d9 : decode cL_law (t + 18) = .ok (.laload, 1)) (d10 : decode cL_law (t + 19) = .ok (.iload 6, 2)) (d11 : decode cL_law (t + 21) = .ok (.ifCond .eq 7, 3)) (d14 : decode cL_law (t + 24) = .ok (.lconst 1, 1)) (d15 : decode cL_law (t + 25) = .ok (.goto 4, 3)) (d16 : decode cL_law (t + 28) = .ok (.lconst 0, 1)) (d12 : decode cL_law (t + 29) = .ok (.lcmp, 1)) (d13 : decode cL_law (t + 30) = .ok (.ifCond .eq 5, 3)) (d6 : decode cL_law (t + 35) = .ok (.goto off', 3)) (e2 : ((t + 35 : Nat) : Int) + off' = ((1966 : Nat) : Int)) :
    W p l e room_1 s m #[Value.ref b] below meth c H locs (cells + 1) (slots + 6) Q (F0 m t ls []) := by
  refine lt_X G w hl h3 t d0 d1 d2 d3 d4 (fun H locs w => ?_)
  obtain ⟨⟨hlf, E, K, hX, hXs, hbl, hL⟩, hi, hn, hT, hf, kk⟩ := G
  have hx := E.1
  have hb := E.2.1
  refine lv_if_ne (tgt := t + 35) hx hb d5 (by omega) (fun hc => absurd rfl hc) (fun _ => ?_)
  refine lv_aload_n hx hb d7 rfl (lv_at hl 5 rfl) ?_
  refine lv_iconst (v := 0) hx hb d8 (by decide) ?_
  refine bq_laldk E K w 52 rfl 0 (by decide) (by unfold vp_in; decide) d9 ?_
  refine lv_iload hx hb d10 (lv_at hl 0 rfl) ?_
  have kend : W p l e room_1 s m #[Value.ref b] below meth c H locs (cells + 1) (slots + 6) Q (F0 m (t + 35) ls []) := by
    refine lv_goto (tgt := 1966) hx hb d6 e2 ?_
    exact kk σ o a q _ _ _ hv w (lv_sub hl [2, 3, 4, 5, 6] rfl)
  refine lv_if_eq (tgt := t + 28) hx hb d11 (by omega) (fun hc => ?_) (fun hc => ?_)
  · rw [if_pos hc] at ho
    refine lv_lconst (v := 0) hx hb d16 (by decide) ?_
    refine W.lcmp hx hb d12 ?_
    exact lv_if_eq (tgt := t + 35) hx hb d13 (by omega) (fun _ => kend) (fun hc => absurd ((lg_cmp_eq _ _).mpr ho) hc)
  · rw [if_neg hc] at ho
    refine lv_lconst (v := 1) hx hb d14 (by decide) ?_
    refine lv_goto (tgt := t + 29) hx hb d15 (by omega) ?_
    refine W.lcmp hx hb d12 ?_
    exact lv_if_eq (tgt := t + 35) hx hb d13 (by omega) (fun _ => kend) (fun hc => absurd ((lg_cmp_eq _ _).mpr ho) hc)
end LAW
