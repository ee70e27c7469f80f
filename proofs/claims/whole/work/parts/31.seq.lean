abbrev wdX5_clear (cI : ClassId) (a_t a_t_minus a_t_pauses a_t_plus u_t_outBefore u_t_cuts u_t_groupOfStep : Nat) (t : Nat → Int32) (t_minus : Nat → Int32) (t_pauses : Nat → Int32) (t_plus : Nat → Int32) : va_W := [(a_t, oX5 a_t_plus a_t_minus a_t_pauses u_t_outBefore u_t_cuts u_t_groupOfStep t), (a_t_minus, oA cI 16 t_minus), (a_t_pauses, oA cI 16 t_pauses), (a_t_plus, oA cI 16 t_plus)]
abbrev rmX5_clear : Room := { frames := 1, cells := 0, slots := 0, locals := 23 }
theorem hd_X5_clear : yX5_clear.cls = RX5 ∧ yX5_clear.cls ≠ "java/lang/invoke/MethodHandle" ∧ yX5_clear.cls ≠ "java/lang/invoke/VarHandle" ∧ (parseMethodDescriptor yX5_clear.desc).map (fun d => d.parameters.length) = some 0 := by decide +kernel
set_option maxHeartbeats 4000000 in
set_option maxRecDepth 100000 in
theorem kX5_clear (l : Launch) (D : va_G) (cI cJ : ClassId) (a_t a_t_minus a_t_pauses a_t_plus u_t_outBefore u_t_cuts u_t_groupOfStep : Nat) (t t_minus t_pauses t_plus : Nat → Int32) (t_o : Nat → Int32) (t_minus_o : Nat → Int32) (t_pauses_o : Nat → Int32) (t_plus_o : Nat → Int32) (hm : mX5_clear t t_minus t_pauses t_plus = some (t_o, t_minus_o, t_pauses_o, t_plus_o)) : bq_M l D cI cJ yX5_clear cX5_clear 1 none rmX5_clear [.ref a_t] (wdX5_clear cI a_t a_t_minus a_t_pauses a_t_plus u_t_outBefore u_t_cuts u_t_groupOfStep t t_minus t_pauses t_plus) (wdX5_clear cI a_t a_t_minus a_t_pauses a_t_plus u_t_outBefore u_t_cuts u_t_groupOfStep t_o t_minus_o t_pauses_o t_plus_o) none := by
  refine bq_start (by decide) (Nat.le_of_ble_eq_true rfl) ?_
  intro p e s m av9 below meth c A ls Q H locs E K w hA hr hk hn hQ hl
  have E : bq_E p m c cX5_clear 1 s av9 RX5 := E
  have hx := E.1
  have hb := E.2.1
  have hl : lv_has ls 1 [(0, .ref a_t)] := hl
  unfold mX5_clear at hm
  refine lv_aload_n hx hb dX5_clear_0 rfl (lv_at hl 0 rfl) ?_
  refine lv_iconst (v := 0) hx hb dX5_clear_1 (by decide) ?_
  obtain ⟨t_1, e9, hm⟩ := bq_let_el hm
  refine pt_X5_30 E K w 0 rfl (Nat.le_of_ble_eq_true rfl) dX5_clear_2 (fun H locs w => ?_)
  replace w : bq_w D A s.heap (wdX5_clear cI a_t a_t_minus a_t_pauses a_t_plus u_t_outBefore u_t_cuts u_t_groupOfStep t_1 t_minus t_pauses t_plus) H locs := by rw [e9]; exact w
  clear e9
  refine lv_aload_n hx hb dX5_clear_5 rfl (lv_at hl 0 rfl) ?_
  refine gt_X5_9 E K w 0 rfl rfl dX5_clear_6 ?_
  refine lv_iconst (v := 0) hx hb dX5_clear_9 (by decide) ?_
  obtain ⟨t_plus_2, hC, hm⟩ := bq_bd_el hm
  refine bq_S (As := [.ref a_t_plus, .int 0]) (rest := []) (st1 := []) (ws' := wdX5_clear cI a_t a_t_minus a_t_pauses a_t_plus u_t_outBefore u_t_cuts u_t_groupOfStep t_1 t_minus t_pauses t_plus_2) E K w hA (kJ7_fill_53178 l D cI cJ a_t_plus 16 t_plus 0 t_plus_2 hC) cd_J7_fill_53178 ml_X5_34 in_J7 st_J7_fill_53178 hs_J7_fill_53178 ⟨Nat.le_of_ble_eq_true rfl, Nat.le_of_ble_eq_true rfl⟩ ⟨Nat.le_of_ble_eq_true rfl, Nat.le_of_ble_eq_true rfl⟩ ⟨[3], [0, 1, 2], [0, 1, 2, 3], rfl, rfl, rfl, rfl, rfl, rfl, rfl, rfl, rfl⟩ rfl hl.1 rfl (Nat.le_of_ble_eq_true rfl) rfl dX5_clear_10 (fun H locs w => bq_z ⟨rfl, rfl⟩ ?_)
  clear hC
  refine lv_aload_n hx hb dX5_clear_13 rfl (lv_at hl 0 rfl) ?_
  refine gt_X5_15 E K w 0 rfl rfl dX5_clear_14 ?_
  refine lv_iconst (v := 0) hx hb dX5_clear_17 (by decide) ?_
  obtain ⟨t_minus_3, hC, hm⟩ := bq_bd_el hm
  refine bq_S (As := [.ref a_t_minus, .int 0]) (rest := []) (st1 := []) (ws' := wdX5_clear cI a_t a_t_minus a_t_pauses a_t_plus u_t_outBefore u_t_cuts u_t_groupOfStep t_1 t_minus_3 t_pauses t_plus_2) E K w hA (kJ7_fill_53178 l D cI cJ a_t_minus 16 t_minus 0 t_minus_3 hC) cd_J7_fill_53178 ml_X5_34 in_J7 st_J7_fill_53178 hs_J7_fill_53178 ⟨Nat.le_of_ble_eq_true rfl, Nat.le_of_ble_eq_true rfl⟩ ⟨Nat.le_of_ble_eq_true rfl, Nat.le_of_ble_eq_true rfl⟩ ⟨[1], [0, 2, 3], [0, 3, 1, 2], rfl, rfl, rfl, rfl, rfl, rfl, rfl, rfl, rfl⟩ rfl hl.1 rfl (Nat.le_of_ble_eq_true rfl) rfl dX5_clear_18 (fun H locs w => bq_z ⟨rfl, rfl⟩ ?_)
  clear hC
  refine lv_aload_n hx hb dX5_clear_21 rfl (lv_at hl 0 rfl) ?_
  refine gt_X5_18 E K w 0 rfl rfl dX5_clear_22 ?_
  refine lv_iconst (v := 0) hx hb dX5_clear_25 (by decide) ?_
  obtain ⟨t_pauses_4, hC, hm⟩ := bq_bd_el hm
  refine bq_S (As := [.ref a_t_pauses, .int 0]) (rest := []) (st1 := []) (ws' := wdX5_clear cI a_t a_t_minus a_t_pauses a_t_plus u_t_outBefore u_t_cuts u_t_groupOfStep t_1 t_minus_3 t_pauses_4 t_plus_2) E K w hA (kJ7_fill_53178 l D cI cJ a_t_pauses 16 t_pauses 0 t_pauses_4 hC) cd_J7_fill_53178 ml_X5_34 in_J7 st_J7_fill_53178 hs_J7_fill_53178 ⟨Nat.le_of_ble_eq_true rfl, Nat.le_of_ble_eq_true rfl⟩ ⟨Nat.le_of_ble_eq_true rfl, Nat.le_of_ble_eq_true rfl⟩ ⟨[2], [0, 1, 3], [0, 1, 3, 2], rfl, rfl, rfl, rfl, rfl, rfl, rfl, rfl, rfl⟩ rfl hl.1 rfl (Nat.le_of_ble_eq_true rfl) rfl dX5_clear_26 (fun H locs w => bq_z ⟨rfl, rfl⟩ ?_)
  clear hC
  obtain ⟨rfl, rfl, rfl, rfl⟩ := bq_in4 (Option.some.inj hm)
  exact bq_vret E w hr hk dX5_clear_29 hQ
abbrev wdX5_movesIn (cI : ClassId) (a_t a_t_minus a_t_plus u_t_pauses u_t_outBefore u_t_cuts u_t_groupOfStep : Nat) (t : Nat → Int32) (t_minus : Nat → Int32) (t_plus : Nat → Int32) : va_W := [(a_t, oX5 a_t_plus a_t_minus u_t_pauses u_t_outBefore u_t_cuts u_t_groupOfStep t), (a_t_minus, oA cI 16 t_minus), (a_t_plus, oA cI 16 t_plus)]
abbrev rmX5_movesIn : Room := { frames := 0, cells := 0, slots := 0, locals := 0 }
theorem hd_X5_movesIn : yX5_movesIn.cls = RX5 ∧ yX5_movesIn.cls ≠ "java/lang/invoke/MethodHandle" ∧ yX5_movesIn.cls ≠ "java/lang/invoke/VarHandle" ∧ (parseMethodDescriptor yX5_movesIn.desc).map (fun d => d.parameters.length) = some 1 := by decide +kernel
set_option maxHeartbeats 4000000 in
set_option maxRecDepth 100000 in
theorem kX5_movesIn (l : Launch) (D : va_G) (cI cJ : ClassId) (a_t a_t_minus a_t_plus u_t_pauses u_t_outBefore u_t_cuts u_t_groupOfStep : Nat) (t t_minus t_plus : Nat → Int32) (x1 : Int32) (r : Int32) (hm : mX5_movesIn t_minus t_plus x1 = some r) : bq_M l D cI cJ yX5_movesIn cX5_movesIn 2 (some .int) rmX5_movesIn [.ref a_t, .int x1] (wdX5_movesIn cI a_t a_t_minus a_t_plus u_t_pauses u_t_outBefore u_t_cuts u_t_groupOfStep t t_minus t_plus) (wdX5_movesIn cI a_t a_t_minus a_t_plus u_t_pauses u_t_outBefore u_t_cuts u_t_groupOfStep t t_minus t_plus) (some (.int r)) := by
  refine bq_start (by decide) (Nat.le_of_ble_eq_true rfl) ?_
  intro p e s m av9 below meth c A ls Q H locs E K w hA hr hk hn hQ hl
  have E : bq_E p m c cX5_movesIn 2 s av9 RX5 := E
  have hx := E.1
  have hb := E.2.1
  have hl : lv_has ls 2 [(0, .ref a_t), (1, .int x1)] := hl
  unfold mX5_movesIn at hm
  refine lv_aload_n hx hb dX5_movesIn_0 rfl (lv_at hl 0 rfl) ?_
  refine gt_X5_9 E K w 0 rfl rfl dX5_movesIn_1 ?_
  refine lv_iload_n hx hb dX5_movesIn_4 rfl (lv_at hl 1 rfl) ?_
  obtain ⟨hI, hm⟩ := bq_ci_el hm
  refine bq_ald E K w 2 rfl hI dX5_movesIn_5 ?_
  refine lv_aload_n hx hb dX5_movesIn_6 rfl (lv_at hl 0 rfl) ?_
  refine gt_X5_15 E K w 0 rfl rfl dX5_movesIn_7 ?_
  refine lv_iload_n hx hb dX5_movesIn_10 rfl (lv_at hl 1 rfl) ?_
  obtain ⟨hI, hm⟩ := bq_ci_el hm
  refine bq_ald E K w 1 rfl hI dX5_movesIn_11 ?_
  refine lv_ior hx hb dX5_movesIn_12 ?_
  obtain rfl := Option.some.inj hm
  exact bq_iret E w hr hk dX5_movesIn_13 hQ
abbrev wdX5_movingCylinders (cI : ClassId) (a_t a_t_minus a_t_plus u_t_pauses u_t_outBefore u_t_cuts u_t_groupOfStep : Nat) (t : Nat → Int32) (t_minus : Nat → Int32) (t_plus : Nat → Int32) : va_W := [(a_t, oX5 a_t_plus a_t_minus u_t_pauses u_t_outBefore u_t_cuts u_t_groupOfStep t), (a_t_minus, oA cI 16 t_minus), (a_t_plus, oA cI 16 t_plus)]
abbrev rmX5_movingCylinders : Room := { frames := 1, cells := 0, slots := 0, locals := 21 }
theorem hd_X5_movingCylinders : yX5_movingCylinders.cls = RX5 ∧ yX5_movingCylinders.cls ≠ "java/lang/invoke/MethodHandle" ∧ yX5_movingCylinders.cls ≠ "java/lang/invoke/VarHandle" ∧ (parseMethodDescriptor yX5_movingCylinders.desc).map (fun d => d.parameters.length) = some 0 := by decide +kernel
set_option maxHeartbeats 4000000 in
set_option maxRecDepth 100000 in
theorem kX5_movingCylinders (l : Launch) (D : va_G) (cI cJ : ClassId) (a_t a_t_minus a_t_plus u_t_pauses u_t_outBefore u_t_cuts u_t_groupOfStep : Nat) (t t_minus t_plus : Nat → Int32) (r : Int32) (hm : mX5_movingCylinders t t_minus t_plus = some r) : bq_M l D cI cJ yX5_movingCylinders cX5_movingCylinders 3 (some .int) rmX5_movingCylinders [.ref a_t] (wdX5_movingCylinders cI a_t a_t_minus a_t_plus u_t_pauses u_t_outBefore u_t_cuts u_t_groupOfStep t t_minus t_plus) (wdX5_movingCylinders cI a_t a_t_minus a_t_plus u_t_pauses u_t_outBefore u_t_cuts u_t_groupOfStep t t_minus t_plus) (some (.int r)) := by
  refine bq_start (by decide) (Nat.le_of_ble_eq_true rfl) ?_
  intro p e s m av9 below meth c A ls Q H locs E K w hA hr hk hn hQ hl
  have E : bq_E p m c cX5_movingCylinders 3 s av9 RX5 := E
  have hx := E.1
  have hb := E.2.1
  have hl : lv_has ls 3 [(0, .ref a_t)] := hl
  unfold mX5_movingCylinders at hm
  refine lv_iconst (v := 0) hx hb dX5_movingCylinders_0 (by decide) ?_
  refine lv_istore_n (lv' := [(1, .int 0), (0, .ref a_t)]) hx hb dX5_movingCylinders_1 rfl hl (by decide) rfl (fun ls hl => ?_)
  refine lv_iconst (v := 0) hx hb dX5_movingCylinders_2 (by decide) ?_
  refine lv_istore_n (lv' := [(2, .int 0), (1, .int 0), (0, .ref a_t)]) hx hb dX5_movingCylinders_3 rfl hl (by decide) rfl (fun ls hl => ?_)
  obtain ⟨v3, hL, hm⟩ := bq_bd_el hm
  obtain ⟨B, eB, nn, hL⟩ := bq_loop_B hL
  have X26 : ∀ (H : Heap) (locs : List Loc) (ls : Array Slot), bq_w D A s.heap (wdX5_movingCylinders cI a_t a_t_minus a_t_plus u_t_pauses u_t_outBefore u_t_cuts u_t_groupOfStep t t_minus t_plus) H locs → lv_has ls 3 [(1, .int v3)] → W p l e rmX5_movingCylinders s m av9 below meth c H locs 0 0 Q (F0 m 26 ls []) := by
    intro H locs ls w hl
    refine lv_iload_n hx hb dX5_movingCylinders_26 rfl (lv_at hl 0 rfl) ?_
    obtain rfl := Option.some.inj hm
    exact bq_iret E w hr hk dX5_movingCylinders_27 hQ
  clear hm
  have L4 : ∀ (nn : Nat) (i1 : Int32) (i2 : Int32) (H : Heap) (locs : List Loc) (ls : Array Slot), bq_lp B nn (i1, i2) = some v3 → bq_w D A s.heap (wdX5_movingCylinders cI a_t a_t_minus a_t_plus u_t_pauses u_t_outBefore u_t_cuts u_t_groupOfStep t t_minus t_plus) H locs → lv_has ls 3 [(0, .ref a_t), (1, .int i2), (2, .int i1)] → W p l e rmX5_movingCylinders s m av9 below meth c H locs 0 0 Q (F0 m 4 ls []) := by
    intro nn
    induction nn with
    | zero =>
      intro i1 i2 H locs ls hL w hl
      exact bq_lp_0 hL
    | succ nn ih =>
      intro i1 i2 H locs ls hL w hl
      obtain ⟨oo4, hT4, hR4⟩ := bq_lp_el hL
      clear hL
      replace hT4 := bq_u2_el eB hT4
      unfold bX5_movingCylinders_4 at hT4
      refine lv_iload_n hx hb dX5_movingCylinders_4 rfl (lv_at hl 2 rfl) ?_
      refine lv_aload_n hx hb dX5_movingCylinders_5 rfl (lv_at hl 0 rfl) ?_
      refine gt_X5_30 E K w 0 rfl rfl dX5_movingCylinders_6 ?_
      refine lv_icmp_ge (tgt := 26) hx hb dX5_movingCylinders_9 (by decide) (fun hc => ?_) (fun hc => ?_)
      · replace hT4 := bq_t hc hT4
        clear hc
        obtain rfl := Option.some.inj hT4
        replace hR4 := bq_lk_r hR4
        subst hR4
        exact X26 H locs ls w (lv_sub hl [1] rfl)
      · replace hT4 := bq_f hc hT4
        clear hc
        refine lv_iload_n hx hb dX5_movingCylinders_12 rfl (lv_at hl 1 rfl) ?_
        refine lv_aload_n hx hb dX5_movingCylinders_13 rfl (lv_at hl 0 rfl) ?_
        refine lv_iload_n hx hb dX5_movingCylinders_14 rfl (lv_at hl 2 rfl) ?_
        obtain ⟨v4, hC, hT4⟩ := bq_bd_el hT4
        refine bq_V (As := [.int i1]) (rest := [.int i2]) (st1 := [.int v4, .int i2]) (ws' := wdX5_movingCylinders cI a_t a_t_minus a_t_plus u_t_pauses u_t_outBefore u_t_cuts u_t_groupOfStep t t_minus t_plus) E K w hA (kX5_movesIn l D cI cJ a_t a_t_minus a_t_plus u_t_pauses u_t_outBefore u_t_cuts u_t_groupOfStep t t_minus t_plus i1 v4 hC) (bq_gV ml_X5_40 im_X5_movesIn sl_X5_movesIn in_X5 cd_X5_movesIn) hd_X5_movesIn ⟨Nat.le_of_ble_eq_true rfl, Nat.le_of_ble_eq_true rfl⟩ ⟨Nat.le_of_ble_eq_true rfl, Nat.le_of_ble_eq_true rfl⟩ ⟨[0, 1, 2], [], [0, 1, 2], rfl, rfl, rfl, rfl, rfl, rfl, rfl, rfl, rfl⟩ 0 rfl rfl rfl hl.1 rfl (Nat.le_of_ble_eq_true rfl) rfl dX5_movingCylinders_15 (fun H locs w => bq_z ⟨rfl, rfl⟩ ?_)
        clear hC
        refine lv_ior hx hb dX5_movingCylinders_18 ?_
        obtain ⟨v5, e9, hT4⟩ := bq_let_el hT4
        refine bq_nmi e9 ?_
        clear e9
        refine lv_istore_n (lv' := [(1, .int v5), (0, .ref a_t), (2, .int i1)]) hx hb dX5_movingCylinders_19 rfl hl (by decide) rfl (fun ls hl => ?_)
        obtain ⟨v6, e9, hT4⟩ := bq_let_el hT4
        refine lv_iinc (v := v6) (lv' := [(2, .int v6), (1, .int v5), (0, .ref a_t)]) hx hb dX5_movingCylinders_20 hl (k := 2) rfl (by rw [e9]; rfl) (by decide) rfl (fun ls hl => ?_)
        clear e9
        refine lv_goto (tgt := 4) hx hb dX5_movingCylinders_23 (by decide) ?_
        obtain rfl := Option.some.inj hT4
        exact ih v6 v5 H locs ls hR4 w (lv_sub hl [2, 1, 0] rfl)
  exact L4 nn 0 0 H locs ls hL w (lv_sub hl [2, 1, 0] rfl)
abbrev wdX5_stepBefore (cI : ClassId) (a_t u_t_plus u_t_minus u_t_pauses u_t_outBefore u_t_cuts u_t_groupOfStep : Nat) (t : Nat → Int32) : va_W := [(a_t, oX5 u_t_plus u_t_minus u_t_pauses u_t_outBefore u_t_cuts u_t_groupOfStep t)]
abbrev rmX5_stepBefore : Room := { frames := 0, cells := 0, slots := 0, locals := 0 }
theorem hd_X5_stepBefore : yX5_stepBefore.cls = RX5 ∧ yX5_stepBefore.cls ≠ "java/lang/invoke/MethodHandle" ∧ yX5_stepBefore.cls ≠ "java/lang/invoke/VarHandle" ∧ (parseMethodDescriptor yX5_stepBefore.desc).map (fun d => d.parameters.length) = some 1 := by decide +kernel
set_option maxHeartbeats 4000000 in
set_option maxRecDepth 100000 in
theorem kX5_stepBefore (l : Launch) (D : va_G) (cI cJ : ClassId) (a_t u_t_plus u_t_minus u_t_pauses u_t_outBefore u_t_cuts u_t_groupOfStep : Nat) (t : Nat → Int32) (x1 : Int32) (r : Int32) (hm : mX5_stepBefore t x1 = some r) : bq_M l D cI cJ yX5_stepBefore cX5_stepBefore 2 (some .int) rmX5_stepBefore [.ref a_t, .int x1] (wdX5_stepBefore cI a_t u_t_plus u_t_minus u_t_pauses u_t_outBefore u_t_cuts u_t_groupOfStep t) (wdX5_stepBefore cI a_t u_t_plus u_t_minus u_t_pauses u_t_outBefore u_t_cuts u_t_groupOfStep t) (some (.int r)) := by
  refine bq_start (by decide) (Nat.le_of_ble_eq_true rfl) ?_
  intro p e s m av9 below meth c A ls Q H locs E K w hA hr hk hn hQ hl
  have E : bq_E p m c cX5_stepBefore 2 s av9 RX5 := E
  have hx := E.1
  have hb := E.2.1
  have hl : lv_has ls 2 [(0, .ref a_t), (1, .int x1)] := hl
  unfold mX5_stepBefore at hm
  refine lv_iload_n hx hb dX5_stepBefore_0 rfl (lv_at hl 1 rfl) ?_
  obtain ⟨v1, hT16, hm⟩ := bq_let_el hm
  have K16 : ∀ (H : Heap) (locs : List Loc) (ls : Array Slot), bq_w D A s.heap (wdX5_stepBefore cI a_t u_t_plus u_t_minus u_t_pauses u_t_outBefore u_t_cuts u_t_groupOfStep t) H locs → lv_has ls 2 [] → W p l e rmX5_stepBefore s m av9 below meth c H locs 0 0 Q (F0 m 16 ls [.int v1]) := by
    intro H locs ls w hl
    obtain rfl := Option.some.inj hm
    exact bq_iret E w hr hk dX5_stepBefore_16 hQ
  clear hm
  refine lv_if_le (tgt := 10) hx hb dX5_stepBefore_1 (by decide) (fun hc => ?_) (fun hc => ?_)
  · replace hT16 := bq_et hc hT16
    clear hc
    refine lv_aload_n hx hb dX5_stepBefore_10 rfl (lv_at hl 0 rfl) ?_
    refine gt_X5_30 E K w 0 rfl rfl dX5_stepBefore_11 ?_
    refine lv_iconst (v := 1) hx hb dX5_stepBefore_14 (by decide) ?_
    refine lv_isub hx hb dX5_stepBefore_15 ?_
    subst hT16
    exact K16 H locs ls w (lv_sub hl [] rfl)
  · replace hT16 := bq_ef hc hT16
    clear hc
    refine lv_iload_n hx hb dX5_stepBefore_4 rfl (lv_at hl 1 rfl) ?_
    refine lv_iconst (v := 1) hx hb dX5_stepBefore_5 (by decide) ?_
    refine lv_isub hx hb dX5_stepBefore_6 ?_
    refine lv_goto (tgt := 16) hx hb dX5_stepBefore_7 (by decide) ?_
    subst hT16
    exact K16 H locs ls w (lv_sub hl [] rfl)
abbrev wdX5_movingStepFrom (cI : ClassId) (a_t a_t_minus a_t_plus u_t_pauses u_t_outBefore u_t_cuts u_t_groupOfStep : Nat) (t : Nat → Int32) (t_minus : Nat → Int32) (t_plus : Nat → Int32) : va_W := [(a_t, oX5 a_t_plus a_t_minus u_t_pauses u_t_outBefore u_t_cuts u_t_groupOfStep t), (a_t_minus, oA cI 16 t_minus), (a_t_plus, oA cI 16 t_plus)]
abbrev rmX5_movingStepFrom : Room := { frames := 0, cells := 0, slots := 0, locals := 0 }
theorem hd_X5_movingStepFrom : yX5_movingStepFrom.cls = RX5 ∧ yX5_movingStepFrom.cls ≠ "java/lang/invoke/MethodHandle" ∧ yX5_movingStepFrom.cls ≠ "java/lang/invoke/VarHandle" ∧ (parseMethodDescriptor yX5_movingStepFrom.desc).map (fun d => d.parameters.length) = some 1 := by decide +kernel
set_option maxHeartbeats 4000000 in
set_option maxRecDepth 100000 in
theorem kX5_movingStepFrom (l : Launch) (D : va_G) (cI cJ : ClassId) (a_t a_t_minus a_t_plus u_t_pauses u_t_outBefore u_t_cuts u_t_groupOfStep : Nat) (t t_minus t_plus : Nat → Int32) (x1 : Int32) (r : Int32) (hm : mX5_movingStepFrom t t_minus t_plus x1 = some r) : bq_M l D cI cJ yX5_movingStepFrom cX5_movingStepFrom 3 (some .int) rmX5_movingStepFrom [.ref a_t, .int x1] (wdX5_movingStepFrom cI a_t a_t_minus a_t_plus u_t_pauses u_t_outBefore u_t_cuts u_t_groupOfStep t t_minus t_plus) (wdX5_movingStepFrom cI a_t a_t_minus a_t_plus u_t_pauses u_t_outBefore u_t_cuts u_t_groupOfStep t t_minus t_plus) (some (.int r)) := by
  refine bq_start (by decide) (Nat.le_of_ble_eq_true rfl) ?_
  intro p e s m av9 below meth c A ls Q H locs E K w hA hr hk hn hQ hl
  have E : bq_E p m c cX5_movingStepFrom 3 s av9 RX5 := E
  have hx := E.1
  have hb := E.2.1
  have hl : lv_has ls 3 [(0, .ref a_t), (1, .int x1)] := hl
  unfold mX5_movingStepFrom at hm
  refine lv_iload_n hx hb dX5_movingStepFrom_0 rfl (lv_at hl 1 rfl) ?_
  refine lv_istore_n (lv' := [(2, .int x1), (0, .ref a_t), (1, .int x1)]) hx hb dX5_movingStepFrom_1 rfl hl (by decide) rfl (fun ls hl => ?_)
  obtain ⟨rr2, hL, hm⟩ := bq_bd_el hm
  obtain ⟨B, eB, nn, hL⟩ := bq_loop_B hL
  have X34 : ∀ (hE : rr2 = .inl ()) (H : Heap) (locs : List Loc) (ls : Array Slot), bq_w D A s.heap (wdX5_movingStepFrom cI a_t a_t_minus a_t_plus u_t_pauses u_t_outBefore u_t_cuts u_t_groupOfStep t t_minus t_plus) H locs → lv_has ls 3 [(0, .ref a_t)] → W p l e rmX5_movingStepFrom s m av9 below meth c H locs 0 0 Q (F0 m 34 ls []) := by
    intro hE H locs ls w hl
    subst hE
    replace hm := bq_or1_l hm
    refine lv_aload_n hx hb dX5_movingStepFrom_34 rfl (lv_at hl 0 rfl) ?_
    refine gt_X5_30 E K w 0 rfl rfl dX5_movingStepFrom_35 ?_
    obtain rfl := Option.some.inj hm
    exact bq_iret E w hr hk dX5_movingStepFrom_38 hQ
  have L2 : ∀ (nn : Nat) (i1 : Int32) (H : Heap) (locs : List Loc) (ls : Array Slot), bq_lp B nn i1 = some rr2 → bq_w D A s.heap (wdX5_movingStepFrom cI a_t a_t_minus a_t_plus u_t_pauses u_t_outBefore u_t_cuts u_t_groupOfStep t t_minus t_plus) H locs → lv_has ls 3 [(0, .ref a_t), (2, .int i1)] → W p l e rmX5_movingStepFrom s m av9 below meth c H locs 0 0 Q (F0 m 2 ls []) := by
    intro nn
    induction nn with
    | zero =>
      intro i1 H locs ls hL w hl
      exact bq_lp_0 hL
    | succ nn ih =>
      intro i1 H locs ls hL w hl
      obtain ⟨oo2, hT2, hR2⟩ := bq_lp_el hL
      clear hL
      replace hT2 := bq_u1_el eB hT2
      unfold bX5_movingStepFrom_2 at hT2
      refine lv_iload_n hx hb dX5_movingStepFrom_2 rfl (lv_at hl 1 rfl) ?_
      refine lv_aload_n hx hb dX5_movingStepFrom_3 rfl (lv_at hl 0 rfl) ?_
      refine gt_X5_30 E K w 0 rfl rfl dX5_movingStepFrom_4 ?_
      refine lv_icmp_ge (tgt := 34) hx hb dX5_movingStepFrom_7 (by decide) (fun hc => ?_) (fun hc => ?_)
      · replace hT2 := bq_t hc hT2
        clear hc
        obtain rfl := Option.some.inj hT2
        replace hR2 := bq_lk_r hR2
        exact X34  hR2.symm H locs ls w (lv_sub hl [0] rfl)
      · replace hT2 := bq_f hc hT2
        clear hc
        refine lv_aload_n hx hb dX5_movingStepFrom_10 rfl (lv_at hl 0 rfl) ?_
        refine gt_X5_9 E K w 0 rfl rfl dX5_movingStepFrom_11 ?_
        refine lv_iload_n hx hb dX5_movingStepFrom_14 rfl (lv_at hl 1 rfl) ?_
        obtain ⟨hI, hT2⟩ := bq_ci_el hT2
        refine bq_ald E K w 2 rfl hI dX5_movingStepFrom_15 ?_
        refine lv_aload_n hx hb dX5_movingStepFrom_16 rfl (lv_at hl 0 rfl) ?_
        refine gt_X5_15 E K w 0 rfl rfl dX5_movingStepFrom_17 ?_
        refine lv_iload_n hx hb dX5_movingStepFrom_20 rfl (lv_at hl 1 rfl) ?_
        obtain ⟨hI, hT2⟩ := bq_ci_el hT2
        refine bq_ald E K w 1 rfl hI dX5_movingStepFrom_21 ?_
        refine lv_ior hx hb dX5_movingStepFrom_22 ?_
        refine lv_if_eq (tgt := 28) hx hb dX5_movingStepFrom_23 (by decide) (fun hc => ?_) (fun hc => ?_)
        · replace hT2 := bq_t hc hT2
          clear hc
          obtain ⟨v2, e9, hT2⟩ := bq_let_el hT2
          refine lv_iinc (v := v2) (lv' := [(2, .int v2), (0, .ref a_t)]) hx hb dX5_movingStepFrom_28 hl (k := 1) rfl (by rw [e9]; rfl) (by decide) rfl (fun ls hl => ?_)
          clear e9
          refine lv_goto (tgt := 2) hx hb dX5_movingStepFrom_31 (by decide) ?_
          obtain rfl := Option.some.inj hT2
          exact ih v2 H locs ls hR2 w (lv_sub hl [1, 0] rfl)
        · replace hT2 := bq_f hc hT2
          clear hc
          refine lv_iload_n hx hb dX5_movingStepFrom_26 rfl (lv_at hl 1 rfl) ?_
          obtain rfl := Option.some.inj hT2
          replace hR2 := bq_lk_r hR2
          subst hR2
          replace hm := bq_or1_r hm
          obtain rfl := Option.some.inj hm
          exact bq_iret E w hr hk dX5_movingStepFrom_27 hQ
  exact L2 nn x1 H locs ls hL w (lv_sub hl [1, 0] rfl)
abbrev wdX5_endsReached (cI : ClassId) (a_t a_t_minus a_t_pauses a_t_plus u_t_outBefore u_t_cuts u_t_groupOfStep : Nat) (t : Nat → Int32) (t_minus : Nat → Int32) (t_pauses : Nat → Int32) (t_plus : Nat → Int32) : va_W := [(a_t, oX5 a_t_plus a_t_minus a_t_pauses u_t_outBefore u_t_cuts u_t_groupOfStep t), (a_t_minus, oA cI 16 t_minus), (a_t_pauses, oA cI 16 t_pauses), (a_t_plus, oA cI 16 t_plus)]
abbrev rmX5_endsReached : Room := { frames := 0, cells := 0, slots := 0, locals := 0 }
theorem hd_X5_endsReached : yX5_endsReached.cls = RX5 ∧ yX5_endsReached.cls ≠ "java/lang/invoke/MethodHandle" ∧ yX5_endsReached.cls ≠ "java/lang/invoke/VarHandle" ∧ (parseMethodDescriptor yX5_endsReached.desc).map (fun d => d.parameters.length) = some 2 := by decide +kernel
set_option maxHeartbeats 4000000 in
set_option maxRecDepth 100000 in
theorem kX5_endsReached (l : Launch) (D : va_G) (cI cJ : ClassId) (a_t a_t_minus a_t_pauses a_t_plus u_t_outBefore u_t_cuts u_t_groupOfStep : Nat) (t t_minus t_pauses t_plus : Nat → Int32) (x1 : Int32) (x2 : Int32) (r : Int32) (hm : mX5_endsReached t_minus t_pauses t_plus x1 x2 = some r) : bq_M l D cI cJ yX5_endsReached cX5_endsReached 3 (some .boolean) rmX5_endsReached [.ref a_t, .int x1, .int x2] (wdX5_endsReached cI a_t a_t_minus a_t_pauses a_t_plus u_t_outBefore u_t_cuts u_t_groupOfStep t t_minus t_pauses t_plus) (wdX5_endsReached cI a_t a_t_minus a_t_pauses a_t_plus u_t_outBefore u_t_cuts u_t_groupOfStep t t_minus t_pauses t_plus) (some (.int r)) := by
  refine bq_start (by decide) (Nat.le_of_ble_eq_true rfl) ?_
  intro p e s m av9 below meth c A ls Q H locs E K w hA hr hk hn hQ hl
  have E : bq_E p m c cX5_endsReached 3 s av9 RX5 := E
  have hx := E.1
  have hb := E.2.1
  have hl : lv_has ls 3 [(0, .ref a_t), (1, .int x1), (2, .int x2)] := hl
  unfold mX5_endsReached at hm
  refine lv_aload_n hx hb dX5_endsReached_0 rfl (lv_at hl 0 rfl) ?_
  refine gt_X5_18 E K w 0 rfl rfl dX5_endsReached_1 ?_
  refine lv_iload_n hx hb dX5_endsReached_4 rfl (lv_at hl 1 rfl) ?_
  obtain ⟨hI, hm⟩ := bq_ci_el hm
  refine bq_ald E K w 2 rfl hI dX5_endsReached_5 ?_
  obtain ⟨v1, hT38, hm⟩ := bq_bd_el hm
  have K38 : ∀ (H : Heap) (locs : List Loc) (ls : Array Slot), bq_w D A s.heap (wdX5_endsReached cI a_t a_t_minus a_t_pauses a_t_plus u_t_outBefore u_t_cuts u_t_groupOfStep t t_minus t_pauses t_plus) H locs → lv_has ls 3 [] → W p l e rmX5_endsReached s m av9 below meth c H locs 0 0 Q (F0 m 38 ls [.int v1]) := by
    intro H locs ls w hl
    obtain ⟨hB, hm⟩ := bq_cb_el hm
    obtain rfl := Option.some.inj hm
    exact bq_zret E w hr hk hB dX5_endsReached_38 hQ
  clear hm
  refine lv_if_ne (tgt := 37) hx hb dX5_endsReached_6 (by decide) (fun hc => ?_) (fun hc => ?_)
  · replace hT38 := bq_f hc hT38
    clear hc
    refine lv_iconst (v := 0) hx hb dX5_endsReached_37 (by decide) ?_
    obtain rfl := Option.some.inj hT38
    exact K38 H locs ls w (lv_sub hl [] rfl)
  · replace hT38 := bq_t hc hT38
    clear hc
    refine lv_aload_n hx hb dX5_endsReached_9 rfl (lv_at hl 0 rfl) ?_
    refine gt_X5_9 E K w 0 rfl rfl dX5_endsReached_10 ?_
    refine lv_iload_n hx hb dX5_endsReached_13 rfl (lv_at hl 1 rfl) ?_
    obtain ⟨hI, hT38⟩ := bq_ci_el hT38
    refine bq_ald E K w 3 rfl hI dX5_endsReached_14 ?_
    refine lv_iload_n hx hb dX5_endsReached_15 rfl (lv_at hl 2 rfl) ?_
    refine lv_iconst (v := (-1)) hx hb dX5_endsReached_16 (by decide) ?_
    refine lv_ixor hx hb dX5_endsReached_17 ?_
    refine lv_iand hx hb dX5_endsReached_18 ?_
    refine lv_if_ne (tgt := 37) hx hb dX5_endsReached_19 (by decide) (fun hc => ?_) (fun hc => ?_)
    · replace hT38 := bq_f hc hT38
      clear hc
      refine lv_iconst (v := 0) hx hb dX5_endsReached_37 (by decide) ?_
      obtain rfl := Option.some.inj hT38
      exact K38 H locs ls w (lv_sub hl [] rfl)
    · replace hT38 := bq_t hc hT38
      clear hc
      refine lv_aload_n hx hb dX5_endsReached_22 rfl (lv_at hl 0 rfl) ?_
      refine gt_X5_15 E K w 0 rfl rfl dX5_endsReached_23 ?_
      refine lv_iload_n hx hb dX5_endsReached_26 rfl (lv_at hl 1 rfl) ?_
      obtain ⟨hI, hT38⟩ := bq_ci_el hT38
      refine bq_ald E K w 1 rfl hI dX5_endsReached_27 ?_
      refine lv_iload_n hx hb dX5_endsReached_28 rfl (lv_at hl 2 rfl) ?_
      refine lv_iand hx hb dX5_endsReached_29 ?_
      refine lv_if_ne (tgt := 37) hx hb dX5_endsReached_30 (by decide) (fun hc => ?_) (fun hc => ?_)
      · replace hT38 := bq_f hc hT38
        clear hc
        refine lv_iconst (v := 0) hx hb dX5_endsReached_37 (by decide) ?_
        obtain rfl := Option.some.inj hT38
        exact K38 H locs ls w (lv_sub hl [] rfl)
      · replace hT38 := bq_t hc hT38
        clear hc
        refine lv_iconst (v := 1) hx hb dX5_endsReached_33 (by decide) ?_
        refine lv_goto (tgt := 38) hx hb dX5_endsReached_34 (by decide) ?_
        obtain rfl := Option.some.inj hT38
        exact K38 H locs ls w (lv_sub hl [] rfl)
abbrev wdX5_firstClash (cI : ClassId) (a_t a_t_minus a_t_outBefore a_t_pauses a_t_plus u_t_cuts u_t_groupOfStep : Nat) (t : Nat → Int32) (t_minus : Nat → Int32) (t_outBefore : Nat → Int32) (t_pauses : Nat → Int32) (t_plus : Nat → Int32) : va_W := [(a_t, oX5 a_t_plus a_t_minus a_t_pauses a_t_outBefore u_t_cuts u_t_groupOfStep t), (a_t_minus, oA cI 16 t_minus), (a_t_outBefore, oA cI 16 t_outBefore), (a_t_pauses, oA cI 16 t_pauses), (a_t_plus, oA cI 16 t_plus)]
abbrev rmX5_firstClash : Room := { frames := 1, cells := 0, slots := 0, locals := 22 }
theorem hd_X5_firstClash : yX5_firstClash.cls = RX5 ∧ yX5_firstClash.cls ≠ "java/lang/invoke/MethodHandle" ∧ yX5_firstClash.cls ≠ "java/lang/invoke/VarHandle" ∧ (parseMethodDescriptor yX5_firstClash.desc).map (fun d => d.parameters.length) = some 2 := by decide +kernel
set_option maxHeartbeats 4000000 in
set_option maxRecDepth 100000 in
theorem kX5_firstClash (l : Launch) (D : va_G) (cI cJ : ClassId) (a_t a_t_minus a_t_outBefore a_t_pauses a_t_plus u_t_cuts u_t_groupOfStep : Nat) (t t_minus t_outBefore t_pauses t_plus : Nat → Int32) (x1 : Int32) (x2 : Int32) (r : Int32) (hm : mX5_firstClash t t_minus t_outBefore t_pauses t_plus x1 x2 = some r) : bq_M l D cI cJ yX5_firstClash cX5_firstClash 6 (some .int) rmX5_firstClash [.ref a_t, .int x1, .int x2] (wdX5_firstClash cI a_t a_t_minus a_t_outBefore a_t_pauses a_t_plus u_t_cuts u_t_groupOfStep t t_minus t_outBefore t_pauses t_plus) (wdX5_firstClash cI a_t a_t_minus a_t_outBefore a_t_pauses a_t_plus u_t_cuts u_t_groupOfStep t t_minus t_outBefore t_pauses t_plus) (some (.int r)) := by
  refine bq_start (by decide) (Nat.le_of_ble_eq_true rfl) ?_
  intro p e s m av9 below meth c A ls Q H locs E K w hA hr hk hn hQ hl
  have E : bq_E p m c cX5_firstClash 6 s av9 RX5 := E
  have hx := E.1
  have hb := E.2.1
  have hl : lv_has ls 6 [(0, .ref a_t), (1, .int x1), (2, .int x2)] := hl
  unfold mX5_firstClash at hm
  refine lv_aload_n hx hb dX5_firstClash_0 rfl (lv_at hl 0 rfl) ?_
  refine gt_X5_9 E K w 0 rfl rfl dX5_firstClash_1 ?_
  refine lv_iload_n hx hb dX5_firstClash_4 rfl (lv_at hl 1 rfl) ?_
  obtain ⟨hI, hm⟩ := bq_ci_el hm
  refine bq_ald E K w 4 rfl hI dX5_firstClash_5 ?_
  refine lv_iload_n hx hb dX5_firstClash_6 rfl (lv_at hl 2 rfl) ?_
  obtain ⟨v1, hC, hm⟩ := bq_bd_el hm
  refine bq_SN0 (As := [.int (t_plus (x1 : Int32).toNatClampNeg), .int x2]) (rest := []) (st1 := [.int v1]) E K w hA (kX7_holds l D cI cJ (t_plus (x1 : Int32).toNatClampNeg) x2 v1 hC) cd_X7_holds mn_X5_44 in_X7 st_X7_holds hs_X7_holds ⟨Nat.le_of_ble_eq_true rfl, Nat.le_of_ble_eq_true rfl⟩ ⟨Nat.le_of_ble_eq_true rfl, Nat.le_of_ble_eq_true rfl⟩ rfl hl.1 rfl (Nat.le_of_ble_eq_true rfl) rfl dX5_firstClash_7 (fun H locs w => bq_z ⟨rfl, rfl⟩ ?_)
  clear hC
  refine lv_istore_n (lv' := [(3, .int v1), (0, .ref a_t), (1, .int x1), (2, .int x2)]) hx hb dX5_firstClash_10 rfl hl (by decide) rfl (fun ls hl => ?_)
  refine lv_iload_n hx hb dX5_firstClash_11 rfl (lv_at hl 0 rfl) ?_
  obtain ⟨J30, eJ30, hm⟩ := bq_let_el hm
  have K30 : ∀ (H : Heap) (locs : List Loc) (ls : Array Slot), J30 () = some r → bq_w D A s.heap (wdX5_firstClash cI a_t a_t_minus a_t_outBefore a_t_pauses a_t_plus u_t_cuts u_t_groupOfStep t t_minus t_outBefore t_pauses t_plus) H locs → lv_has ls 6 [(0, .ref a_t), (1, .int x1), (2, .int x2), (3, .int v1)] → W p l e rmX5_firstClash s m av9 below meth c H locs 0 0 Q (F0 m 30 ls []) := by
    intro H locs ls hJ w hl
    replace hJ := bq_ap1 eJ30 hJ
    refine lv_iconst (v := 0) hx hb dX5_firstClash_30 (by decide) ?_
    refine lv_istore (lv' := [(4, .int 0), (0, .ref a_t), (1, .int x1), (2, .int x2), (3, .int v1)]) hx hb dX5_firstClash_31 hl (by decide) rfl (fun ls hl => ?_)
    obtain ⟨rr33, hL, hJ⟩ := bq_bd_el hJ
    obtain ⟨B, eB, nn, hL⟩ := bq_loop_B hL
    have X102 : ∀ (hE : rr33 = .inl ()) (H : Heap) (locs : List Loc) (ls : Array Slot), bq_w D A s.heap (wdX5_firstClash cI a_t a_t_minus a_t_outBefore a_t_pauses a_t_plus u_t_cuts u_t_groupOfStep t t_minus t_outBefore t_pauses t_plus) H locs → lv_has ls 6 [] → W p l e rmX5_firstClash s m av9 below meth c H locs 0 0 Q (F0 m 102 ls []) := by
      intro hE H locs ls w hl
      subst hE
      replace hJ := bq_or1_l hJ
      refine lv_iconst (v := (-1)) hx hb dX5_firstClash_102 (by decide) ?_
      obtain rfl := Option.some.inj hJ
      exact bq_iret E w hr hk dX5_firstClash_103 hQ
    have L33 : ∀ (nn : Nat) (i2 : Int32) (H : Heap) (locs : List Loc) (ls : Array Slot), bq_lp B nn i2 = some rr33 → bq_w D A s.heap (wdX5_firstClash cI a_t a_t_minus a_t_outBefore a_t_pauses a_t_plus u_t_cuts u_t_groupOfStep t t_minus t_outBefore t_pauses t_plus) H locs → lv_has ls 6 [(0, .ref a_t), (1, .int x1), (2, .int x2), (3, .int v1), (4, .int i2)] → W p l e rmX5_firstClash s m av9 below meth c H locs 0 0 Q (F0 m 33 ls []) := by
      intro nn
      induction nn with
      | zero =>
        intro i2 H locs ls hL w hl
        exact bq_lp_0 hL
      | succ nn ih =>
        intro i2 H locs ls hL w hl
        obtain ⟨oo33, hT33, hR33⟩ := bq_lp_el hL
        clear hL
        replace hT33 := bq_u1_el eB hT33
        unfold bX5_firstClash_33 at hT33
        refine lv_iload hx hb dX5_firstClash_33 (lv_at hl 4 rfl) ?_
        refine lv_aload_n hx hb dX5_firstClash_35 rfl (lv_at hl 0 rfl) ?_
        refine gt_X5_30 E K w 0 rfl rfl dX5_firstClash_36 ?_
        refine lv_icmp_ge (tgt := 102) hx hb dX5_firstClash_39 (by decide) (fun hc => ?_) (fun hc => ?_)
        · replace hT33 := bq_t hc hT33
          clear hc
          obtain rfl := Option.some.inj hT33
          replace hR33 := bq_lk_r hR33
          exact X102  hR33.symm H locs ls w (lv_sub hl [] rfl)
        · replace hT33 := bq_f hc hT33
          clear hc
          refine lv_iload_n hx hb dX5_firstClash_42 rfl (lv_at hl 3 rfl) ?_
          obtain ⟨v3, hT63, hT33⟩ := bq_bd_el hT33
          have K63 : ∀ (H : Heap) (locs : List Loc) (ls : Array Slot), bq_w D A s.heap (wdX5_firstClash cI a_t a_t_minus a_t_outBefore a_t_pauses a_t_plus u_t_cuts u_t_groupOfStep t t_minus t_outBefore t_pauses t_plus) H locs → lv_has ls 6 [(0, .ref a_t), (1, .int x1), (2, .int x2), (3, .int v1), (4, .int i2)] → W p l e rmX5_firstClash s m av9 below meth c H locs 0 0 Q (F0 m 63 ls [.int v3]) := by
            intro H locs ls w hl
            refine lv_istore (lv' := [(5, .int v3), (0, .ref a_t), (1, .int x1), (2, .int x2), (3, .int v1), (4, .int i2)]) hx hb dX5_firstClash_63 hl (by decide) rfl (fun ls hl => ?_)
            refine lv_iload hx hb dX5_firstClash_65 (lv_at hl 0 rfl) ?_
            refine lv_iload_n hx hb dX5_firstClash_67 rfl (lv_at hl 3 rfl) ?_
            obtain ⟨v4, hC, hT33⟩ := bq_bd_el hT33
            refine bq_SN0 (As := [.int v3, .int x2]) (rest := []) (st1 := [.int v4]) E K w hA (kX7_holds l D cI cJ v3 x2 v4 hC) cd_X7_holds mn_X5_44 in_X7 st_X7_holds hs_X7_holds ⟨Nat.le_of_ble_eq_true rfl, Nat.le_of_ble_eq_true rfl⟩ ⟨Nat.le_of_ble_eq_true rfl, Nat.le_of_ble_eq_true rfl⟩ rfl hl.1 rfl (Nat.le_of_ble_eq_true rfl) rfl dX5_firstClash_68 (fun H locs w => bq_z ⟨rfl, rfl⟩ ?_)
            clear hC
            refine lv_if_eq (tgt := 96) hx hb dX5_firstClash_71 (by decide) (fun hc => ?_) (fun hc => ?_)
            · replace hT33 := bq_t hc hT33
              clear hc
              obtain ⟨v5, e9, hT33⟩ := bq_let_el hT33
              refine lv_iinc (v := v5) (lv' := [(4, .int v5), (5, .int v3), (0, .ref a_t), (1, .int x1), (2, .int x2), (3, .int v1)]) hx hb dX5_firstClash_96 hl (k := 5) rfl (by rw [e9]; rfl) (by decide) rfl (fun ls hl => ?_)
              clear e9
              refine lv_goto (tgt := 33) hx hb dX5_firstClash_99 (by decide) ?_
              obtain rfl := Option.some.inj hT33
              exact ih v5 H locs ls hR33 w (lv_sub hl [2, 3, 4, 5, 0] rfl)
            · replace hT33 := bq_f hc hT33
              clear hc
              refine lv_aload_n hx hb dX5_firstClash_74 rfl (lv_at hl 1 rfl) ?_
              refine lv_aload_n hx hb dX5_firstClash_75 rfl (lv_at hl 1 rfl) ?_
              refine lv_iload hx hb dX5_firstClash_76 (lv_at hl 5 rfl) ?_
              obtain ⟨v6, hC, hT33⟩ := bq_bd_el hT33
              refine bq_V (As := [.int i2]) (rest := [.ref a_t]) (st1 := [.int v6, .ref a_t]) (ws' := wdX5_firstClash cI a_t a_t_minus a_t_outBefore a_t_pauses a_t_plus u_t_cuts u_t_groupOfStep t t_minus t_outBefore t_pauses t_plus) E K w hA (kX5_stepBefore l D cI cJ a_t a_t_plus a_t_minus a_t_pauses a_t_outBefore u_t_cuts u_t_groupOfStep t i2 v6 hC) (bq_gV ml_X5_48 im_X5_stepBefore sl_X5_stepBefore in_X5 cd_X5_stepBefore) hd_X5_stepBefore ⟨Nat.le_of_ble_eq_true rfl, Nat.le_of_ble_eq_true rfl⟩ ⟨Nat.le_of_ble_eq_true rfl, Nat.le_of_ble_eq_true rfl⟩ ⟨[0], [1, 2, 3, 4], [4, 0, 1, 2, 3], rfl, rfl, rfl, rfl, rfl, rfl, rfl, rfl, rfl⟩ 0 rfl rfl rfl hl.1 rfl (Nat.le_of_ble_eq_true rfl) rfl dX5_firstClash_78 (fun H locs w => bq_z ⟨rfl, rfl⟩ ?_)
              clear hC
              refine lv_aload_n hx hb dX5_firstClash_81 rfl (lv_at hl 1 rfl) ?_
              refine gt_X5_21 E K w 0 rfl rfl dX5_firstClash_82 ?_
              refine lv_iload_n hx hb dX5_firstClash_85 rfl (lv_at hl 2 rfl) ?_
              obtain ⟨hI, hT33⟩ := bq_ci_el hT33
              refine bq_ald E K w 2 rfl hI dX5_firstClash_86 ?_
              obtain ⟨v7, hC, hT33⟩ := bq_bd_el hT33
              refine bq_V (As := [.int v6, .int (t_outBefore (x1 : Int32).toNatClampNeg)]) (rest := []) (st1 := [.int v7]) (ws' := wdX5_firstClash cI a_t a_t_minus a_t_outBefore a_t_pauses a_t_plus u_t_cuts u_t_groupOfStep t t_minus t_outBefore t_pauses t_plus) E K w hA (kX5_endsReached l D cI cJ a_t a_t_minus a_t_pauses a_t_plus a_t_outBefore u_t_cuts u_t_groupOfStep t t_minus t_pauses t_plus v6 (t_outBefore (x1 : Int32).toNatClampNeg) v7 hC) (bq_gV ml_X5_51 im_X5_endsReached sl_X5_endsReached in_X5 cd_X5_endsReached) hd_X5_endsReached ⟨Nat.le_of_ble_eq_true rfl, Nat.le_of_ble_eq_true rfl⟩ ⟨Nat.le_of_ble_eq_true rfl, Nat.le_of_ble_eq_true rfl⟩ ⟨[0, 1, 3, 4], [2], [1, 2, 0, 3, 4], rfl, rfl, rfl, rfl, rfl, rfl, rfl, rfl, rfl⟩ 0 rfl rfl rfl hl.1 rfl (Nat.le_of_ble_eq_true rfl) rfl dX5_firstClash_87 (fun H locs w => bq_z ⟨rfl, rfl⟩ ?_)
              clear hC
              refine lv_if_eq (tgt := 96) hx hb dX5_firstClash_90 (by decide) (fun hc => ?_) (fun hc => ?_)
              · replace hT33 := bq_t hc hT33
                clear hc
                obtain ⟨v8, e9, hT33⟩ := bq_let_el hT33
                refine lv_iinc (v := v8) (lv' := [(4, .int v8), (5, .int v3), (0, .ref a_t), (1, .int x1), (2, .int x2), (3, .int v1)]) hx hb dX5_firstClash_96 hl (k := 5) rfl (by rw [e9]; rfl) (by decide) rfl (fun ls hl => ?_)
                clear e9
                refine lv_goto (tgt := 33) hx hb dX5_firstClash_99 (by decide) ?_
                obtain rfl := Option.some.inj hT33
                exact ih v8 H locs ls hR33 w (lv_sub hl [2, 3, 4, 5, 0] rfl)
              · replace hT33 := bq_f hc hT33
                clear hc
                refine lv_iload hx hb dX5_firstClash_93 (lv_at hl 5 rfl) ?_
                obtain rfl := Option.some.inj hT33
                replace hR33 := bq_lk_r hR33
                subst hR33
                replace hJ := bq_or1_r hJ
                obtain rfl := Option.some.inj hJ
                exact bq_iret E w hr hk dX5_firstClash_95 hQ
          clear hT33
          refine lv_if_eq (tgt := 56) hx hb dX5_firstClash_43 (by decide) (fun hc => ?_) (fun hc => ?_)
          · replace hT63 := bq_t hc hT63
            clear hc
            refine lv_aload_n hx hb dX5_firstClash_56 rfl (lv_at hl 0 rfl) ?_
            refine gt_X5_9 E K w 0 rfl rfl dX5_firstClash_57 ?_
            refine lv_iload hx hb dX5_firstClash_60 (lv_at hl 4 rfl) ?_
            obtain ⟨hI, hT63⟩ := bq_ci_el hT63
            refine bq_ald E K w 4 rfl hI dX5_firstClash_62 ?_
            obtain rfl := Option.some.inj hT63
            exact K63 H locs ls w (lv_sub hl [0, 1, 2, 3, 4] rfl)
          · replace hT63 := bq_f hc hT63
            clear hc
            refine lv_aload_n hx hb dX5_firstClash_46 rfl (lv_at hl 0 rfl) ?_
            refine gt_X5_15 E K w 0 rfl rfl dX5_firstClash_47 ?_
            refine lv_iload hx hb dX5_firstClash_50 (lv_at hl 4 rfl) ?_
            obtain ⟨hI, hT63⟩ := bq_ci_el hT63
            refine bq_ald E K w 1 rfl hI dX5_firstClash_52 ?_
            refine lv_goto (tgt := 63) hx hb dX5_firstClash_53 (by decide) ?_
            obtain rfl := Option.some.inj hT63
            exact K63 H locs ls w (lv_sub hl [0, 1, 2, 3, 4] rfl)
    exact L33 nn 0 H locs ls hL w (lv_sub hl [1, 2, 3, 4, 0] rfl)
  refine lv_if_ne (tgt := 30) hx hb dX5_firstClash_12 (by decide) (fun hc => ?_) (fun hc => ?_)
  · replace hm := bq_f hc hm
    clear hc
    exact K30 H locs ls hm w (lv_sub hl [1, 2, 3, 0] rfl)
  · replace hm := bq_t hc hm
    clear hc
    refine lv_aload_n hx hb dX5_firstClash_15 rfl (lv_at hl 1 rfl) ?_
    refine gt_X5_15 E K w 0 rfl rfl dX5_firstClash_16 ?_
    refine lv_iload_n hx hb dX5_firstClash_19 rfl (lv_at hl 2 rfl) ?_
    obtain ⟨hI, hm⟩ := bq_ci_el hm
    refine bq_ald E K w 1 rfl hI dX5_firstClash_20 ?_
    refine lv_iload_n hx hb dX5_firstClash_21 rfl (lv_at hl 3 rfl) ?_
    obtain ⟨v9, hC, hm⟩ := bq_bd_el hm
    refine bq_SN0 (As := [.int (t_minus (x1 : Int32).toNatClampNeg), .int x2]) (rest := []) (st1 := [.int v9]) E K w hA (kX7_holds l D cI cJ (t_minus (x1 : Int32).toNatClampNeg) x2 v9 hC) cd_X7_holds mn_X5_44 in_X7 st_X7_holds hs_X7_holds ⟨Nat.le_of_ble_eq_true rfl, Nat.le_of_ble_eq_true rfl⟩ ⟨Nat.le_of_ble_eq_true rfl, Nat.le_of_ble_eq_true rfl⟩ rfl hl.1 rfl (Nat.le_of_ble_eq_true rfl) rfl dX5_firstClash_22 (fun H locs w => bq_z ⟨rfl, rfl⟩ ?_)
    clear hC
    refine lv_if_ne (tgt := 30) hx hb dX5_firstClash_25 (by decide) (fun hc => ?_) (fun hc => ?_)
    · replace hm := bq_f hc hm
      clear hc
      exact K30 H locs ls hm w (lv_sub hl [1, 2, 3, 0] rfl)
    · replace hm := bq_t hc hm
      clear hc
      refine lv_iconst (v := (-1)) hx hb dX5_firstClash_28 (by decide) ?_
      obtain rfl := Option.some.inj hm
      exact bq_iret E w hr hk dX5_firstClash_29 hQ
abbrev wdX5_groupsNeeded (cI : ClassId) (a_t a_t_minus a_t_plus u_t_pauses u_t_outBefore u_t_cuts u_t_groupOfStep : Nat) (t : Nat → Int32) (t_minus : Nat → Int32) (t_plus : Nat → Int32) : va_W := [(a_t, oX5 a_t_plus a_t_minus u_t_pauses u_t_outBefore u_t_cuts u_t_groupOfStep t), (a_t_minus, oA cI 16 t_minus), (a_t_plus, oA cI 16 t_plus)]
abbrev rmX5_groupsNeeded : Room := { frames := 1, cells := 0, slots := 0, locals := 21 }
theorem hd_X5_groupsNeeded : yX5_groupsNeeded.cls = RX5 ∧ yX5_groupsNeeded.cls ≠ "java/lang/invoke/MethodHandle" ∧ yX5_groupsNeeded.cls ≠ "java/lang/invoke/VarHandle" ∧ (parseMethodDescriptor yX5_groupsNeeded.desc).map (fun d => d.parameters.length) = some 2 := by decide +kernel
set_option maxHeartbeats 4000000 in
set_option maxRecDepth 100000 in
theorem kX5_groupsNeeded (l : Launch) (D : va_G) (cI cJ : ClassId) (a_t a_t_minus a_t_plus u_t_pauses u_t_outBefore u_t_cuts u_t_groupOfStep : Nat) (t t_minus t_plus : Nat → Int32) (x1 : Int32) (x2 : Int32) (r : Int32) (hm : mX5_groupsNeeded t t_minus t_plus x1 x2 = some r) : bq_M l D cI cJ yX5_groupsNeeded cX5_groupsNeeded 7 (some .int) rmX5_groupsNeeded [.ref a_t, .int x1, .int x2] (wdX5_groupsNeeded cI a_t a_t_minus a_t_plus u_t_pauses u_t_outBefore u_t_cuts u_t_groupOfStep t t_minus t_plus) (wdX5_groupsNeeded cI a_t a_t_minus a_t_plus u_t_pauses u_t_outBefore u_t_cuts u_t_groupOfStep t t_minus t_plus) (some (.int r)) := by
  refine bq_start (by decide) (Nat.le_of_ble_eq_true rfl) ?_
  intro p e s m av9 below meth c A ls Q H locs E K w hA hr hk hn hQ hl
  have E : bq_E p m c cX5_groupsNeeded 7 s av9 RX5 := E
  have hx := E.1
  have hb := E.2.1
  have hl : lv_has ls 7 [(0, .ref a_t), (1, .int x1), (2, .int x2)] := hl
  unfold mX5_groupsNeeded at hm
  refine lv_iconst (v := 1) hx hb dX5_groupsNeeded_0 (by decide) ?_
  refine lv_istore_n (lv' := [(3, .int 1), (0, .ref a_t), (1, .int x1), (2, .int x2)]) hx hb dX5_groupsNeeded_1 rfl hl (by decide) rfl (fun ls hl => ?_)
  refine lv_iconst (v := 0) hx hb dX5_groupsNeeded_2 (by decide) ?_
  refine lv_istore (lv' := [(4, .int 0), (3, .int 1), (0, .ref a_t), (1, .int x1), (2, .int x2)]) hx hb dX5_groupsNeeded_3 hl (by decide) rfl (fun ls hl => ?_)
  refine lv_iload_n hx hb dX5_groupsNeeded_5 rfl (lv_at hl 3 rfl) ?_
  refine lv_istore (lv' := [(5, .int x1), (4, .int 0), (3, .int 1), (0, .ref a_t), (1, .int x1), (2, .int x2)]) hx hb dX5_groupsNeeded_6 hl (by decide) rfl (fun ls hl => ?_)
  obtain ⟨v4, hL, hm⟩ := bq_bd_el hm
  obtain ⟨B, eB, nn, hL⟩ := bq_loop_B hL
  have X68 : ∀ (H : Heap) (locs : List Loc) (ls : Array Slot), bq_w D A s.heap (wdX5_groupsNeeded cI a_t a_t_minus a_t_plus u_t_pauses u_t_outBefore u_t_cuts u_t_groupOfStep t t_minus t_plus) H locs → lv_has ls 7 [(3, .int v4)] → W p l e rmX5_groupsNeeded s m av9 below meth c H locs 0 0 Q (F0 m 68 ls []) := by
    intro H locs ls w hl
    refine lv_iload_n hx hb dX5_groupsNeeded_68 rfl (lv_at hl 0 rfl) ?_
    obtain rfl := Option.some.inj hm
    exact bq_iret E w hr hk dX5_groupsNeeded_69 hQ
  clear hm
  have L8 : ∀ (nn : Nat) (i1 : Int32) (i2 : Int32) (i3 : Int32) (H : Heap) (locs : List Loc) (ls : Array Slot), bq_lp B nn (i1, i2, i3) = some v4 → bq_w D A s.heap (wdX5_groupsNeeded cI a_t a_t_minus a_t_plus u_t_pauses u_t_outBefore u_t_cuts u_t_groupOfStep t t_minus t_plus) H locs → lv_has ls 7 [(0, .ref a_t), (2, .int x2), (3, .int i3), (4, .int i2), (5, .int i1)] → W p l e rmX5_groupsNeeded s m av9 below meth c H locs 0 0 Q (F0 m 8 ls []) := by
    intro nn
    induction nn with
    | zero =>
      intro i1 i2 i3 H locs ls hL w hl
      exact bq_lp_0 hL
    | succ nn ih =>
      intro i1 i2 i3 H locs ls hL w hl
      obtain ⟨oo8, hT8, hR8⟩ := bq_lp_el hL
      clear hL
      replace hT8 := bq_u3_el eB hT8
      unfold bX5_groupsNeeded_8 at hT8
      refine lv_iload hx hb dX5_groupsNeeded_8 (lv_at hl 4 rfl) ?_
      refine lv_iload_n hx hb dX5_groupsNeeded_10 rfl (lv_at hl 1 rfl) ?_
      refine lv_icmp_ge (tgt := 68) hx hb dX5_groupsNeeded_11 (by decide) (fun hc => ?_) (fun hc => ?_)
      · replace hT8 := bq_t hc hT8
        clear hc
        obtain rfl := Option.some.inj hT8
        replace hR8 := bq_lk_r hR8
        subst hR8
        exact X68 H locs ls w (lv_sub hl [2] rfl)
      · replace hT8 := bq_f hc hT8
        clear hc
        refine lv_aload_n hx hb dX5_groupsNeeded_14 rfl (lv_at hl 0 rfl) ?_
        refine lv_iload hx hb dX5_groupsNeeded_15 (lv_at hl 4 rfl) ?_
        refine lv_aload_n hx hb dX5_groupsNeeded_17 rfl (lv_at hl 0 rfl) ?_
        refine gt_X5_30 E K w 0 rfl rfl dX5_groupsNeeded_18 ?_
        obtain ⟨v5, hT36, hT8⟩ := bq_let_el hT8
        have K36 : ∀ (H : Heap) (locs : List Loc) (ls : Array Slot), bq_w D A s.heap (wdX5_groupsNeeded cI a_t a_t_minus a_t_plus u_t_pauses u_t_outBefore u_t_cuts u_t_groupOfStep t t_minus t_plus) H locs → lv_has ls 7 [(0, .ref a_t), (2, .int x2), (3, .int i3), (4, .int i2), (5, .int i1)] → W p l e rmX5_groupsNeeded s m av9 below meth c H locs 0 0 Q (F0 m 36 ls [.int v5, .ref a_t]) := by
          intro H locs ls w hl
          obtain ⟨v6, hC, hT8⟩ := bq_bd_el hT8
          refine bq_V (As := [.int v5]) (rest := []) (st1 := [.int v6]) (ws' := wdX5_groupsNeeded cI a_t a_t_minus a_t_plus u_t_pauses u_t_outBefore u_t_cuts u_t_groupOfStep t t_minus t_plus) E K w hA (kX5_movesIn l D cI cJ a_t a_t_minus a_t_plus u_t_pauses u_t_outBefore u_t_cuts u_t_groupOfStep t t_minus t_plus v5 v6 hC) (bq_gV ml_X5_40 im_X5_movesIn sl_X5_movesIn in_X5 cd_X5_movesIn) hd_X5_movesIn ⟨Nat.le_of_ble_eq_true rfl, Nat.le_of_ble_eq_true rfl⟩ ⟨Nat.le_of_ble_eq_true rfl, Nat.le_of_ble_eq_true rfl⟩ ⟨[0, 1, 2], [], [0, 1, 2], rfl, rfl, rfl, rfl, rfl, rfl, rfl, rfl, rfl⟩ 0 rfl rfl rfl hl.1 rfl (Nat.le_of_ble_eq_true rfl) rfl dX5_groupsNeeded_36 (fun H locs w => bq_z ⟨rfl, rfl⟩ ?_)
          clear hC
          refine lv_istore (lv' := [(6, .int v6), (0, .ref a_t), (2, .int x2), (3, .int i3), (4, .int i2), (5, .int i1)]) hx hb dX5_groupsNeeded_39 hl (by decide) rfl (fun ls hl => ?_)
          refine lv_iload hx hb dX5_groupsNeeded_41 (lv_at hl 4 rfl) ?_
          refine lv_iload hx hb dX5_groupsNeeded_43 (lv_at hl 0 rfl) ?_
          refine lv_iand hx hb dX5_groupsNeeded_45 ?_
          obtain ⟨v7, v8, hT55, hT8⟩ := bq_l2_el hT8
          have K55 : ∀ (H : Heap) (locs : List Loc) (ls : Array Slot), bq_w D A s.heap (wdX5_groupsNeeded cI a_t a_t_minus a_t_plus u_t_pauses u_t_outBefore u_t_cuts u_t_groupOfStep t t_minus t_plus) H locs → lv_has ls 7 [(0, .ref a_t), (2, .int x2), (3, .int v7), (4, .int v8), (5, .int i1), (6, .int v6)] → W p l e rmX5_groupsNeeded s m av9 below meth c H locs 0 0 Q (F0 m 55 ls []) := by
            intro H locs ls w hl
            refine lv_iload hx hb dX5_groupsNeeded_55 (lv_at hl 3 rfl) ?_
            refine lv_iload hx hb dX5_groupsNeeded_57 (lv_at hl 5 rfl) ?_
            refine lv_ior hx hb dX5_groupsNeeded_59 ?_
            obtain ⟨v9, e9, hT8⟩ := bq_let_el hT8
            refine bq_nmi e9 ?_
            clear e9
            refine lv_istore (lv' := [(4, .int v9), (0, .ref a_t), (2, .int x2), (3, .int v7), (5, .int i1), (6, .int v6)]) hx hb dX5_groupsNeeded_60 hl (by decide) rfl (fun ls hl => ?_)
            obtain ⟨v10, e9, hT8⟩ := bq_let_el hT8
            refine lv_iinc (v := v10) (lv' := [(5, .int v10), (4, .int v9), (0, .ref a_t), (2, .int x2), (3, .int v7), (6, .int v6)]) hx hb dX5_groupsNeeded_62 hl (k := 4) rfl (by rw [e9]; rfl) (by decide) rfl (fun ls hl => ?_)
            clear e9
            refine lv_goto (tgt := 8) hx hb dX5_groupsNeeded_65 (by decide) ?_
            obtain rfl := Option.some.inj hT8
            exact ih v10 v9 v7 H locs ls hR8 w (lv_sub hl [2, 3, 4, 1, 0] rfl)
          clear hT8
          refine lv_if_eq (tgt := 55) hx hb dX5_groupsNeeded_46 (by decide) (fun hc => ?_) (fun hc => ?_)
          · replace hT55 := bq_et hc hT55
            clear hc
            obtain ⟨rfl, rfl⟩ := bq_in2 hT55
            exact K55 H locs ls w (lv_sub hl [1, 2, 3, 4, 5, 0] rfl)
          · replace hT55 := bq_ef hc hT55
            clear hc
            refine lv_iinc (v := (i3 + 1)) (lv' := [(3, .int (i3 + 1)), (6, .int v6), (0, .ref a_t), (2, .int x2), (4, .int i2), (5, .int i1)]) hx hb dX5_groupsNeeded_49 hl (k := 3) rfl rfl (by decide) rfl (fun ls hl => ?_)
            refine lv_iconst (v := 0) hx hb dX5_groupsNeeded_52 (by decide) ?_
            refine lv_istore (lv' := [(4, .int 0), (3, .int (i3 + 1)), (6, .int v6), (0, .ref a_t), (2, .int x2), (5, .int i1)]) hx hb dX5_groupsNeeded_53 hl (by decide) rfl (fun ls hl => ?_)
            obtain ⟨rfl, rfl⟩ := bq_in2 hT55
            exact K55 H locs ls w (lv_sub hl [3, 4, 1, 0, 5, 2] rfl)
        clear hT8
        refine lv_icmp_ge (tgt := 29) hx hb dX5_groupsNeeded_21 (by decide) (fun hc => ?_) (fun hc => ?_)
        · replace hT36 := bq_et hc hT36
          clear hc
          refine lv_iload hx hb dX5_groupsNeeded_29 (lv_at hl 4 rfl) ?_
          refine lv_aload_n hx hb dX5_groupsNeeded_31 rfl (lv_at hl 0 rfl) ?_
          refine gt_X5_30 E K w 0 rfl rfl dX5_groupsNeeded_32 ?_
          refine lv_isub hx hb dX5_groupsNeeded_35 ?_
          subst hT36
          exact K36 H locs ls w (lv_sub hl [0, 1, 2, 3, 4] rfl)
        · replace hT36 := bq_ef hc hT36
          clear hc
          refine lv_iload hx hb dX5_groupsNeeded_24 (lv_at hl 4 rfl) ?_
          refine lv_goto (tgt := 36) hx hb dX5_groupsNeeded_26 (by decide) ?_
          subst hT36
          exact K36 H locs ls w (lv_sub hl [0, 1, 2, 3, 4] rfl)
  exact L8 nn x1 0 1 H locs ls hL w (lv_sub hl [3, 5, 2, 1, 0] rfl)
abbrev wdX5_placeCuts (cI : ClassId) (a_t a_t_cuts a_t_minus a_t_plus u_t_pauses u_t_outBefore u_t_groupOfStep : Nat) (t : Nat → Int32) (t_cuts : Nat → Int32) (t_minus : Nat → Int32) (t_plus : Nat → Int32) : va_W := [(a_t, oX5 a_t_plus a_t_minus u_t_pauses u_t_outBefore a_t_cuts u_t_groupOfStep t), (a_t_cuts, oA cI 16 t_cuts), (a_t_minus, oA cI 16 t_minus), (a_t_plus, oA cI 16 t_plus)]
abbrev rmX5_placeCuts : Room := { frames := 2, cells := 0, slots := 0, locals := 47 }
theorem hd_X5_placeCuts : yX5_placeCuts.cls = RX5 ∧ yX5_placeCuts.cls ≠ "java/lang/invoke/MethodHandle" ∧ yX5_placeCuts.cls ≠ "java/lang/invoke/VarHandle" ∧ (parseMethodDescriptor yX5_placeCuts.desc).map (fun d => d.parameters.length) = some 2 := by decide +kernel
set_option maxHeartbeats 4000000 in
set_option maxRecDepth 100000 in
theorem kX5_placeCuts (l : Launch) (D : va_G) (cI cJ : ClassId) (a_t a_t_cuts a_t_minus a_t_plus u_t_pauses u_t_outBefore u_t_groupOfStep : Nat) (t t_cuts t_minus t_plus : Nat → Int32) (x1 : Int32) (x2 : Int32) (t_o : Nat → Int32) (t_cuts_o : Nat → Int32) (hm : mX5_placeCuts t t_cuts t_minus t_plus x1 x2 = some (t_o, t_cuts_o)) : bq_M l D cI cJ yX5_placeCuts cX5_placeCuts 4 none rmX5_placeCuts [.ref a_t, .int x1, .int x2] (wdX5_placeCuts cI a_t a_t_cuts a_t_minus a_t_plus u_t_pauses u_t_outBefore u_t_groupOfStep t t_cuts t_minus t_plus) (wdX5_placeCuts cI a_t a_t_cuts a_t_minus a_t_plus u_t_pauses u_t_outBefore u_t_groupOfStep t_o t_cuts_o t_minus t_plus) none := by
  refine bq_start (by decide) (Nat.le_of_ble_eq_true rfl) ?_
  intro p e s m av9 below meth c A ls Q H locs E K w hA hr hk hn hQ hl
  have E : bq_E p m c cX5_placeCuts 4 s av9 RX5 := E
  have hx := E.1
  have hb := E.2.1
  have hl : lv_has ls 4 [(0, .ref a_t), (1, .int x1), (2, .int x2)] := hl
  unfold mX5_placeCuts at hm
  refine lv_aload_n hx hb dX5_placeCuts_0 rfl (lv_at hl 0 rfl) ?_
  refine lv_iconst (v := 0) hx hb dX5_placeCuts_1 (by decide) ?_
  obtain ⟨t_1, e9, hm⟩ := bq_let_el hm
  refine pt_X5_65 E K w 0 rfl (Nat.le_of_ble_eq_true rfl) dX5_placeCuts_2 (fun H locs w => ?_)
  replace w : bq_w D A s.heap (wdX5_placeCuts cI a_t a_t_cuts a_t_minus a_t_plus u_t_pauses u_t_outBefore u_t_groupOfStep t_1 t_cuts t_minus t_plus) H locs := by rw [e9]; exact w
  clear e9
  refine lv_iload_n hx hb dX5_placeCuts_5 rfl (lv_at hl 1 rfl) ?_
  refine lv_istore_n (lv' := [(3, .int x1), (0, .ref a_t), (1, .int x1), (2, .int x2)]) hx hb dX5_placeCuts_6 rfl hl (by decide) rfl (fun ls hl => ?_)
  obtain ⟨t_5, t_cuts_6, hL, hm⟩ := bq_b2_el hm
  obtain ⟨B, eB, nn, hL⟩ := bq_loop_B hL
  have X69 : ∀ (H : Heap) (locs : List Loc) (ls : Array Slot), bq_w D A s.heap (wdX5_placeCuts cI a_t a_t_cuts a_t_minus a_t_plus u_t_pauses u_t_outBefore u_t_groupOfStep t_5 t_cuts_6 t_minus t_plus) H locs → lv_has ls 4 [] → W p l e rmX5_placeCuts s m av9 below meth c H locs 0 0 Q (F0 m 69 ls []) := by
    intro H locs ls w hl
    obtain ⟨rfl, rfl⟩ := bq_in2 (Option.some.inj hm)
    exact bq_vret E w hr hk dX5_placeCuts_69 hQ
  clear hm
  have L7 : ∀ (nn : Nat) (i2 : Int32) (t_3 : Nat → Int32) (t_cuts_4 : Nat → Int32) (H : Heap) (locs : List Loc) (ls : Array Slot), bq_lp B nn (i2, t_3, t_cuts_4) = some (t_5, t_cuts_6) → bq_w D A s.heap (wdX5_placeCuts cI a_t a_t_cuts a_t_minus a_t_plus u_t_pauses u_t_outBefore u_t_groupOfStep t_3 t_cuts_4 t_minus t_plus) H locs → lv_has ls 4 [(0, .ref a_t), (1, .int x1), (2, .int x2), (3, .int i2)] → W p l e rmX5_placeCuts s m av9 below meth c H locs 0 0 Q (F0 m 7 ls []) := by
    intro nn
    induction nn with
    | zero =>
      intro i2 t_3 t_cuts_4 H locs ls hL w hl
      exact bq_lp_0 hL
    | succ nn ih =>
      intro i2 t_3 t_cuts_4 H locs ls hL w hl
      obtain ⟨oo7, hT7, hR7⟩ := bq_lp_el hL
      clear hL
      replace hT7 := bq_u3_el eB hT7
      unfold bX5_placeCuts_7 at hT7
      refine lv_iload_n hx hb dX5_placeCuts_7 rfl (lv_at hl 3 rfl) ?_
      refine lv_aload_n hx hb dX5_placeCuts_8 rfl (lv_at hl 0 rfl) ?_
      refine gt_X5_30 E K w 0 rfl rfl dX5_placeCuts_9 ?_
      refine lv_icmp_ge (tgt := 69) hx hb dX5_placeCuts_12 (by decide) (fun hc => ?_) (fun hc => ?_)
      · replace hT7 := bq_t hc hT7
        clear hc
        obtain rfl := Option.some.inj hT7
        replace hR7 := bq_lk_r hR7
        obtain ⟨rfl, rfl⟩ := bq_in2 hR7
        exact X69 H locs ls w (lv_sub hl [] rfl)
      · replace hT7 := bq_f hc hT7
        clear hc
        refine lv_aload_n hx hb dX5_placeCuts_15 rfl (lv_at hl 0 rfl) ?_
        refine gt_X5_65 E K w 0 rfl rfl dX5_placeCuts_16 ?_
        refine lv_iload_n hx hb dX5_placeCuts_19 rfl (lv_at hl 2 rfl) ?_
        refine lv_icmp_ge (tgt := 69) hx hb dX5_placeCuts_20 (by decide) (fun hc => ?_) (fun hc => ?_)
        · replace hT7 := bq_t hc hT7
          clear hc
          obtain rfl := Option.some.inj hT7
          replace hR7 := bq_lk_r hR7
          obtain ⟨rfl, rfl⟩ := bq_in2 hR7
          exact X69 H locs ls w (lv_sub hl [] rfl)
        · replace hT7 := bq_f hc hT7
          clear hc
          refine lv_aload_n hx hb dX5_placeCuts_23 rfl (lv_at hl 0 rfl) ?_
          refine lv_iload_n hx hb dX5_placeCuts_24 rfl (lv_at hl 3 rfl) ?_
          refine lv_iload_n hx hb dX5_placeCuts_25 rfl (lv_at hl 1 rfl) ?_
          refine lv_aload_n hx hb dX5_placeCuts_26 rfl (lv_at hl 0 rfl) ?_
          refine gt_X5_30 E K w 0 rfl rfl dX5_placeCuts_27 ?_
          refine lv_iadd hx hb dX5_placeCuts_30 ?_
          obtain ⟨v7, hC, hT7⟩ := bq_bd_el hT7
          refine bq_V (As := [.int i2, .int (x1 + (t_3 0))]) (rest := []) (st1 := [.int v7]) (ws' := wdX5_placeCuts cI a_t a_t_cuts a_t_minus a_t_plus u_t_pauses u_t_outBefore u_t_groupOfStep t_3 t_cuts_4 t_minus t_plus) E K w hA (kX5_groupsNeeded l D cI cJ a_t a_t_minus a_t_plus u_t_pauses u_t_outBefore a_t_cuts u_t_groupOfStep t_3 t_minus t_plus i2 (x1 + (t_3 0)) v7 hC) (bq_gV ml_X5_54 im_X5_groupsNeeded sl_X5_groupsNeeded in_X5 cd_X5_groupsNeeded) hd_X5_groupsNeeded ⟨Nat.le_of_ble_eq_true rfl, Nat.le_of_ble_eq_true rfl⟩ ⟨Nat.le_of_ble_eq_true rfl, Nat.le_of_ble_eq_true rfl⟩ ⟨[0, 2, 3], [1], [1, 0, 2, 3], rfl, rfl, rfl, rfl, rfl, rfl, rfl, rfl, rfl⟩ 0 rfl rfl rfl hl.1 rfl (Nat.le_of_ble_eq_true rfl) rfl dX5_placeCuts_31 (fun H locs w => bq_z ⟨rfl, rfl⟩ ?_)
          clear hC
          refine lv_iload_n hx hb dX5_placeCuts_34 rfl (lv_at hl 2 rfl) ?_
          refine lv_aload_n hx hb dX5_placeCuts_35 rfl (lv_at hl 0 rfl) ?_
          refine gt_X5_65 E K w 0 rfl rfl dX5_placeCuts_36 ?_
          refine lv_isub hx hb dX5_placeCuts_39 ?_
          obtain ⟨t_8, t_cuts_9, hT63, hT7⟩ := bq_b2_el hT7
          have K63 : ∀ (H : Heap) (locs : List Loc) (ls : Array Slot), bq_w D A s.heap (wdX5_placeCuts cI a_t a_t_cuts a_t_minus a_t_plus u_t_pauses u_t_outBefore u_t_groupOfStep t_8 t_cuts_9 t_minus t_plus) H locs → lv_has ls 4 [(0, .ref a_t), (1, .int x1), (2, .int x2), (3, .int i2)] → W p l e rmX5_placeCuts s m av9 below meth c H locs 0 0 Q (F0 m 63 ls []) := by
            intro H locs ls w hl
            obtain ⟨v12, e9, hT7⟩ := bq_let_el hT7
            refine lv_iinc (v := v12) (lv' := [(3, .int v12), (0, .ref a_t), (1, .int x1), (2, .int x2)]) hx hb dX5_placeCuts_63 hl (k := 3) rfl (by rw [e9]; rfl) (by decide) rfl (fun ls hl => ?_)
            clear e9
            refine lv_goto (tgt := 7) hx hb dX5_placeCuts_66 (by decide) ?_
            obtain rfl := Option.some.inj hT7
            exact ih v12 t_8 t_cuts_9 H locs ls hR7 w (lv_sub hl [1, 2, 3, 0] rfl)
          clear hT7
          refine lv_icmp_gt (tgt := 63) hx hb dX5_placeCuts_40 (by decide) (fun hc => ?_) (fun hc => ?_)
          · replace hT63 := bq_t hc hT63
            clear hc
            obtain ⟨rfl, rfl⟩ := bq_in2 (Option.some.inj hT63)
            exact K63 H locs ls w (lv_sub hl [0, 1, 2, 3] rfl)
          · replace hT63 := bq_f hc hT63
            clear hc
            refine lv_aload_n hx hb dX5_placeCuts_43 rfl (lv_at hl 0 rfl) ?_
            refine gt_X5_24 E K w 0 rfl rfl dX5_placeCuts_44 ?_
            refine lv_aload_n hx hb dX5_placeCuts_47 rfl (lv_at hl 0 rfl) ?_
            refine gt_X5_65 E K w 0 rfl rfl dX5_placeCuts_48 ?_
            refine lv_iload_n hx hb dX5_placeCuts_51 rfl (lv_at hl 3 rfl) ?_
            obtain ⟨hI, hT63⟩ := bq_ci_el hT63
            obtain ⟨t_cuts_10, e9, hT63⟩ := bq_let_el hT63
            refine bq_ast E K w 1 rfl hI dX5_placeCuts_52 (fun H locs w => ?_)
            replace w : bq_w D A s.heap (wdX5_placeCuts cI a_t a_t_cuts a_t_minus a_t_plus u_t_pauses u_t_outBefore u_t_groupOfStep t_3 t_cuts_10 t_minus t_plus) H locs := by rw [e9]; exact w
            clear e9
            refine lv_aload_n hx hb dX5_placeCuts_53 rfl (lv_at hl 0 rfl) ?_
            refine lv_dup hx hb dX5_placeCuts_54 rfl ?_
            refine gt_X5_65 E K w 0 rfl rfl dX5_placeCuts_55 ?_
            refine lv_iconst (v := 1) hx hb dX5_placeCuts_58 (by decide) ?_
            refine lv_iadd hx hb dX5_placeCuts_59 ?_
            obtain ⟨t_11, e9, hT63⟩ := bq_let_el hT63
            refine pt_X5_65 E K w 0 rfl (Nat.le_of_ble_eq_true rfl) dX5_placeCuts_60 (fun H locs w => ?_)
            replace w : bq_w D A s.heap (wdX5_placeCuts cI a_t a_t_cuts a_t_minus a_t_plus u_t_pauses u_t_outBefore u_t_groupOfStep t_11 t_cuts_10 t_minus t_plus) H locs := by rw [e9]; exact w
            clear e9
            obtain ⟨rfl, rfl⟩ := bq_in2 (Option.some.inj hT63)
            exact K63 H locs ls w (lv_sub hl [0, 1, 2, 3] rfl)
  exact L7 nn x1 t_1 t_cuts H locs ls hL w (lv_sub hl [1, 2, 3, 0] rfl)
abbrev wdX5_firstStepOf (cI : ClassId) (a_t a_t_cuts u_t_plus u_t_minus u_t_pauses u_t_outBefore u_t_groupOfStep : Nat) (t : Nat → Int32) (t_cuts : Nat → Int32) : va_W := [(a_t, oX5 u_t_plus u_t_minus u_t_pauses u_t_outBefore a_t_cuts u_t_groupOfStep t), (a_t_cuts, oA cI 16 t_cuts)]
abbrev rmX5_firstStepOf : Room := { frames := 0, cells := 0, slots := 0, locals := 0 }
theorem hd_X5_firstStepOf : yX5_firstStepOf.cls = RX5 ∧ yX5_firstStepOf.cls ≠ "java/lang/invoke/MethodHandle" ∧ yX5_firstStepOf.cls ≠ "java/lang/invoke/VarHandle" ∧ (parseMethodDescriptor yX5_firstStepOf.desc).map (fun d => d.parameters.length) = some 1 := by decide +kernel
set_option maxHeartbeats 4000000 in
set_option maxRecDepth 100000 in
theorem kX5_firstStepOf (l : Launch) (D : va_G) (cI cJ : ClassId) (a_t a_t_cuts u_t_plus u_t_minus u_t_pauses u_t_outBefore u_t_groupOfStep : Nat) (t t_cuts : Nat → Int32) (x1 : Int32) (r : Int32) (hm : mX5_firstStepOf t t_cuts x1 = some r) : bq_M l D cI cJ yX5_firstStepOf cX5_firstStepOf 2 (some .int) rmX5_firstStepOf [.ref a_t, .int x1] (wdX5_firstStepOf cI a_t a_t_cuts u_t_plus u_t_minus u_t_pauses u_t_outBefore u_t_groupOfStep t t_cuts) (wdX5_firstStepOf cI a_t a_t_cuts u_t_plus u_t_minus u_t_pauses u_t_outBefore u_t_groupOfStep t t_cuts) (some (.int r)) := by
  refine bq_start (by decide) (Nat.le_of_ble_eq_true rfl) ?_
  intro p e s m av9 below meth c A ls Q H locs E K w hA hr hk hn hQ hl
  have E : bq_E p m c cX5_firstStepOf 2 s av9 RX5 := E
  have hx := E.1
  have hb := E.2.1
  have hl : lv_has ls 2 [(0, .ref a_t), (1, .int x1)] := hl
  unfold mX5_firstStepOf at hm
  refine lv_iload_n hx hb dX5_firstStepOf_0 rfl (lv_at hl 1 rfl) ?_
  obtain ⟨v1, hT22, hm⟩ := bq_bd_el hm
  have K22 : ∀ (H : Heap) (locs : List Loc) (ls : Array Slot), bq_w D A s.heap (wdX5_firstStepOf cI a_t a_t_cuts u_t_plus u_t_minus u_t_pauses u_t_outBefore u_t_groupOfStep t t_cuts) H locs → lv_has ls 2 [] → W p l e rmX5_firstStepOf s m av9 below meth c H locs 0 0 Q (F0 m 22 ls [.int v1]) := by
    intro H locs ls w hl
    obtain rfl := Option.some.inj hm
    exact bq_iret E w hr hk dX5_firstStepOf_22 hQ
  clear hm
  refine lv_if_lt (tgt := 21) hx hb dX5_firstStepOf_1 (by decide) (fun hc => ?_) (fun hc => ?_)
  · replace hT22 := bq_t hc hT22
    clear hc
    refine lv_iconst (v := (-1)) hx hb dX5_firstStepOf_21 (by decide) ?_
    obtain rfl := Option.some.inj hT22
    exact K22 H locs ls w (lv_sub hl [] rfl)
  · replace hT22 := bq_f hc hT22
    clear hc
    refine lv_iload_n hx hb dX5_firstStepOf_4 rfl (lv_at hl 1 rfl) ?_
    refine lv_aload_n hx hb dX5_firstStepOf_5 rfl (lv_at hl 0 rfl) ?_
    refine gt_X5_65 E K w 0 rfl rfl dX5_firstStepOf_6 ?_
    refine lv_icmp_ge (tgt := 21) hx hb dX5_firstStepOf_9 (by decide) (fun hc => ?_) (fun hc => ?_)
    · replace hT22 := bq_t hc hT22
      clear hc
      refine lv_iconst (v := (-1)) hx hb dX5_firstStepOf_21 (by decide) ?_
      obtain rfl := Option.some.inj hT22
      exact K22 H locs ls w (lv_sub hl [] rfl)
    · replace hT22 := bq_f hc hT22
      clear hc
      refine lv_aload_n hx hb dX5_firstStepOf_12 rfl (lv_at hl 0 rfl) ?_
      refine gt_X5_24 E K w 0 rfl rfl dX5_firstStepOf_13 ?_
      refine lv_iload_n hx hb dX5_firstStepOf_16 rfl (lv_at hl 1 rfl) ?_
      obtain ⟨hI, hT22⟩ := bq_ci_el hT22
      refine bq_ald E K w 1 rfl hI dX5_firstStepOf_17 ?_
      refine lv_goto (tgt := 22) hx hb dX5_firstStepOf_18 (by decide) ?_
      obtain rfl := Option.some.inj hT22
      exact K22 H locs ls w (lv_sub hl [] rfl)
abbrev wdX5_nameGroups (cI : ClassId) (a_t a_t_cuts a_t_groupOfStep u_t_plus u_t_minus u_t_pauses u_t_outBefore : Nat) (t : Nat → Int32) (t_cuts : Nat → Int32) (t_groupOfStep : Nat → Int32) : va_W := [(a_t, oX5 u_t_plus u_t_minus u_t_pauses u_t_outBefore a_t_cuts a_t_groupOfStep t), (a_t_cuts, oA cI 16 t_cuts), (a_t_groupOfStep, oA cI 16 t_groupOfStep)]
abbrev rmX5_nameGroups : Room := { frames := 0, cells := 0, slots := 0, locals := 0 }
theorem hd_X5_nameGroups : yX5_nameGroups.cls = RX5 ∧ yX5_nameGroups.cls ≠ "java/lang/invoke/MethodHandle" ∧ yX5_nameGroups.cls ≠ "java/lang/invoke/VarHandle" ∧ (parseMethodDescriptor yX5_nameGroups.desc).map (fun d => d.parameters.length) = some 0 := by decide +kernel
set_option maxHeartbeats 4000000 in
set_option maxRecDepth 100000 in
theorem kX5_nameGroups (l : Launch) (D : va_G) (cI cJ : ClassId) (a_t a_t_cuts a_t_groupOfStep u_t_plus u_t_minus u_t_pauses u_t_outBefore : Nat) (t t_cuts t_groupOfStep : Nat → Int32) (t_groupOfStep_o : Nat → Int32) (hm : mX5_nameGroups t t_cuts t_groupOfStep = some t_groupOfStep_o) : bq_M l D cI cJ yX5_nameGroups cX5_nameGroups 4 none rmX5_nameGroups [.ref a_t] (wdX5_nameGroups cI a_t a_t_cuts a_t_groupOfStep u_t_plus u_t_minus u_t_pauses u_t_outBefore t t_cuts t_groupOfStep) (wdX5_nameGroups cI a_t a_t_cuts a_t_groupOfStep u_t_plus u_t_minus u_t_pauses u_t_outBefore t t_cuts t_groupOfStep_o) none := by
  refine bq_start (by decide) (Nat.le_of_ble_eq_true rfl) ?_
  intro p e s m av9 below meth c A ls Q H locs E K w hA hr hk hn hQ hl
  have E : bq_E p m c cX5_nameGroups 4 s av9 RX5 := E
  have hx := E.1
  have hb := E.2.1
  have hl : lv_has ls 4 [(0, .ref a_t)] := hl
  unfold mX5_nameGroups at hm
  refine lv_aload_n hx hb dX5_nameGroups_0 rfl (lv_at hl 0 rfl) ?_
  refine gt_X5_65 E K w 0 rfl rfl dX5_nameGroups_1 ?_
  refine lv_iconst (v := 1) hx hb dX5_nameGroups_4 (by decide) ?_
  refine lv_isub hx hb dX5_nameGroups_5 ?_
  obtain ⟨v1, e9, hm⟩ := bq_let_el hm
  refine bq_nmi e9 ?_
  clear e9
  refine lv_istore_n (lv' := [(1, .int v1), (0, .ref a_t)]) hx hb dX5_nameGroups_6 rfl hl (by decide) rfl (fun ls hl => ?_)
  refine lv_iconst (v := 0) hx hb dX5_nameGroups_7 (by decide) ?_
  refine lv_istore_n (lv' := [(2, .int 0), (1, .int v1), (0, .ref a_t)]) hx hb dX5_nameGroups_8 rfl hl (by decide) rfl (fun ls hl => ?_)
  refine lv_iconst (v := 0) hx hb dX5_nameGroups_9 (by decide) ?_
  refine lv_istore_n (lv' := [(3, .int 0), (2, .int 0), (1, .int v1), (0, .ref a_t)]) hx hb dX5_nameGroups_10 rfl hl (by decide) rfl (fun ls hl => ?_)
  obtain ⟨t_groupOfStep_6, hL, hm⟩ := bq_bd_el hm
  obtain ⟨B, eB, nn, hL⟩ := bq_loop_B hL
  have X55 : ∀ (H : Heap) (locs : List Loc) (ls : Array Slot), bq_w D A s.heap (wdX5_nameGroups cI a_t a_t_cuts a_t_groupOfStep u_t_plus u_t_minus u_t_pauses u_t_outBefore t t_cuts t_groupOfStep_6) H locs → lv_has ls 4 [] → W p l e rmX5_nameGroups s m av9 below meth c H locs 0 0 Q (F0 m 55 ls []) := by
    intro H locs ls w hl
    obtain rfl := Option.some.inj hm
    exact bq_vret E w hr hk dX5_nameGroups_55 hQ
  clear hm
  have L11 : ∀ (nn : Nat) (i2 : Int32) (i3 : Int32) (i4 : Int32) (t_groupOfStep_5 : Nat → Int32) (H : Heap) (locs : List Loc) (ls : Array Slot), bq_lp B nn (i2, i3, i4, t_groupOfStep_5) = some t_groupOfStep_6 → bq_w D A s.heap (wdX5_nameGroups cI a_t a_t_cuts a_t_groupOfStep u_t_plus u_t_minus u_t_pauses u_t_outBefore t t_cuts t_groupOfStep_5) H locs → lv_has ls 4 [(0, .ref a_t), (1, .int i4), (2, .int i3), (3, .int i2)] → W p l e rmX5_nameGroups s m av9 below meth c H locs 0 0 Q (F0 m 11 ls []) := by
    intro nn
    induction nn with
    | zero =>
      intro i2 i3 i4 t_groupOfStep_5 H locs ls hL w hl
      exact bq_lp_0 hL
    | succ nn ih =>
      intro i2 i3 i4 t_groupOfStep_5 H locs ls hL w hl
      obtain ⟨oo11, hT11, hR11⟩ := bq_lp_el hL
      clear hL
      replace hT11 := bq_u4_el eB hT11
      unfold bX5_nameGroups_11 at hT11
      refine lv_iload_n hx hb dX5_nameGroups_11 rfl (lv_at hl 3 rfl) ?_
      refine lv_aload_n hx hb dX5_nameGroups_12 rfl (lv_at hl 0 rfl) ?_
      refine gt_X5_30 E K w 0 rfl rfl dX5_nameGroups_13 ?_
      refine lv_icmp_ge (tgt := 55) hx hb dX5_nameGroups_16 (by decide) (fun hc => ?_) (fun hc => ?_)
      · replace hT11 := bq_t hc hT11
        clear hc
        obtain rfl := Option.some.inj hT11
        replace hR11 := bq_lk_r hR11
        subst hR11
        exact X55 H locs ls w (lv_sub hl [] rfl)
      · replace hT11 := bq_f hc hT11
        clear hc
        refine lv_iload_n hx hb dX5_nameGroups_19 rfl (lv_at hl 2 rfl) ?_
        refine lv_aload_n hx hb dX5_nameGroups_20 rfl (lv_at hl 0 rfl) ?_
        refine gt_X5_65 E K w 0 rfl rfl dX5_nameGroups_21 ?_
        obtain ⟨v7, v8, hT42, hT11⟩ := bq_b2_el hT11
        have K42 : ∀ (H : Heap) (locs : List Loc) (ls : Array Slot), bq_w D A s.heap (wdX5_nameGroups cI a_t a_t_cuts a_t_groupOfStep u_t_plus u_t_minus u_t_pauses u_t_outBefore t t_cuts t_groupOfStep_5) H locs → lv_has ls 4 [(0, .ref a_t), (1, .int v7), (2, .int v8), (3, .int i2)] → W p l e rmX5_nameGroups s m av9 below meth c H locs 0 0 Q (F0 m 42 ls []) := by
          intro H locs ls w hl
          refine lv_aload_n hx hb dX5_nameGroups_42 rfl (lv_at hl 0 rfl) ?_
          refine gt_X5_27 E K w 0 rfl rfl dX5_nameGroups_43 ?_
          refine lv_iload_n hx hb dX5_nameGroups_46 rfl (lv_at hl 3 rfl) ?_
          refine lv_iload_n hx hb dX5_nameGroups_47 rfl (lv_at hl 1 rfl) ?_
          obtain ⟨hI, hT11⟩ := bq_ci_el hT11
          obtain ⟨t_groupOfStep_10, e9, hT11⟩ := bq_let_el hT11
          refine bq_ast E K w 2 rfl hI dX5_nameGroups_48 (fun H locs w => ?_)
          replace w : bq_w D A s.heap (wdX5_nameGroups cI a_t a_t_cuts a_t_groupOfStep u_t_plus u_t_minus u_t_pauses u_t_outBefore t t_cuts t_groupOfStep_10) H locs := by rw [e9]; exact w
          clear e9
          obtain ⟨v11, e9, hT11⟩ := bq_let_el hT11
          refine lv_iinc (v := v11) (lv' := [(3, .int v11), (0, .ref a_t), (1, .int v7), (2, .int v8)]) hx hb dX5_nameGroups_49 hl (k := 3) rfl (by rw [e9]; rfl) (by decide) rfl (fun ls hl => ?_)
          clear e9
          refine lv_goto (tgt := 11) hx hb dX5_nameGroups_52 (by decide) ?_
          obtain rfl := Option.some.inj hT11
          exact ih v11 v8 v7 t_groupOfStep_10 H locs ls hR11 w (lv_sub hl [1, 2, 3, 0] rfl)
        clear hT11
        refine lv_icmp_ge (tgt := 42) hx hb dX5_nameGroups_24 (by decide) (fun hc => ?_) (fun hc => ?_)
        · replace hT42 := bq_t hc hT42
          clear hc
          obtain ⟨rfl, rfl⟩ := bq_in2 (Option.some.inj hT42)
          exact K42 H locs ls w (lv_sub hl [0, 1, 2, 3] rfl)
        · replace hT42 := bq_f hc hT42
          clear hc
          refine lv_aload_n hx hb dX5_nameGroups_27 rfl (lv_at hl 0 rfl) ?_
          refine gt_X5_24 E K w 0 rfl rfl dX5_nameGroups_28 ?_
          refine lv_iload_n hx hb dX5_nameGroups_31 rfl (lv_at hl 2 rfl) ?_
          obtain ⟨hI, hT42⟩ := bq_ci_el hT42
          refine bq_ald E K w 1 rfl hI dX5_nameGroups_32 ?_
          refine lv_iload_n hx hb dX5_nameGroups_33 rfl (lv_at hl 3 rfl) ?_
          refine lv_icmp_ne (tgt := 42) hx hb dX5_nameGroups_34 (by decide) (fun hc => ?_) (fun hc => ?_)
          · replace hT42 := bq_f hc hT42
            clear hc
            obtain ⟨rfl, rfl⟩ := bq_in2 (Option.some.inj hT42)
            exact K42 H locs ls w (lv_sub hl [0, 1, 2, 3] rfl)
          · replace hT42 := bq_t hc hT42
            clear hc
            refine lv_iload_n hx hb dX5_nameGroups_37 rfl (lv_at hl 2 rfl) ?_
            refine lv_istore_n (lv' := [(1, .int i3), (0, .ref a_t), (2, .int i3), (3, .int i2)]) hx hb dX5_nameGroups_38 rfl hl (by decide) rfl (fun ls hl => ?_)
            obtain ⟨v9, e9, hT42⟩ := bq_let_el hT42
            refine lv_iinc (v := v9) (lv' := [(2, .int v9), (1, .int i3), (0, .ref a_t), (3, .int i2)]) hx hb dX5_nameGroups_39 hl (k := 2) rfl (by rw [e9]; rfl) (by decide) rfl (fun ls hl => ?_)
            clear e9
            obtain ⟨rfl, rfl⟩ := bq_in2 (Option.some.inj hT42)
            exact K42 H locs ls w (lv_sub hl [2, 1, 0, 3] rfl)
  exact L11 nn 0 0 v1 t_groupOfStep H locs ls hL w (lv_sub hl [3, 2, 1, 0] rfl)
abbrev wdX5_divide (cI : ClassId) (a_t a_t_cuts a_t_groupOfStep a_t_minus a_t_plus u_t_pauses u_t_outBefore : Nat) (t : Nat → Int32) (t_cuts : Nat → Int32) (t_groupOfStep : Nat → Int32) (t_minus : Nat → Int32) (t_plus : Nat → Int32) : va_W := [(a_t, oX5 a_t_plus a_t_minus u_t_pauses u_t_outBefore a_t_cuts a_t_groupOfStep t), (a_t_cuts, oA cI 16 t_cuts), (a_t_groupOfStep, oA cI 16 t_groupOfStep), (a_t_minus, oA cI 16 t_minus), (a_t_plus, oA cI 16 t_plus)]
abbrev rmX5_divide : Room := { frames := 3, cells := 0, slots := 0, locals := 70 }
theorem hd_X5_divide : yX5_divide.cls = RX5 ∧ yX5_divide.cls ≠ "java/lang/invoke/MethodHandle" ∧ yX5_divide.cls ≠ "java/lang/invoke/VarHandle" ∧ (parseMethodDescriptor yX5_divide.desc).map (fun d => d.parameters.length) = some 0 := by decide +kernel
set_option maxHeartbeats 4000000 in
set_option maxRecDepth 100000 in
theorem kX5_divide (l : Launch) (D : va_G) (cI cJ : ClassId) (a_t a_t_cuts a_t_groupOfStep a_t_minus a_t_plus u_t_pauses u_t_outBefore : Nat) (t t_cuts t_groupOfStep t_minus t_plus : Nat → Int32) (t_o : Nat → Int32) (t_cuts_o : Nat → Int32) (t_groupOfStep_o : Nat → Int32) (hm : mX5_divide t t_cuts t_groupOfStep t_minus t_plus = some (t_o, t_cuts_o, t_groupOfStep_o)) : bq_M l D cI cJ yX5_divide cX5_divide 5 none rmX5_divide [.ref a_t] (wdX5_divide cI a_t a_t_cuts a_t_groupOfStep a_t_minus a_t_plus u_t_pauses u_t_outBefore t t_cuts t_groupOfStep t_minus t_plus) (wdX5_divide cI a_t a_t_cuts a_t_groupOfStep a_t_minus a_t_plus u_t_pauses u_t_outBefore t_o t_cuts_o t_groupOfStep_o t_minus t_plus) none := by
  refine bq_start (by decide) (Nat.le_of_ble_eq_true rfl) ?_
  intro p e s m av9 below meth c A ls Q H locs E K w hA hr hk hn hQ hl
  have E : bq_E p m c cX5_divide 5 s av9 RX5 := E
  have hx := E.1
  have hb := E.2.1
  have hl : lv_has ls 5 [(0, .ref a_t)] := hl
  unfold mX5_divide at hm
  refine lv_aload_n hx hb dX5_divide_0 rfl (lv_at hl 0 rfl) ?_
  refine gt_X5_30 E K w 0 rfl rfl dX5_divide_1 ?_
  obtain ⟨v1, e9, hm⟩ := bq_let_el hm
  refine bq_nmi e9 ?_
  clear e9
  refine lv_istore_n (lv' := [(1, .int v1), (0, .ref a_t)]) hx hb dX5_divide_4 rfl hl (by decide) rfl (fun ls hl => ?_)
  refine lv_iconst (v := 0) hx hb dX5_divide_5 (by decide) ?_
  refine lv_istore_n (lv' := [(2, .int 0), (1, .int v1), (0, .ref a_t)]) hx hb dX5_divide_6 rfl hl (by decide) rfl (fun ls hl => ?_)
  refine lv_iconst (v := 0) hx hb dX5_divide_7 (by decide) ?_
  refine lv_istore_n (lv' := [(3, .int 0), (2, .int 0), (1, .int v1), (0, .ref a_t)]) hx hb dX5_divide_8 rfl hl (by decide) rfl (fun ls hl => ?_)
  obtain ⟨v5, v6, hL, hm⟩ := bq_b2_el hm
  obtain ⟨B, eB, nn, hL⟩ := bq_loop_B hL
  have X47 : ∀ (H : Heap) (locs : List Loc) (ls : Array Slot), bq_w D A s.heap (wdX5_divide cI a_t a_t_cuts a_t_groupOfStep a_t_minus a_t_plus u_t_pauses u_t_outBefore t t_cuts t_groupOfStep t_minus t_plus) H locs → lv_has ls 5 [(0, .ref a_t), (1, .int v5), (2, .int v6)] → W p l e rmX5_divide s m av9 below meth c H locs 0 0 Q (F0 m 47 ls []) := by
    intro H locs ls w hl
    refine lv_aload_n hx hb dX5_divide_47 rfl (lv_at hl 0 rfl) ?_
    refine lv_iload_n hx hb dX5_divide_48 rfl (lv_at hl 2 rfl) ?_
    refine lv_iload_n hx hb dX5_divide_49 rfl (lv_at hl 1 rfl) ?_
    obtain ⟨t_7, t_cuts_8, hC, hm⟩ := bq_b2_el hm
    refine bq_V (As := [.int v6, .int v5]) (rest := []) (st1 := []) (ws' := wdX5_divide cI a_t a_t_cuts a_t_groupOfStep a_t_minus a_t_plus u_t_pauses u_t_outBefore t_7 t_cuts_8 t_groupOfStep t_minus t_plus) E K w hA (kX5_placeCuts l D cI cJ a_t a_t_cuts a_t_minus a_t_plus u_t_pauses u_t_outBefore a_t_groupOfStep t t_cuts t_minus t_plus v6 v5 t_7 t_cuts_8 hC) (bq_gV ml_X5_58 im_X5_placeCuts sl_X5_placeCuts in_X5 cd_X5_placeCuts) hd_X5_placeCuts ⟨Nat.le_of_ble_eq_true rfl, Nat.le_of_ble_eq_true rfl⟩ ⟨Nat.le_of_ble_eq_true rfl, Nat.le_of_ble_eq_true rfl⟩ ⟨[0, 1, 3, 4], [2], [1, 2, 0, 3, 4], rfl, rfl, rfl, rfl, rfl, rfl, rfl, rfl, rfl⟩ 0 rfl rfl rfl hl.1 rfl (Nat.le_of_ble_eq_true rfl) rfl dX5_divide_50 (fun H locs w => bq_z ⟨rfl, rfl⟩ ?_)
    clear hC
    refine lv_aload_n hx hb dX5_divide_53 rfl (lv_at hl 0 rfl) ?_
    obtain ⟨t_groupOfStep_9, hC, hm⟩ := bq_bd_el hm
    refine bq_V (As := []) (rest := []) (st1 := []) (ws' := wdX5_divide cI a_t a_t_cuts a_t_groupOfStep a_t_minus a_t_plus u_t_pauses u_t_outBefore t_7 t_cuts_8 t_groupOfStep_9 t_minus t_plus) E K w hA (kX5_nameGroups l D cI cJ a_t a_t_cuts a_t_groupOfStep a_t_plus a_t_minus u_t_pauses u_t_outBefore t_7 t_cuts_8 t_groupOfStep t_groupOfStep_9 hC) (bq_gV ml_X5_62 im_X5_nameGroups sl_X5_nameGroups in_X5 cd_X5_nameGroups) hd_X5_nameGroups ⟨Nat.le_of_ble_eq_true rfl, Nat.le_of_ble_eq_true rfl⟩ ⟨Nat.le_of_ble_eq_true rfl, Nat.le_of_ble_eq_true rfl⟩ ⟨[0, 1, 2], [3, 4], [2, 3, 4, 0, 1], rfl, rfl, rfl, rfl, rfl, rfl, rfl, rfl, rfl⟩ 0 rfl rfl rfl hl.1 rfl (Nat.le_of_ble_eq_true rfl) rfl dX5_divide_54 (fun H locs w => bq_z ⟨rfl, rfl⟩ ?_)
    clear hC
    obtain ⟨rfl, rfl, rfl⟩ := bq_in3 (Option.some.inj hm)
    exact bq_vret E w hr hk dX5_divide_57 hQ
  clear hm
  have L9 : ∀ (nn : Nat) (i2 : Int32) (i3 : Int32) (i4 : Int32) (H : Heap) (locs : List Loc) (ls : Array Slot), bq_lp B nn (i2, i3, i4) = some (v5, v6) → bq_w D A s.heap (wdX5_divide cI a_t a_t_cuts a_t_groupOfStep a_t_minus a_t_plus u_t_pauses u_t_outBefore t t_cuts t_groupOfStep t_minus t_plus) H locs → lv_has ls 5 [(0, .ref a_t), (1, .int i4), (2, .int i3), (3, .int i2)] → W p l e rmX5_divide s m av9 below meth c H locs 0 0 Q (F0 m 9 ls []) := by
    intro nn
    induction nn with
    | zero =>
      intro i2 i3 i4 H locs ls hL w hl
      exact bq_lp_0 hL
    | succ nn ih =>
      intro i2 i3 i4 H locs ls hL w hl
      obtain ⟨oo9, hT9, hR9⟩ := bq_lp_el hL
      clear hL
      replace hT9 := bq_u3_el eB hT9
      unfold bX5_divide_9 at hT9
      refine lv_iload_n hx hb dX5_divide_9 rfl (lv_at hl 3 rfl) ?_
      refine lv_aload_n hx hb dX5_divide_10 rfl (lv_at hl 0 rfl) ?_
      refine gt_X5_30 E K w 0 rfl rfl dX5_divide_11 ?_
      refine lv_icmp_ge (tgt := 47) hx hb dX5_divide_14 (by decide) (fun hc => ?_) (fun hc => ?_)
      · replace hT9 := bq_t hc hT9
        clear hc
        obtain rfl := Option.some.inj hT9
        replace hR9 := bq_lk_r hR9
        obtain ⟨rfl, rfl⟩ := bq_in2 hR9
        exact X47 H locs ls w (lv_sub hl [0, 1, 2] rfl)
      · replace hT9 := bq_f hc hT9
        clear hc
        refine lv_aload_n hx hb dX5_divide_17 rfl (lv_at hl 0 rfl) ?_
        refine lv_iload_n hx hb dX5_divide_18 rfl (lv_at hl 3 rfl) ?_
        refine lv_iload_n hx hb dX5_divide_19 rfl (lv_at hl 3 rfl) ?_
        refine lv_aload_n hx hb dX5_divide_20 rfl (lv_at hl 0 rfl) ?_
        refine gt_X5_30 E K w 0 rfl rfl dX5_divide_21 ?_
        refine lv_iadd hx hb dX5_divide_24 ?_
        obtain ⟨v10, hC, hT9⟩ := bq_bd_el hT9
        refine bq_V (As := [.int i2, .int (i2 + (t 0))]) (rest := []) (st1 := [.int v10]) (ws' := wdX5_divide cI a_t a_t_cuts a_t_groupOfStep a_t_minus a_t_plus u_t_pauses u_t_outBefore t t_cuts t_groupOfStep t_minus t_plus) E K w hA (kX5_groupsNeeded l D cI cJ a_t a_t_minus a_t_plus u_t_pauses u_t_outBefore a_t_cuts a_t_groupOfStep t t_minus t_plus i2 (i2 + (t 0)) v10 hC) (bq_gV ml_X5_54 im_X5_groupsNeeded sl_X5_groupsNeeded in_X5 cd_X5_groupsNeeded) hd_X5_groupsNeeded ⟨Nat.le_of_ble_eq_true rfl, Nat.le_of_ble_eq_true rfl⟩ ⟨Nat.le_of_ble_eq_true rfl, Nat.le_of_ble_eq_true rfl⟩ ⟨[0, 3, 4], [1, 2], [2, 0, 1, 3, 4], rfl, rfl, rfl, rfl, rfl, rfl, rfl, rfl, rfl⟩ 0 rfl rfl rfl hl.1 rfl (Nat.le_of_ble_eq_true rfl) rfl dX5_divide_25 (fun H locs w => bq_z ⟨rfl, rfl⟩ ?_)
        clear hC
        refine lv_istore (lv' := [(4, .int v10), (0, .ref a_t), (1, .int i4), (2, .int i3), (3, .int i2)]) hx hb dX5_divide_28 hl (by decide) rfl (fun ls hl => ?_)
        refine lv_iload hx hb dX5_divide_30 (lv_at hl 0 rfl) ?_
        refine lv_iload_n hx hb dX5_divide_32 rfl (lv_at hl 2 rfl) ?_
        obtain ⟨v11, v12, hT41, hT9⟩ := bq_l2_el hT9
        have K41 : ∀ (H : Heap) (locs : List Loc) (ls : Array Slot), bq_w D A s.heap (wdX5_divide cI a_t a_t_cuts a_t_groupOfStep a_t_minus a_t_plus u_t_pauses u_t_outBefore t t_cuts t_groupOfStep t_minus t_plus) H locs → lv_has ls 5 [(0, .ref a_t), (1, .int v11), (2, .int v12), (3, .int i2)] → W p l e rmX5_divide s m av9 below meth c H locs 0 0 Q (F0 m 41 ls []) := by
          intro H locs ls w hl
          obtain ⟨v13, e9, hT9⟩ := bq_let_el hT9
          refine lv_iinc (v := v13) (lv' := [(3, .int v13), (0, .ref a_t), (1, .int v11), (2, .int v12)]) hx hb dX5_divide_41 hl (k := 3) rfl (by rw [e9]; rfl) (by decide) rfl (fun ls hl => ?_)
          clear e9
          refine lv_goto (tgt := 9) hx hb dX5_divide_44 (by decide) ?_
          obtain rfl := Option.some.inj hT9
          exact ih v13 v12 v11 H locs ls hR9 w (lv_sub hl [1, 2, 3, 0] rfl)
        clear hT9
        refine lv_icmp_ge (tgt := 41) hx hb dX5_divide_33 (by decide) (fun hc => ?_) (fun hc => ?_)
        · replace hT41 := bq_et hc hT41
          clear hc
          obtain ⟨rfl, rfl⟩ := bq_in2 hT41
          exact K41 H locs ls w (lv_sub hl [1, 2, 3, 4] rfl)
        · replace hT41 := bq_ef hc hT41
          clear hc
          refine lv_iload hx hb dX5_divide_36 (lv_at hl 0 rfl) ?_
          refine lv_istore_n (lv' := [(1, .int v10), (4, .int v10), (0, .ref a_t), (2, .int i3), (3, .int i2)]) hx hb dX5_divide_38 rfl hl (by decide) rfl (fun ls hl => ?_)
          refine lv_iload_n hx hb dX5_divide_39 rfl (lv_at hl 4 rfl) ?_
          refine lv_istore_n (lv' := [(2, .int i2), (1, .int v10), (4, .int v10), (0, .ref a_t), (3, .int i2)]) hx hb dX5_divide_40 rfl hl (by decide) rfl (fun ls hl => ?_)
          obtain ⟨rfl, rfl⟩ := bq_in2 hT41
          exact K41 H locs ls w (lv_sub hl [3, 1, 0, 4] rfl)
  exact L9 nn 0 0 v1 H locs ls hL w (lv_sub hl [3, 2, 1, 0] rfl)
