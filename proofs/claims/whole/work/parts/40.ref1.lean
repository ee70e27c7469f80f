abbrev wdX8_thrown (cI : ClassId) (a_t u_t_rig u_t_trial u_t_strokes u_t_outs u_t_backs u_t_pauses u_t_cuts u_t_text u_t_readOuts u_t_readBacks u_t_readPauses : Nat) (t : Nat → Int32) : va_W := [(a_t, oX8 u_t_rig u_t_trial u_t_strokes u_t_outs u_t_backs u_t_pauses u_t_cuts u_t_text u_t_readOuts u_t_readBacks u_t_readPauses t)]
abbrev rmX8_thrown : Room := { frames := 0, cells := 0, slots := 0, locals := 0 }
theorem hd_X8_thrown : yX8_thrown.cls = RX8 ∧ yX8_thrown.cls ≠ "java/lang/invoke/MethodHandle" ∧ yX8_thrown.cls ≠ "java/lang/invoke/VarHandle" ∧ (parseMethodDescriptor yX8_thrown.desc).map (fun d => d.parameters.length) = some 0 := by decide +kernel
set_option maxHeartbeats 4000000 in
set_option maxRecDepth 100000 in
theorem kX8_thrown (l : Launch) (D : va_G) (cI cJ : ClassId) (a_t u_t_rig u_t_trial u_t_strokes u_t_outs u_t_backs u_t_pauses u_t_cuts u_t_text u_t_readOuts u_t_readBacks u_t_readPauses : Nat) (t : Nat → Int32) (r : Int32) (hm : mX8_thrown t = some r) : bq_M l D cI cJ yX8_thrown cX8_thrown 1 (some .int) rmX8_thrown [.ref a_t] (wdX8_thrown cI a_t u_t_rig u_t_trial u_t_strokes u_t_outs u_t_backs u_t_pauses u_t_cuts u_t_text u_t_readOuts u_t_readBacks u_t_readPauses t) (wdX8_thrown cI a_t u_t_rig u_t_trial u_t_strokes u_t_outs u_t_backs u_t_pauses u_t_cuts u_t_text u_t_readOuts u_t_readBacks u_t_readPauses t) (some (.int r)) := by
  refine bq_start (by decide) (Nat.le_of_ble_eq_true rfl) ?_
  intro p e s m av9 below meth c A ls Q H locs E K w hA hr hk hn hQ hl
  have E : bq_E p m c cX8_thrown 1 s av9 RX8 := E
  have hx := E.1
  have hb := E.2.1
  have hl : lv_has ls 1 [(0, .ref a_t)] := hl
  unfold mX8_thrown at hm
  refine lv_aload_n hx hb dX8_thrown_0 rfl (lv_at hl 0 rfl) ?_
  refine gt_X8_47 E K w 0 rfl rfl dX8_thrown_1 ?_
  obtain rfl := Option.some.inj hm
  exact bq_iret E w hr hk dX8_thrown_4 hQ
abbrev rmX8_in : Room := { frames := 0, cells := 0, slots := 0, locals := 0 }
theorem hs_X8_in : yX8_in.cls ≠ "java/lang/invoke/MethodHandle" ∧ yX8_in.cls ≠ "java/lang/invoke/VarHandle" ∧ (parseMethodDescriptor yX8_in.desc).map (fun d => d.parameters.length) = some 3 := by decide +kernel
set_option maxHeartbeats 4000000 in
set_option maxRecDepth 100000 in
theorem kX8_in (l : Launch) (D : va_G) (cI cJ : ClassId) (x0 : Int32) (x1 : Int32) (x2 : Int32) (r : Int32) (hm : mX8_in x0 x1 x2 = some r) : bq_M l D cI cJ yX8_in cX8_in 3 (some .boolean) rmX8_in [.int x0, .int x1, .int x2] ([]) ([]) (some (.int r)) := by
  refine bq_start (by decide) (Nat.le_of_ble_eq_true rfl) ?_
  intro p e s m av9 below meth c A ls Q H locs E K w hA hr hk hn hQ hl
  have E : bq_E p m c cX8_in 3 s av9 RX8 := E
  have hx := E.1
  have hb := E.2.1
  have hl : lv_has ls 3 [(0, .int x0), (1, .int x1), (2, .int x2)] := hl
  unfold mX8_in at hm
  refine lv_iload_n hx hb dX8_in_0 rfl (lv_at hl 0 rfl) ?_
  refine lv_iload_n hx hb dX8_in_1 rfl (lv_at hl 1 rfl) ?_
  obtain ⟨v1, hT15, hm⟩ := bq_let_el hm
  have K15 : ∀ (H : Heap) (locs : List Loc) (ls : Array Slot), bq_w D A s.heap ([]) H locs → lv_has ls 3 [] → W p l e rmX8_in s m av9 below meth c H locs 0 0 Q (F0 m 15 ls [.int v1]) := by
    intro H locs ls w hl
    obtain ⟨hB, hm⟩ := bq_cb_el hm
    obtain rfl := Option.some.inj hm
    exact bq_zret E w hr hk hB dX8_in_15 hQ
  clear hm
  refine lv_icmp_lt (tgt := 14) hx hb dX8_in_2 (by decide) (fun hc => ?_) (fun hc => ?_)
  · replace hT15 := bq_et hc hT15
    clear hc
    refine lv_iconst (v := 0) hx hb dX8_in_14 (by decide) ?_
    subst hT15
    exact K15 H locs ls w (lv_sub hl [] rfl)
  · replace hT15 := bq_ef hc hT15
    clear hc
    refine lv_iload_n hx hb dX8_in_5 rfl (lv_at hl 0 rfl) ?_
    refine lv_iload_n hx hb dX8_in_6 rfl (lv_at hl 2 rfl) ?_
    refine lv_icmp_gt (tgt := 14) hx hb dX8_in_7 (by decide) (fun hc => ?_) (fun hc => ?_)
    · replace hT15 := bq_et hc hT15
      clear hc
      refine lv_iconst (v := 0) hx hb dX8_in_14 (by decide) ?_
      subst hT15
      exact K15 H locs ls w (lv_sub hl [] rfl)
    · replace hT15 := bq_ef hc hT15
      clear hc
      refine lv_iconst (v := 1) hx hb dX8_in_10 (by decide) ?_
      refine lv_goto (tgt := 15) hx hb dX8_in_11 (by decide) ?_
      subst hT15
      exact K15 H locs ls w (lv_sub hl [] rfl)
abbrev wdX8_fails (cI : ClassId) (a_t u_t_rig u_t_trial u_t_strokes u_t_outs u_t_backs u_t_pauses u_t_cuts u_t_text u_t_readOuts u_t_readBacks u_t_readPauses : Nat) (t : Nat → Int32) : va_W := [(a_t, oX8 u_t_rig u_t_trial u_t_strokes u_t_outs u_t_backs u_t_pauses u_t_cuts u_t_text u_t_readOuts u_t_readBacks u_t_readPauses t)]
abbrev rmX8_fails : Room := { frames := 0, cells := 0, slots := 0, locals := 0 }
theorem hd_X8_fails : yX8_fails.cls = RX8 ∧ yX8_fails.cls ≠ "java/lang/invoke/MethodHandle" ∧ yX8_fails.cls ≠ "java/lang/invoke/VarHandle" ∧ (parseMethodDescriptor yX8_fails.desc).map (fun d => d.parameters.length) = some 1 := by decide +kernel
set_option maxHeartbeats 4000000 in
set_option maxRecDepth 100000 in
theorem kX8_fails (l : Launch) (D : va_G) (cI cJ : ClassId) (a_t u_t_rig u_t_trial u_t_strokes u_t_outs u_t_backs u_t_pauses u_t_cuts u_t_text u_t_readOuts u_t_readBacks u_t_readPauses : Nat) (t : Nat → Int32) (x1 : Int32) (r : Int32) (t_o : Nat → Int32) (hm : mX8_fails t x1 = some (r, t_o)) : bq_M l D cI cJ yX8_fails cX8_fails 2 (some .int) rmX8_fails [.ref a_t, .int x1] (wdX8_fails cI a_t u_t_rig u_t_trial u_t_strokes u_t_outs u_t_backs u_t_pauses u_t_cuts u_t_text u_t_readOuts u_t_readBacks u_t_readPauses t) (wdX8_fails cI a_t u_t_rig u_t_trial u_t_strokes u_t_outs u_t_backs u_t_pauses u_t_cuts u_t_text u_t_readOuts u_t_readBacks u_t_readPauses t_o) (some (.int r)) := by
  refine bq_start (by decide) (Nat.le_of_ble_eq_true rfl) ?_
  intro p e s m av9 below meth c A ls Q H locs E K w hA hr hk hn hQ hl
  have E : bq_E p m c cX8_fails 2 s av9 RX8 := E
  have hx := E.1
  have hb := E.2.1
  have hl : lv_has ls 2 [(0, .ref a_t), (1, .int x1)] := hl
  unfold mX8_fails at hm
  refine lv_aload_n hx hb dX8_fails_0 rfl (lv_at hl 0 rfl) ?_
  refine lv_iload_n hx hb dX8_fails_1 rfl (lv_at hl 1 rfl) ?_
  obtain ⟨t_1, e9, hm⟩ := bq_let_el hm
  refine pt_X8_47 E K w 0 rfl (Nat.le_of_ble_eq_true rfl) dX8_fails_2 (fun H locs w => ?_)
  replace w : bq_w D A s.heap (wdX8_fails cI a_t u_t_rig u_t_trial u_t_strokes u_t_outs u_t_backs u_t_pauses u_t_cuts u_t_text u_t_readOuts u_t_readBacks u_t_readPauses t_1) H locs := by rw [e9]; exact w
  clear e9
  refine lv_iconst (v := 0) hx hb dX8_fails_5 (by decide) ?_
  obtain ⟨rfl, rfl⟩ := bq_in2 (Option.some.inj hm)
  exact bq_iret E w hr hk dX8_fails_6 hQ
abbrev wdX8_type (cI : ClassId) (a_t a_t_text u_t_rig u_t_trial u_t_strokes u_t_outs u_t_backs u_t_pauses u_t_cuts u_t_readOuts u_t_readBacks u_t_readPauses : Nat) (t : Nat → Int32) (t_text : Nat → Int32) : va_W := [(a_t, oX8 u_t_rig u_t_trial u_t_strokes u_t_outs u_t_backs u_t_pauses u_t_cuts a_t_text u_t_readOuts u_t_readBacks u_t_readPauses t), (a_t_text, oA cI 80 t_text)]
abbrev rmX8_type : Room := { frames := 1, cells := 0, slots := 0, locals := 22 }
theorem hd_X8_type : yX8_type.cls = RX8 ∧ yX8_type.cls ≠ "java/lang/invoke/MethodHandle" ∧ yX8_type.cls ≠ "java/lang/invoke/VarHandle" ∧ (parseMethodDescriptor yX8_type.desc).map (fun d => d.parameters.length) = some 1 := by decide +kernel
set_option maxHeartbeats 4000000 in
set_option maxRecDepth 100000 in
theorem kX8_type (l : Launch) (D : va_G) (cI cJ : ClassId) (a_t a_t_text u_t_rig u_t_trial u_t_strokes u_t_outs u_t_backs u_t_pauses u_t_cuts u_t_readOuts u_t_readBacks u_t_readPauses : Nat) (t t_text : Nat → Int32) (x1 : Int32) (r : Int32) (t_o : Nat → Int32) (t_text_o : Nat → Int32) (hm : mX8_type t t_text x1 = some (r, t_o, t_text_o)) : bq_M l D cI cJ yX8_type cX8_type 2 (some .int) rmX8_type [.ref a_t, .int x1] (wdX8_type cI a_t a_t_text u_t_rig u_t_trial u_t_strokes u_t_outs u_t_backs u_t_pauses u_t_cuts u_t_readOuts u_t_readBacks u_t_readPauses t t_text) (wdX8_type cI a_t a_t_text u_t_rig u_t_trial u_t_strokes u_t_outs u_t_backs u_t_pauses u_t_cuts u_t_readOuts u_t_readBacks u_t_readPauses t_o t_text_o) (some (.int r)) := by
  refine bq_start (by decide) (Nat.le_of_ble_eq_true rfl) ?_
  intro p e s m av9 below meth c A ls Q H locs E K w hA hr hk hn hQ hl
  have E : bq_E p m c cX8_type 2 s av9 RX8 := E
  have hx := E.1
  have hb := E.2.1
  have hl : lv_has ls 2 [(0, .ref a_t), (1, .int x1)] := hl
  unfold mX8_type at hm
  refine lv_aload_n hx hb dX8_type_0 rfl (lv_at hl 0 rfl) ?_
  refine lv_iconst (v := 0) hx hb dX8_type_1 (by decide) ?_
  obtain ⟨t_1, e9, hm⟩ := bq_let_el hm
  refine pt_X8_47 E K w 0 rfl (Nat.le_of_ble_eq_true rfl) dX8_type_2 (fun H locs w => ?_)
  replace w : bq_w D A s.heap (wdX8_type cI a_t a_t_text u_t_rig u_t_trial u_t_strokes u_t_outs u_t_backs u_t_pauses u_t_cuts u_t_readOuts u_t_readBacks u_t_readPauses t_1 t_text) H locs := by rw [e9]; exact w
  clear e9
  refine lv_iload_n hx hb dX8_type_5 rfl (lv_at hl 1 rfl) ?_
  refine lv_bipush (v := 32) hx hb dX8_type_6 (by decide) ?_
  refine lv_bipush (v := 126) hx hb dX8_type_8 (by decide) ?_
  obtain ⟨v2, hC, hm⟩ := bq_bd_el hm
  refine bq_S0 (As := [.int x1, .int 32, .int 126]) (rest := []) (st1 := [.int v2]) E K w hA (kX8_in l D cI cJ x1 32 126 v2 hC) cd_X8_in ml_X8_51 in_X8 st_X8_in hs_X8_in ⟨Nat.le_of_ble_eq_true rfl, Nat.le_of_ble_eq_true rfl⟩ ⟨Nat.le_of_ble_eq_true rfl, Nat.le_of_ble_eq_true rfl⟩ rfl hl.1 rfl (Nat.le_of_ble_eq_true rfl) rfl dX8_type_10 (fun H locs w => bq_z ⟨rfl, rfl⟩ ?_)
  clear hC
  refine lv_if_ne (tgt := 22) hx hb dX8_type_13 (by decide) (fun hc => ?_) (fun hc => ?_)
  · replace hm := bq_f hc hm
    clear hc
    refine lv_aload_n hx hb dX8_type_22 rfl (lv_at hl 0 rfl) ?_
    refine gt_X8_59 E K w 0 rfl rfl dX8_type_23 ?_
    refine lv_bipush (v := 80) hx hb dX8_type_26 (by decide) ?_
    refine lv_icmp_ne (tgt := 37) hx hb dX8_type_28 (by decide) (fun hc => ?_) (fun hc => ?_)
    · replace hm := bq_f hc hm
      clear hc
      refine lv_aload_n hx hb dX8_type_37 rfl (lv_at hl 0 rfl) ?_
      refine gt_X8_31 E K w 0 rfl rfl dX8_type_38 ?_
      refine lv_aload_n hx hb dX8_type_41 rfl (lv_at hl 0 rfl) ?_
      refine gt_X8_59 E K w 0 rfl rfl dX8_type_42 ?_
      refine lv_iload_n hx hb dX8_type_45 rfl (lv_at hl 1 rfl) ?_
      obtain ⟨hI, hm⟩ := bq_ci_el hm
      obtain ⟨t_text_3, e9, hm⟩ := bq_let_el hm
      refine bq_ast E K w 1 rfl hI dX8_type_46 (fun H locs w => ?_)
      replace w : bq_w D A s.heap (wdX8_type cI a_t a_t_text u_t_rig u_t_trial u_t_strokes u_t_outs u_t_backs u_t_pauses u_t_cuts u_t_readOuts u_t_readBacks u_t_readPauses t_1 t_text_3) H locs := by rw [e9]; exact w
      clear e9
      refine lv_aload_n hx hb dX8_type_47 rfl (lv_at hl 0 rfl) ?_
      refine lv_dup hx hb dX8_type_48 rfl ?_
      refine gt_X8_59 E K w 0 rfl rfl dX8_type_49 ?_
      refine lv_iconst (v := 1) hx hb dX8_type_52 (by decide) ?_
      refine lv_iadd hx hb dX8_type_53 ?_
      obtain ⟨t_4, e9, hm⟩ := bq_let_el hm
      refine pt_X8_59 E K w 0 rfl (Nat.le_of_ble_eq_true rfl) dX8_type_54 (fun H locs w => ?_)
      replace w : bq_w D A s.heap (wdX8_type cI a_t a_t_text u_t_rig u_t_trial u_t_strokes u_t_outs u_t_backs u_t_pauses u_t_cuts u_t_readOuts u_t_readBacks u_t_readPauses t_4 t_text_3) H locs := by rw [e9]; exact w
      clear e9
      refine lv_aload_n hx hb dX8_type_57 rfl (lv_at hl 0 rfl) ?_
      refine gt_X8_59 E K w 0 rfl rfl dX8_type_58 ?_
      obtain ⟨rfl, rfl, rfl⟩ := bq_in3 (Option.some.inj hm)
      exact bq_iret E w hr hk dX8_type_61 hQ
    · replace hm := bq_t hc hm
      clear hc
      refine lv_aload_n hx hb dX8_type_31 rfl (lv_at hl 0 rfl) ?_
      refine lv_iconst (v := 2) hx hb dX8_type_32 (by decide) ?_
      obtain ⟨v5, t_6, hC, hm⟩ := bq_b2_el hm
      refine bq_V (As := [.int 2]) (rest := []) (st1 := [.int v5]) (ws' := wdX8_type cI a_t a_t_text u_t_rig u_t_trial u_t_strokes u_t_outs u_t_backs u_t_pauses u_t_cuts u_t_readOuts u_t_readBacks u_t_readPauses t_6 t_text) E K w hA (kX8_fails l D cI cJ a_t u_t_rig u_t_trial u_t_strokes u_t_outs u_t_backs u_t_pauses u_t_cuts a_t_text u_t_readOuts u_t_readBacks u_t_readPauses t_1 2 v5 t_6 hC) (bq_gV ml_X8_55 im_X8_fails sl_X8_fails in_X8 cd_X8_fails) hd_X8_fails ⟨Nat.le_of_ble_eq_true rfl, Nat.le_of_ble_eq_true rfl⟩ ⟨Nat.le_of_ble_eq_true rfl, Nat.le_of_ble_eq_true rfl⟩ ⟨[0], [1], [1, 0], rfl, rfl, rfl, rfl, rfl, rfl, rfl, rfl, rfl⟩ 0 rfl rfl rfl hl.1 rfl (Nat.le_of_ble_eq_true rfl) rfl dX8_type_33 (fun H locs w => bq_z ⟨rfl, rfl⟩ ?_)
      clear hC
      obtain ⟨rfl, rfl, rfl⟩ := bq_in3 (Option.some.inj hm)
      exact bq_iret E w hr hk dX8_type_36 hQ
  · replace hm := bq_t hc hm
    clear hc
    refine lv_aload_n hx hb dX8_type_16 rfl (lv_at hl 0 rfl) ?_
    refine lv_iconst (v := 1) hx hb dX8_type_17 (by decide) ?_
    obtain ⟨v7, t_8, hC, hm⟩ := bq_b2_el hm
    refine bq_V (As := [.int 1]) (rest := []) (st1 := [.int v7]) (ws' := wdX8_type cI a_t a_t_text u_t_rig u_t_trial u_t_strokes u_t_outs u_t_backs u_t_pauses u_t_cuts u_t_readOuts u_t_readBacks u_t_readPauses t_8 t_text) E K w hA (kX8_fails l D cI cJ a_t u_t_rig u_t_trial u_t_strokes u_t_outs u_t_backs u_t_pauses u_t_cuts a_t_text u_t_readOuts u_t_readBacks u_t_readPauses t_1 1 v7 t_8 hC) (bq_gV ml_X8_55 im_X8_fails sl_X8_fails in_X8 cd_X8_fails) hd_X8_fails ⟨Nat.le_of_ble_eq_true rfl, Nat.le_of_ble_eq_true rfl⟩ ⟨Nat.le_of_ble_eq_true rfl, Nat.le_of_ble_eq_true rfl⟩ ⟨[0], [1], [1, 0], rfl, rfl, rfl, rfl, rfl, rfl, rfl, rfl, rfl⟩ 0 rfl rfl rfl hl.1 rfl (Nat.le_of_ble_eq_true rfl) rfl dX8_type_18 (fun H locs w => bq_z ⟨rfl, rfl⟩ ?_)
    clear hC
    obtain ⟨rfl, rfl, rfl⟩ := bq_in3 (Option.some.inj hm)
    exact bq_iret E w hr hk dX8_type_21 hQ
abbrev wdX8_clearText (cI : ClassId) (a_t u_t_rig u_t_trial u_t_strokes u_t_outs u_t_backs u_t_pauses u_t_cuts u_t_text u_t_readOuts u_t_readBacks u_t_readPauses : Nat) (t : Nat → Int32) : va_W := [(a_t, oX8 u_t_rig u_t_trial u_t_strokes u_t_outs u_t_backs u_t_pauses u_t_cuts u_t_text u_t_readOuts u_t_readBacks u_t_readPauses t)]
abbrev rmX8_clearText : Room := { frames := 0, cells := 0, slots := 0, locals := 0 }
theorem hd_X8_clearText : yX8_clearText.cls = RX8 ∧ yX8_clearText.cls ≠ "java/lang/invoke/MethodHandle" ∧ yX8_clearText.cls ≠ "java/lang/invoke/VarHandle" ∧ (parseMethodDescriptor yX8_clearText.desc).map (fun d => d.parameters.length) = some 0 := by decide +kernel
set_option maxHeartbeats 4000000 in
set_option maxRecDepth 100000 in
theorem kX8_clearText (l : Launch) (D : va_G) (cI cJ : ClassId) (a_t u_t_rig u_t_trial u_t_strokes u_t_outs u_t_backs u_t_pauses u_t_cuts u_t_text u_t_readOuts u_t_readBacks u_t_readPauses : Nat) (t : Nat → Int32) (r : Int32) (t_o : Nat → Int32) (hm : mX8_clearText t = some (r, t_o)) : bq_M l D cI cJ yX8_clearText cX8_clearText 2 (some .int) rmX8_clearText [.ref a_t] (wdX8_clearText cI a_t u_t_rig u_t_trial u_t_strokes u_t_outs u_t_backs u_t_pauses u_t_cuts u_t_text u_t_readOuts u_t_readBacks u_t_readPauses t) (wdX8_clearText cI a_t u_t_rig u_t_trial u_t_strokes u_t_outs u_t_backs u_t_pauses u_t_cuts u_t_text u_t_readOuts u_t_readBacks u_t_readPauses t_o) (some (.int r)) := by
  refine bq_start (by decide) (Nat.le_of_ble_eq_true rfl) ?_
  intro p e s m av9 below meth c A ls Q H locs E K w hA hr hk hn hQ hl
  have E : bq_E p m c cX8_clearText 2 s av9 RX8 := E
  have hx := E.1
  have hb := E.2.1
  have hl : lv_has ls 2 [(0, .ref a_t)] := hl
  unfold mX8_clearText at hm
  refine lv_aload_n hx hb dX8_clearText_0 rfl (lv_at hl 0 rfl) ?_
  refine lv_iconst (v := 0) hx hb dX8_clearText_1 (by decide) ?_
  obtain ⟨t_1, e9, hm⟩ := bq_let_el hm
  refine pt_X8_47 E K w 0 rfl (Nat.le_of_ble_eq_true rfl) dX8_clearText_2 (fun H locs w => ?_)
  replace w : bq_w D A s.heap (wdX8_clearText cI a_t u_t_rig u_t_trial u_t_strokes u_t_outs u_t_backs u_t_pauses u_t_cuts u_t_text u_t_readOuts u_t_readBacks u_t_readPauses t_1) H locs := by rw [e9]; exact w
  clear e9
  refine lv_aload_n hx hb dX8_clearText_5 rfl (lv_at hl 0 rfl) ?_
  refine gt_X8_59 E K w 0 rfl rfl dX8_clearText_6 ?_
  obtain ⟨v2, e9, hm⟩ := bq_let_el hm
  refine bq_nmi e9 ?_
  clear e9
  refine lv_istore_n (lv' := [(1, .int v2), (0, .ref a_t)]) hx hb dX8_clearText_9 rfl hl (by decide) rfl (fun ls hl => ?_)
  refine lv_aload_n hx hb dX8_clearText_10 rfl (lv_at hl 1 rfl) ?_
  refine lv_iconst (v := 0) hx hb dX8_clearText_11 (by decide) ?_
  obtain ⟨t_3, e9, hm⟩ := bq_let_el hm
  refine pt_X8_59 E K w 0 rfl (Nat.le_of_ble_eq_true rfl) dX8_clearText_12 (fun H locs w => ?_)
  replace w : bq_w D A s.heap (wdX8_clearText cI a_t u_t_rig u_t_trial u_t_strokes u_t_outs u_t_backs u_t_pauses u_t_cuts u_t_text u_t_readOuts u_t_readBacks u_t_readPauses t_3) H locs := by rw [e9]; exact w
  clear e9
  refine lv_iload_n hx hb dX8_clearText_15 rfl (lv_at hl 0 rfl) ?_
  obtain ⟨rfl, rfl⟩ := bq_in2 (Option.some.inj hm)
  exact bq_iret E w hr hk dX8_clearText_16 hQ
abbrev wdX8_letter (cI : ClassId) (a_t a_t_text u_t_rig u_t_trial u_t_strokes u_t_outs u_t_backs u_t_pauses u_t_cuts u_t_readOuts u_t_readBacks u_t_readPauses : Nat) (t : Nat → Int32) (t_text : Nat → Int32) : va_W := [(a_t, oX8 u_t_rig u_t_trial u_t_strokes u_t_outs u_t_backs u_t_pauses u_t_cuts a_t_text u_t_readOuts u_t_readBacks u_t_readPauses t), (a_t_text, oA cI 80 t_text)]
abbrev rmX8_letter : Room := { frames := 0, cells := 0, slots := 0, locals := 0 }
theorem hd_X8_letter : yX8_letter.cls = RX8 ∧ yX8_letter.cls ≠ "java/lang/invoke/MethodHandle" ∧ yX8_letter.cls ≠ "java/lang/invoke/VarHandle" ∧ (parseMethodDescriptor yX8_letter.desc).map (fun d => d.parameters.length) = some 1 := by decide +kernel
set_option maxHeartbeats 4000000 in
set_option maxRecDepth 100000 in
theorem kX8_letter (l : Launch) (D : va_G) (cI cJ : ClassId) (a_t a_t_text u_t_rig u_t_trial u_t_strokes u_t_outs u_t_backs u_t_pauses u_t_cuts u_t_readOuts u_t_readBacks u_t_readPauses : Nat) (t t_text : Nat → Int32) (x1 : Int32) (r : Int32) (hm : mX8_letter t t_text x1 = some r) : bq_M l D cI cJ yX8_letter cX8_letter 2 (some .int) rmX8_letter [.ref a_t, .int x1] (wdX8_letter cI a_t a_t_text u_t_rig u_t_trial u_t_strokes u_t_outs u_t_backs u_t_pauses u_t_cuts u_t_readOuts u_t_readBacks u_t_readPauses t t_text) (wdX8_letter cI a_t a_t_text u_t_rig u_t_trial u_t_strokes u_t_outs u_t_backs u_t_pauses u_t_cuts u_t_readOuts u_t_readBacks u_t_readPauses t t_text) (some (.int r)) := by
  refine bq_start (by decide) (Nat.le_of_ble_eq_true rfl) ?_
  intro p e s m av9 below meth c A ls Q H locs E K w hA hr hk hn hQ hl
  have E : bq_E p m c cX8_letter 2 s av9 RX8 := E
  have hx := E.1
  have hb := E.2.1
  have hl : lv_has ls 2 [(0, .ref a_t), (1, .int x1)] := hl
  unfold mX8_letter at hm
  refine lv_iload_n hx hb dX8_letter_0 rfl (lv_at hl 1 rfl) ?_
  refine lv_aload_n hx hb dX8_letter_1 rfl (lv_at hl 0 rfl) ?_
  refine gt_X8_59 E K w 0 rfl rfl dX8_letter_2 ?_
  obtain ⟨v1, hT18, hm⟩ := bq_bd_el hm
  have K18 : ∀ (H : Heap) (locs : List Loc) (ls : Array Slot), bq_w D A s.heap (wdX8_letter cI a_t a_t_text u_t_rig u_t_trial u_t_strokes u_t_outs u_t_backs u_t_pauses u_t_cuts u_t_readOuts u_t_readBacks u_t_readPauses t t_text) H locs → lv_has ls 2 [] → W p l e rmX8_letter s m av9 below meth c H locs 0 0 Q (F0 m 18 ls [.int v1]) := by
    intro H locs ls w hl
    obtain rfl := Option.some.inj hm
    exact bq_iret E w hr hk dX8_letter_18 hQ
  clear hm
  refine lv_icmp_ge (tgt := 17) hx hb dX8_letter_5 (by decide) (fun hc => ?_) (fun hc => ?_)
  · replace hT18 := bq_t hc hT18
    clear hc
    refine lv_iconst (v := (-1)) hx hb dX8_letter_17 (by decide) ?_
    obtain rfl := Option.some.inj hT18
    exact K18 H locs ls w (lv_sub hl [] rfl)
  · replace hT18 := bq_f hc hT18
    clear hc
    refine lv_aload_n hx hb dX8_letter_8 rfl (lv_at hl 0 rfl) ?_
    refine gt_X8_31 E K w 0 rfl rfl dX8_letter_9 ?_
    refine lv_iload_n hx hb dX8_letter_12 rfl (lv_at hl 1 rfl) ?_
    obtain ⟨hI, hT18⟩ := bq_ci_el hT18
    refine bq_ald E K w 1 rfl hI dX8_letter_13 ?_
    refine lv_goto (tgt := 18) hx hb dX8_letter_14 (by decide) ?_
    obtain rfl := Option.some.inj hT18
    exact K18 H locs ls w (lv_sub hl [] rfl)
abbrev wdX8_isDigit (cI : ClassId) (a_t a_t_text u_t_rig u_t_trial u_t_strokes u_t_outs u_t_backs u_t_pauses u_t_cuts u_t_readOuts u_t_readBacks u_t_readPauses : Nat) (t : Nat → Int32) (t_text : Nat → Int32) : va_W := [(a_t, oX8 u_t_rig u_t_trial u_t_strokes u_t_outs u_t_backs u_t_pauses u_t_cuts a_t_text u_t_readOuts u_t_readBacks u_t_readPauses t), (a_t_text, oA cI 80 t_text)]
abbrev rmX8_isDigit : Room := { frames := 1, cells := 0, slots := 0, locals := 22 }
theorem hd_X8_isDigit : yX8_isDigit.cls = RX8 ∧ yX8_isDigit.cls ≠ "java/lang/invoke/MethodHandle" ∧ yX8_isDigit.cls ≠ "java/lang/invoke/VarHandle" ∧ (parseMethodDescriptor yX8_isDigit.desc).map (fun d => d.parameters.length) = some 1 := by decide +kernel
set_option maxHeartbeats 4000000 in
set_option maxRecDepth 100000 in
theorem kX8_isDigit (l : Launch) (D : va_G) (cI cJ : ClassId) (a_t a_t_text u_t_rig u_t_trial u_t_strokes u_t_outs u_t_backs u_t_pauses u_t_cuts u_t_readOuts u_t_readBacks u_t_readPauses : Nat) (t t_text : Nat → Int32) (x1 : Int32) (r : Int32) (hm : mX8_isDigit t t_text x1 = some r) : bq_M l D cI cJ yX8_isDigit cX8_isDigit 2 (some .boolean) rmX8_isDigit [.ref a_t, .int x1] (wdX8_isDigit cI a_t a_t_text u_t_rig u_t_trial u_t_strokes u_t_outs u_t_backs u_t_pauses u_t_cuts u_t_readOuts u_t_readBacks u_t_readPauses t t_text) (wdX8_isDigit cI a_t a_t_text u_t_rig u_t_trial u_t_strokes u_t_outs u_t_backs u_t_pauses u_t_cuts u_t_readOuts u_t_readBacks u_t_readPauses t t_text) (some (.int r)) := by
  refine bq_start (by decide) (Nat.le_of_ble_eq_true rfl) ?_
  intro p e s m av9 below meth c A ls Q H locs E K w hA hr hk hn hQ hl
  have E : bq_E p m c cX8_isDigit 2 s av9 RX8 := E
  have hx := E.1
  have hb := E.2.1
  have hl : lv_has ls 2 [(0, .ref a_t), (1, .int x1)] := hl
  unfold mX8_isDigit at hm
  refine lv_aload_n hx hb dX8_isDigit_0 rfl (lv_at hl 0 rfl) ?_
  refine lv_iload_n hx hb dX8_isDigit_1 rfl (lv_at hl 1 rfl) ?_
  obtain ⟨v1, hC, hm⟩ := bq_bd_el hm
  refine bq_V (As := [.int x1]) (rest := []) (st1 := [.int v1]) (ws' := wdX8_isDigit cI a_t a_t_text u_t_rig u_t_trial u_t_strokes u_t_outs u_t_backs u_t_pauses u_t_cuts u_t_readOuts u_t_readBacks u_t_readPauses t t_text) E K w hA (kX8_letter l D cI cJ a_t a_t_text u_t_rig u_t_trial u_t_strokes u_t_outs u_t_backs u_t_pauses u_t_cuts u_t_readOuts u_t_readBacks u_t_readPauses t t_text x1 v1 hC) (bq_gV ml_X8_62 im_X8_letter sl_X8_letter in_X8 cd_X8_letter) hd_X8_letter ⟨Nat.le_of_ble_eq_true rfl, Nat.le_of_ble_eq_true rfl⟩ ⟨Nat.le_of_ble_eq_true rfl, Nat.le_of_ble_eq_true rfl⟩ ⟨[0, 1], [], [0, 1], rfl, rfl, rfl, rfl, rfl, rfl, rfl, rfl, rfl⟩ 0 rfl rfl rfl hl.1 rfl (Nat.le_of_ble_eq_true rfl) rfl dX8_isDigit_2 (fun H locs w => bq_z ⟨rfl, rfl⟩ ?_)
  clear hC
  refine lv_bipush (v := 48) hx hb dX8_isDigit_5 (by decide) ?_
  refine lv_bipush (v := 57) hx hb dX8_isDigit_7 (by decide) ?_
  obtain ⟨v2, hC, hm⟩ := bq_bd_el hm
  refine bq_S0 (As := [.int v1, .int 48, .int 57]) (rest := []) (st1 := [.int v2]) E K w hA (kX8_in l D cI cJ v1 48 57 v2 hC) cd_X8_in ml_X8_51 in_X8 st_X8_in hs_X8_in ⟨Nat.le_of_ble_eq_true rfl, Nat.le_of_ble_eq_true rfl⟩ ⟨Nat.le_of_ble_eq_true rfl, Nat.le_of_ble_eq_true rfl⟩ rfl hl.1 rfl (Nat.le_of_ble_eq_true rfl) rfl dX8_isDigit_9 (fun H locs w => bq_z ⟨rfl, rfl⟩ ?_)
  clear hC
  obtain ⟨hB, hm⟩ := bq_cb_el hm
  obtain rfl := Option.some.inj hm
  exact bq_zret E w hr hk hB dX8_isDigit_12 hQ
abbrev wdX8_isMove (cI : ClassId) (a_t a_t_text u_t_rig u_t_trial u_t_strokes u_t_outs u_t_backs u_t_pauses u_t_cuts u_t_readOuts u_t_readBacks u_t_readPauses : Nat) (t : Nat → Int32) (t_text : Nat → Int32) : va_W := [(a_t, oX8 u_t_rig u_t_trial u_t_strokes u_t_outs u_t_backs u_t_pauses u_t_cuts a_t_text u_t_readOuts u_t_readBacks u_t_readPauses t), (a_t_text, oA cI 80 t_text)]
abbrev rmX8_isMove : Room := { frames := 1, cells := 0, slots := 0, locals := 22 }
theorem hd_X8_isMove : yX8_isMove.cls = RX8 ∧ yX8_isMove.cls ≠ "java/lang/invoke/MethodHandle" ∧ yX8_isMove.cls ≠ "java/lang/invoke/VarHandle" ∧ (parseMethodDescriptor yX8_isMove.desc).map (fun d => d.parameters.length) = some 1 := by decide +kernel
set_option maxHeartbeats 4000000 in
set_option maxRecDepth 100000 in
theorem kX8_isMove (l : Launch) (D : va_G) (cI cJ : ClassId) (a_t a_t_text u_t_rig u_t_trial u_t_strokes u_t_outs u_t_backs u_t_pauses u_t_cuts u_t_readOuts u_t_readBacks u_t_readPauses : Nat) (t t_text : Nat → Int32) (x1 : Int32) (r : Int32) (hm : mX8_isMove t t_text x1 = some r) : bq_M l D cI cJ yX8_isMove cX8_isMove 2 (some .boolean) rmX8_isMove [.ref a_t, .int x1] (wdX8_isMove cI a_t a_t_text u_t_rig u_t_trial u_t_strokes u_t_outs u_t_backs u_t_pauses u_t_cuts u_t_readOuts u_t_readBacks u_t_readPauses t t_text) (wdX8_isMove cI a_t a_t_text u_t_rig u_t_trial u_t_strokes u_t_outs u_t_backs u_t_pauses u_t_cuts u_t_readOuts u_t_readBacks u_t_readPauses t t_text) (some (.int r)) := by
  refine bq_start (by decide) (Nat.le_of_ble_eq_true rfl) ?_
  intro p e s m av9 below meth c A ls Q H locs E K w hA hr hk hn hQ hl
  have E : bq_E p m c cX8_isMove 2 s av9 RX8 := E
  have hx := E.1
  have hb := E.2.1
  have hl : lv_has ls 2 [(0, .ref a_t), (1, .int x1)] := hl
  unfold mX8_isMove at hm
  refine lv_aload_n hx hb dX8_isMove_0 rfl (lv_at hl 0 rfl) ?_
  refine lv_iload_n hx hb dX8_isMove_1 rfl (lv_at hl 1 rfl) ?_
  obtain ⟨v1, hC, hm⟩ := bq_bd_el hm
  refine bq_V (As := [.int x1]) (rest := []) (st1 := [.int v1]) (ws' := wdX8_isMove cI a_t a_t_text u_t_rig u_t_trial u_t_strokes u_t_outs u_t_backs u_t_pauses u_t_cuts u_t_readOuts u_t_readBacks u_t_readPauses t t_text) E K w hA (kX8_letter l D cI cJ a_t a_t_text u_t_rig u_t_trial u_t_strokes u_t_outs u_t_backs u_t_pauses u_t_cuts u_t_readOuts u_t_readBacks u_t_readPauses t t_text x1 v1 hC) (bq_gV ml_X8_62 im_X8_letter sl_X8_letter in_X8 cd_X8_letter) hd_X8_letter ⟨Nat.le_of_ble_eq_true rfl, Nat.le_of_ble_eq_true rfl⟩ ⟨Nat.le_of_ble_eq_true rfl, Nat.le_of_ble_eq_true rfl⟩ ⟨[0, 1], [], [0, 1], rfl, rfl, rfl, rfl, rfl, rfl, rfl, rfl, rfl⟩ 0 rfl rfl rfl hl.1 rfl (Nat.le_of_ble_eq_true rfl) rfl dX8_isMove_2 (fun H locs w => bq_z ⟨rfl, rfl⟩ ?_)
  clear hC
  refine lv_bipush (v := 65) hx hb dX8_isMove_5 (by decide) ?_
  refine lv_bipush (v := 70) hx hb dX8_isMove_7 (by decide) ?_
  obtain ⟨v2, hC, hm⟩ := bq_bd_el hm
  refine bq_S0 (As := [.int v1, .int 65, .int 70]) (rest := []) (st1 := [.int v2]) E K w hA (kX8_in l D cI cJ v1 65 70 v2 hC) cd_X8_in ml_X8_51 in_X8 st_X8_in hs_X8_in ⟨Nat.le_of_ble_eq_true rfl, Nat.le_of_ble_eq_true rfl⟩ ⟨Nat.le_of_ble_eq_true rfl, Nat.le_of_ble_eq_true rfl⟩ rfl hl.1 rfl (Nat.le_of_ble_eq_true rfl) rfl dX8_isMove_9 (fun H locs w => bq_z ⟨rfl, rfl⟩ ?_)
  clear hC
  obtain ⟨v3, hT44, hm⟩ := bq_bd_el hm
  have K44 : ∀ (H : Heap) (locs : List Loc) (ls : Array Slot), bq_w D A s.heap (wdX8_isMove cI a_t a_t_text u_t_rig u_t_trial u_t_strokes u_t_outs u_t_backs u_t_pauses u_t_cuts u_t_readOuts u_t_readBacks u_t_readPauses t t_text) H locs → lv_has ls 2 [] → W p l e rmX8_isMove s m av9 below meth c H locs 0 0 Q (F0 m 44 ls [.int v3]) := by
    intro H locs ls w hl
    obtain ⟨hB, hm⟩ := bq_cb_el hm
    obtain rfl := Option.some.inj hm
    exact bq_zret E w hr hk hB dX8_isMove_44 hQ
  clear hm
  refine lv_if_eq (tgt := 43) hx hb dX8_isMove_12 (by decide) (fun hc => ?_) (fun hc => ?_)
  · replace hT44 := bq_t hc hT44
    clear hc
    refine lv_iconst (v := 0) hx hb dX8_isMove_43 (by decide) ?_
    obtain rfl := Option.some.inj hT44
    exact K44 H locs ls w (lv_sub hl [] rfl)
  · replace hT44 := bq_f hc hT44
    clear hc
    refine lv_aload_n hx hb dX8_isMove_15 rfl (lv_at hl 0 rfl) ?_
    refine lv_iload_n hx hb dX8_isMove_16 rfl (lv_at hl 1 rfl) ?_
    refine lv_iconst (v := 1) hx hb dX8_isMove_17 (by decide) ?_
    refine lv_iadd hx hb dX8_isMove_18 ?_
    obtain ⟨v4, hC, hT44⟩ := bq_bd_el hT44
    refine bq_V (As := [.int (x1 + 1)]) (rest := []) (st1 := [.int v4]) (ws' := wdX8_isMove cI a_t a_t_text u_t_rig u_t_trial u_t_strokes u_t_outs u_t_backs u_t_pauses u_t_cuts u_t_readOuts u_t_readBacks u_t_readPauses t t_text) E K w hA (kX8_letter l D cI cJ a_t a_t_text u_t_rig u_t_trial u_t_strokes u_t_outs u_t_backs u_t_pauses u_t_cuts u_t_readOuts u_t_readBacks u_t_readPauses t t_text (x1 + 1) v4 hC) (bq_gV ml_X8_62 im_X8_letter sl_X8_letter in_X8 cd_X8_letter) hd_X8_letter ⟨Nat.le_of_ble_eq_true rfl, Nat.le_of_ble_eq_true rfl⟩ ⟨Nat.le_of_ble_eq_true rfl, Nat.le_of_ble_eq_true rfl⟩ ⟨[0, 1], [], [0, 1], rfl, rfl, rfl, rfl, rfl, rfl, rfl, rfl, rfl⟩ 0 rfl rfl rfl hl.1 rfl (Nat.le_of_ble_eq_true rfl) rfl dX8_isMove_19 (fun H locs w => bq_z ⟨rfl, rfl⟩ ?_)
    clear hC
    refine lv_bipush (v := 43) hx hb dX8_isMove_22 (by decide) ?_
    refine lv_icmp_eq (tgt := 39) hx hb dX8_isMove_24 (by decide) (fun hc => ?_) (fun hc => ?_)
    · replace hT44 := bq_t hc hT44
      clear hc
      refine lv_iconst (v := 1) hx hb dX8_isMove_39 (by decide) ?_
      refine lv_goto (tgt := 44) hx hb dX8_isMove_40 (by decide) ?_
      obtain rfl := Option.some.inj hT44
      exact K44 H locs ls w (lv_sub hl [] rfl)
    · replace hT44 := bq_f hc hT44
      clear hc
      refine lv_aload_n hx hb dX8_isMove_27 rfl (lv_at hl 0 rfl) ?_
      refine lv_iload_n hx hb dX8_isMove_28 rfl (lv_at hl 1 rfl) ?_
      refine lv_iconst (v := 1) hx hb dX8_isMove_29 (by decide) ?_
      refine lv_iadd hx hb dX8_isMove_30 ?_
      obtain ⟨v5, hC, hT44⟩ := bq_bd_el hT44
      refine bq_V (As := [.int (x1 + 1)]) (rest := []) (st1 := [.int v5]) (ws' := wdX8_isMove cI a_t a_t_text u_t_rig u_t_trial u_t_strokes u_t_outs u_t_backs u_t_pauses u_t_cuts u_t_readOuts u_t_readBacks u_t_readPauses t t_text) E K w hA (kX8_letter l D cI cJ a_t a_t_text u_t_rig u_t_trial u_t_strokes u_t_outs u_t_backs u_t_pauses u_t_cuts u_t_readOuts u_t_readBacks u_t_readPauses t t_text (x1 + 1) v5 hC) (bq_gV ml_X8_62 im_X8_letter sl_X8_letter in_X8 cd_X8_letter) hd_X8_letter ⟨Nat.le_of_ble_eq_true rfl, Nat.le_of_ble_eq_true rfl⟩ ⟨Nat.le_of_ble_eq_true rfl, Nat.le_of_ble_eq_true rfl⟩ ⟨[0, 1], [], [0, 1], rfl, rfl, rfl, rfl, rfl, rfl, rfl, rfl, rfl⟩ 0 rfl rfl rfl hl.1 rfl (Nat.le_of_ble_eq_true rfl) rfl dX8_isMove_31 (fun H locs w => bq_z ⟨rfl, rfl⟩ ?_)
      clear hC
      refine lv_bipush (v := 45) hx hb dX8_isMove_34 (by decide) ?_
      refine lv_icmp_ne (tgt := 43) hx hb dX8_isMove_36 (by decide) (fun hc => ?_) (fun hc => ?_)
      · replace hT44 := bq_f hc hT44
        clear hc
        refine lv_iconst (v := 0) hx hb dX8_isMove_43 (by decide) ?_
        obtain rfl := Option.some.inj hT44
        exact K44 H locs ls w (lv_sub hl [] rfl)
      · replace hT44 := bq_t hc hT44
        clear hc
        refine lv_iconst (v := 1) hx hb dX8_isMove_39 (by decide) ?_
        refine lv_goto (tgt := 44) hx hb dX8_isMove_40 (by decide) ?_
        obtain rfl := Option.some.inj hT44
        exact K44 H locs ls w (lv_sub hl [] rfl)
abbrev wdX8_failsAt (cI : ClassId) (a_t a_t_text u_t_rig u_t_trial u_t_strokes u_t_outs u_t_backs u_t_pauses u_t_cuts u_t_readOuts u_t_readBacks u_t_readPauses : Nat) (t : Nat → Int32) (t_text : Nat → Int32) : va_W := [(a_t, oX8 u_t_rig u_t_trial u_t_strokes u_t_outs u_t_backs u_t_pauses u_t_cuts a_t_text u_t_readOuts u_t_readBacks u_t_readPauses t), (a_t_text, oA cI 80 t_text)]
abbrev rmX8_failsAt : Room := { frames := 1, cells := 0, slots := 0, locals := 22 }
theorem hd_X8_failsAt : yX8_failsAt.cls = RX8 ∧ yX8_failsAt.cls ≠ "java/lang/invoke/MethodHandle" ∧ yX8_failsAt.cls ≠ "java/lang/invoke/VarHandle" ∧ (parseMethodDescriptor yX8_failsAt.desc).map (fun d => d.parameters.length) = some 1 := by decide +kernel
set_option maxHeartbeats 4000000 in
set_option maxRecDepth 100000 in
theorem kX8_failsAt (l : Launch) (D : va_G) (cI cJ : ClassId) (a_t a_t_text u_t_rig u_t_trial u_t_strokes u_t_outs u_t_backs u_t_pauses u_t_cuts u_t_readOuts u_t_readBacks u_t_readPauses : Nat) (t t_text : Nat → Int32) (x1 : Int32) (r : Int32) (hm : mX8_failsAt t t_text x1 = some r) : bq_M l D cI cJ yX8_failsAt cX8_failsAt 2 (some .int) rmX8_failsAt [.ref a_t, .int x1] (wdX8_failsAt cI a_t a_t_text u_t_rig u_t_trial u_t_strokes u_t_outs u_t_backs u_t_pauses u_t_cuts u_t_readOuts u_t_readBacks u_t_readPauses t t_text) (wdX8_failsAt cI a_t a_t_text u_t_rig u_t_trial u_t_strokes u_t_outs u_t_backs u_t_pauses u_t_cuts u_t_readOuts u_t_readBacks u_t_readPauses t t_text) (some (.int r)) := by
  refine bq_start (by decide) (Nat.le_of_ble_eq_true rfl) ?_
  intro p e s m av9 below meth c A ls Q H locs E K w hA hr hk hn hQ hl
  have E : bq_E p m c cX8_failsAt 2 s av9 RX8 := E
  have hx := E.1
  have hb := E.2.1
  have hl : lv_has ls 2 [(0, .ref a_t), (1, .int x1)] := hl
  unfold mX8_failsAt at hm
  refine lv_aload_n hx hb dX8_failsAt_0 rfl (lv_at hl 0 rfl) ?_
  refine lv_iload_n hx hb dX8_failsAt_1 rfl (lv_at hl 1 rfl) ?_
  obtain ⟨v1, hC, hm⟩ := bq_bd_el hm
  refine bq_V (As := [.int x1]) (rest := []) (st1 := [.int v1]) (ws' := wdX8_failsAt cI a_t a_t_text u_t_rig u_t_trial u_t_strokes u_t_outs u_t_backs u_t_pauses u_t_cuts u_t_readOuts u_t_readBacks u_t_readPauses t t_text) E K w hA (kX8_letter l D cI cJ a_t a_t_text u_t_rig u_t_trial u_t_strokes u_t_outs u_t_backs u_t_pauses u_t_cuts u_t_readOuts u_t_readBacks u_t_readPauses t t_text x1 v1 hC) (bq_gV ml_X8_62 im_X8_letter sl_X8_letter in_X8 cd_X8_letter) hd_X8_letter ⟨Nat.le_of_ble_eq_true rfl, Nat.le_of_ble_eq_true rfl⟩ ⟨Nat.le_of_ble_eq_true rfl, Nat.le_of_ble_eq_true rfl⟩ ⟨[0, 1], [], [0, 1], rfl, rfl, rfl, rfl, rfl, rfl, rfl, rfl, rfl⟩ 0 rfl rfl rfl hl.1 rfl (Nat.le_of_ble_eq_true rfl) rfl dX8_failsAt_2 (fun H locs w => bq_z ⟨rfl, rfl⟩ ?_)
  clear hC
  refine lv_bipush (v := 65) hx hb dX8_failsAt_5 (by decide) ?_
  refine lv_bipush (v := 70) hx hb dX8_failsAt_7 (by decide) ?_
  obtain ⟨v2, hC, hm⟩ := bq_bd_el hm
  refine bq_S0 (As := [.int v1, .int 65, .int 70]) (rest := []) (st1 := [.int v2]) E K w hA (kX8_in l D cI cJ v1 65 70 v2 hC) cd_X8_in ml_X8_51 in_X8 st_X8_in hs_X8_in ⟨Nat.le_of_ble_eq_true rfl, Nat.le_of_ble_eq_true rfl⟩ ⟨Nat.le_of_ble_eq_true rfl, Nat.le_of_ble_eq_true rfl⟩ rfl hl.1 rfl (Nat.le_of_ble_eq_true rfl) rfl dX8_failsAt_9 (fun H locs w => bq_z ⟨rfl, rfl⟩ ?_)
  clear hC
  obtain ⟨v3, hT22, hm⟩ := bq_let_el hm
  have K22 : ∀ (H : Heap) (locs : List Loc) (ls : Array Slot), bq_w D A s.heap (wdX8_failsAt cI a_t a_t_text u_t_rig u_t_trial u_t_strokes u_t_outs u_t_backs u_t_pauses u_t_cuts u_t_readOuts u_t_readBacks u_t_readPauses t t_text) H locs → lv_has ls 2 [] → W p l e rmX8_failsAt s m av9 below meth c H locs 0 0 Q (F0 m 22 ls [.int v3]) := by
    intro H locs ls w hl
    obtain rfl := Option.some.inj hm
    exact bq_iret E w hr hk dX8_failsAt_22 hQ
  clear hm
  refine lv_if_eq (tgt := 21) hx hb dX8_failsAt_12 (by decide) (fun hc => ?_) (fun hc => ?_)
  · replace hT22 := bq_et hc hT22
    clear hc
    refine lv_iload_n hx hb dX8_failsAt_21 rfl (lv_at hl 1 rfl) ?_
    subst hT22
    exact K22 H locs ls w (lv_sub hl [] rfl)
  · replace hT22 := bq_ef hc hT22
    clear hc
    refine lv_iload_n hx hb dX8_failsAt_15 rfl (lv_at hl 1 rfl) ?_
    refine lv_iconst (v := 1) hx hb dX8_failsAt_16 (by decide) ?_
    refine lv_iadd hx hb dX8_failsAt_17 ?_
    refine lv_goto (tgt := 22) hx hb dX8_failsAt_18 (by decide) ?_
    subst hT22
    exact K22 H locs ls w (lv_sub hl [] rfl)
abbrev wdX8_notes (cI : ClassId) (a_t a_t_readBacks a_t_readOuts a_t_text u_t_rig u_t_trial u_t_strokes u_t_outs u_t_backs u_t_pauses u_t_cuts u_t_readPauses : Nat) (t : Nat → Int32) (t_readBacks : Nat → Int32) (t_readOuts : Nat → Int32) (t_text : Nat → Int32) : va_W := [(a_t, oX8 u_t_rig u_t_trial u_t_strokes u_t_outs u_t_backs u_t_pauses u_t_cuts a_t_text a_t_readOuts a_t_readBacks u_t_readPauses t), (a_t_readBacks, oA cI 17 t_readBacks), (a_t_readOuts, oA cI 17 t_readOuts), (a_t_text, oA cI 80 t_text)]
abbrev rmX8_notes : Room := { frames := 1, cells := 0, slots := 0, locals := 21 }
theorem hd_X8_notes : yX8_notes.cls = RX8 ∧ yX8_notes.cls ≠ "java/lang/invoke/MethodHandle" ∧ yX8_notes.cls ≠ "java/lang/invoke/VarHandle" ∧ (parseMethodDescriptor yX8_notes.desc).map (fun d => d.parameters.length) = some 2 := by decide +kernel
set_option maxHeartbeats 4000000 in
set_option maxRecDepth 100000 in
theorem kX8_notes (l : Launch) (D : va_G) (cI cJ : ClassId) (a_t a_t_readBacks a_t_readOuts a_t_text u_t_rig u_t_trial u_t_strokes u_t_outs u_t_backs u_t_pauses u_t_cuts u_t_readPauses : Nat) (t t_readBacks t_readOuts t_text : Nat → Int32) (x1 : Int32) (x2 : Int32) (t_o : Nat → Int32) (t_readBacks_o : Nat → Int32) (t_readOuts_o : Nat → Int32) (hm : mX8_notes t t_readBacks t_readOuts t_text x1 x2 = some (t_o, t_readBacks_o, t_readOuts_o)) : bq_M l D cI cJ yX8_notes cX8_notes 7 none rmX8_notes [.ref a_t, .int x1, .int x2] (wdX8_notes cI a_t a_t_readBacks a_t_readOuts a_t_text u_t_rig u_t_trial u_t_strokes u_t_outs u_t_backs u_t_pauses u_t_cuts u_t_readPauses t t_readBacks t_readOuts t_text) (wdX8_notes cI a_t a_t_readBacks a_t_readOuts a_t_text u_t_rig u_t_trial u_t_strokes u_t_outs u_t_backs u_t_pauses u_t_cuts u_t_readPauses t_o t_readBacks_o t_readOuts_o t_text) none := by
  refine bq_start (by decide) (Nat.le_of_ble_eq_true rfl) ?_
  intro p e s m av9 below meth c A ls Q H locs E K w hA hr hk hn hQ hl
  have E : bq_E p m c cX8_notes 7 s av9 RX8 := E
  have hx := E.1
  have hb := E.2.1
  have hl : lv_has ls 7 [(0, .ref a_t), (1, .int x1), (2, .int x2)] := hl
  unfold mX8_notes at hm
  refine lv_iconst (v := 1) hx hb dX8_notes_0 (by decide) ?_
  refine lv_aload_n hx hb dX8_notes_1 rfl (lv_at hl 0 rfl) ?_
  refine lv_iload_n hx hb dX8_notes_2 rfl (lv_at hl 1 rfl) ?_
  obtain ⟨v1, hC, hm⟩ := bq_bd_el hm
  refine bq_V (As := [.int x1]) (rest := [.int 1]) (st1 := [.int v1, .int 1]) (ws' := wdX8_notes cI a_t a_t_readBacks a_t_readOuts a_t_text u_t_rig u_t_trial u_t_strokes u_t_outs u_t_backs u_t_pauses u_t_cuts u_t_readPauses t t_readBacks t_readOuts t_text) E K w hA (kX8_letter l D cI cJ a_t a_t_text u_t_rig u_t_trial u_t_strokes u_t_outs u_t_backs u_t_pauses u_t_cuts a_t_readOuts a_t_readBacks u_t_readPauses t t_text x1 v1 hC) (bq_gV ml_X8_62 im_X8_letter sl_X8_letter in_X8 cd_X8_letter) hd_X8_letter ⟨Nat.le_of_ble_eq_true rfl, Nat.le_of_ble_eq_true rfl⟩ ⟨Nat.le_of_ble_eq_true rfl, Nat.le_of_ble_eq_true rfl⟩ ⟨[0, 3], [1, 2], [2, 0, 1, 3], rfl, rfl, rfl, rfl, rfl, rfl, rfl, rfl, rfl⟩ 0 rfl rfl rfl hl.1 rfl (Nat.le_of_ble_eq_true rfl) rfl dX8_notes_3 (fun H locs w => bq_z ⟨rfl, rfl⟩ ?_)
  clear hC
  refine lv_bipush (v := 65) hx hb dX8_notes_6 (by decide) ?_
  refine lv_isub hx hb dX8_notes_8 ?_
  refine lv_ishl hx hb dX8_notes_9 ?_
  obtain ⟨v2, e9, hm⟩ := bq_let_el hm
  refine bq_nmi e9 ?_
  clear e9
  refine lv_istore_n (lv' := [(3, .int v2), (0, .ref a_t), (1, .int x1), (2, .int x2)]) hx hb dX8_notes_10 rfl hl (by decide) rfl (fun ls hl => ?_)
  refine lv_aload_n hx hb dX8_notes_11 rfl (lv_at hl 1 rfl) ?_
  refine lv_iload_n hx hb dX8_notes_12 rfl (lv_at hl 2 rfl) ?_
  refine lv_iconst (v := 1) hx hb dX8_notes_13 (by decide) ?_
  refine lv_iadd hx hb dX8_notes_14 ?_
  obtain ⟨v3, hC, hm⟩ := bq_bd_el hm
  refine bq_V (As := [.int (x1 + 1)]) (rest := []) (st1 := [.int v3]) (ws' := wdX8_notes cI a_t a_t_readBacks a_t_readOuts a_t_text u_t_rig u_t_trial u_t_strokes u_t_outs u_t_backs u_t_pauses u_t_cuts u_t_readPauses t t_readBacks t_readOuts t_text) E K w hA (kX8_letter l D cI cJ a_t a_t_text u_t_rig u_t_trial u_t_strokes u_t_outs u_t_backs u_t_pauses u_t_cuts a_t_readOuts a_t_readBacks u_t_readPauses t t_text (x1 + 1) v3 hC) (bq_gV ml_X8_62 im_X8_letter sl_X8_letter in_X8 cd_X8_letter) hd_X8_letter ⟨Nat.le_of_ble_eq_true rfl, Nat.le_of_ble_eq_true rfl⟩ ⟨Nat.le_of_ble_eq_true rfl, Nat.le_of_ble_eq_true rfl⟩ ⟨[0, 3], [1, 2], [2, 0, 1, 3], rfl, rfl, rfl, rfl, rfl, rfl, rfl, rfl, rfl⟩ 0 rfl rfl rfl hl.1 rfl (Nat.le_of_ble_eq_true rfl) rfl dX8_notes_15 (fun H locs w => bq_z ⟨rfl, rfl⟩ ?_)
  clear hC
  refine lv_bipush (v := 43) hx hb dX8_notes_18 (by decide) ?_
  obtain ⟨v4, hT28, hm⟩ := bq_let_el hm
  have K28 : ∀ (H : Heap) (locs : List Loc) (ls : Array Slot), bq_w D A s.heap (wdX8_notes cI a_t a_t_readBacks a_t_readOuts a_t_text u_t_rig u_t_trial u_t_strokes u_t_outs u_t_backs u_t_pauses u_t_cuts u_t_readPauses t t_readBacks t_readOuts t_text) H locs → lv_has ls 7 [(0, .ref a_t), (1, .int x1), (2, .int x2), (3, .int v2)] → W p l e rmX8_notes s m av9 below meth c H locs 0 0 Q (F0 m 28 ls [.int v4]) := by
    intro H locs ls w hl
    refine lv_istore (lv' := [(4, .int v4), (0, .ref a_t), (1, .int x1), (2, .int x2), (3, .int v2)]) hx hb dX8_notes_28 hl (by decide) rfl (fun ls hl => ?_)
    refine lv_aload_n hx hb dX8_notes_30 rfl (lv_at hl 1 rfl) ?_
    refine gt_X8_34 E K w 0 rfl rfl dX8_notes_31 ?_
    refine lv_aload_n hx hb dX8_notes_34 rfl (lv_at hl 1 rfl) ?_
    refine gt_X8_65 E K w 0 rfl rfl dX8_notes_35 ?_
    obtain ⟨hI, hm⟩ := bq_ci_el hm
    refine bq_ald E K w 2 rfl hI dX8_notes_38 ?_
    refine lv_aload_n hx hb dX8_notes_39 rfl (lv_at hl 1 rfl) ?_
    refine gt_X8_37 E K w 0 rfl rfl dX8_notes_40 ?_
    refine lv_aload_n hx hb dX8_notes_43 rfl (lv_at hl 1 rfl) ?_
    refine gt_X8_65 E K w 0 rfl rfl dX8_notes_44 ?_
    obtain ⟨hI, hm⟩ := bq_ci_el hm
    refine bq_ald E K w 1 rfl hI dX8_notes_47 ?_
    refine lv_ior hx hb dX8_notes_48 ?_
    refine lv_iload_n hx hb dX8_notes_49 rfl (lv_at hl 4 rfl) ?_
    refine lv_iand hx hb dX8_notes_50 ?_
    obtain ⟨v5, hT59, hm⟩ := bq_let_el hm
    have K59 : ∀ (H : Heap) (locs : List Loc) (ls : Array Slot), bq_w D A s.heap (wdX8_notes cI a_t a_t_readBacks a_t_readOuts a_t_text u_t_rig u_t_trial u_t_strokes u_t_outs u_t_backs u_t_pauses u_t_cuts u_t_readPauses t t_readBacks t_readOuts t_text) H locs → lv_has ls 7 [(0, .ref a_t), (1, .int x1), (2, .int x2), (3, .int v2), (4, .int v4)] → W p l e rmX8_notes s m av9 below meth c H locs 0 0 Q (F0 m 59 ls [.int v5]) := by
      intro H locs ls w hl
      refine lv_istore (lv' := [(5, .int v5), (0, .ref a_t), (1, .int x1), (2, .int x2), (3, .int v2), (4, .int v4)]) hx hb dX8_notes_59 hl (by decide) rfl (fun ls hl => ?_)
      refine lv_iload_n hx hb dX8_notes_61 rfl (lv_at hl 3 rfl) ?_
      refine lv_iload_n hx hb dX8_notes_62 rfl (lv_at hl 4 rfl) ?_
      refine lv_iand hx hb dX8_notes_63 ?_
      obtain ⟨v6, hT72, hm⟩ := bq_let_el hm
      have K72 : ∀ (H : Heap) (locs : List Loc) (ls : Array Slot), bq_w D A s.heap (wdX8_notes cI a_t a_t_readBacks a_t_readOuts a_t_text u_t_rig u_t_trial u_t_strokes u_t_outs u_t_backs u_t_pauses u_t_cuts u_t_readPauses t t_readBacks t_readOuts t_text) H locs → lv_has ls 7 [(0, .ref a_t), (1, .int x1), (3, .int v2), (4, .int v4), (5, .int v5)] → W p l e rmX8_notes s m av9 below meth c H locs 0 0 Q (F0 m 72 ls [.int v6]) := by
        intro H locs ls w hl
        refine lv_istore (lv' := [(6, .int v6), (0, .ref a_t), (1, .int x1), (3, .int v2), (4, .int v4), (5, .int v5)]) hx hb dX8_notes_72 hl (by decide) rfl (fun ls hl => ?_)
        refine lv_iload hx hb dX8_notes_74 (lv_at hl 5 rfl) ?_
        obtain ⟨t_7, hT98, hm⟩ := bq_bd_el hm
        have K98 : ∀ (H : Heap) (locs : List Loc) (ls : Array Slot), bq_w D A s.heap (wdX8_notes cI a_t a_t_readBacks a_t_readOuts a_t_text u_t_rig u_t_trial u_t_strokes u_t_outs u_t_backs u_t_pauses u_t_cuts u_t_readPauses t_7 t_readBacks t_readOuts t_text) H locs → lv_has ls 7 [(0, .ref a_t), (3, .int v2), (4, .int v4)] → W p l e rmX8_notes s m av9 below meth c H locs 0 0 Q (F0 m 98 ls []) := by
          intro H locs ls w hl
          refine lv_aload_n hx hb dX8_notes_98 rfl (lv_at hl 0 rfl) ?_
          refine gt_X8_34 E K w 0 rfl rfl dX8_notes_99 ?_
          refine lv_aload_n hx hb dX8_notes_102 rfl (lv_at hl 0 rfl) ?_
          refine gt_X8_65 E K w 0 rfl rfl dX8_notes_103 ?_
          refine lv_dup2_11 hx hb dX8_notes_106 rfl rfl ?_
          obtain ⟨hI, hm⟩ := bq_ci_el hm
          refine bq_ald E K w 2 rfl hI dX8_notes_107 ?_
          refine lv_iload hx hb dX8_notes_108 (lv_at hl 2 rfl) ?_
          obtain ⟨v10, hT118, hm⟩ := bq_let_el hm
          have K118 : ∀ (H : Heap) (locs : List Loc) (ls : Array Slot), bq_w D A s.heap (wdX8_notes cI a_t a_t_readBacks a_t_readOuts a_t_text u_t_rig u_t_trial u_t_strokes u_t_outs u_t_backs u_t_pauses u_t_cuts u_t_readPauses t_7 t_readBacks t_readOuts t_text) H locs → lv_has ls 7 [(0, .ref a_t), (3, .int v2), (4, .int v4)] → W p l e rmX8_notes s m av9 below meth c H locs 0 0 Q (F0 m 118 ls [.int v10, .int (t_readOuts ((t_7 14) : Int32).toNatClampNeg), .int (t_7 14), .ref a_t_readOuts]) := by
            intro H locs ls w hl
            refine lv_ior hx hb dX8_notes_118 ?_
            obtain ⟨hI, hm⟩ := bq_ci_el hm
            obtain ⟨t_readOuts_11, e9, hm⟩ := bq_let_el hm
            refine bq_ast E K w 2 rfl hI dX8_notes_119 (fun H locs w => ?_)
            replace w : bq_w D A s.heap (wdX8_notes cI a_t a_t_readBacks a_t_readOuts a_t_text u_t_rig u_t_trial u_t_strokes u_t_outs u_t_backs u_t_pauses u_t_cuts u_t_readPauses t_7 t_readBacks t_readOuts_11 t_text) H locs := by rw [e9]; exact w
            clear e9
            refine lv_aload_n hx hb dX8_notes_120 rfl (lv_at hl 0 rfl) ?_
            refine gt_X8_37 E K w 0 rfl rfl dX8_notes_121 ?_
            refine lv_aload_n hx hb dX8_notes_124 rfl (lv_at hl 0 rfl) ?_
            refine gt_X8_65 E K w 0 rfl rfl dX8_notes_125 ?_
            refine lv_dup2_11 hx hb dX8_notes_128 rfl rfl ?_
            obtain ⟨hI, hm⟩ := bq_ci_el hm
            refine bq_ald E K w 1 rfl hI dX8_notes_129 ?_
            refine lv_iload hx hb dX8_notes_130 (lv_at hl 2 rfl) ?_
            obtain ⟨v12, hT140, hm⟩ := bq_let_el hm
            have K140 : ∀ (H : Heap) (locs : List Loc) (ls : Array Slot), bq_w D A s.heap (wdX8_notes cI a_t a_t_readBacks a_t_readOuts a_t_text u_t_rig u_t_trial u_t_strokes u_t_outs u_t_backs u_t_pauses u_t_cuts u_t_readPauses t_7 t_readBacks t_readOuts_11 t_text) H locs → lv_has ls 7 [(0, .ref a_t), (3, .int v2), (4, .int v4)] → W p l e rmX8_notes s m av9 below meth c H locs 0 0 Q (F0 m 140 ls [.int v12, .int (t_readBacks ((t_7 14) : Int32).toNatClampNeg), .int (t_7 14), .ref a_t_readBacks]) := by
              intro H locs ls w hl
              refine lv_ior hx hb dX8_notes_140 ?_
              obtain ⟨hI, hm⟩ := bq_ci_el hm
              obtain ⟨t_readBacks_13, e9, hm⟩ := bq_let_el hm
              refine bq_ast E K w 1 rfl hI dX8_notes_141 (fun H locs w => ?_)
              replace w : bq_w D A s.heap (wdX8_notes cI a_t a_t_readBacks a_t_readOuts a_t_text u_t_rig u_t_trial u_t_strokes u_t_outs u_t_backs u_t_pauses u_t_cuts u_t_readPauses t_7 t_readBacks_13 t_readOuts_11 t_text) H locs := by rw [e9]; exact w
              clear e9
              refine lv_aload_n hx hb dX8_notes_142 rfl (lv_at hl 0 rfl) ?_
              refine lv_iload hx hb dX8_notes_143 (lv_at hl 2 rfl) ?_
              obtain ⟨v14, hT165, hm⟩ := bq_let_el hm
              have K165 : ∀ (H : Heap) (locs : List Loc) (ls : Array Slot), bq_w D A s.heap (wdX8_notes cI a_t a_t_readBacks a_t_readOuts a_t_text u_t_rig u_t_trial u_t_strokes u_t_outs u_t_backs u_t_pauses u_t_cuts u_t_readPauses t_7 t_readBacks_13 t_readOuts_11 t_text) H locs → lv_has ls 7 [] → W p l e rmX8_notes s m av9 below meth c H locs 0 0 Q (F0 m 165 ls [.int v14, .ref a_t]) := by
                intro H locs ls w hl
                obtain ⟨t_15, e9, hm⟩ := bq_let_el hm
                refine pt_X8_71 E K w 0 rfl (Nat.le_of_ble_eq_true rfl) dX8_notes_165 (fun H locs w => ?_)
                replace w : bq_w D A s.heap (wdX8_notes cI a_t a_t_readBacks a_t_readOuts a_t_text u_t_rig u_t_trial u_t_strokes u_t_outs u_t_backs u_t_pauses u_t_cuts u_t_readPauses t_15 t_readBacks_13 t_readOuts_11 t_text) H locs := by rw [e9]; exact w
                clear e9
                obtain ⟨rfl, rfl, rfl⟩ := bq_in3 (Option.some.inj hm)
                exact bq_vret E w hr hk dX8_notes_168 hQ
              clear hm
              refine lv_if_eq (tgt := 157) hx hb dX8_notes_145 (by decide) (fun hc => ?_) (fun hc => ?_)
              · replace hT165 := bq_et hc hT165
                clear hc
                refine lv_aload_n hx hb dX8_notes_157 rfl (lv_at hl 0 rfl) ?_
                refine gt_X8_71 E K w 0 rfl rfl dX8_notes_158 ?_
                refine lv_iload_n hx hb dX8_notes_161 rfl (lv_at hl 1 rfl) ?_
                refine lv_iconst (v := (-1)) hx hb dX8_notes_162 (by decide) ?_
                refine lv_ixor hx hb dX8_notes_163 ?_
                refine lv_iand hx hb dX8_notes_164 ?_
                subst hT165
                exact K165 H locs ls w (lv_sub hl [] rfl)
              · replace hT165 := bq_ef hc hT165
                clear hc
                refine lv_aload_n hx hb dX8_notes_148 rfl (lv_at hl 0 rfl) ?_
                refine gt_X8_71 E K w 0 rfl rfl dX8_notes_149 ?_
                refine lv_iload_n hx hb dX8_notes_152 rfl (lv_at hl 1 rfl) ?_
                refine lv_ior hx hb dX8_notes_153 ?_
                refine lv_goto (tgt := 165) hx hb dX8_notes_154 (by decide) ?_
                subst hT165
                exact K165 H locs ls w (lv_sub hl [] rfl)
            clear hm
            refine lv_if_eq (tgt := 139) hx hb dX8_notes_132 (by decide) (fun hc => ?_) (fun hc => ?_)
            · replace hT140 := bq_et hc hT140
              clear hc
              refine lv_iload_n hx hb dX8_notes_139 rfl (lv_at hl 1 rfl) ?_
              subst hT140
              exact K140 H locs ls w (lv_sub hl [0, 1, 2] rfl)
            · replace hT140 := bq_ef hc hT140
              clear hc
              refine lv_iconst (v := 0) hx hb dX8_notes_135 (by decide) ?_
              refine lv_goto (tgt := 140) hx hb dX8_notes_136 (by decide) ?_
              subst hT140
              exact K140 H locs ls w (lv_sub hl [0, 1, 2] rfl)
          clear hm
          refine lv_if_eq (tgt := 117) hx hb dX8_notes_110 (by decide) (fun hc => ?_) (fun hc => ?_)
          · replace hT118 := bq_et hc hT118
            clear hc
            refine lv_iconst (v := 0) hx hb dX8_notes_117 (by decide) ?_
            subst hT118
            exact K118 H locs ls w (lv_sub hl [0, 1, 2] rfl)
          · replace hT118 := bq_ef hc hT118
            clear hc
            refine lv_iload_n hx hb dX8_notes_113 rfl (lv_at hl 1 rfl) ?_
            refine lv_goto (tgt := 118) hx hb dX8_notes_114 (by decide) ?_
            subst hT118
            exact K118 H locs ls w (lv_sub hl [0, 1, 2] rfl)
        clear hm
        refine lv_if_ne (tgt := 86) hx hb dX8_notes_76 (by decide) (fun hc => ?_) (fun hc => ?_)
        · replace hT98 := bq_f hc hT98
          clear hc
          refine lv_aload_n hx hb dX8_notes_86 rfl (lv_at hl 1 rfl) ?_
          refine gt_X8_68 E K w 0 rfl rfl dX8_notes_87 ?_
          refine lv_if_ge (tgt := 98) hx hb dX8_notes_90 (by decide) (fun hc => ?_) (fun hc => ?_)
          · replace hT98 := bq_t hc hT98
            clear hc
            obtain rfl := Option.some.inj hT98
            exact K98 H locs ls w (lv_sub hl [1, 3, 4] rfl)
          · replace hT98 := bq_f hc hT98
            clear hc
            refine lv_aload_n hx hb dX8_notes_93 rfl (lv_at hl 1 rfl) ?_
            refine lv_iload_n hx hb dX8_notes_94 rfl (lv_at hl 2 rfl) ?_
            obtain ⟨t_8, e9, hT98⟩ := bq_let_el hT98
            refine pt_X8_68 E K w 0 rfl (Nat.le_of_ble_eq_true rfl) dX8_notes_95 (fun H locs w => ?_)
            replace w : bq_w D A s.heap (wdX8_notes cI a_t a_t_readBacks a_t_readOuts a_t_text u_t_rig u_t_trial u_t_strokes u_t_outs u_t_backs u_t_pauses u_t_cuts u_t_readPauses t_8 t_readBacks t_readOuts t_text) H locs := by rw [e9]; exact w
            clear e9
            obtain rfl := Option.some.inj hT98
            exact K98 H locs ls w (lv_sub hl [1, 3, 4] rfl)
        · replace hT98 := bq_t hc hT98
          clear hc
          refine lv_iload hx hb dX8_notes_79 (lv_at hl 0 rfl) ?_
          refine lv_iload hx hb dX8_notes_81 (lv_at hl 4 rfl) ?_
          refine lv_icmp_ne (tgt := 98) hx hb dX8_notes_83 (by decide) (fun hc => ?_) (fun hc => ?_)
          · replace hT98 := bq_f hc hT98
            clear hc
            obtain rfl := Option.some.inj hT98
            exact K98 H locs ls w (lv_sub hl [1, 3, 4] rfl)
          · replace hT98 := bq_t hc hT98
            clear hc
            refine lv_aload_n hx hb dX8_notes_86 rfl (lv_at hl 1 rfl) ?_
            refine gt_X8_68 E K w 0 rfl rfl dX8_notes_87 ?_
            refine lv_if_ge (tgt := 98) hx hb dX8_notes_90 (by decide) (fun hc => ?_) (fun hc => ?_)
            · replace hT98 := bq_t hc hT98
              clear hc
              obtain rfl := Option.some.inj hT98
              exact K98 H locs ls w (lv_sub hl [1, 3, 4] rfl)
            · replace hT98 := bq_f hc hT98
              clear hc
              refine lv_aload_n hx hb dX8_notes_93 rfl (lv_at hl 1 rfl) ?_
              refine lv_iload_n hx hb dX8_notes_94 rfl (lv_at hl 2 rfl) ?_
              obtain ⟨t_9, e9, hT98⟩ := bq_let_el hT98
              refine pt_X8_68 E K w 0 rfl (Nat.le_of_ble_eq_true rfl) dX8_notes_95 (fun H locs w => ?_)
              replace w : bq_w D A s.heap (wdX8_notes cI a_t a_t_readBacks a_t_readOuts a_t_text u_t_rig u_t_trial u_t_strokes u_t_outs u_t_backs u_t_pauses u_t_cuts u_t_readPauses t_9 t_readBacks t_readOuts t_text) H locs := by rw [e9]; exact w
              clear e9
              obtain rfl := Option.some.inj hT98
              exact K98 H locs ls w (lv_sub hl [1, 3, 4] rfl)
      clear hm
      refine lv_if_eq (tgt := 71) hx hb dX8_notes_64 (by decide) (fun hc => ?_) (fun hc => ?_)
      · replace hT72 := bq_et hc hT72
        clear hc
        refine lv_iconst (v := 0) hx hb dX8_notes_71 (by decide) ?_
        subst hT72
        exact K72 H locs ls w (lv_sub hl [1, 2, 4, 5, 0] rfl)
      · replace hT72 := bq_ef hc hT72
        clear hc
        refine lv_iconst (v := 1) hx hb dX8_notes_67 (by decide) ?_
        refine lv_goto (tgt := 72) hx hb dX8_notes_68 (by decide) ?_
        subst hT72
        exact K72 H locs ls w (lv_sub hl [1, 2, 4, 5, 0] rfl)
    clear hm
    refine lv_if_eq (tgt := 58) hx hb dX8_notes_51 (by decide) (fun hc => ?_) (fun hc => ?_)
    · replace hT59 := bq_et hc hT59
      clear hc
      refine lv_iconst (v := 0) hx hb dX8_notes_58 (by decide) ?_
      subst hT59
      exact K59 H locs ls w (lv_sub hl [1, 2, 3, 4, 0] rfl)
    · replace hT59 := bq_ef hc hT59
      clear hc
      refine lv_iconst (v := 1) hx hb dX8_notes_54 (by decide) ?_
      refine lv_goto (tgt := 59) hx hb dX8_notes_55 (by decide) ?_
      subst hT59
      exact K59 H locs ls w (lv_sub hl [1, 2, 3, 4, 0] rfl)
  clear hm
  refine lv_icmp_ne (tgt := 27) hx hb dX8_notes_20 (by decide) (fun hc => ?_) (fun hc => ?_)
  · replace hT28 := bq_ef hc hT28
    clear hc
    refine lv_iconst (v := 0) hx hb dX8_notes_27 (by decide) ?_
    subst hT28
    exact K28 H locs ls w (lv_sub hl [1, 2, 3, 0] rfl)
  · replace hT28 := bq_et hc hT28
    clear hc
    refine lv_iconst (v := 1) hx hb dX8_notes_23 (by decide) ?_
    refine lv_goto (tgt := 28) hx hb dX8_notes_24 (by decide) ?_
    subst hT28
    exact K28 H locs ls w (lv_sub hl [1, 2, 3, 0] rfl)
abbrev wdX8_readsPause (cI : ClassId) (a_t a_t_readPauses a_t_text u_t_rig u_t_trial u_t_strokes u_t_outs u_t_backs u_t_pauses u_t_cuts u_t_readOuts u_t_readBacks : Nat) (t : Nat → Int32) (t_readPauses : Nat → Int32) (t_text : Nat → Int32) : va_W := [(a_t, oX8 u_t_rig u_t_trial u_t_strokes u_t_outs u_t_backs u_t_pauses u_t_cuts a_t_text u_t_readOuts u_t_readBacks a_t_readPauses t), (a_t_readPauses, oA cI 17 t_readPauses), (a_t_text, oA cI 80 t_text)]
abbrev rmX8_readsPause : Room := { frames := 2, cells := 0, slots := 0, locals := 43 }
theorem hd_X8_readsPause : yX8_readsPause.cls = RX8 ∧ yX8_readsPause.cls ≠ "java/lang/invoke/MethodHandle" ∧ yX8_readsPause.cls ≠ "java/lang/invoke/VarHandle" ∧ (parseMethodDescriptor yX8_readsPause.desc).map (fun d => d.parameters.length) = some 1 := by decide +kernel
set_option maxHeartbeats 4000000 in
set_option maxRecDepth 100000 in
theorem kX8_readsPause (l : Launch) (D : va_G) (cI cJ : ClassId) (a_t a_t_readPauses a_t_text u_t_rig u_t_trial u_t_strokes u_t_outs u_t_backs u_t_pauses u_t_cuts u_t_readOuts u_t_readBacks : Nat) (t t_readPauses t_text : Nat → Int32) (x1 : Int32) (r : Int32) (t_readPauses_o : Nat → Int32) (hm : mX8_readsPause t t_readPauses t_text x1 = some (r, t_readPauses_o)) : bq_M l D cI cJ yX8_readsPause cX8_readsPause 4 (some .int) rmX8_readsPause [.ref a_t, .int x1] (wdX8_readsPause cI a_t a_t_readPauses a_t_text u_t_rig u_t_trial u_t_strokes u_t_outs u_t_backs u_t_pauses u_t_cuts u_t_readOuts u_t_readBacks t t_readPauses t_text) (wdX8_readsPause cI a_t a_t_readPauses a_t_text u_t_rig u_t_trial u_t_strokes u_t_outs u_t_backs u_t_pauses u_t_cuts u_t_readOuts u_t_readBacks t t_readPauses_o t_text) (some (.int r)) := by
  refine bq_start (by decide) (Nat.le_of_ble_eq_true rfl) ?_
  intro p e s m av9 below meth c A ls Q H locs E K w hA hr hk hn hQ hl
  have E : bq_E p m c cX8_readsPause 4 s av9 RX8 := E
  have hx := E.1
  have hb := E.2.1
  have hl : lv_has ls 4 [(0, .ref a_t), (1, .int x1)] := hl
  unfold mX8_readsPause at hm
  refine lv_aload_n hx hb dX8_readsPause_0 rfl (lv_at hl 0 rfl) ?_
  refine lv_iload_n hx hb dX8_readsPause_1 rfl (lv_at hl 1 rfl) ?_
  obtain ⟨v1, hC, hm⟩ := bq_bd_el hm
  refine bq_V (As := [.int x1]) (rest := []) (st1 := [.int v1]) (ws' := wdX8_readsPause cI a_t a_t_readPauses a_t_text u_t_rig u_t_trial u_t_strokes u_t_outs u_t_backs u_t_pauses u_t_cuts u_t_readOuts u_t_readBacks t t_readPauses t_text) E K w hA (kX8_isDigit l D cI cJ a_t a_t_text u_t_rig u_t_trial u_t_strokes u_t_outs u_t_backs u_t_pauses u_t_cuts u_t_readOuts u_t_readBacks a_t_readPauses t t_text x1 v1 hC) (bq_gV ml_X8_88 im_X8_isDigit sl_X8_isDigit in_X8 cd_X8_isDigit) hd_X8_isDigit ⟨Nat.le_of_ble_eq_true rfl, Nat.le_of_ble_eq_true rfl⟩ ⟨Nat.le_of_ble_eq_true rfl, Nat.le_of_ble_eq_true rfl⟩ ⟨[0, 2], [1], [1, 0, 2], rfl, rfl, rfl, rfl, rfl, rfl, rfl, rfl, rfl⟩ 0 rfl rfl rfl hl.1 rfl (Nat.le_of_ble_eq_true rfl) rfl dX8_readsPause_2 (fun H locs w => bq_z ⟨rfl, rfl⟩ ?_)
  clear hC
  refine lv_if_ne (tgt := 12) hx hb dX8_readsPause_5 (by decide) (fun hc => ?_) (fun hc => ?_)
  · replace hm := bq_f hc hm
    clear hc
    refine lv_aload_n hx hb dX8_readsPause_12 rfl (lv_at hl 0 rfl) ?_
    refine lv_iload_n hx hb dX8_readsPause_13 rfl (lv_at hl 1 rfl) ?_
    obtain ⟨v2, hC, hm⟩ := bq_bd_el hm
    refine bq_V (As := [.int x1]) (rest := []) (st1 := [.int v2]) (ws' := wdX8_readsPause cI a_t a_t_readPauses a_t_text u_t_rig u_t_trial u_t_strokes u_t_outs u_t_backs u_t_pauses u_t_cuts u_t_readOuts u_t_readBacks t t_readPauses t_text) E K w hA (kX8_letter l D cI cJ a_t a_t_text u_t_rig u_t_trial u_t_strokes u_t_outs u_t_backs u_t_pauses u_t_cuts u_t_readOuts u_t_readBacks a_t_readPauses t t_text x1 v2 hC) (bq_gV ml_X8_62 im_X8_letter sl_X8_letter in_X8 cd_X8_letter) hd_X8_letter ⟨Nat.le_of_ble_eq_true rfl, Nat.le_of_ble_eq_true rfl⟩ ⟨Nat.le_of_ble_eq_true rfl, Nat.le_of_ble_eq_true rfl⟩ ⟨[0, 2], [1], [1, 0, 2], rfl, rfl, rfl, rfl, rfl, rfl, rfl, rfl, rfl⟩ 0 rfl rfl rfl hl.1 rfl (Nat.le_of_ble_eq_true rfl) rfl dX8_readsPause_14 (fun H locs w => bq_z ⟨rfl, rfl⟩ ?_)
    clear hC
    refine lv_bipush (v := 48) hx hb dX8_readsPause_17 (by decide) ?_
    refine lv_isub hx hb dX8_readsPause_19 ?_
    obtain ⟨v3, e9, hm⟩ := bq_let_el hm
    refine bq_nmi e9 ?_
    clear e9
    refine lv_istore_n (lv' := [(2, .int v3), (0, .ref a_t), (1, .int x1)]) hx hb dX8_readsPause_20 rfl hl (by decide) rfl (fun ls hl => ?_)
    refine lv_iload_n hx hb dX8_readsPause_21 rfl (lv_at hl 2 rfl) ?_
    refine lv_iconst (v := 1) hx hb dX8_readsPause_22 (by decide) ?_
    refine lv_iadd hx hb dX8_readsPause_23 ?_
    obtain ⟨v4, e9, hm⟩ := bq_let_el hm
    refine bq_nmi e9 ?_
    clear e9
    refine lv_istore_n (lv' := [(3, .int v4), (2, .int v3), (0, .ref a_t), (1, .int x1)]) hx hb dX8_readsPause_24 rfl hl (by decide) rfl (fun ls hl => ?_)
    refine lv_aload_n hx hb dX8_readsPause_25 rfl (lv_at hl 2 rfl) ?_
    refine lv_iload_n hx hb dX8_readsPause_26 rfl (lv_at hl 0 rfl) ?_
    obtain ⟨v5, hC, hm⟩ := bq_bd_el hm
    refine bq_V (As := [.int v4]) (rest := []) (st1 := [.int v5]) (ws' := wdX8_readsPause cI a_t a_t_readPauses a_t_text u_t_rig u_t_trial u_t_strokes u_t_outs u_t_backs u_t_pauses u_t_cuts u_t_readOuts u_t_readBacks t t_readPauses t_text) E K w hA (kX8_isDigit l D cI cJ a_t a_t_text u_t_rig u_t_trial u_t_strokes u_t_outs u_t_backs u_t_pauses u_t_cuts u_t_readOuts u_t_readBacks a_t_readPauses t t_text v4 v5 hC) (bq_gV ml_X8_88 im_X8_isDigit sl_X8_isDigit in_X8 cd_X8_isDigit) hd_X8_isDigit ⟨Nat.le_of_ble_eq_true rfl, Nat.le_of_ble_eq_true rfl⟩ ⟨Nat.le_of_ble_eq_true rfl, Nat.le_of_ble_eq_true rfl⟩ ⟨[0, 2], [1], [1, 0, 2], rfl, rfl, rfl, rfl, rfl, rfl, rfl, rfl, rfl⟩ 0 rfl rfl rfl hl.1 rfl (Nat.le_of_ble_eq_true rfl) rfl dX8_readsPause_27 (fun H locs w => bq_z ⟨rfl, rfl⟩ ?_)
    clear hC
    obtain ⟨v6, v7, hT50, hm⟩ := bq_b2_el hm
    have K50 : ∀ (H : Heap) (locs : List Loc) (ls : Array Slot), bq_w D A s.heap (wdX8_readsPause cI a_t a_t_readPauses a_t_text u_t_rig u_t_trial u_t_strokes u_t_outs u_t_backs u_t_pauses u_t_cuts u_t_readOuts u_t_readBacks t t_readPauses t_text) H locs → lv_has ls 4 [(0, .ref a_t), (1, .int x1), (2, .int v6), (3, .int v7)] → W p l e rmX8_readsPause s m av9 below meth c H locs 0 0 Q (F0 m 50 ls []) := by
      intro H locs ls w hl
      refine lv_aload_n hx hb dX8_readsPause_50 rfl (lv_at hl 0 rfl) ?_
      refine gt_X8_40 E K w 0 rfl rfl dX8_readsPause_51 ?_
      refine lv_aload_n hx hb dX8_readsPause_54 rfl (lv_at hl 0 rfl) ?_
      refine gt_X8_65 E K w 0 rfl rfl dX8_readsPause_55 ?_
      refine lv_iload_n hx hb dX8_readsPause_58 rfl (lv_at hl 2 rfl) ?_
      obtain ⟨hI, hm⟩ := bq_ci_el hm
      obtain ⟨t_readPauses_11, e9, hm⟩ := bq_let_el hm
      refine bq_ast E K w 1 rfl hI dX8_readsPause_59 (fun H locs w => ?_)
      replace w : bq_w D A s.heap (wdX8_readsPause cI a_t a_t_readPauses a_t_text u_t_rig u_t_trial u_t_strokes u_t_outs u_t_backs u_t_pauses u_t_cuts u_t_readOuts u_t_readBacks t t_readPauses_11 t_text) H locs := by rw [e9]; exact w
      clear e9
      refine lv_iload_n hx hb dX8_readsPause_60 rfl (lv_at hl 2 rfl) ?_
      refine lv_iconst (v := 1) hx hb dX8_readsPause_61 (by decide) ?_
      refine lv_bipush (v := 60) hx hb dX8_readsPause_62 (by decide) ?_
      obtain ⟨v12, hC, hm⟩ := bq_bd_el hm
      refine bq_S0 (As := [.int v6, .int 1, .int 60]) (rest := []) (st1 := [.int v12]) E K w hA (kX8_in l D cI cJ v6 1 60 v12 hC) cd_X8_in ml_X8_51 in_X8 st_X8_in hs_X8_in ⟨Nat.le_of_ble_eq_true rfl, Nat.le_of_ble_eq_true rfl⟩ ⟨Nat.le_of_ble_eq_true rfl, Nat.le_of_ble_eq_true rfl⟩ rfl hl.1 rfl (Nat.le_of_ble_eq_true rfl) rfl dX8_readsPause_64 (fun H locs w => bq_z ⟨rfl, rfl⟩ ?_)
      clear hC
      obtain ⟨v13, hT77, hm⟩ := bq_let_el hm
      have K77 : ∀ (H : Heap) (locs : List Loc) (ls : Array Slot), bq_w D A s.heap (wdX8_readsPause cI a_t a_t_readPauses a_t_text u_t_rig u_t_trial u_t_strokes u_t_outs u_t_backs u_t_pauses u_t_cuts u_t_readOuts u_t_readBacks t t_readPauses_11 t_text) H locs → lv_has ls 4 [] → W p l e rmX8_readsPause s m av9 below meth c H locs 0 0 Q (F0 m 77 ls [.int v13]) := by
        intro H locs ls w hl
        obtain ⟨rfl, rfl⟩ := bq_in2 (Option.some.inj hm)
        exact bq_iret E w hr hk dX8_readsPause_77 hQ
      clear hm
      refine lv_if_eq (tgt := 74) hx hb dX8_readsPause_67 (by decide) (fun hc => ?_) (fun hc => ?_)
      · replace hT77 := bq_et hc hT77
        clear hc
        refine lv_iconst (v := (-1)) hx hb dX8_readsPause_74 (by decide) ?_
        refine lv_iload_n hx hb dX8_readsPause_75 rfl (lv_at hl 1 rfl) ?_
        refine lv_isub hx hb dX8_readsPause_76 ?_
        subst hT77
        exact K77 H locs ls w (lv_sub hl [] rfl)
      · replace hT77 := bq_ef hc hT77
        clear hc
        refine lv_iload_n hx hb dX8_readsPause_70 rfl (lv_at hl 3 rfl) ?_
        refine lv_goto (tgt := 77) hx hb dX8_readsPause_71 (by decide) ?_
        subst hT77
        exact K77 H locs ls w (lv_sub hl [] rfl)
    clear hm
    refine lv_if_eq (tgt := 50) hx hb dX8_readsPause_30 (by decide) (fun hc => ?_) (fun hc => ?_)
    · replace hT50 := bq_t hc hT50
      clear hc
      obtain ⟨rfl, rfl⟩ := bq_in2 (Option.some.inj hT50)
      exact K50 H locs ls w (lv_sub hl [2, 3, 1, 0] rfl)
    · replace hT50 := bq_f hc hT50
      clear hc
      refine lv_bipush (v := 10) hx hb dX8_readsPause_33 (by decide) ?_
      refine lv_iload_n hx hb dX8_readsPause_35 rfl (lv_at hl 1 rfl) ?_
      refine lv_imul hx hb dX8_readsPause_36 ?_
      refine lv_aload_n hx hb dX8_readsPause_37 rfl (lv_at hl 2 rfl) ?_
      refine lv_iload_n hx hb dX8_readsPause_38 rfl (lv_at hl 0 rfl) ?_
      obtain ⟨v8, hC, hT50⟩ := bq_bd_el hT50
      refine bq_V (As := [.int v4]) (rest := [.int (10 * v3)]) (st1 := [.int v8, .int (10 * v3)]) (ws' := wdX8_readsPause cI a_t a_t_readPauses a_t_text u_t_rig u_t_trial u_t_strokes u_t_outs u_t_backs u_t_pauses u_t_cuts u_t_readOuts u_t_readBacks t t_readPauses t_text) E K w hA (kX8_letter l D cI cJ a_t a_t_text u_t_rig u_t_trial u_t_strokes u_t_outs u_t_backs u_t_pauses u_t_cuts u_t_readOuts u_t_readBacks a_t_readPauses t t_text v4 v8 hC) (bq_gV ml_X8_62 im_X8_letter sl_X8_letter in_X8 cd_X8_letter) hd_X8_letter ⟨Nat.le_of_ble_eq_true rfl, Nat.le_of_ble_eq_true rfl⟩ ⟨Nat.le_of_ble_eq_true rfl, Nat.le_of_ble_eq_true rfl⟩ ⟨[0, 2], [1], [1, 0, 2], rfl, rfl, rfl, rfl, rfl, rfl, rfl, rfl, rfl⟩ 0 rfl rfl rfl hl.1 rfl (Nat.le_of_ble_eq_true rfl) rfl dX8_readsPause_39 (fun H locs w => bq_z ⟨rfl, rfl⟩ ?_)
      clear hC
      refine lv_iadd hx hb dX8_readsPause_42 ?_
      refine lv_bipush (v := 48) hx hb dX8_readsPause_43 (by decide) ?_
      refine lv_isub hx hb dX8_readsPause_45 ?_
      obtain ⟨v9, e9, hT50⟩ := bq_let_el hT50
      refine bq_nmi e9 ?_
      clear e9
      refine lv_istore_n (lv' := [(2, .int v9), (3, .int v4), (0, .ref a_t), (1, .int x1)]) hx hb dX8_readsPause_46 rfl hl (by decide) rfl (fun ls hl => ?_)
      obtain ⟨v10, e9, hT50⟩ := bq_let_el hT50
      refine lv_iinc (v := v10) (lv' := [(3, .int v10), (2, .int v9), (0, .ref a_t), (1, .int x1)]) hx hb dX8_readsPause_47 hl (k := 1) rfl (by rw [e9]; rfl) (by decide) rfl (fun ls hl => ?_)
      clear e9
      obtain ⟨rfl, rfl⟩ := bq_in2 (Option.some.inj hT50)
      exact K50 H locs ls w (lv_sub hl [2, 3, 1, 0] rfl)
  · replace hm := bq_t hc hm
    clear hc
    refine lv_iconst (v := (-1)) hx hb dX8_readsPause_8 (by decide) ?_
    refine lv_iload_n hx hb dX8_readsPause_9 rfl (lv_at hl 1 rfl) ?_
    refine lv_isub hx hb dX8_readsPause_10 ?_
    obtain ⟨rfl, rfl⟩ := bq_in2 (Option.some.inj hm)
    exact bq_iret E w hr hk dX8_readsPause_11 hQ
abbrev wdX8_readsStep (cI : ClassId) (a_t a_t_readBacks a_t_readOuts a_t_readPauses a_t_text u_t_rig u_t_trial u_t_strokes u_t_outs u_t_backs u_t_pauses u_t_cuts : Nat) (t : Nat → Int32) (t_readBacks : Nat → Int32) (t_readOuts : Nat → Int32) (t_readPauses : Nat → Int32) (t_text : Nat → Int32) : va_W := [(a_t, oX8 u_t_rig u_t_trial u_t_strokes u_t_outs u_t_backs u_t_pauses u_t_cuts a_t_text a_t_readOuts a_t_readBacks a_t_readPauses t), (a_t_readBacks, oA cI 17 t_readBacks), (a_t_readOuts, oA cI 17 t_readOuts), (a_t_readPauses, oA cI 17 t_readPauses), (a_t_text, oA cI 80 t_text)]
abbrev rmX8_readsStep : Room := { frames := 3, cells := 0, slots := 0, locals := 66 }
theorem hd_X8_readsStep : yX8_readsStep.cls = RX8 ∧ yX8_readsStep.cls ≠ "java/lang/invoke/MethodHandle" ∧ yX8_readsStep.cls ≠ "java/lang/invoke/VarHandle" ∧ (parseMethodDescriptor yX8_readsStep.desc).map (fun d => d.parameters.length) = some 1 := by decide +kernel
set_option maxHeartbeats 4000000 in
set_option maxRecDepth 100000 in
theorem kX8_readsStep (l : Launch) (D : va_G) (cI cJ : ClassId) (a_t a_t_readBacks a_t_readOuts a_t_readPauses a_t_text u_t_rig u_t_trial u_t_strokes u_t_outs u_t_backs u_t_pauses u_t_cuts : Nat) (t t_readBacks t_readOuts t_readPauses t_text : Nat → Int32) (x1 : Int32) (r : Int32) (t_o : Nat → Int32) (t_readBacks_o : Nat → Int32) (t_readOuts_o : Nat → Int32) (t_readPauses_o : Nat → Int32) (hm : mX8_readsStep t t_readBacks t_readOuts t_readPauses t_text x1 = some (r, t_o, t_readBacks_o, t_readOuts_o, t_readPauses_o)) : bq_M l D cI cJ yX8_readsStep cX8_readsStep 5 (some .int) rmX8_readsStep [.ref a_t, .int x1] (wdX8_readsStep cI a_t a_t_readBacks a_t_readOuts a_t_readPauses a_t_text u_t_rig u_t_trial u_t_strokes u_t_outs u_t_backs u_t_pauses u_t_cuts t t_readBacks t_readOuts t_readPauses t_text) (wdX8_readsStep cI a_t a_t_readBacks a_t_readOuts a_t_readPauses a_t_text u_t_rig u_t_trial u_t_strokes u_t_outs u_t_backs u_t_pauses u_t_cuts t_o t_readBacks_o t_readOuts_o t_readPauses_o t_text) (some (.int r)) := by
  refine bq_start (by decide) (Nat.le_of_ble_eq_true rfl) ?_
  intro p e s m av9 below meth c A ls Q H locs E K w hA hr hk hn hQ hl
  have E : bq_E p m c cX8_readsStep 5 s av9 RX8 := E
  have hx := E.1
  have hb := E.2.1
  have hl : lv_has ls 5 [(0, .ref a_t), (1, .int x1)] := hl
  unfold mX8_readsStep at hm
  refine lv_aload_n hx hb dX8_readsStep_0 rfl (lv_at hl 0 rfl) ?_
  refine gt_X8_71 E K w 0 rfl rfl dX8_readsStep_1 ?_
  obtain ⟨v1, e9, hm⟩ := bq_let_el hm
  refine bq_nmi e9 ?_
  clear e9
  refine lv_istore_n (lv' := [(2, .int v1), (0, .ref a_t), (1, .int x1)]) hx hb dX8_readsStep_4 rfl hl (by decide) rfl (fun ls hl => ?_)
  refine lv_aload_n hx hb dX8_readsStep_5 rfl (lv_at hl 1 rfl) ?_
  refine gt_X8_34 E K w 0 rfl rfl dX8_readsStep_6 ?_
  refine lv_aload_n hx hb dX8_readsStep_9 rfl (lv_at hl 1 rfl) ?_
  refine gt_X8_65 E K w 0 rfl rfl dX8_readsStep_10 ?_
  refine lv_iconst (v := 0) hx hb dX8_readsStep_13 (by decide) ?_
  obtain ⟨hI, hm⟩ := bq_ci_el hm
  obtain ⟨t_readOuts_2, e9, hm⟩ := bq_let_el hm
  refine bq_ast E K w 2 rfl hI dX8_readsStep_14 (fun H locs w => ?_)
  replace w : bq_w D A s.heap (wdX8_readsStep cI a_t a_t_readBacks a_t_readOuts a_t_readPauses a_t_text u_t_rig u_t_trial u_t_strokes u_t_outs u_t_backs u_t_pauses u_t_cuts t t_readBacks t_readOuts_2 t_readPauses t_text) H locs := by rw [e9]; exact w
  clear e9
  refine lv_aload_n hx hb dX8_readsStep_15 rfl (lv_at hl 1 rfl) ?_
  refine gt_X8_37 E K w 0 rfl rfl dX8_readsStep_16 ?_
  refine lv_aload_n hx hb dX8_readsStep_19 rfl (lv_at hl 1 rfl) ?_
  refine gt_X8_65 E K w 0 rfl rfl dX8_readsStep_20 ?_
  refine lv_iconst (v := 0) hx hb dX8_readsStep_23 (by decide) ?_
  obtain ⟨hI, hm⟩ := bq_ci_el hm
  obtain ⟨t_readBacks_3, e9, hm⟩ := bq_let_el hm
  refine bq_ast E K w 1 rfl hI dX8_readsStep_24 (fun H locs w => ?_)
  replace w : bq_w D A s.heap (wdX8_readsStep cI a_t a_t_readBacks a_t_readOuts a_t_readPauses a_t_text u_t_rig u_t_trial u_t_strokes u_t_outs u_t_backs u_t_pauses u_t_cuts t t_readBacks_3 t_readOuts_2 t_readPauses t_text) H locs := by rw [e9]; exact w
  clear e9
  refine lv_aload_n hx hb dX8_readsStep_25 rfl (lv_at hl 1 rfl) ?_
  refine gt_X8_40 E K w 0 rfl rfl dX8_readsStep_26 ?_
  refine lv_aload_n hx hb dX8_readsStep_29 rfl (lv_at hl 1 rfl) ?_
  refine gt_X8_65 E K w 0 rfl rfl dX8_readsStep_30 ?_
  refine lv_iconst (v := 0) hx hb dX8_readsStep_33 (by decide) ?_
  obtain ⟨hI, hm⟩ := bq_ci_el hm
  obtain ⟨t_readPauses_4, e9, hm⟩ := bq_let_el hm
  refine bq_ast E K w 3 rfl hI dX8_readsStep_34 (fun H locs w => ?_)
  replace w : bq_w D A s.heap (wdX8_readsStep cI a_t a_t_readBacks a_t_readOuts a_t_readPauses a_t_text u_t_rig u_t_trial u_t_strokes u_t_outs u_t_backs u_t_pauses u_t_cuts t t_readBacks_3 t_readOuts_2 t_readPauses_4 t_text) H locs := by rw [e9]; exact w
  clear e9
  refine lv_aload_n hx hb dX8_readsStep_35 rfl (lv_at hl 1 rfl) ?_
  refine lv_iload_n hx hb dX8_readsStep_36 rfl (lv_at hl 2 rfl) ?_
  obtain ⟨v5, hC, hm⟩ := bq_bd_el hm
  refine bq_V (As := [.int x1]) (rest := []) (st1 := [.int v5]) (ws' := wdX8_readsStep cI a_t a_t_readBacks a_t_readOuts a_t_readPauses a_t_text u_t_rig u_t_trial u_t_strokes u_t_outs u_t_backs u_t_pauses u_t_cuts t t_readBacks_3 t_readOuts_2 t_readPauses_4 t_text) E K w hA (kX8_letter l D cI cJ a_t a_t_text u_t_rig u_t_trial u_t_strokes u_t_outs u_t_backs u_t_pauses u_t_cuts a_t_readOuts a_t_readBacks a_t_readPauses t t_text x1 v5 hC) (bq_gV ml_X8_62 im_X8_letter sl_X8_letter in_X8 cd_X8_letter) hd_X8_letter ⟨Nat.le_of_ble_eq_true rfl, Nat.le_of_ble_eq_true rfl⟩ ⟨Nat.le_of_ble_eq_true rfl, Nat.le_of_ble_eq_true rfl⟩ ⟨[0, 4], [1, 2, 3], [3, 0, 1, 2, 4], rfl, rfl, rfl, rfl, rfl, rfl, rfl, rfl, rfl⟩ 0 rfl rfl rfl hl.1 rfl (Nat.le_of_ble_eq_true rfl) rfl dX8_readsStep_37 (fun H locs w => bq_z ⟨rfl, rfl⟩ ?_)
  clear hC
  refine lv_bipush (v := 84) hx hb dX8_readsStep_40 (by decide) ?_
  refine lv_icmp_ne (tgt := 53) hx hb dX8_readsStep_42 (by decide) (fun hc => ?_) (fun hc => ?_)
  · replace hm := bq_f hc hm
    clear hc
    refine lv_aload_n hx hb dX8_readsStep_53 rfl (lv_at hl 1 rfl) ?_
    refine lv_iload_n hx hb dX8_readsStep_54 rfl (lv_at hl 2 rfl) ?_
    obtain ⟨v6, hC, hm⟩ := bq_bd_el hm
    refine bq_V (As := [.int x1]) (rest := []) (st1 := [.int v6]) (ws' := wdX8_readsStep cI a_t a_t_readBacks a_t_readOuts a_t_readPauses a_t_text u_t_rig u_t_trial u_t_strokes u_t_outs u_t_backs u_t_pauses u_t_cuts t t_readBacks_3 t_readOuts_2 t_readPauses_4 t_text) E K w hA (kX8_letter l D cI cJ a_t a_t_text u_t_rig u_t_trial u_t_strokes u_t_outs u_t_backs u_t_pauses u_t_cuts a_t_readOuts a_t_readBacks a_t_readPauses t t_text x1 v6 hC) (bq_gV ml_X8_62 im_X8_letter sl_X8_letter in_X8 cd_X8_letter) hd_X8_letter ⟨Nat.le_of_ble_eq_true rfl, Nat.le_of_ble_eq_true rfl⟩ ⟨Nat.le_of_ble_eq_true rfl, Nat.le_of_ble_eq_true rfl⟩ ⟨[0, 4], [1, 2, 3], [3, 0, 1, 2, 4], rfl, rfl, rfl, rfl, rfl, rfl, rfl, rfl, rfl⟩ 0 rfl rfl rfl hl.1 rfl (Nat.le_of_ble_eq_true rfl) rfl dX8_readsStep_55 (fun H locs w => bq_z ⟨rfl, rfl⟩ ?_)
    clear hC
    refine lv_bipush (v := 40) hx hb dX8_readsStep_58 (by decide) ?_
    refine lv_icmp_eq (tgt := 89) hx hb dX8_readsStep_60 (by decide) (fun hc => ?_) (fun hc => ?_)
    · replace hm := bq_t hc hm
      clear hc
      refine lv_iload_n hx hb dX8_readsStep_89 rfl (lv_at hl 2 rfl) ?_
      refine lv_iconst (v := 1) hx hb dX8_readsStep_90 (by decide) ?_
      refine lv_iadd hx hb dX8_readsStep_91 ?_
      obtain ⟨v7, e9, hm⟩ := bq_let_el hm
      refine bq_nmi e9 ?_
      clear e9
      refine lv_istore_n (lv' := [(3, .int v7), (2, .int v1), (0, .ref a_t), (1, .int x1)]) hx hb dX8_readsStep_92 rfl hl (by decide) rfl (fun ls hl => ?_)
      refine lv_iconst (v := 0) hx hb dX8_readsStep_93 (by decide) ?_
      refine lv_istore (lv' := [(4, .int 0), (3, .int v7), (2, .int v1), (0, .ref a_t), (1, .int x1)]) hx hb dX8_readsStep_94 hl (by decide) rfl (fun ls hl => ?_)
      obtain ⟨v13, v14, t_15, t_readBacks_16, t_readOuts_17, hL, hm⟩ := bq_b5_el hm
      obtain ⟨B, eB, nn, hL⟩ := bq_loop_B hL
      have X119 : ∀ (H : Heap) (locs : List Loc) (ls : Array Slot), bq_w D A s.heap (wdX8_readsStep cI a_t a_t_readBacks a_t_readOuts a_t_readPauses a_t_text u_t_rig u_t_trial u_t_strokes u_t_outs u_t_backs u_t_pauses u_t_cuts t_15 t_readBacks_16 t_readOuts_17 t_readPauses_4 t_text) H locs → lv_has ls 5 [(0, .ref a_t), (3, .int v13), (4, .int v14)] → W p l e rmX8_readsStep s m av9 below meth c H locs 0 0 Q (F0 m 119 ls []) := by
        intro H locs ls w hl
        refine lv_iload hx hb dX8_readsStep_119 (lv_at hl 2 rfl) ?_
        refine lv_iconst (v := 2) hx hb dX8_readsStep_121 (by decide) ?_
        obtain ⟨v18, hT148, hm⟩ := bq_bd_el hm
        have K148 : ∀ (H : Heap) (locs : List Loc) (ls : Array Slot), bq_w D A s.heap (wdX8_readsStep cI a_t a_t_readBacks a_t_readOuts a_t_readPauses a_t_text u_t_rig u_t_trial u_t_strokes u_t_outs u_t_backs u_t_pauses u_t_cuts t_15 t_readBacks_16 t_readOuts_17 t_readPauses_4 t_text) H locs → lv_has ls 5 [] → W p l e rmX8_readsStep s m av9 below meth c H locs 0 0 Q (F0 m 148 ls [.int v18]) := by
          intro H locs ls w hl
          obtain ⟨rfl, rfl, rfl, rfl, rfl⟩ := bq_in5 (Option.some.inj hm)
          exact bq_iret E w hr hk dX8_readsStep_148 hQ
        clear hm
        refine lv_icmp_lt (tgt := 141) hx hb dX8_readsStep_122 (by decide) (fun hc => ?_) (fun hc => ?_)
        · replace hT148 := bq_t hc hT148
          clear hc
          refine lv_iconst (v := (-1)) hx hb dX8_readsStep_141 (by decide) ?_
          refine lv_aload_n hx hb dX8_readsStep_142 rfl (lv_at hl 0 rfl) ?_
          refine lv_iload_n hx hb dX8_readsStep_143 rfl (lv_at hl 1 rfl) ?_
          obtain ⟨v19, hC, hT148⟩ := bq_bd_el hT148
          refine bq_V (As := [.int v13]) (rest := [.int (-1)]) (st1 := [.int v19, .int (-1)]) (ws' := wdX8_readsStep cI a_t a_t_readBacks a_t_readOuts a_t_readPauses a_t_text u_t_rig u_t_trial u_t_strokes u_t_outs u_t_backs u_t_pauses u_t_cuts t_15 t_readBacks_16 t_readOuts_17 t_readPauses_4 t_text) E K w hA (kX8_failsAt l D cI cJ a_t a_t_text u_t_rig u_t_trial u_t_strokes u_t_outs u_t_backs u_t_pauses u_t_cuts a_t_readOuts a_t_readBacks a_t_readPauses t_15 t_text v13 v19 hC) (bq_gV ml_X8_81 im_X8_failsAt sl_X8_failsAt in_X8 cd_X8_failsAt) hd_X8_failsAt ⟨Nat.le_of_ble_eq_true rfl, Nat.le_of_ble_eq_true rfl⟩ ⟨Nat.le_of_ble_eq_true rfl, Nat.le_of_ble_eq_true rfl⟩ ⟨[0, 4], [1, 2, 3], [3, 0, 1, 2, 4], rfl, rfl, rfl, rfl, rfl, rfl, rfl, rfl, rfl⟩ 0 rfl rfl rfl hl.1 rfl (Nat.le_of_ble_eq_true rfl) rfl dX8_readsStep_144 (fun H locs w => bq_z ⟨rfl, rfl⟩ ?_)
          clear hC
          refine lv_isub hx hb dX8_readsStep_147 ?_
          obtain rfl := Option.some.inj hT148
          exact K148 H locs ls w (lv_sub hl [] rfl)
        · replace hT148 := bq_f hc hT148
          clear hc
          refine lv_aload_n hx hb dX8_readsStep_125 rfl (lv_at hl 0 rfl) ?_
          refine lv_iload_n hx hb dX8_readsStep_126 rfl (lv_at hl 1 rfl) ?_
          obtain ⟨v20, hC, hT148⟩ := bq_bd_el hT148
          refine bq_V (As := [.int v13]) (rest := []) (st1 := [.int v20]) (ws' := wdX8_readsStep cI a_t a_t_readBacks a_t_readOuts a_t_readPauses a_t_text u_t_rig u_t_trial u_t_strokes u_t_outs u_t_backs u_t_pauses u_t_cuts t_15 t_readBacks_16 t_readOuts_17 t_readPauses_4 t_text) E K w hA (kX8_letter l D cI cJ a_t a_t_text u_t_rig u_t_trial u_t_strokes u_t_outs u_t_backs u_t_pauses u_t_cuts a_t_readOuts a_t_readBacks a_t_readPauses t_15 t_text v13 v20 hC) (bq_gV ml_X8_62 im_X8_letter sl_X8_letter in_X8 cd_X8_letter) hd_X8_letter ⟨Nat.le_of_ble_eq_true rfl, Nat.le_of_ble_eq_true rfl⟩ ⟨Nat.le_of_ble_eq_true rfl, Nat.le_of_ble_eq_true rfl⟩ ⟨[0, 4], [1, 2, 3], [3, 0, 1, 2, 4], rfl, rfl, rfl, rfl, rfl, rfl, rfl, rfl, rfl⟩ 0 rfl rfl rfl hl.1 rfl (Nat.le_of_ble_eq_true rfl) rfl dX8_readsStep_127 (fun H locs w => bq_z ⟨rfl, rfl⟩ ?_)
          clear hC
          refine lv_bipush (v := 41) hx hb dX8_readsStep_130 (by decide) ?_
          refine lv_icmp_ne (tgt := 141) hx hb dX8_readsStep_132 (by decide) (fun hc => ?_) (fun hc => ?_)
          · replace hT148 := bq_f hc hT148
            clear hc
            refine lv_iconst (v := (-1)) hx hb dX8_readsStep_141 (by decide) ?_
            refine lv_aload_n hx hb dX8_readsStep_142 rfl (lv_at hl 0 rfl) ?_
            refine lv_iload_n hx hb dX8_readsStep_143 rfl (lv_at hl 1 rfl) ?_
            obtain ⟨v21, hC, hT148⟩ := bq_bd_el hT148
            refine bq_V (As := [.int v13]) (rest := [.int (-1)]) (st1 := [.int v21, .int (-1)]) (ws' := wdX8_readsStep cI a_t a_t_readBacks a_t_readOuts a_t_readPauses a_t_text u_t_rig u_t_trial u_t_strokes u_t_outs u_t_backs u_t_pauses u_t_cuts t_15 t_readBacks_16 t_readOuts_17 t_readPauses_4 t_text) E K w hA (kX8_failsAt l D cI cJ a_t a_t_text u_t_rig u_t_trial u_t_strokes u_t_outs u_t_backs u_t_pauses u_t_cuts a_t_readOuts a_t_readBacks a_t_readPauses t_15 t_text v13 v21 hC) (bq_gV ml_X8_81 im_X8_failsAt sl_X8_failsAt in_X8 cd_X8_failsAt) hd_X8_failsAt ⟨Nat.le_of_ble_eq_true rfl, Nat.le_of_ble_eq_true rfl⟩ ⟨Nat.le_of_ble_eq_true rfl, Nat.le_of_ble_eq_true rfl⟩ ⟨[0, 4], [1, 2, 3], [3, 0, 1, 2, 4], rfl, rfl, rfl, rfl, rfl, rfl, rfl, rfl, rfl⟩ 0 rfl rfl rfl hl.1 rfl (Nat.le_of_ble_eq_true rfl) rfl dX8_readsStep_144 (fun H locs w => bq_z ⟨rfl, rfl⟩ ?_)
            clear hC
            refine lv_isub hx hb dX8_readsStep_147 ?_
            obtain rfl := Option.some.inj hT148
            exact K148 H locs ls w (lv_sub hl [] rfl)
          · replace hT148 := bq_t hc hT148
            clear hc
            refine lv_iload_n hx hb dX8_readsStep_135 rfl (lv_at hl 1 rfl) ?_
            refine lv_iconst (v := 1) hx hb dX8_readsStep_136 (by decide) ?_
            refine lv_iadd hx hb dX8_readsStep_137 ?_
            refine lv_goto (tgt := 148) hx hb dX8_readsStep_138 (by decide) ?_
            obtain rfl := Option.some.inj hT148
            exact K148 H locs ls w (lv_sub hl [] rfl)
      clear hm
      have L96 : ∀ (nn : Nat) (i8 : Int32) (i9 : Int32) (t_10 : Nat → Int32) (t_readBacks_11 : Nat → Int32) (t_readOuts_12 : Nat → Int32) (H : Heap) (locs : List Loc) (ls : Array Slot), bq_lp B nn (i8, i9, t_10, t_readBacks_11, t_readOuts_12) = some (v13, v14, t_15, t_readBacks_16, t_readOuts_17) → bq_w D A s.heap (wdX8_readsStep cI a_t a_t_readBacks a_t_readOuts a_t_readPauses a_t_text u_t_rig u_t_trial u_t_strokes u_t_outs u_t_backs u_t_pauses u_t_cuts t_10 t_readBacks_11 t_readOuts_12 t_readPauses_4 t_text) H locs → lv_has ls 5 [(0, .ref a_t), (2, .int v1), (3, .int i9), (4, .int i8)] → W p l e rmX8_readsStep s m av9 below meth c H locs 0 0 Q (F0 m 96 ls []) := by
        intro nn
        induction nn with
        | zero =>
          intro i8 i9 t_10 t_readBacks_11 t_readOuts_12 H locs ls hL w hl
          exact bq_lp_0 hL
        | succ nn ih =>
          intro i8 i9 t_10 t_readBacks_11 t_readOuts_12 H locs ls hL w hl
          obtain ⟨oo96, hT96, hR96⟩ := bq_lp_el hL
          clear hL
          replace hT96 := bq_u5_el eB hT96
          unfold bX8_readsStep_96 at hT96
          refine lv_aload_n hx hb dX8_readsStep_96 rfl (lv_at hl 0 rfl) ?_
          refine lv_iload_n hx hb dX8_readsStep_97 rfl (lv_at hl 2 rfl) ?_
          obtain ⟨v22, hC, hT96⟩ := bq_bd_el hT96
          refine bq_V (As := [.int i9]) (rest := []) (st1 := [.int v22]) (ws' := wdX8_readsStep cI a_t a_t_readBacks a_t_readOuts a_t_readPauses a_t_text u_t_rig u_t_trial u_t_strokes u_t_outs u_t_backs u_t_pauses u_t_cuts t_10 t_readBacks_11 t_readOuts_12 t_readPauses_4 t_text) E K w hA (kX8_isMove l D cI cJ a_t a_t_text u_t_rig u_t_trial u_t_strokes u_t_outs u_t_backs u_t_pauses u_t_cuts a_t_readOuts a_t_readBacks a_t_readPauses t_10 t_text i9 v22 hC) (bq_gV ml_X8_77 im_X8_isMove sl_X8_isMove in_X8 cd_X8_isMove) hd_X8_isMove ⟨Nat.le_of_ble_eq_true rfl, Nat.le_of_ble_eq_true rfl⟩ ⟨Nat.le_of_ble_eq_true rfl, Nat.le_of_ble_eq_true rfl⟩ ⟨[0, 4], [1, 2, 3], [3, 0, 1, 2, 4], rfl, rfl, rfl, rfl, rfl, rfl, rfl, rfl, rfl⟩ 0 rfl rfl rfl hl.1 rfl (Nat.le_of_ble_eq_true rfl) rfl dX8_readsStep_98 (fun H locs w => bq_z ⟨rfl, rfl⟩ ?_)
          clear hC
          refine lv_if_eq (tgt := 119) hx hb dX8_readsStep_101 (by decide) (fun hc => ?_) (fun hc => ?_)
          · replace hT96 := bq_t hc hT96
            clear hc
            obtain rfl := Option.some.inj hT96
            replace hR96 := bq_lk_r hR96
            obtain ⟨rfl, rfl, rfl, rfl, rfl⟩ := bq_in5 hR96
            exact X119 H locs ls w (lv_sub hl [0, 2, 3] rfl)
          · replace hT96 := bq_f hc hT96
            clear hc
            refine lv_aload_n hx hb dX8_readsStep_104 rfl (lv_at hl 0 rfl) ?_
            refine lv_iload_n hx hb dX8_readsStep_105 rfl (lv_at hl 2 rfl) ?_
            refine lv_iload_n hx hb dX8_readsStep_106 rfl (lv_at hl 1 rfl) ?_
            obtain ⟨t_23, t_readBacks_24, t_readOuts_25, hC, hT96⟩ := bq_b3_el hT96
            refine bq_V (As := [.int i9, .int v1]) (rest := []) (st1 := []) (ws' := wdX8_readsStep cI a_t a_t_readBacks a_t_readOuts a_t_readPauses a_t_text u_t_rig u_t_trial u_t_strokes u_t_outs u_t_backs u_t_pauses u_t_cuts t_23 t_readBacks_24 t_readOuts_25 t_readPauses_4 t_text) E K w hA (kX8_notes l D cI cJ a_t a_t_readBacks a_t_readOuts a_t_text u_t_rig u_t_trial u_t_strokes u_t_outs u_t_backs u_t_pauses u_t_cuts a_t_readPauses t_10 t_readBacks_11 t_readOuts_12 t_text i9 v1 t_23 t_readBacks_24 t_readOuts_25 hC) (bq_gV ml_X8_84 im_X8_notes sl_X8_notes in_X8 cd_X8_notes) hd_X8_notes ⟨Nat.le_of_ble_eq_true rfl, Nat.le_of_ble_eq_true rfl⟩ ⟨Nat.le_of_ble_eq_true rfl, Nat.le_of_ble_eq_true rfl⟩ ⟨[0, 1, 2, 4], [3], [1, 2, 3, 0, 4], rfl, rfl, rfl, rfl, rfl, rfl, rfl, rfl, rfl⟩ 0 rfl rfl rfl hl.1 rfl (Nat.le_of_ble_eq_true rfl) rfl dX8_readsStep_107 (fun H locs w => bq_z ⟨rfl, rfl⟩ ?_)
            clear hC
            obtain ⟨v26, e9, hT96⟩ := bq_let_el hT96
            refine lv_iinc (v := v26) (lv' := [(4, .int v26), (0, .ref a_t), (2, .int v1), (3, .int i9)]) hx hb dX8_readsStep_110 hl (k := 3) rfl (by rw [e9]; rfl) (by decide) rfl (fun ls hl => ?_)
            clear e9
            obtain ⟨v27, e9, hT96⟩ := bq_let_el hT96
            refine lv_iinc (v := v27) (lv' := [(3, .int v27), (4, .int v26), (0, .ref a_t), (2, .int v1)]) hx hb dX8_readsStep_113 hl (k := 3) rfl (by rw [e9]; rfl) (by decide) rfl (fun ls hl => ?_)
            clear e9
            refine lv_goto (tgt := 96) hx hb dX8_readsStep_116 (by decide) ?_
            obtain rfl := Option.some.inj hT96
            exact ih v26 v27 t_23 t_readBacks_24 t_readOuts_25 H locs ls hR96 w (lv_sub hl [2, 3, 0, 1] rfl)
      exact L96 nn 0 v7 t t_readBacks_3 t_readOuts_2 H locs ls hL w (lv_sub hl [3, 2, 1, 0] rfl)
    · replace hm := bq_f hc hm
      clear hc
      refine lv_aload_n hx hb dX8_readsStep_63 rfl (lv_at hl 1 rfl) ?_
      refine lv_iload_n hx hb dX8_readsStep_64 rfl (lv_at hl 2 rfl) ?_
      obtain ⟨v28, hC, hm⟩ := bq_bd_el hm
      refine bq_V (As := [.int x1]) (rest := []) (st1 := [.int v28]) (ws' := wdX8_readsStep cI a_t a_t_readBacks a_t_readOuts a_t_readPauses a_t_text u_t_rig u_t_trial u_t_strokes u_t_outs u_t_backs u_t_pauses u_t_cuts t t_readBacks_3 t_readOuts_2 t_readPauses_4 t_text) E K w hA (kX8_isMove l D cI cJ a_t a_t_text u_t_rig u_t_trial u_t_strokes u_t_outs u_t_backs u_t_pauses u_t_cuts a_t_readOuts a_t_readBacks a_t_readPauses t t_text x1 v28 hC) (bq_gV ml_X8_77 im_X8_isMove sl_X8_isMove in_X8 cd_X8_isMove) hd_X8_isMove ⟨Nat.le_of_ble_eq_true rfl, Nat.le_of_ble_eq_true rfl⟩ ⟨Nat.le_of_ble_eq_true rfl, Nat.le_of_ble_eq_true rfl⟩ ⟨[0, 4], [1, 2, 3], [3, 0, 1, 2, 4], rfl, rfl, rfl, rfl, rfl, rfl, rfl, rfl, rfl⟩ 0 rfl rfl rfl hl.1 rfl (Nat.le_of_ble_eq_true rfl) rfl dX8_readsStep_65 (fun H locs w => bq_z ⟨rfl, rfl⟩ ?_)
      clear hC
      refine lv_if_ne (tgt := 79) hx hb dX8_readsStep_68 (by decide) (fun hc => ?_) (fun hc => ?_)
      · replace hm := bq_f hc hm
        clear hc
        refine lv_aload_n hx hb dX8_readsStep_79 rfl (lv_at hl 1 rfl) ?_
        refine lv_iload_n hx hb dX8_readsStep_80 rfl (lv_at hl 2 rfl) ?_
        refine lv_iload_n hx hb dX8_readsStep_81 rfl (lv_at hl 0 rfl) ?_
        obtain ⟨t_29, t_readBacks_30, t_readOuts_31, hC, hm⟩ := bq_b3_el hm
        refine bq_V (As := [.int x1, .int v1]) (rest := []) (st1 := []) (ws' := wdX8_readsStep cI a_t a_t_readBacks a_t_readOuts a_t_readPauses a_t_text u_t_rig u_t_trial u_t_strokes u_t_outs u_t_backs u_t_pauses u_t_cuts t_29 t_readBacks_30 t_readOuts_31 t_readPauses_4 t_text) E K w hA (kX8_notes l D cI cJ a_t a_t_readBacks a_t_readOuts a_t_text u_t_rig u_t_trial u_t_strokes u_t_outs u_t_backs u_t_pauses u_t_cuts a_t_readPauses t t_readBacks_3 t_readOuts_2 t_text x1 v1 t_29 t_readBacks_30 t_readOuts_31 hC) (bq_gV ml_X8_84 im_X8_notes sl_X8_notes in_X8 cd_X8_notes) hd_X8_notes ⟨Nat.le_of_ble_eq_true rfl, Nat.le_of_ble_eq_true rfl⟩ ⟨Nat.le_of_ble_eq_true rfl, Nat.le_of_ble_eq_true rfl⟩ ⟨[0, 1, 2, 4], [3], [1, 2, 3, 0, 4], rfl, rfl, rfl, rfl, rfl, rfl, rfl, rfl, rfl⟩ 0 rfl rfl rfl hl.1 rfl (Nat.le_of_ble_eq_true rfl) rfl dX8_readsStep_82 (fun H locs w => bq_z ⟨rfl, rfl⟩ ?_)
        clear hC
        refine lv_iload_n hx hb dX8_readsStep_85 rfl (lv_at hl 2 rfl) ?_
        refine lv_iconst (v := 2) hx hb dX8_readsStep_86 (by decide) ?_
        refine lv_iadd hx hb dX8_readsStep_87 ?_
        obtain ⟨rfl, rfl, rfl, rfl, rfl⟩ := bq_in5 (Option.some.inj hm)
        exact bq_iret E w hr hk dX8_readsStep_88 hQ
      · replace hm := bq_t hc hm
        clear hc
        refine lv_iconst (v := (-1)) hx hb dX8_readsStep_71 (by decide) ?_
        refine lv_aload_n hx hb dX8_readsStep_72 rfl (lv_at hl 1 rfl) ?_
        refine lv_iload_n hx hb dX8_readsStep_73 rfl (lv_at hl 2 rfl) ?_
        obtain ⟨v32, hC, hm⟩ := bq_bd_el hm
        refine bq_V (As := [.int x1]) (rest := [.int (-1)]) (st1 := [.int v32, .int (-1)]) (ws' := wdX8_readsStep cI a_t a_t_readBacks a_t_readOuts a_t_readPauses a_t_text u_t_rig u_t_trial u_t_strokes u_t_outs u_t_backs u_t_pauses u_t_cuts t t_readBacks_3 t_readOuts_2 t_readPauses_4 t_text) E K w hA (kX8_failsAt l D cI cJ a_t a_t_text u_t_rig u_t_trial u_t_strokes u_t_outs u_t_backs u_t_pauses u_t_cuts a_t_readOuts a_t_readBacks a_t_readPauses t t_text x1 v32 hC) (bq_gV ml_X8_81 im_X8_failsAt sl_X8_failsAt in_X8 cd_X8_failsAt) hd_X8_failsAt ⟨Nat.le_of_ble_eq_true rfl, Nat.le_of_ble_eq_true rfl⟩ ⟨Nat.le_of_ble_eq_true rfl, Nat.le_of_ble_eq_true rfl⟩ ⟨[0, 4], [1, 2, 3], [3, 0, 1, 2, 4], rfl, rfl, rfl, rfl, rfl, rfl, rfl, rfl, rfl⟩ 0 rfl rfl rfl hl.1 rfl (Nat.le_of_ble_eq_true rfl) rfl dX8_readsStep_74 (fun H locs w => bq_z ⟨rfl, rfl⟩ ?_)
        clear hC
        refine lv_isub hx hb dX8_readsStep_77 ?_
        obtain ⟨rfl, rfl, rfl, rfl, rfl⟩ := bq_in5 (Option.some.inj hm)
        exact bq_iret E w hr hk dX8_readsStep_78 hQ
  · replace hm := bq_t hc hm
    clear hc
    refine lv_aload_n hx hb dX8_readsStep_45 rfl (lv_at hl 1 rfl) ?_
    refine lv_iload_n hx hb dX8_readsStep_46 rfl (lv_at hl 2 rfl) ?_
    refine lv_iconst (v := 1) hx hb dX8_readsStep_47 (by decide) ?_
    refine lv_iadd hx hb dX8_readsStep_48 ?_
    obtain ⟨v33, t_readPauses_34, hC, hm⟩ := bq_b2_el hm
    refine bq_V (As := [.int (x1 + 1)]) (rest := []) (st1 := [.int v33]) (ws' := wdX8_readsStep cI a_t a_t_readBacks a_t_readOuts a_t_readPauses a_t_text u_t_rig u_t_trial u_t_strokes u_t_outs u_t_backs u_t_pauses u_t_cuts t t_readBacks_3 t_readOuts_2 t_readPauses_34 t_text) E K w hA (kX8_readsPause l D cI cJ a_t a_t_readPauses a_t_text u_t_rig u_t_trial u_t_strokes u_t_outs u_t_backs u_t_pauses u_t_cuts a_t_readOuts a_t_readBacks t t_readPauses_4 t_text (x1 + 1) v33 t_readPauses_34 hC) (bq_gV ml_X8_74 im_X8_readsPause sl_X8_readsPause in_X8 cd_X8_readsPause) hd_X8_readsPause ⟨Nat.le_of_ble_eq_true rfl, Nat.le_of_ble_eq_true rfl⟩ ⟨Nat.le_of_ble_eq_true rfl, Nat.le_of_ble_eq_true rfl⟩ ⟨[0, 3, 4], [1, 2], [2, 0, 1, 3, 4], rfl, rfl, rfl, rfl, rfl, rfl, rfl, rfl, rfl⟩ 0 rfl rfl rfl hl.1 rfl (Nat.le_of_ble_eq_true rfl) rfl dX8_readsStep_49 (fun H locs w => bq_z ⟨rfl, rfl⟩ ?_)
    clear hC
    obtain ⟨rfl, rfl, rfl, rfl, rfl⟩ := bq_in5 (Option.some.inj hm)
    exact bq_iret E w hr hk dX8_readsStep_52 hQ
abbrev wdX8_reads (cI : ClassId) (a_t a_t_readBacks a_t_readOuts a_t_readPauses a_t_text u_t_rig u_t_trial u_t_strokes u_t_outs u_t_backs u_t_pauses u_t_cuts : Nat) (t : Nat → Int32) (t_readBacks : Nat → Int32) (t_readOuts : Nat → Int32) (t_readPauses : Nat → Int32) (t_text : Nat → Int32) : va_W := [(a_t, oX8 u_t_rig u_t_trial u_t_strokes u_t_outs u_t_backs u_t_pauses u_t_cuts a_t_text a_t_readOuts a_t_readBacks a_t_readPauses t), (a_t_readBacks, oA cI 17 t_readBacks), (a_t_readOuts, oA cI 17 t_readOuts), (a_t_readPauses, oA cI 17 t_readPauses), (a_t_text, oA cI 80 t_text)]
abbrev rmX8_reads : Room := { frames := 4, cells := 0, slots := 0, locals := 90 }
theorem hd_X8_reads : yX8_reads.cls = RX8 ∧ yX8_reads.cls ≠ "java/lang/invoke/MethodHandle" ∧ yX8_reads.cls ≠ "java/lang/invoke/VarHandle" ∧ (parseMethodDescriptor yX8_reads.desc).map (fun d => d.parameters.length) = some 0 := by decide +kernel
set_option maxHeartbeats 4000000 in
set_option maxRecDepth 100000 in
theorem kX8_reads (l : Launch) (D : va_G) (cI cJ : ClassId) (a_t a_t_readBacks a_t_readOuts a_t_readPauses a_t_text u_t_rig u_t_trial u_t_strokes u_t_outs u_t_backs u_t_pauses u_t_cuts : Nat) (t t_readBacks t_readOuts t_readPauses t_text : Nat → Int32) (r : Int32) (t_o : Nat → Int32) (t_readBacks_o : Nat → Int32) (t_readOuts_o : Nat → Int32) (t_readPauses_o : Nat → Int32) (hm : mX8_reads t t_readBacks t_readOuts t_readPauses t_text = some (r, t_o, t_readBacks_o, t_readOuts_o, t_readPauses_o)) : bq_M l D cI cJ yX8_reads cX8_reads 4 (some .boolean) rmX8_reads [.ref a_t] (wdX8_reads cI a_t a_t_readBacks a_t_readOuts a_t_readPauses a_t_text u_t_rig u_t_trial u_t_strokes u_t_outs u_t_backs u_t_pauses u_t_cuts t t_readBacks t_readOuts t_readPauses t_text) (wdX8_reads cI a_t a_t_readBacks a_t_readOuts a_t_readPauses a_t_text u_t_rig u_t_trial u_t_strokes u_t_outs u_t_backs u_t_pauses u_t_cuts t_o t_readBacks_o t_readOuts_o t_readPauses_o t_text) (some (.int r)) := by
  refine bq_start (by decide) (Nat.le_of_ble_eq_true rfl) ?_
  intro p e s m av9 below meth c A ls Q H locs E K w hA hr hk hn hQ hl
  have E : bq_E p m c cX8_reads 4 s av9 RX8 := E
  have hx := E.1
  have hb := E.2.1
  have hl : lv_has ls 4 [(0, .ref a_t)] := hl
  unfold mX8_reads at hm
  refine lv_aload_n hx hb dX8_reads_0 rfl (lv_at hl 0 rfl) ?_
  refine lv_iconst (v := 0) hx hb dX8_reads_1 (by decide) ?_
  obtain ⟨t_1, e9, hm⟩ := bq_let_el hm
  refine pt_X8_65 E K w 0 rfl (Nat.le_of_ble_eq_true rfl) dX8_reads_2 (fun H locs w => ?_)
  replace w : bq_w D A s.heap (wdX8_reads cI a_t a_t_readBacks a_t_readOuts a_t_readPauses a_t_text u_t_rig u_t_trial u_t_strokes u_t_outs u_t_backs u_t_pauses u_t_cuts t_1 t_readBacks t_readOuts t_readPauses t_text) H locs := by rw [e9]; exact w
  clear e9
  refine lv_aload_n hx hb dX8_reads_5 rfl (lv_at hl 0 rfl) ?_
  refine lv_iconst (v := 0) hx hb dX8_reads_6 (by decide) ?_
  obtain ⟨t_2, e9, hm⟩ := bq_let_el hm
  refine pt_X8_71 E K w 0 rfl (Nat.le_of_ble_eq_true rfl) dX8_reads_7 (fun H locs w => ?_)
  replace w : bq_w D A s.heap (wdX8_reads cI a_t a_t_readBacks a_t_readOuts a_t_readPauses a_t_text u_t_rig u_t_trial u_t_strokes u_t_outs u_t_backs u_t_pauses u_t_cuts t_2 t_readBacks t_readOuts t_readPauses t_text) H locs := by rw [e9]; exact w
  clear e9
  refine lv_aload_n hx hb dX8_reads_10 rfl (lv_at hl 0 rfl) ?_
  refine lv_iconst (v := (-1)) hx hb dX8_reads_11 (by decide) ?_
  obtain ⟨t_3, e9, hm⟩ := bq_let_el hm
  refine pt_X8_68 E K w 0 rfl (Nat.le_of_ble_eq_true rfl) dX8_reads_12 (fun H locs w => ?_)
  replace w : bq_w D A s.heap (wdX8_reads cI a_t a_t_readBacks a_t_readOuts a_t_readPauses a_t_text u_t_rig u_t_trial u_t_strokes u_t_outs u_t_backs u_t_pauses u_t_cuts t_3 t_readBacks t_readOuts t_readPauses t_text) H locs := by rw [e9]; exact w
  clear e9
  refine lv_iconst (v := 0) hx hb dX8_reads_15 (by decide) ?_
  refine lv_istore_n (lv' := [(1, .int 0), (0, .ref a_t)]) hx hb dX8_reads_16 rfl hl (by decide) rfl (fun ls hl => ?_)
  refine lv_iconst (v := 0) hx hb dX8_reads_17 (by decide) ?_
  refine lv_istore_n (lv' := [(2, .int 0), (1, .int 0), (0, .ref a_t)]) hx hb dX8_reads_18 rfl hl (by decide) rfl (fun ls hl => ?_)
  obtain ⟨rr19, hL, hm⟩ := bq_bd_el hm
  obtain ⟨B, eB, nn, hL⟩ := bq_loop_B hL
  have X59 : ∀ (v10 : Int32) (t_11 : Nat → Int32) (t_readBacks_12 : Nat → Int32) (t_readOuts_13 : Nat → Int32) (t_readPauses_14 : Nat → Int32) (hE : rr19 = .inl (v10, t_11, t_readBacks_12, t_readOuts_13, t_readPauses_14)) (H : Heap) (locs : List Loc) (ls : Array Slot), bq_w D A s.heap (wdX8_reads cI a_t a_t_readBacks a_t_readOuts a_t_readPauses a_t_text u_t_rig u_t_trial u_t_strokes u_t_outs u_t_backs u_t_pauses u_t_cuts t_11 t_readBacks_12 t_readOuts_13 t_readPauses_14 t_text) H locs → lv_has ls 4 [(0, .ref a_t), (3, .int v10)] → W p l e rmX8_reads s m av9 below meth c H locs 0 0 Q (F0 m 59 ls []) := by
    intro v10 t_11 t_readBacks_12 t_readOuts_13 t_readPauses_14 hE H locs ls w hl
    subst hE
    replace hm := bq_or5_l hm
    refine lv_aload_n hx hb dX8_reads_59 rfl (lv_at hl 0 rfl) ?_
    refine lv_iconst (v := 1) hx hb dX8_reads_60 (by decide) ?_
    obtain ⟨t_15, e9, hm⟩ := bq_let_el hm
    refine pt_X8_94 E K w 0 rfl (Nat.le_of_ble_eq_true rfl) dX8_reads_61 (fun H locs w => ?_)
    replace w : bq_w D A s.heap (wdX8_reads cI a_t a_t_readBacks a_t_readOuts a_t_readPauses a_t_text u_t_rig u_t_trial u_t_strokes u_t_outs u_t_backs u_t_pauses u_t_cuts t_15 t_readBacks_12 t_readOuts_13 t_readPauses_14 t_text) H locs := by rw [e9]; exact w
    clear e9
    refine lv_aload_n hx hb dX8_reads_64 rfl (lv_at hl 0 rfl) ?_
    refine lv_iconst (v := (-1)) hx hb dX8_reads_65 (by decide) ?_
    refine lv_iload_n hx hb dX8_reads_66 rfl (lv_at hl 1 rfl) ?_
    refine lv_isub hx hb dX8_reads_67 ?_
    obtain ⟨t_16, e9, hm⟩ := bq_let_el hm
    refine pt_X8_97 E K w 0 rfl (Nat.le_of_ble_eq_true rfl) dX8_reads_68 (fun H locs w => ?_)
    replace w : bq_w D A s.heap (wdX8_reads cI a_t a_t_readBacks a_t_readOuts a_t_readPauses a_t_text u_t_rig u_t_trial u_t_strokes u_t_outs u_t_backs u_t_pauses u_t_cuts t_16 t_readBacks_12 t_readOuts_13 t_readPauses_14 t_text) H locs := by rw [e9]; exact w
    clear e9
    refine lv_iconst (v := 0) hx hb dX8_reads_71 (by decide) ?_
    obtain ⟨rfl, rfl, rfl, rfl, rfl⟩ := bq_in5 (Option.some.inj hm)
    exact bq_zret E w hr hk (by decide) dX8_reads_72 hQ
  have L19 : ∀ (nn : Nat) (i4 : Int32) (i5 : Int32) (t_6 : Nat → Int32) (t_readBacks_7 : Nat → Int32) (t_readOuts_8 : Nat → Int32) (t_readPauses_9 : Nat → Int32) (H : Heap) (locs : List Loc) (ls : Array Slot), bq_lp B nn (i4, i5, t_6, t_readBacks_7, t_readOuts_8, t_readPauses_9) = some rr19 → bq_w D A s.heap (wdX8_reads cI a_t a_t_readBacks a_t_readOuts a_t_readPauses a_t_text u_t_rig u_t_trial u_t_strokes u_t_outs u_t_backs u_t_pauses u_t_cuts t_6 t_readBacks_7 t_readOuts_8 t_readPauses_9 t_text) H locs → lv_has ls 4 [(0, .ref a_t), (1, .int i5), (2, .int i4)] → W p l e rmX8_reads s m av9 below meth c H locs 0 0 Q (F0 m 19 ls []) := by
    intro nn
    induction nn with
    | zero =>
      intro i4 i5 t_6 t_readBacks_7 t_readOuts_8 t_readPauses_9 H locs ls hL w hl
      exact bq_lp_0 hL
    | succ nn ih =>
      intro i4 i5 t_6 t_readBacks_7 t_readOuts_8 t_readPauses_9 H locs ls hL w hl
      obtain ⟨oo19, hT19, hR19⟩ := bq_lp_el hL
      clear hL
      replace hT19 := bq_u6_el eB hT19
      unfold bX8_reads_19 at hT19
      refine lv_iload_n hx hb dX8_reads_19 rfl (lv_at hl 1 rfl) ?_
      refine lv_aload_n hx hb dX8_reads_20 rfl (lv_at hl 0 rfl) ?_
      refine gt_X8_59 E K w 0 rfl rfl dX8_reads_21 ?_
      obtain ⟨J34, eJ34, hT19⟩ := bq_let_el hT19
      have K34 : ∀ (H : Heap) (locs : List Loc) (ls : Array Slot), J34 () = some oo19 → bq_w D A s.heap (wdX8_reads cI a_t a_t_readBacks a_t_readOuts a_t_readPauses a_t_text u_t_rig u_t_trial u_t_strokes u_t_outs u_t_backs u_t_pauses u_t_cuts t_6 t_readBacks_7 t_readOuts_8 t_readPauses_9 t_text) H locs → lv_has ls 4 [(0, .ref a_t), (1, .int i5), (2, .int i4)] → W p l e rmX8_reads s m av9 below meth c H locs 0 0 Q (F0 m 34 ls []) := by
        intro H locs ls hJ w hl
        replace hJ := bq_ap1 eJ34 hJ
        refine lv_aload_n hx hb dX8_reads_34 rfl (lv_at hl 0 rfl) ?_
        refine gt_X8_65 E K w 0 rfl rfl dX8_reads_35 ?_
        refine lv_bipush (v := 16) hx hb dX8_reads_38 (by decide) ?_
        obtain ⟨v17, t_18, t_readBacks_19, t_readOuts_20, t_readPauses_21, hT54, hJ⟩ := bq_b5_el hJ
        have K54 : ∀ (H : Heap) (locs : List Loc) (ls : Array Slot), bq_w D A s.heap (wdX8_reads cI a_t a_t_readBacks a_t_readOuts a_t_readPauses a_t_text u_t_rig u_t_trial u_t_strokes u_t_outs u_t_backs u_t_pauses u_t_cuts t_18 t_readBacks_19 t_readOuts_20 t_readPauses_21 t_text) H locs → lv_has ls 4 [(0, .ref a_t), (2, .int i4)] → W p l e rmX8_reads s m av9 below meth c H locs 0 0 Q (F0 m 54 ls [.int v17]) := by
          intro H locs ls w hl
          refine lv_istore_n (lv' := [(3, .int v17), (0, .ref a_t), (2, .int i4)]) hx hb dX8_reads_54 rfl hl (by decide) rfl (fun ls hl => ?_)
          refine lv_iload_n hx hb dX8_reads_55 rfl (lv_at hl 0 rfl) ?_
          refine lv_if_ge (tgt := 73) hx hb dX8_reads_56 (by decide) (fun hc => ?_) (fun hc => ?_)
          · replace hJ := bq_t hc hJ
            clear hc
            refine lv_iload_n hx hb dX8_reads_73 rfl (lv_at hl 2 rfl) ?_
            obtain ⟨v27, hT94, hJ⟩ := bq_bd_el hJ
            have K94 : ∀ (H : Heap) (locs : List Loc) (ls : Array Slot), bq_w D A s.heap (wdX8_reads cI a_t a_t_readBacks a_t_readOuts a_t_readPauses a_t_text u_t_rig u_t_trial u_t_strokes u_t_outs u_t_backs u_t_pauses u_t_cuts t_18 t_readBacks_19 t_readOuts_20 t_readPauses_21 t_text) H locs → lv_has ls 4 [(0, .ref a_t), (3, .int v17)] → W p l e rmX8_reads s m av9 below meth c H locs 0 0 Q (F0 m 94 ls [.int v27]) := by
              intro H locs ls w hl
              refine lv_istore_n (lv' := [(2, .int v27), (0, .ref a_t), (3, .int v17)]) hx hb dX8_reads_94 rfl hl (by decide) rfl (fun ls hl => ?_)
              refine lv_iload_n hx hb dX8_reads_95 rfl (lv_at hl 2 rfl) ?_
              refine lv_istore_n (lv' := [(1, .int v17), (2, .int v27), (0, .ref a_t), (3, .int v17)]) hx hb dX8_reads_96 rfl hl (by decide) rfl (fun ls hl => ?_)
              refine lv_aload_n hx hb dX8_reads_97 rfl (lv_at hl 2 rfl) ?_
              refine lv_dup hx hb dX8_reads_98 rfl ?_
              refine gt_X8_65 E K w 0 rfl rfl dX8_reads_99 ?_
              refine lv_iconst (v := 1) hx hb dX8_reads_102 (by decide) ?_
              refine lv_iadd hx hb dX8_reads_103 ?_
              obtain ⟨t_28, e9, hJ⟩ := bq_let_el hJ
              refine pt_X8_65 E K w 0 rfl (Nat.le_of_ble_eq_true rfl) dX8_reads_104 (fun H locs w => ?_)
              replace w : bq_w D A s.heap (wdX8_reads cI a_t a_t_readBacks a_t_readOuts a_t_readPauses a_t_text u_t_rig u_t_trial u_t_strokes u_t_outs u_t_backs u_t_pauses u_t_cuts t_28 t_readBacks_19 t_readOuts_20 t_readPauses_21 t_text) H locs := by rw [e9]; exact w
              clear e9
              refine lv_goto (tgt := 19) hx hb dX8_reads_107 (by decide) ?_
              obtain rfl := Option.some.inj hJ
              exact ih v27 v17 t_28 t_readBacks_19 t_readOuts_20 t_readPauses_21 H locs ls hR19 w (lv_sub hl [2, 0, 1] rfl)
            clear hJ
            refine lv_if_ne (tgt := 89) hx hb dX8_reads_74 (by decide) (fun hc => ?_) (fun hc => ?_)
            · replace hT94 := bq_f hc hT94
              clear hc
              refine lv_iconst (v := 1) hx hb dX8_reads_89 (by decide) ?_
              refine lv_goto (tgt := 94) hx hb dX8_reads_90 (by decide) ?_
              obtain rfl := Option.some.inj hT94
              exact K94 H locs ls w (lv_sub hl [1, 0] rfl)
            · replace hT94 := bq_t hc hT94
              clear hc
              refine lv_aload_n hx hb dX8_reads_77 rfl (lv_at hl 1 rfl) ?_
              refine gt_X8_40 E K w 0 rfl rfl dX8_reads_78 ?_
              refine lv_aload_n hx hb dX8_reads_81 rfl (lv_at hl 1 rfl) ?_
              refine gt_X8_65 E K w 0 rfl rfl dX8_reads_82 ?_
              obtain ⟨hI, hT94⟩ := bq_ci_el hT94
              refine bq_ald E K w 3 rfl hI dX8_reads_85 ?_
              refine lv_if_ne (tgt := 93) hx hb dX8_reads_86 (by decide) (fun hc => ?_) (fun hc => ?_)
              · replace hT94 := bq_f hc hT94
                clear hc
                refine lv_iconst (v := 0) hx hb dX8_reads_93 (by decide) ?_
                obtain rfl := Option.some.inj hT94
                exact K94 H locs ls w (lv_sub hl [1, 0] rfl)
              · replace hT94 := bq_t hc hT94
                clear hc
                refine lv_iconst (v := 1) hx hb dX8_reads_89 (by decide) ?_
                refine lv_goto (tgt := 94) hx hb dX8_reads_90 (by decide) ?_
                obtain rfl := Option.some.inj hT94
                exact K94 H locs ls w (lv_sub hl [1, 0] rfl)
          · replace hJ := bq_f hc hJ
            clear hc
            obtain rfl := Option.some.inj hJ
            replace hR19 := bq_lk_r hR19
            exact X59 v17 t_18 t_readBacks_19 t_readOuts_20 t_readPauses_21 hR19.symm H locs ls w (lv_sub hl [1, 0] rfl)
        clear hJ
        refine lv_icmp_ne (tgt := 49) hx hb dX8_reads_40 (by decide) (fun hc => ?_) (fun hc => ?_)
        · replace hT54 := bq_f hc hT54
          clear hc
          refine lv_aload_n hx hb dX8_reads_49 rfl (lv_at hl 0 rfl) ?_
          refine lv_iload_n hx hb dX8_reads_50 rfl (lv_at hl 1 rfl) ?_
          obtain ⟨v22, t_23, t_readBacks_24, t_readOuts_25, t_readPauses_26, hC, hT54⟩ := bq_b5_el hT54
          refine bq_V (As := [.int i5]) (rest := []) (st1 := [.int v22]) (ws' := wdX8_reads cI a_t a_t_readBacks a_t_readOuts a_t_readPauses a_t_text u_t_rig u_t_trial u_t_strokes u_t_outs u_t_backs u_t_pauses u_t_cuts t_23 t_readBacks_24 t_readOuts_25 t_readPauses_26 t_text) E K w hA (kX8_readsStep l D cI cJ a_t a_t_readBacks a_t_readOuts a_t_readPauses a_t_text u_t_rig u_t_trial u_t_strokes u_t_outs u_t_backs u_t_pauses u_t_cuts t_6 t_readBacks_7 t_readOuts_8 t_readPauses_9 t_text i5 v22 t_23 t_readBacks_24 t_readOuts_25 t_readPauses_26 hC) (bq_gV ml_X8_91 im_X8_readsStep sl_X8_readsStep in_X8 cd_X8_readsStep) hd_X8_readsStep ⟨Nat.le_of_ble_eq_true rfl, Nat.le_of_ble_eq_true rfl⟩ ⟨Nat.le_of_ble_eq_true rfl, Nat.le_of_ble_eq_true rfl⟩ ⟨[0, 1, 2, 3, 4], [], [0, 1, 2, 3, 4], rfl, rfl, rfl, rfl, rfl, rfl, rfl, rfl, rfl⟩ 0 rfl rfl rfl hl.1 rfl (Nat.le_of_ble_eq_true rfl) rfl dX8_reads_51 (fun H locs w => bq_z ⟨rfl, rfl⟩ ?_)
          clear hC
          obtain ⟨rfl, rfl, rfl, rfl, rfl⟩ := bq_in5 (Option.some.inj hT54)
          exact K54 H locs ls w (lv_sub hl [0, 2] rfl)
        · replace hT54 := bq_t hc hT54
          clear hc
          refine lv_iconst (v := (-1)) hx hb dX8_reads_43 (by decide) ?_
          refine lv_iload_n hx hb dX8_reads_44 rfl (lv_at hl 1 rfl) ?_
          refine lv_isub hx hb dX8_reads_45 ?_
          refine lv_goto (tgt := 54) hx hb dX8_reads_46 (by decide) ?_
          obtain ⟨rfl, rfl, rfl, rfl, rfl⟩ := bq_in5 (Option.some.inj hT54)
          exact K54 H locs ls w (lv_sub hl [0, 2] rfl)
      refine lv_icmp_lt (tgt := 34) hx hb dX8_reads_24 (by decide) (fun hc => ?_) (fun hc => ?_)
      · replace hT19 := bq_t hc hT19
        clear hc
        exact K34 H locs ls hT19 w (lv_sub hl [0, 1, 2] rfl)
      · replace hT19 := bq_f hc hT19
        clear hc
        refine lv_aload_n hx hb dX8_reads_27 rfl (lv_at hl 0 rfl) ?_
        refine gt_X8_65 E K w 0 rfl rfl dX8_reads_28 ?_
        refine lv_if_ne (tgt := 110) hx hb dX8_reads_31 (by decide) (fun hc => ?_) (fun hc => ?_)
        · replace hT19 := bq_f hc hT19
          clear hc
          refine lv_aload_n hx hb dX8_reads_110 rfl (lv_at hl 0 rfl) ?_
          refine lv_aload_n hx hb dX8_reads_111 rfl (lv_at hl 0 rfl) ?_
          refine gt_X8_68 E K w 0 rfl rfl dX8_reads_112 ?_
          obtain ⟨v29, hT138, hT19⟩ := bq_let_el hT19
          have K138 : ∀ (H : Heap) (locs : List Loc) (ls : Array Slot), bq_w D A s.heap (wdX8_reads cI a_t a_t_readBacks a_t_readOuts a_t_readPauses a_t_text u_t_rig u_t_trial u_t_strokes u_t_outs u_t_backs u_t_pauses u_t_cuts t_6 t_readBacks_7 t_readOuts_8 t_readPauses_9 t_text) H locs → lv_has ls 4 [(0, .ref a_t)] → W p l e rmX8_reads s m av9 below meth c H locs 0 0 Q (F0 m 138 ls [.int v29, .ref a_t]) := by
            intro H locs ls w hl
            obtain ⟨t_30, e9, hT19⟩ := bq_let_el hT19
            refine pt_X8_94 E K w 0 rfl (Nat.le_of_ble_eq_true rfl) dX8_reads_138 (fun H locs w => ?_)
            replace w : bq_w D A s.heap (wdX8_reads cI a_t a_t_readBacks a_t_readOuts a_t_readPauses a_t_text u_t_rig u_t_trial u_t_strokes u_t_outs u_t_backs u_t_pauses u_t_cuts t_30 t_readBacks_7 t_readOuts_8 t_readPauses_9 t_text) H locs := by rw [e9]; exact w
            clear e9
            refine lv_aload_n hx hb dX8_reads_141 rfl (lv_at hl 0 rfl) ?_
            refine lv_aload_n hx hb dX8_reads_142 rfl (lv_at hl 0 rfl) ?_
            refine gt_X8_68 E K w 0 rfl rfl dX8_reads_143 ?_
            obtain ⟨v31, hT160, hT19⟩ := bq_let_el hT19
            have K160 : ∀ (H : Heap) (locs : List Loc) (ls : Array Slot), bq_w D A s.heap (wdX8_reads cI a_t a_t_readBacks a_t_readOuts a_t_readPauses a_t_text u_t_rig u_t_trial u_t_strokes u_t_outs u_t_backs u_t_pauses u_t_cuts t_30 t_readBacks_7 t_readOuts_8 t_readPauses_9 t_text) H locs → lv_has ls 4 [(0, .ref a_t)] → W p l e rmX8_reads s m av9 below meth c H locs 0 0 Q (F0 m 160 ls [.int v31, .ref a_t]) := by
              intro H locs ls w hl
              obtain ⟨t_32, e9, hT19⟩ := bq_let_el hT19
              refine pt_X8_97 E K w 0 rfl (Nat.le_of_ble_eq_true rfl) dX8_reads_160 (fun H locs w => ?_)
              replace w : bq_w D A s.heap (wdX8_reads cI a_t a_t_readBacks a_t_readOuts a_t_readPauses a_t_text u_t_rig u_t_trial u_t_strokes u_t_outs u_t_backs u_t_pauses u_t_cuts t_32 t_readBacks_7 t_readOuts_8 t_readPauses_9 t_text) H locs := by rw [e9]; exact w
              clear e9
              refine lv_aload_n hx hb dX8_reads_163 rfl (lv_at hl 0 rfl) ?_
              refine gt_X8_94 E K w 0 rfl rfl dX8_reads_164 ?_
              obtain ⟨v33, hT175, hT19⟩ := bq_let_el hT19
              have K175 : ∀ (H : Heap) (locs : List Loc) (ls : Array Slot), bq_w D A s.heap (wdX8_reads cI a_t a_t_readBacks a_t_readOuts a_t_readPauses a_t_text u_t_rig u_t_trial u_t_strokes u_t_outs u_t_backs u_t_pauses u_t_cuts t_32 t_readBacks_7 t_readOuts_8 t_readPauses_9 t_text) H locs → lv_has ls 4 [] → W p l e rmX8_reads s m av9 below meth c H locs 0 0 Q (F0 m 175 ls [.int v33]) := by
                intro H locs ls w hl
                obtain ⟨hB, hT19⟩ := bq_cb_el hT19
                obtain rfl := Option.some.inj hT19
                replace hR19 := bq_lk_r hR19
                subst hR19
                replace hm := bq_or5_r hm
                obtain ⟨rfl, rfl, rfl, rfl, rfl⟩ := bq_in5 (Option.some.inj hm)
                exact bq_zret E w hr hk hB dX8_reads_175 hQ
              clear hT19
              refine lv_if_ne (tgt := 174) hx hb dX8_reads_167 (by decide) (fun hc => ?_) (fun hc => ?_)
              · replace hT175 := bq_ef hc hT175
                clear hc
                refine lv_iconst (v := 0) hx hb dX8_reads_174 (by decide) ?_
                subst hT175
                exact K175 H locs ls w (lv_sub hl [] rfl)
              · replace hT175 := bq_et hc hT175
                clear hc
                refine lv_iconst (v := 1) hx hb dX8_reads_170 (by decide) ?_
                refine lv_goto (tgt := 175) hx hb dX8_reads_171 (by decide) ?_
                subst hT175
                exact K175 H locs ls w (lv_sub hl [] rfl)
            clear hT19
            refine lv_if_lt (tgt := 156) hx hb dX8_reads_146 (by decide) (fun hc => ?_) (fun hc => ?_)
            · replace hT160 := bq_et hc hT160
              clear hc
              refine lv_aload_n hx hb dX8_reads_156 rfl (lv_at hl 0 rfl) ?_
              refine gt_X8_59 E K w 0 rfl rfl dX8_reads_157 ?_
              subst hT160
              exact K160 H locs ls w (lv_sub hl [0] rfl)
            · replace hT160 := bq_ef hc hT160
              clear hc
              refine lv_aload_n hx hb dX8_reads_149 rfl (lv_at hl 0 rfl) ?_
              refine gt_X8_68 E K w 0 rfl rfl dX8_reads_150 ?_
              refine lv_goto (tgt := 160) hx hb dX8_reads_153 (by decide) ?_
              subst hT160
              exact K160 H locs ls w (lv_sub hl [0] rfl)
          clear hT19
          refine lv_if_lt (tgt := 122) hx hb dX8_reads_115 (by decide) (fun hc => ?_) (fun hc => ?_)
          · replace hT138 := bq_et hc hT138
            clear hc
            refine lv_aload_n hx hb dX8_reads_122 rfl (lv_at hl 0 rfl) ?_
            refine gt_X8_71 E K w 0 rfl rfl dX8_reads_123 ?_
            refine lv_if_ne (tgt := 133) hx hb dX8_reads_126 (by decide) (fun hc => ?_) (fun hc => ?_)
            · replace hT138 := bq_ef hc hT138
              clear hc
              refine lv_iconst (v := 3) hx hb dX8_reads_133 (by decide) ?_
              refine lv_goto (tgt := 138) hx hb dX8_reads_134 (by decide) ?_
              subst hT138
              exact K138 H locs ls w (lv_sub hl [0] rfl)
            · replace hT138 := bq_et hc hT138
              clear hc
              refine lv_iload_n hx hb dX8_reads_129 rfl (lv_at hl 2 rfl) ?_
              refine lv_if_ne (tgt := 137) hx hb dX8_reads_130 (by decide) (fun hc => ?_) (fun hc => ?_)
              · replace hT138 := bq_ef hc hT138
                clear hc
                refine lv_iconst (v := 0) hx hb dX8_reads_137 (by decide) ?_
                subst hT138
                exact K138 H locs ls w (lv_sub hl [0] rfl)
              · replace hT138 := bq_et hc hT138
                clear hc
                refine lv_iconst (v := 3) hx hb dX8_reads_133 (by decide) ?_
                refine lv_goto (tgt := 138) hx hb dX8_reads_134 (by decide) ?_
                subst hT138
                exact K138 H locs ls w (lv_sub hl [0] rfl)
          · replace hT138 := bq_ef hc hT138
            clear hc
            refine lv_iconst (v := 2) hx hb dX8_reads_118 (by decide) ?_
            refine lv_goto (tgt := 138) hx hb dX8_reads_119 (by decide) ?_
            subst hT138
            exact K138 H locs ls w (lv_sub hl [0] rfl)
        · replace hT19 := bq_t hc hT19
          clear hc
          exact K34 H locs ls hT19 w (lv_sub hl [0, 1, 2] rfl)
  exact L19 nn 0 0 t_3 t_readBacks t_readOuts t_readPauses H locs ls hL w (lv_sub hl [2, 1, 0] rfl)
abbrev wdX8_errorKind (cI : ClassId) (a_t u_t_rig u_t_trial u_t_strokes u_t_outs u_t_backs u_t_pauses u_t_cuts u_t_text u_t_readOuts u_t_readBacks u_t_readPauses : Nat) (t : Nat → Int32) : va_W := [(a_t, oX8 u_t_rig u_t_trial u_t_strokes u_t_outs u_t_backs u_t_pauses u_t_cuts u_t_text u_t_readOuts u_t_readBacks u_t_readPauses t)]
abbrev rmX8_errorKind : Room := { frames := 0, cells := 0, slots := 0, locals := 0 }
theorem hd_X8_errorKind : yX8_errorKind.cls = RX8 ∧ yX8_errorKind.cls ≠ "java/lang/invoke/MethodHandle" ∧ yX8_errorKind.cls ≠ "java/lang/invoke/VarHandle" ∧ (parseMethodDescriptor yX8_errorKind.desc).map (fun d => d.parameters.length) = some 0 := by decide +kernel
set_option maxHeartbeats 4000000 in
set_option maxRecDepth 100000 in
theorem kX8_errorKind (l : Launch) (D : va_G) (cI cJ : ClassId) (a_t u_t_rig u_t_trial u_t_strokes u_t_outs u_t_backs u_t_pauses u_t_cuts u_t_text u_t_readOuts u_t_readBacks u_t_readPauses : Nat) (t : Nat → Int32) (r : Int32) (t_o : Nat → Int32) (hm : mX8_errorKind t = some (r, t_o)) : bq_M l D cI cJ yX8_errorKind cX8_errorKind 1 (some .int) rmX8_errorKind [.ref a_t] (wdX8_errorKind cI a_t u_t_rig u_t_trial u_t_strokes u_t_outs u_t_backs u_t_pauses u_t_cuts u_t_text u_t_readOuts u_t_readBacks u_t_readPauses t) (wdX8_errorKind cI a_t u_t_rig u_t_trial u_t_strokes u_t_outs u_t_backs u_t_pauses u_t_cuts u_t_text u_t_readOuts u_t_readBacks u_t_readPauses t_o) (some (.int r)) := by
  refine bq_start (by decide) (Nat.le_of_ble_eq_true rfl) ?_
  intro p e s m av9 below meth c A ls Q H locs E K w hA hr hk hn hQ hl
  have E : bq_E p m c cX8_errorKind 1 s av9 RX8 := E
  have hx := E.1
  have hb := E.2.1
  have hl : lv_has ls 1 [(0, .ref a_t)] := hl
  unfold mX8_errorKind at hm
  refine lv_aload_n hx hb dX8_errorKind_0 rfl (lv_at hl 0 rfl) ?_
  refine lv_iconst (v := 0) hx hb dX8_errorKind_1 (by decide) ?_
  obtain ⟨t_1, e9, hm⟩ := bq_let_el hm
  refine pt_X8_47 E K w 0 rfl (Nat.le_of_ble_eq_true rfl) dX8_errorKind_2 (fun H locs w => ?_)
  replace w : bq_w D A s.heap (wdX8_errorKind cI a_t u_t_rig u_t_trial u_t_strokes u_t_outs u_t_backs u_t_pauses u_t_cuts u_t_text u_t_readOuts u_t_readBacks u_t_readPauses t_1) H locs := by rw [e9]; exact w
  clear e9
  refine lv_aload_n hx hb dX8_errorKind_5 rfl (lv_at hl 0 rfl) ?_
  refine gt_X8_94 E K w 0 rfl rfl dX8_errorKind_6 ?_
  obtain ⟨rfl, rfl⟩ := bq_in2 (Option.some.inj hm)
  exact bq_iret E w hr hk dX8_errorKind_9 hQ
abbrev wdX8_isStep (cI : ClassId) (a_t u_t_rig u_t_trial u_t_strokes u_t_outs u_t_backs u_t_pauses u_t_cuts u_t_text u_t_readOuts u_t_readBacks u_t_readPauses : Nat) (t : Nat → Int32) : va_W := [(a_t, oX8 u_t_rig u_t_trial u_t_strokes u_t_outs u_t_backs u_t_pauses u_t_cuts u_t_text u_t_readOuts u_t_readBacks u_t_readPauses t)]
abbrev rmX8_isStep : Room := { frames := 1, cells := 0, slots := 0, locals := 22 }
theorem hd_X8_isStep : yX8_isStep.cls = RX8 ∧ yX8_isStep.cls ≠ "java/lang/invoke/MethodHandle" ∧ yX8_isStep.cls ≠ "java/lang/invoke/VarHandle" ∧ (parseMethodDescriptor yX8_isStep.desc).map (fun d => d.parameters.length) = some 1 := by decide +kernel
set_option maxHeartbeats 4000000 in
set_option maxRecDepth 100000 in
theorem kX8_isStep (l : Launch) (D : va_G) (cI cJ : ClassId) (a_t u_t_rig u_t_trial u_t_strokes u_t_outs u_t_backs u_t_pauses u_t_cuts u_t_text u_t_readOuts u_t_readBacks u_t_readPauses : Nat) (t : Nat → Int32) (x1 : Int32) (r : Int32) (hm : mX8_isStep t x1 = some r) : bq_M l D cI cJ yX8_isStep cX8_isStep 2 (some .boolean) rmX8_isStep [.ref a_t, .int x1] (wdX8_isStep cI a_t u_t_rig u_t_trial u_t_strokes u_t_outs u_t_backs u_t_pauses u_t_cuts u_t_text u_t_readOuts u_t_readBacks u_t_readPauses t) (wdX8_isStep cI a_t u_t_rig u_t_trial u_t_strokes u_t_outs u_t_backs u_t_pauses u_t_cuts u_t_text u_t_readOuts u_t_readBacks u_t_readPauses t) (some (.int r)) := by
  refine bq_start (by decide) (Nat.le_of_ble_eq_true rfl) ?_
  intro p e s m av9 below meth c A ls Q H locs E K w hA hr hk hn hQ hl
  have E : bq_E p m c cX8_isStep 2 s av9 RX8 := E
  have hx := E.1
  have hb := E.2.1
  have hl : lv_has ls 2 [(0, .ref a_t), (1, .int x1)] := hl
  unfold mX8_isStep at hm
  refine lv_iload_n hx hb dX8_isStep_0 rfl (lv_at hl 1 rfl) ?_
  refine lv_iconst (v := 0) hx hb dX8_isStep_1 (by decide) ?_
  refine lv_aload_n hx hb dX8_isStep_2 rfl (lv_at hl 0 rfl) ?_
  refine gt_X8_104 E K w 0 rfl rfl dX8_isStep_3 ?_
  refine lv_iconst (v := 1) hx hb dX8_isStep_6 (by decide) ?_
  refine lv_isub hx hb dX8_isStep_7 ?_
  obtain ⟨v1, hC, hm⟩ := bq_bd_el hm
  refine bq_S0 (As := [.int x1, .int 0, .int ((t 4) - 1)]) (rest := []) (st1 := [.int v1]) E K w hA (kX8_in l D cI cJ x1 0 ((t 4) - 1) v1 hC) cd_X8_in ml_X8_51 in_X8 st_X8_in hs_X8_in ⟨Nat.le_of_ble_eq_true rfl, Nat.le_of_ble_eq_true rfl⟩ ⟨Nat.le_of_ble_eq_true rfl, Nat.le_of_ble_eq_true rfl⟩ rfl hl.1 rfl (Nat.le_of_ble_eq_true rfl) rfl dX8_isStep_8 (fun H locs w => bq_z ⟨rfl, rfl⟩ ?_)
  clear hC
  obtain ⟨hB, hm⟩ := bq_cb_el hm
  obtain rfl := Option.some.inj hm
  exact bq_zret E w hr hk hB dX8_isStep_11 hQ
abbrev wdX8_steps (cI : ClassId) (a_t u_t_rig u_t_trial u_t_strokes u_t_outs u_t_backs u_t_pauses u_t_cuts u_t_text u_t_readOuts u_t_readBacks u_t_readPauses : Nat) (t : Nat → Int32) : va_W := [(a_t, oX8 u_t_rig u_t_trial u_t_strokes u_t_outs u_t_backs u_t_pauses u_t_cuts u_t_text u_t_readOuts u_t_readBacks u_t_readPauses t)]
abbrev rmX8_steps : Room := { frames := 0, cells := 0, slots := 0, locals := 0 }
theorem hd_X8_steps : yX8_steps.cls = RX8 ∧ yX8_steps.cls ≠ "java/lang/invoke/MethodHandle" ∧ yX8_steps.cls ≠ "java/lang/invoke/VarHandle" ∧ (parseMethodDescriptor yX8_steps.desc).map (fun d => d.parameters.length) = some 0 := by decide +kernel
set_option maxHeartbeats 4000000 in
set_option maxRecDepth 100000 in
theorem kX8_steps (l : Launch) (D : va_G) (cI cJ : ClassId) (a_t u_t_rig u_t_trial u_t_strokes u_t_outs u_t_backs u_t_pauses u_t_cuts u_t_text u_t_readOuts u_t_readBacks u_t_readPauses : Nat) (t : Nat → Int32) (r : Int32) (t_o : Nat → Int32) (hm : mX8_steps t = some (r, t_o)) : bq_M l D cI cJ yX8_steps cX8_steps 1 (some .int) rmX8_steps [.ref a_t] (wdX8_steps cI a_t u_t_rig u_t_trial u_t_strokes u_t_outs u_t_backs u_t_pauses u_t_cuts u_t_text u_t_readOuts u_t_readBacks u_t_readPauses t) (wdX8_steps cI a_t u_t_rig u_t_trial u_t_strokes u_t_outs u_t_backs u_t_pauses u_t_cuts u_t_text u_t_readOuts u_t_readBacks u_t_readPauses t_o) (some (.int r)) := by
  refine bq_start (by decide) (Nat.le_of_ble_eq_true rfl) ?_
  intro p e s m av9 below meth c A ls Q H locs E K w hA hr hk hn hQ hl
  have E : bq_E p m c cX8_steps 1 s av9 RX8 := E
  have hx := E.1
  have hb := E.2.1
  have hl : lv_has ls 1 [(0, .ref a_t)] := hl
  unfold mX8_steps at hm
  refine lv_aload_n hx hb dX8_steps_0 rfl (lv_at hl 0 rfl) ?_
  refine lv_iconst (v := 0) hx hb dX8_steps_1 (by decide) ?_
  obtain ⟨t_1, e9, hm⟩ := bq_let_el hm
  refine pt_X8_47 E K w 0 rfl (Nat.le_of_ble_eq_true rfl) dX8_steps_2 (fun H locs w => ?_)
  replace w : bq_w D A s.heap (wdX8_steps cI a_t u_t_rig u_t_trial u_t_strokes u_t_outs u_t_backs u_t_pauses u_t_cuts u_t_text u_t_readOuts u_t_readBacks u_t_readPauses t_1) H locs := by rw [e9]; exact w
  clear e9
  refine lv_aload_n hx hb dX8_steps_5 rfl (lv_at hl 0 rfl) ?_
  refine gt_X8_104 E K w 0 rfl rfl dX8_steps_6 ?_
  obtain ⟨rfl, rfl⟩ := bq_in2 (Option.some.inj hm)
  exact bq_iret E w hr hk dX8_steps_9 hQ
abbrev wdX8_moves (cI : ClassId) (a_t a_t_backs a_t_outs u_t_rig u_t_trial u_t_strokes u_t_pauses u_t_cuts u_t_text u_t_readOuts u_t_readBacks u_t_readPauses : Nat) (t : Nat → Int32) (t_backs : Nat → Int32) (t_outs : Nat → Int32) : va_W := [(a_t, oX8 u_t_rig u_t_trial u_t_strokes a_t_outs a_t_backs u_t_pauses u_t_cuts u_t_text u_t_readOuts u_t_readBacks u_t_readPauses t), (a_t_backs, oA cI 16 t_backs), (a_t_outs, oA cI 16 t_outs)]
abbrev rmX8_moves : Room := { frames := 2, cells := 0, slots := 0, locals := 43 }
theorem hd_X8_moves : yX8_moves.cls = RX8 ∧ yX8_moves.cls ≠ "java/lang/invoke/MethodHandle" ∧ yX8_moves.cls ≠ "java/lang/invoke/VarHandle" ∧ (parseMethodDescriptor yX8_moves.desc).map (fun d => d.parameters.length) = some 1 := by decide +kernel
set_option maxHeartbeats 4000000 in
set_option maxRecDepth 100000 in
theorem kX8_moves (l : Launch) (D : va_G) (cI cJ : ClassId) (a_t a_t_backs a_t_outs u_t_rig u_t_trial u_t_strokes u_t_pauses u_t_cuts u_t_text u_t_readOuts u_t_readBacks u_t_readPauses : Nat) (t t_backs t_outs : Nat → Int32) (x1 : Int32) (r : Int32) (t_o : Nat → Int32) (hm : mX8_moves t t_backs t_outs x1 = some (r, t_o)) : bq_M l D cI cJ yX8_moves cX8_moves 2 (some .int) rmX8_moves [.ref a_t, .int x1] (wdX8_moves cI a_t a_t_backs a_t_outs u_t_rig u_t_trial u_t_strokes u_t_pauses u_t_cuts u_t_text u_t_readOuts u_t_readBacks u_t_readPauses t t_backs t_outs) (wdX8_moves cI a_t a_t_backs a_t_outs u_t_rig u_t_trial u_t_strokes u_t_pauses u_t_cuts u_t_text u_t_readOuts u_t_readBacks u_t_readPauses t_o t_backs t_outs) (some (.int r)) := by
  refine bq_start (by decide) (Nat.le_of_ble_eq_true rfl) ?_
  intro p e s m av9 below meth c A ls Q H locs E K w hA hr hk hn hQ hl
  have E : bq_E p m c cX8_moves 2 s av9 RX8 := E
  have hx := E.1
  have hb := E.2.1
  have hl : lv_has ls 2 [(0, .ref a_t), (1, .int x1)] := hl
  unfold mX8_moves at hm
  refine lv_aload_n hx hb dX8_moves_0 rfl (lv_at hl 0 rfl) ?_
  refine lv_iconst (v := 0) hx hb dX8_moves_1 (by decide) ?_
  obtain ⟨t_1, e9, hm⟩ := bq_let_el hm
  refine pt_X8_47 E K w 0 rfl (Nat.le_of_ble_eq_true rfl) dX8_moves_2 (fun H locs w => ?_)
  replace w : bq_w D A s.heap (wdX8_moves cI a_t a_t_backs a_t_outs u_t_rig u_t_trial u_t_strokes u_t_pauses u_t_cuts u_t_text u_t_readOuts u_t_readBacks u_t_readPauses t_1 t_backs t_outs) H locs := by rw [e9]; exact w
  clear e9
  refine lv_aload_n hx hb dX8_moves_5 rfl (lv_at hl 0 rfl) ?_
  refine lv_iload_n hx hb dX8_moves_6 rfl (lv_at hl 1 rfl) ?_
  obtain ⟨v2, hC, hm⟩ := bq_bd_el hm
  refine bq_V (As := [.int x1]) (rest := []) (st1 := [.int v2]) (ws' := wdX8_moves cI a_t a_t_backs a_t_outs u_t_rig u_t_trial u_t_strokes u_t_pauses u_t_cuts u_t_text u_t_readOuts u_t_readBacks u_t_readPauses t_1 t_backs t_outs) E K w hA (kX8_isStep l D cI cJ a_t u_t_rig u_t_trial u_t_strokes a_t_outs a_t_backs u_t_pauses u_t_cuts u_t_text u_t_readOuts u_t_readBacks u_t_readPauses t_1 x1 v2 hC) (bq_gV ml_X8_110 im_X8_isStep sl_X8_isStep in_X8 cd_X8_isStep) hd_X8_isStep ⟨Nat.le_of_ble_eq_true rfl, Nat.le_of_ble_eq_true rfl⟩ ⟨Nat.le_of_ble_eq_true rfl, Nat.le_of_ble_eq_true rfl⟩ ⟨[0], [1, 2], [2, 0, 1], rfl, rfl, rfl, rfl, rfl, rfl, rfl, rfl, rfl⟩ 0 rfl rfl rfl hl.1 rfl (Nat.le_of_ble_eq_true rfl) rfl dX8_moves_7 (fun H locs w => bq_z ⟨rfl, rfl⟩ ?_)
  clear hC
  obtain ⟨v3, t_4, hT34, hm⟩ := bq_b2_el hm
  have K34 : ∀ (H : Heap) (locs : List Loc) (ls : Array Slot), bq_w D A s.heap (wdX8_moves cI a_t a_t_backs a_t_outs u_t_rig u_t_trial u_t_strokes u_t_pauses u_t_cuts u_t_text u_t_readOuts u_t_readBacks u_t_readPauses t_4 t_backs t_outs) H locs → lv_has ls 2 [] → W p l e rmX8_moves s m av9 below meth c H locs 0 0 Q (F0 m 34 ls [.int v3]) := by
    intro H locs ls w hl
    obtain ⟨rfl, rfl⟩ := bq_in2 (Option.some.inj hm)
    exact bq_iret E w hr hk dX8_moves_34 hQ
  clear hm
  refine lv_if_eq (tgt := 29) hx hb dX8_moves_10 (by decide) (fun hc => ?_) (fun hc => ?_)
  · replace hT34 := bq_t hc hT34
    clear hc
    refine lv_aload_n hx hb dX8_moves_29 rfl (lv_at hl 0 rfl) ?_
    refine lv_iconst (v := 1) hx hb dX8_moves_30 (by decide) ?_
    obtain ⟨v5, t_6, hC, hT34⟩ := bq_b2_el hT34
    refine bq_V (As := [.int 1]) (rest := []) (st1 := [.int v5]) (ws' := wdX8_moves cI a_t a_t_backs a_t_outs u_t_rig u_t_trial u_t_strokes u_t_pauses u_t_cuts u_t_text u_t_readOuts u_t_readBacks u_t_readPauses t_6 t_backs t_outs) E K w hA (kX8_fails l D cI cJ a_t u_t_rig u_t_trial u_t_strokes a_t_outs a_t_backs u_t_pauses u_t_cuts u_t_text u_t_readOuts u_t_readBacks u_t_readPauses t_1 1 v5 t_6 hC) (bq_gV ml_X8_55 im_X8_fails sl_X8_fails in_X8 cd_X8_fails) hd_X8_fails ⟨Nat.le_of_ble_eq_true rfl, Nat.le_of_ble_eq_true rfl⟩ ⟨Nat.le_of_ble_eq_true rfl, Nat.le_of_ble_eq_true rfl⟩ ⟨[0], [1, 2], [2, 0, 1], rfl, rfl, rfl, rfl, rfl, rfl, rfl, rfl, rfl⟩ 0 rfl rfl rfl hl.1 rfl (Nat.le_of_ble_eq_true rfl) rfl dX8_moves_31 (fun H locs w => bq_z ⟨rfl, rfl⟩ ?_)
    clear hC
    obtain ⟨rfl, rfl⟩ := bq_in2 (Option.some.inj hT34)
    exact K34 H locs ls w (lv_sub hl [] rfl)
  · replace hT34 := bq_f hc hT34
    clear hc
    refine lv_aload_n hx hb dX8_moves_13 rfl (lv_at hl 0 rfl) ?_
    refine gt_X8_19 E K w 0 rfl rfl dX8_moves_14 ?_
    refine lv_iload_n hx hb dX8_moves_17 rfl (lv_at hl 1 rfl) ?_
    obtain ⟨hI, hT34⟩ := bq_ci_el hT34
    refine bq_ald E K w 2 rfl hI dX8_moves_18 ?_
    refine lv_aload_n hx hb dX8_moves_19 rfl (lv_at hl 0 rfl) ?_
    refine gt_X8_22 E K w 0 rfl rfl dX8_moves_20 ?_
    refine lv_iload_n hx hb dX8_moves_23 rfl (lv_at hl 1 rfl) ?_
    obtain ⟨hI, hT34⟩ := bq_ci_el hT34
    refine bq_ald E K w 1 rfl hI dX8_moves_24 ?_
    refine lv_ior hx hb dX8_moves_25 ?_
    refine lv_goto (tgt := 34) hx hb dX8_moves_26 (by decide) ?_
    obtain ⟨rfl, rfl⟩ := bq_in2 (Option.some.inj hT34)
    exact K34 H locs ls w (lv_sub hl [] rfl)
abbrev wdX8_directionOf (cI : ClassId) (a_t a_t_backs a_t_outs u_t_rig u_t_trial u_t_strokes u_t_pauses u_t_cuts u_t_text u_t_readOuts u_t_readBacks u_t_readPauses : Nat) (t : Nat → Int32) (t_backs : Nat → Int32) (t_outs : Nat → Int32) : va_W := [(a_t, oX8 u_t_rig u_t_trial u_t_strokes a_t_outs a_t_backs u_t_pauses u_t_cuts u_t_text u_t_readOuts u_t_readBacks u_t_readPauses t), (a_t_backs, oA cI 16 t_backs), (a_t_outs, oA cI 16 t_outs)]
abbrev rmX8_directionOf : Room := { frames := 0, cells := 0, slots := 0, locals := 0 }
theorem hd_X8_directionOf : yX8_directionOf.cls = RX8 ∧ yX8_directionOf.cls ≠ "java/lang/invoke/MethodHandle" ∧ yX8_directionOf.cls ≠ "java/lang/invoke/VarHandle" ∧ (parseMethodDescriptor yX8_directionOf.desc).map (fun d => d.parameters.length) = some 2 := by decide +kernel
set_option maxHeartbeats 4000000 in
set_option maxRecDepth 100000 in
theorem kX8_directionOf (l : Launch) (D : va_G) (cI cJ : ClassId) (a_t a_t_backs a_t_outs u_t_rig u_t_trial u_t_strokes u_t_pauses u_t_cuts u_t_text u_t_readOuts u_t_readBacks u_t_readPauses : Nat) (t t_backs t_outs : Nat → Int32) (x1 : Int32) (x2 : Int32) (r : Int32) (hm : mX8_directionOf t_backs t_outs x1 x2 = some r) : bq_M l D cI cJ yX8_directionOf cX8_directionOf 3 (some .int) rmX8_directionOf [.ref a_t, .int x1, .int x2] (wdX8_directionOf cI a_t a_t_backs a_t_outs u_t_rig u_t_trial u_t_strokes u_t_pauses u_t_cuts u_t_text u_t_readOuts u_t_readBacks u_t_readPauses t t_backs t_outs) (wdX8_directionOf cI a_t a_t_backs a_t_outs u_t_rig u_t_trial u_t_strokes u_t_pauses u_t_cuts u_t_text u_t_readOuts u_t_readBacks u_t_readPauses t t_backs t_outs) (some (.int r)) := by
  refine bq_start (by decide) (Nat.le_of_ble_eq_true rfl) ?_
  intro p e s m av9 below meth c A ls Q H locs E K w hA hr hk hn hQ hl
  have E : bq_E p m c cX8_directionOf 3 s av9 RX8 := E
  have hx := E.1
  have hb := E.2.1
  have hl : lv_has ls 3 [(0, .ref a_t), (1, .int x1), (2, .int x2)] := hl
  unfold mX8_directionOf at hm
  refine lv_aload_n hx hb dX8_directionOf_0 rfl (lv_at hl 0 rfl) ?_
  refine gt_X8_19 E K w 0 rfl rfl dX8_directionOf_1 ?_
  refine lv_iload_n hx hb dX8_directionOf_4 rfl (lv_at hl 1 rfl) ?_
  obtain ⟨hI, hm⟩ := bq_ci_el hm
  refine bq_ald E K w 2 rfl hI dX8_directionOf_5 ?_
  refine lv_iload_n hx hb dX8_directionOf_6 rfl (lv_at hl 2 rfl) ?_
  refine lv_ishr hx hb dX8_directionOf_7 ?_
  refine lv_iconst (v := 1) hx hb dX8_directionOf_8 (by decide) ?_
  refine lv_iand hx hb dX8_directionOf_9 ?_
  refine lv_aload_n hx hb dX8_directionOf_10 rfl (lv_at hl 0 rfl) ?_
  refine gt_X8_22 E K w 0 rfl rfl dX8_directionOf_11 ?_
  refine lv_iload_n hx hb dX8_directionOf_14 rfl (lv_at hl 1 rfl) ?_
  obtain ⟨hI, hm⟩ := bq_ci_el hm
  refine bq_ald E K w 1 rfl hI dX8_directionOf_15 ?_
  refine lv_iload_n hx hb dX8_directionOf_16 rfl (lv_at hl 2 rfl) ?_
  refine lv_ishr hx hb dX8_directionOf_17 ?_
  refine lv_iconst (v := 1) hx hb dX8_directionOf_18 (by decide) ?_
  refine lv_iand hx hb dX8_directionOf_19 ?_
  refine lv_isub hx hb dX8_directionOf_20 ?_
  obtain rfl := Option.some.inj hm
  exact bq_iret E w hr hk dX8_directionOf_21 hQ
abbrev wdX8_direction (cI : ClassId) (a_t a_t_backs a_t_outs u_t_rig u_t_trial u_t_strokes u_t_pauses u_t_cuts u_t_text u_t_readOuts u_t_readBacks u_t_readPauses : Nat) (t : Nat → Int32) (t_backs : Nat → Int32) (t_outs : Nat → Int32) : va_W := [(a_t, oX8 u_t_rig u_t_trial u_t_strokes a_t_outs a_t_backs u_t_pauses u_t_cuts u_t_text u_t_readOuts u_t_readBacks u_t_readPauses t), (a_t_backs, oA cI 16 t_backs), (a_t_outs, oA cI 16 t_outs)]
abbrev rmX8_direction : Room := { frames := 2, cells := 0, slots := 0, locals := 43 }
theorem hd_X8_direction : yX8_direction.cls = RX8 ∧ yX8_direction.cls ≠ "java/lang/invoke/MethodHandle" ∧ yX8_direction.cls ≠ "java/lang/invoke/VarHandle" ∧ (parseMethodDescriptor yX8_direction.desc).map (fun d => d.parameters.length) = some 2 := by decide +kernel
set_option maxHeartbeats 4000000 in
set_option maxRecDepth 100000 in
theorem kX8_direction (l : Launch) (D : va_G) (cI cJ : ClassId) (a_t a_t_backs a_t_outs u_t_rig u_t_trial u_t_strokes u_t_pauses u_t_cuts u_t_text u_t_readOuts u_t_readBacks u_t_readPauses : Nat) (t t_backs t_outs : Nat → Int32) (x1 : Int32) (x2 : Int32) (r : Int32) (t_o : Nat → Int32) (hm : mX8_direction t t_backs t_outs x1 x2 = some (r, t_o)) : bq_M l D cI cJ yX8_direction cX8_direction 3 (some .int) rmX8_direction [.ref a_t, .int x1, .int x2] (wdX8_direction cI a_t a_t_backs a_t_outs u_t_rig u_t_trial u_t_strokes u_t_pauses u_t_cuts u_t_text u_t_readOuts u_t_readBacks u_t_readPauses t t_backs t_outs) (wdX8_direction cI a_t a_t_backs a_t_outs u_t_rig u_t_trial u_t_strokes u_t_pauses u_t_cuts u_t_text u_t_readOuts u_t_readBacks u_t_readPauses t_o t_backs t_outs) (some (.int r)) := by
  refine bq_start (by decide) (Nat.le_of_ble_eq_true rfl) ?_
  intro p e s m av9 below meth c A ls Q H locs E K w hA hr hk hn hQ hl
  have E : bq_E p m c cX8_direction 3 s av9 RX8 := E
  have hx := E.1
  have hb := E.2.1
  have hl : lv_has ls 3 [(0, .ref a_t), (1, .int x1), (2, .int x2)] := hl
  unfold mX8_direction at hm
  refine lv_aload_n hx hb dX8_direction_0 rfl (lv_at hl 0 rfl) ?_
  refine lv_iconst (v := 0) hx hb dX8_direction_1 (by decide) ?_
  obtain ⟨t_1, e9, hm⟩ := bq_let_el hm
  refine pt_X8_47 E K w 0 rfl (Nat.le_of_ble_eq_true rfl) dX8_direction_2 (fun H locs w => ?_)
  replace w : bq_w D A s.heap (wdX8_direction cI a_t a_t_backs a_t_outs u_t_rig u_t_trial u_t_strokes u_t_pauses u_t_cuts u_t_text u_t_readOuts u_t_readBacks u_t_readPauses t_1 t_backs t_outs) H locs := by rw [e9]; exact w
  clear e9
  refine lv_aload_n hx hb dX8_direction_5 rfl (lv_at hl 0 rfl) ?_
  refine lv_iload_n hx hb dX8_direction_6 rfl (lv_at hl 1 rfl) ?_
  obtain ⟨v2, hC, hm⟩ := bq_bd_el hm
  refine bq_V (As := [.int x1]) (rest := []) (st1 := [.int v2]) (ws' := wdX8_direction cI a_t a_t_backs a_t_outs u_t_rig u_t_trial u_t_strokes u_t_pauses u_t_cuts u_t_text u_t_readOuts u_t_readBacks u_t_readPauses t_1 t_backs t_outs) E K w hA (kX8_isStep l D cI cJ a_t u_t_rig u_t_trial u_t_strokes a_t_outs a_t_backs u_t_pauses u_t_cuts u_t_text u_t_readOuts u_t_readBacks u_t_readPauses t_1 x1 v2 hC) (bq_gV ml_X8_110 im_X8_isStep sl_X8_isStep in_X8 cd_X8_isStep) hd_X8_isStep ⟨Nat.le_of_ble_eq_true rfl, Nat.le_of_ble_eq_true rfl⟩ ⟨Nat.le_of_ble_eq_true rfl, Nat.le_of_ble_eq_true rfl⟩ ⟨[0], [1, 2], [2, 0, 1], rfl, rfl, rfl, rfl, rfl, rfl, rfl, rfl, rfl⟩ 0 rfl rfl rfl hl.1 rfl (Nat.le_of_ble_eq_true rfl) rfl dX8_direction_7 (fun H locs w => bq_z ⟨rfl, rfl⟩ ?_)
  clear hC
  obtain ⟨v3, t_4, hT36, hm⟩ := bq_b2_el hm
  have K36 : ∀ (H : Heap) (locs : List Loc) (ls : Array Slot), bq_w D A s.heap (wdX8_direction cI a_t a_t_backs a_t_outs u_t_rig u_t_trial u_t_strokes u_t_pauses u_t_cuts u_t_text u_t_readOuts u_t_readBacks u_t_readPauses t_4 t_backs t_outs) H locs → lv_has ls 3 [] → W p l e rmX8_direction s m av9 below meth c H locs 0 0 Q (F0 m 36 ls [.int v3]) := by
    intro H locs ls w hl
    obtain ⟨rfl, rfl⟩ := bq_in2 (Option.some.inj hm)
    exact bq_iret E w hr hk dX8_direction_36 hQ
  clear hm
  refine lv_if_eq (tgt := 31) hx hb dX8_direction_10 (by decide) (fun hc => ?_) (fun hc => ?_)
  · replace hT36 := bq_t hc hT36
    clear hc
    refine lv_aload_n hx hb dX8_direction_31 rfl (lv_at hl 0 rfl) ?_
    refine lv_iconst (v := 1) hx hb dX8_direction_32 (by decide) ?_
    obtain ⟨v5, t_6, hC, hT36⟩ := bq_b2_el hT36
    refine bq_V (As := [.int 1]) (rest := []) (st1 := [.int v5]) (ws' := wdX8_direction cI a_t a_t_backs a_t_outs u_t_rig u_t_trial u_t_strokes u_t_pauses u_t_cuts u_t_text u_t_readOuts u_t_readBacks u_t_readPauses t_6 t_backs t_outs) E K w hA (kX8_fails l D cI cJ a_t u_t_rig u_t_trial u_t_strokes a_t_outs a_t_backs u_t_pauses u_t_cuts u_t_text u_t_readOuts u_t_readBacks u_t_readPauses t_1 1 v5 t_6 hC) (bq_gV ml_X8_55 im_X8_fails sl_X8_fails in_X8 cd_X8_fails) hd_X8_fails ⟨Nat.le_of_ble_eq_true rfl, Nat.le_of_ble_eq_true rfl⟩ ⟨Nat.le_of_ble_eq_true rfl, Nat.le_of_ble_eq_true rfl⟩ ⟨[0], [1, 2], [2, 0, 1], rfl, rfl, rfl, rfl, rfl, rfl, rfl, rfl, rfl⟩ 0 rfl rfl rfl hl.1 rfl (Nat.le_of_ble_eq_true rfl) rfl dX8_direction_33 (fun H locs w => bq_z ⟨rfl, rfl⟩ ?_)
    clear hC
    obtain ⟨rfl, rfl⟩ := bq_in2 (Option.some.inj hT36)
    exact K36 H locs ls w (lv_sub hl [] rfl)
  · replace hT36 := bq_f hc hT36
    clear hc
    refine lv_iload_n hx hb dX8_direction_13 rfl (lv_at hl 2 rfl) ?_
    refine lv_iconst (v := 0) hx hb dX8_direction_14 (by decide) ?_
    refine lv_iconst (v := 5) hx hb dX8_direction_15 (by decide) ?_
    obtain ⟨v7, hC, hT36⟩ := bq_bd_el hT36
    refine bq_S0 (As := [.int x2, .int 0, .int 5]) (rest := []) (st1 := [.int v7]) E K w hA (kX8_in l D cI cJ x2 0 5 v7 hC) cd_X8_in ml_X8_51 in_X8 st_X8_in hs_X8_in ⟨Nat.le_of_ble_eq_true rfl, Nat.le_of_ble_eq_true rfl⟩ ⟨Nat.le_of_ble_eq_true rfl, Nat.le_of_ble_eq_true rfl⟩ rfl hl.1 rfl (Nat.le_of_ble_eq_true rfl) rfl dX8_direction_16 (fun H locs w => bq_z ⟨rfl, rfl⟩ ?_)
    clear hC
    refine lv_if_eq (tgt := 31) hx hb dX8_direction_19 (by decide) (fun hc => ?_) (fun hc => ?_)
    · replace hT36 := bq_t hc hT36
      clear hc
      refine lv_aload_n hx hb dX8_direction_31 rfl (lv_at hl 0 rfl) ?_
      refine lv_iconst (v := 1) hx hb dX8_direction_32 (by decide) ?_
      obtain ⟨v8, t_9, hC, hT36⟩ := bq_b2_el hT36
      refine bq_V (As := [.int 1]) (rest := []) (st1 := [.int v8]) (ws' := wdX8_direction cI a_t a_t_backs a_t_outs u_t_rig u_t_trial u_t_strokes u_t_pauses u_t_cuts u_t_text u_t_readOuts u_t_readBacks u_t_readPauses t_9 t_backs t_outs) E K w hA (kX8_fails l D cI cJ a_t u_t_rig u_t_trial u_t_strokes a_t_outs a_t_backs u_t_pauses u_t_cuts u_t_text u_t_readOuts u_t_readBacks u_t_readPauses t_1 1 v8 t_9 hC) (bq_gV ml_X8_55 im_X8_fails sl_X8_fails in_X8 cd_X8_fails) hd_X8_fails ⟨Nat.le_of_ble_eq_true rfl, Nat.le_of_ble_eq_true rfl⟩ ⟨Nat.le_of_ble_eq_true rfl, Nat.le_of_ble_eq_true rfl⟩ ⟨[0], [1, 2], [2, 0, 1], rfl, rfl, rfl, rfl, rfl, rfl, rfl, rfl, rfl⟩ 0 rfl rfl rfl hl.1 rfl (Nat.le_of_ble_eq_true rfl) rfl dX8_direction_33 (fun H locs w => bq_z ⟨rfl, rfl⟩ ?_)
      clear hC
      obtain ⟨rfl, rfl⟩ := bq_in2 (Option.some.inj hT36)
      exact K36 H locs ls w (lv_sub hl [] rfl)
    · replace hT36 := bq_f hc hT36
      clear hc
      refine lv_aload_n hx hb dX8_direction_22 rfl (lv_at hl 0 rfl) ?_
      refine lv_iload_n hx hb dX8_direction_23 rfl (lv_at hl 1 rfl) ?_
      refine lv_iload_n hx hb dX8_direction_24 rfl (lv_at hl 2 rfl) ?_
      obtain ⟨v10, hC, hT36⟩ := bq_bd_el hT36
      refine bq_V (As := [.int x1, .int x2]) (rest := []) (st1 := [.int v10]) (ws' := wdX8_direction cI a_t a_t_backs a_t_outs u_t_rig u_t_trial u_t_strokes u_t_pauses u_t_cuts u_t_text u_t_readOuts u_t_readBacks u_t_readPauses t_1 t_backs t_outs) E K w hA (kX8_directionOf l D cI cJ a_t a_t_backs a_t_outs u_t_rig u_t_trial u_t_strokes u_t_pauses u_t_cuts u_t_text u_t_readOuts u_t_readBacks u_t_readPauses t_1 t_backs t_outs x1 x2 v10 hC) (bq_gV ml_X8_113 im_X8_directionOf sl_X8_directionOf in_X8 cd_X8_directionOf) hd_X8_directionOf ⟨Nat.le_of_ble_eq_true rfl, Nat.le_of_ble_eq_true rfl⟩ ⟨Nat.le_of_ble_eq_true rfl, Nat.le_of_ble_eq_true rfl⟩ ⟨[0, 1, 2], [], [0, 1, 2], rfl, rfl, rfl, rfl, rfl, rfl, rfl, rfl, rfl⟩ 0 rfl rfl rfl hl.1 rfl (Nat.le_of_ble_eq_true rfl) rfl dX8_direction_25 (fun H locs w => bq_z ⟨rfl, rfl⟩ ?_)
      clear hC
      refine lv_goto (tgt := 36) hx hb dX8_direction_28 (by decide) ?_
      obtain ⟨rfl, rfl⟩ := bq_in2 (Option.some.inj hT36)
      exact K36 H locs ls w (lv_sub hl [] rfl)
abbrev wdX8_pause (cI : ClassId) (a_t a_t_pauses u_t_rig u_t_trial u_t_strokes u_t_outs u_t_backs u_t_cuts u_t_text u_t_readOuts u_t_readBacks u_t_readPauses : Nat) (t : Nat → Int32) (t_pauses : Nat → Int32) : va_W := [(a_t, oX8 u_t_rig u_t_trial u_t_strokes u_t_outs u_t_backs a_t_pauses u_t_cuts u_t_text u_t_readOuts u_t_readBacks u_t_readPauses t), (a_t_pauses, oA cI 16 t_pauses)]
abbrev rmX8_pause : Room := { frames := 2, cells := 0, slots := 0, locals := 43 }
theorem hd_X8_pause : yX8_pause.cls = RX8 ∧ yX8_pause.cls ≠ "java/lang/invoke/MethodHandle" ∧ yX8_pause.cls ≠ "java/lang/invoke/VarHandle" ∧ (parseMethodDescriptor yX8_pause.desc).map (fun d => d.parameters.length) = some 1 := by decide +kernel
set_option maxHeartbeats 4000000 in
set_option maxRecDepth 100000 in
theorem kX8_pause (l : Launch) (D : va_G) (cI cJ : ClassId) (a_t a_t_pauses u_t_rig u_t_trial u_t_strokes u_t_outs u_t_backs u_t_cuts u_t_text u_t_readOuts u_t_readBacks u_t_readPauses : Nat) (t t_pauses : Nat → Int32) (x1 : Int32) (r : Int32) (t_o : Nat → Int32) (hm : mX8_pause t t_pauses x1 = some (r, t_o)) : bq_M l D cI cJ yX8_pause cX8_pause 2 (some .int) rmX8_pause [.ref a_t, .int x1] (wdX8_pause cI a_t a_t_pauses u_t_rig u_t_trial u_t_strokes u_t_outs u_t_backs u_t_cuts u_t_text u_t_readOuts u_t_readBacks u_t_readPauses t t_pauses) (wdX8_pause cI a_t a_t_pauses u_t_rig u_t_trial u_t_strokes u_t_outs u_t_backs u_t_cuts u_t_text u_t_readOuts u_t_readBacks u_t_readPauses t_o t_pauses) (some (.int r)) := by
  refine bq_start (by decide) (Nat.le_of_ble_eq_true rfl) ?_
  intro p e s m av9 below meth c A ls Q H locs E K w hA hr hk hn hQ hl
  have E : bq_E p m c cX8_pause 2 s av9 RX8 := E
  have hx := E.1
  have hb := E.2.1
  have hl : lv_has ls 2 [(0, .ref a_t), (1, .int x1)] := hl
  unfold mX8_pause at hm
  refine lv_aload_n hx hb dX8_pause_0 rfl (lv_at hl 0 rfl) ?_
  refine lv_iconst (v := 0) hx hb dX8_pause_1 (by decide) ?_
  obtain ⟨t_1, e9, hm⟩ := bq_let_el hm
  refine pt_X8_47 E K w 0 rfl (Nat.le_of_ble_eq_true rfl) dX8_pause_2 (fun H locs w => ?_)
  replace w : bq_w D A s.heap (wdX8_pause cI a_t a_t_pauses u_t_rig u_t_trial u_t_strokes u_t_outs u_t_backs u_t_cuts u_t_text u_t_readOuts u_t_readBacks u_t_readPauses t_1 t_pauses) H locs := by rw [e9]; exact w
  clear e9
  refine lv_aload_n hx hb dX8_pause_5 rfl (lv_at hl 0 rfl) ?_
  refine lv_iload_n hx hb dX8_pause_6 rfl (lv_at hl 1 rfl) ?_
  obtain ⟨v2, hC, hm⟩ := bq_bd_el hm
  refine bq_V (As := [.int x1]) (rest := []) (st1 := [.int v2]) (ws' := wdX8_pause cI a_t a_t_pauses u_t_rig u_t_trial u_t_strokes u_t_outs u_t_backs u_t_cuts u_t_text u_t_readOuts u_t_readBacks u_t_readPauses t_1 t_pauses) E K w hA (kX8_isStep l D cI cJ a_t u_t_rig u_t_trial u_t_strokes u_t_outs u_t_backs a_t_pauses u_t_cuts u_t_text u_t_readOuts u_t_readBacks u_t_readPauses t_1 x1 v2 hC) (bq_gV ml_X8_110 im_X8_isStep sl_X8_isStep in_X8 cd_X8_isStep) hd_X8_isStep ⟨Nat.le_of_ble_eq_true rfl, Nat.le_of_ble_eq_true rfl⟩ ⟨Nat.le_of_ble_eq_true rfl, Nat.le_of_ble_eq_true rfl⟩ ⟨[0], [1], [1, 0], rfl, rfl, rfl, rfl, rfl, rfl, rfl, rfl, rfl⟩ 0 rfl rfl rfl hl.1 rfl (Nat.le_of_ble_eq_true rfl) rfl dX8_pause_7 (fun H locs w => bq_z ⟨rfl, rfl⟩ ?_)
  clear hC
  obtain ⟨v3, t_4, hT27, hm⟩ := bq_b2_el hm
  have K27 : ∀ (H : Heap) (locs : List Loc) (ls : Array Slot), bq_w D A s.heap (wdX8_pause cI a_t a_t_pauses u_t_rig u_t_trial u_t_strokes u_t_outs u_t_backs u_t_cuts u_t_text u_t_readOuts u_t_readBacks u_t_readPauses t_4 t_pauses) H locs → lv_has ls 2 [] → W p l e rmX8_pause s m av9 below meth c H locs 0 0 Q (F0 m 27 ls [.int v3]) := by
    intro H locs ls w hl
    obtain ⟨rfl, rfl⟩ := bq_in2 (Option.some.inj hm)
    exact bq_iret E w hr hk dX8_pause_27 hQ
  clear hm
  refine lv_if_eq (tgt := 22) hx hb dX8_pause_10 (by decide) (fun hc => ?_) (fun hc => ?_)
  · replace hT27 := bq_t hc hT27
    clear hc
    refine lv_aload_n hx hb dX8_pause_22 rfl (lv_at hl 0 rfl) ?_
    refine lv_iconst (v := 1) hx hb dX8_pause_23 (by decide) ?_
    obtain ⟨v5, t_6, hC, hT27⟩ := bq_b2_el hT27
    refine bq_V (As := [.int 1]) (rest := []) (st1 := [.int v5]) (ws' := wdX8_pause cI a_t a_t_pauses u_t_rig u_t_trial u_t_strokes u_t_outs u_t_backs u_t_cuts u_t_text u_t_readOuts u_t_readBacks u_t_readPauses t_6 t_pauses) E K w hA (kX8_fails l D cI cJ a_t u_t_rig u_t_trial u_t_strokes u_t_outs u_t_backs a_t_pauses u_t_cuts u_t_text u_t_readOuts u_t_readBacks u_t_readPauses t_1 1 v5 t_6 hC) (bq_gV ml_X8_55 im_X8_fails sl_X8_fails in_X8 cd_X8_fails) hd_X8_fails ⟨Nat.le_of_ble_eq_true rfl, Nat.le_of_ble_eq_true rfl⟩ ⟨Nat.le_of_ble_eq_true rfl, Nat.le_of_ble_eq_true rfl⟩ ⟨[0], [1], [1, 0], rfl, rfl, rfl, rfl, rfl, rfl, rfl, rfl, rfl⟩ 0 rfl rfl rfl hl.1 rfl (Nat.le_of_ble_eq_true rfl) rfl dX8_pause_24 (fun H locs w => bq_z ⟨rfl, rfl⟩ ?_)
    clear hC
    obtain ⟨rfl, rfl⟩ := bq_in2 (Option.some.inj hT27)
    exact K27 H locs ls w (lv_sub hl [] rfl)
  · replace hT27 := bq_f hc hT27
    clear hc
    refine lv_aload_n hx hb dX8_pause_13 rfl (lv_at hl 0 rfl) ?_
    refine gt_X8_25 E K w 0 rfl rfl dX8_pause_14 ?_
    refine lv_iload_n hx hb dX8_pause_17 rfl (lv_at hl 1 rfl) ?_
    obtain ⟨hI, hT27⟩ := bq_ci_el hT27
    refine bq_ald E K w 1 rfl hI dX8_pause_18 ?_
    refine lv_goto (tgt := 27) hx hb dX8_pause_19 (by decide) ?_
    obtain ⟨rfl, rfl⟩ := bq_in2 (Option.some.inj hT27)
    exact K27 H locs ls w (lv_sub hl [] rfl)
abbrev wdX8_before (cI : ClassId) (a_t u_t_rig u_t_trial u_t_strokes u_t_outs u_t_backs u_t_pauses u_t_cuts u_t_text u_t_readOuts u_t_readBacks u_t_readPauses : Nat) (t : Nat → Int32) : va_W := [(a_t, oX8 u_t_rig u_t_trial u_t_strokes u_t_outs u_t_backs u_t_pauses u_t_cuts u_t_text u_t_readOuts u_t_readBacks u_t_readPauses t)]
abbrev rmX8_before : Room := { frames := 0, cells := 0, slots := 0, locals := 0 }
theorem hd_X8_before : yX8_before.cls = RX8 ∧ yX8_before.cls ≠ "java/lang/invoke/MethodHandle" ∧ yX8_before.cls ≠ "java/lang/invoke/VarHandle" ∧ (parseMethodDescriptor yX8_before.desc).map (fun d => d.parameters.length) = some 1 := by decide +kernel
set_option maxHeartbeats 4000000 in
set_option maxRecDepth 100000 in
theorem kX8_before (l : Launch) (D : va_G) (cI cJ : ClassId) (a_t u_t_rig u_t_trial u_t_strokes u_t_outs u_t_backs u_t_pauses u_t_cuts u_t_text u_t_readOuts u_t_readBacks u_t_readPauses : Nat) (t : Nat → Int32) (x1 : Int32) (r : Int32) (hm : mX8_before t x1 = some r) : bq_M l D cI cJ yX8_before cX8_before 2 (some .int) rmX8_before [.ref a_t, .int x1] (wdX8_before cI a_t u_t_rig u_t_trial u_t_strokes u_t_outs u_t_backs u_t_pauses u_t_cuts u_t_text u_t_readOuts u_t_readBacks u_t_readPauses t) (wdX8_before cI a_t u_t_rig u_t_trial u_t_strokes u_t_outs u_t_backs u_t_pauses u_t_cuts u_t_text u_t_readOuts u_t_readBacks u_t_readPauses t) (some (.int r)) := by
  refine bq_start (by decide) (Nat.le_of_ble_eq_true rfl) ?_
  intro p e s m av9 below meth c A ls Q H locs E K w hA hr hk hn hQ hl
  have E : bq_E p m c cX8_before 2 s av9 RX8 := E
  have hx := E.1
  have hb := E.2.1
  have hl : lv_has ls 2 [(0, .ref a_t), (1, .int x1)] := hl
  unfold mX8_before at hm
  refine lv_iload_n hx hb dX8_before_0 rfl (lv_at hl 1 rfl) ?_
  obtain ⟨v1, hT16, hm⟩ := bq_let_el hm
  have K16 : ∀ (H : Heap) (locs : List Loc) (ls : Array Slot), bq_w D A s.heap (wdX8_before cI a_t u_t_rig u_t_trial u_t_strokes u_t_outs u_t_backs u_t_pauses u_t_cuts u_t_text u_t_readOuts u_t_readBacks u_t_readPauses t) H locs → lv_has ls 2 [] → W p l e rmX8_before s m av9 below meth c H locs 0 0 Q (F0 m 16 ls [.int v1]) := by
    intro H locs ls w hl
    obtain rfl := Option.some.inj hm
    exact bq_iret E w hr hk dX8_before_16 hQ
  clear hm
  refine lv_if_ne (tgt := 13) hx hb dX8_before_1 (by decide) (fun hc => ?_) (fun hc => ?_)
  · replace hT16 := bq_ef hc hT16
    clear hc
    refine lv_iload_n hx hb dX8_before_13 rfl (lv_at hl 1 rfl) ?_
    refine lv_iconst (v := 1) hx hb dX8_before_14 (by decide) ?_
    refine lv_isub hx hb dX8_before_15 ?_
    subst hT16
    exact K16 H locs ls w (lv_sub hl [] rfl)
  · replace hT16 := bq_et hc hT16
    clear hc
    refine lv_aload_n hx hb dX8_before_4 rfl (lv_at hl 0 rfl) ?_
    refine gt_X8_104 E K w 0 rfl rfl dX8_before_5 ?_
    refine lv_iconst (v := 1) hx hb dX8_before_8 (by decide) ?_
    refine lv_isub hx hb dX8_before_9 ?_
    refine lv_goto (tgt := 16) hx hb dX8_before_10 (by decide) ?_
    subst hT16
    exact K16 H locs ls w (lv_sub hl [] rfl)
abbrev wdX8_outBehind (cI : ClassId) (a_t a_t_backs a_t_outs u_t_rig u_t_trial u_t_strokes u_t_pauses u_t_cuts u_t_text u_t_readOuts u_t_readBacks u_t_readPauses : Nat) (t : Nat → Int32) (t_backs : Nat → Int32) (t_outs : Nat → Int32) : va_W := [(a_t, oX8 u_t_rig u_t_trial u_t_strokes a_t_outs a_t_backs u_t_pauses u_t_cuts u_t_text u_t_readOuts u_t_readBacks u_t_readPauses t), (a_t_backs, oA cI 16 t_backs), (a_t_outs, oA cI 16 t_outs)]
abbrev rmX8_outBehind : Room := { frames := 0, cells := 0, slots := 0, locals := 0 }
theorem hd_X8_outBehind : yX8_outBehind.cls = RX8 ∧ yX8_outBehind.cls ≠ "java/lang/invoke/MethodHandle" ∧ yX8_outBehind.cls ≠ "java/lang/invoke/VarHandle" ∧ (parseMethodDescriptor yX8_outBehind.desc).map (fun d => d.parameters.length) = some 1 := by decide +kernel
set_option maxHeartbeats 4000000 in
set_option maxRecDepth 100000 in
theorem kX8_outBehind (l : Launch) (D : va_G) (cI cJ : ClassId) (a_t a_t_backs a_t_outs u_t_rig u_t_trial u_t_strokes u_t_pauses u_t_cuts u_t_text u_t_readOuts u_t_readBacks u_t_readPauses : Nat) (t t_backs t_outs : Nat → Int32) (x1 : Int32) (r : Int32) (hm : mX8_outBehind t_backs t_outs x1 = some r) : bq_M l D cI cJ yX8_outBehind cX8_outBehind 4 (some .int) rmX8_outBehind [.ref a_t, .int x1] (wdX8_outBehind cI a_t a_t_backs a_t_outs u_t_rig u_t_trial u_t_strokes u_t_pauses u_t_cuts u_t_text u_t_readOuts u_t_readBacks u_t_readPauses t t_backs t_outs) (wdX8_outBehind cI a_t a_t_backs a_t_outs u_t_rig u_t_trial u_t_strokes u_t_pauses u_t_cuts u_t_text u_t_readOuts u_t_readBacks u_t_readPauses t t_backs t_outs) (some (.int r)) := by
  refine bq_start (by decide) (Nat.le_of_ble_eq_true rfl) ?_
  intro p e s m av9 below meth c A ls Q H locs E K w hA hr hk hn hQ hl
  have E : bq_E p m c cX8_outBehind 4 s av9 RX8 := E
  have hx := E.1
  have hb := E.2.1
  have hl : lv_has ls 4 [(0, .ref a_t), (1, .int x1)] := hl
  unfold mX8_outBehind at hm
  refine lv_iconst (v := 0) hx hb dX8_outBehind_0 (by decide) ?_
  refine lv_istore_n (lv' := [(2, .int 0), (0, .ref a_t), (1, .int x1)]) hx hb dX8_outBehind_1 rfl hl (by decide) rfl (fun ls hl => ?_)
  refine lv_iconst (v := 0) hx hb dX8_outBehind_2 (by decide) ?_
  refine lv_istore_n (lv' := [(3, .int 0), (2, .int 0), (0, .ref a_t), (1, .int x1)]) hx hb dX8_outBehind_3 rfl hl (by decide) rfl (fun ls hl => ?_)
  obtain ⟨v3, hL, hm⟩ := bq_bd_el hm
  obtain ⟨B, eB, nn, hL⟩ := bq_loop_B hL
  have X33 : ∀ (H : Heap) (locs : List Loc) (ls : Array Slot), bq_w D A s.heap (wdX8_outBehind cI a_t a_t_backs a_t_outs u_t_rig u_t_trial u_t_strokes u_t_pauses u_t_cuts u_t_text u_t_readOuts u_t_readBacks u_t_readPauses t t_backs t_outs) H locs → lv_has ls 4 [(2, .int v3)] → W p l e rmX8_outBehind s m av9 below meth c H locs 0 0 Q (F0 m 33 ls []) := by
    intro H locs ls w hl
    refine lv_iload_n hx hb dX8_outBehind_33 rfl (lv_at hl 0 rfl) ?_
    obtain rfl := Option.some.inj hm
    exact bq_iret E w hr hk dX8_outBehind_34 hQ
  clear hm
  have L4 : ∀ (nn : Nat) (i1 : Int32) (i2 : Int32) (H : Heap) (locs : List Loc) (ls : Array Slot), bq_lp B nn (i1, i2) = some v3 → bq_w D A s.heap (wdX8_outBehind cI a_t a_t_backs a_t_outs u_t_rig u_t_trial u_t_strokes u_t_pauses u_t_cuts u_t_text u_t_readOuts u_t_readBacks u_t_readPauses t t_backs t_outs) H locs → lv_has ls 4 [(0, .ref a_t), (1, .int x1), (2, .int i2), (3, .int i1)] → W p l e rmX8_outBehind s m av9 below meth c H locs 0 0 Q (F0 m 4 ls []) := by
    intro nn
    induction nn with
    | zero =>
      intro i1 i2 H locs ls hL w hl
      exact bq_lp_0 hL
    | succ nn ih =>
      intro i1 i2 H locs ls hL w hl
      obtain ⟨oo4, hT4, hR4⟩ := bq_lp_el hL
      clear hL
      replace hT4 := bq_u2_el eB hT4
      unfold bX8_outBehind_4 at hT4
      refine lv_iload_n hx hb dX8_outBehind_4 rfl (lv_at hl 3 rfl) ?_
      refine lv_iload_n hx hb dX8_outBehind_5 rfl (lv_at hl 1 rfl) ?_
      refine lv_icmp_ge (tgt := 33) hx hb dX8_outBehind_6 (by decide) (fun hc => ?_) (fun hc => ?_)
      · replace hT4 := bq_t hc hT4
        clear hc
        obtain rfl := Option.some.inj hT4
        replace hR4 := bq_lk_r hR4
        subst hR4
        exact X33 H locs ls w (lv_sub hl [2] rfl)
      · replace hT4 := bq_f hc hT4
        clear hc
        refine lv_iload_n hx hb dX8_outBehind_9 rfl (lv_at hl 2 rfl) ?_
        refine lv_aload_n hx hb dX8_outBehind_10 rfl (lv_at hl 0 rfl) ?_
        refine gt_X8_19 E K w 0 rfl rfl dX8_outBehind_11 ?_
        refine lv_iload_n hx hb dX8_outBehind_14 rfl (lv_at hl 3 rfl) ?_
        obtain ⟨hI, hT4⟩ := bq_ci_el hT4
        refine bq_ald E K w 2 rfl hI dX8_outBehind_15 ?_
        refine lv_ior hx hb dX8_outBehind_16 ?_
        refine lv_aload_n hx hb dX8_outBehind_17 rfl (lv_at hl 0 rfl) ?_
        refine gt_X8_22 E K w 0 rfl rfl dX8_outBehind_18 ?_
        refine lv_iload_n hx hb dX8_outBehind_21 rfl (lv_at hl 3 rfl) ?_
        obtain ⟨hI, hT4⟩ := bq_ci_el hT4
        refine bq_ald E K w 1 rfl hI dX8_outBehind_22 ?_
        refine lv_iconst (v := (-1)) hx hb dX8_outBehind_23 (by decide) ?_
        refine lv_ixor hx hb dX8_outBehind_24 ?_
        refine lv_iand hx hb dX8_outBehind_25 ?_
        obtain ⟨v4, e9, hT4⟩ := bq_let_el hT4
        refine bq_nmi e9 ?_
        clear e9
        refine lv_istore_n (lv' := [(2, .int v4), (0, .ref a_t), (1, .int x1), (3, .int i1)]) hx hb dX8_outBehind_26 rfl hl (by decide) rfl (fun ls hl => ?_)
        obtain ⟨v5, e9, hT4⟩ := bq_let_el hT4
        refine lv_iinc (v := v5) (lv' := [(3, .int v5), (2, .int v4), (0, .ref a_t), (1, .int x1)]) hx hb dX8_outBehind_27 hl (k := 3) rfl (by rw [e9]; rfl) (by decide) rfl (fun ls hl => ?_)
        clear e9
        refine lv_goto (tgt := 4) hx hb dX8_outBehind_30 (by decide) ?_
        obtain rfl := Option.some.inj hT4
        exact ih v5 v4 H locs ls hR4 w (lv_sub hl [2, 3, 1, 0] rfl)
  exact L4 nn 0 0 H locs ls hL w (lv_sub hl [2, 3, 1, 0] rfl)
abbrev wdX8_clashOf (cI : ClassId) (a_t a_t_backs a_t_outs a_t_pauses u_t_rig u_t_trial u_t_strokes u_t_cuts u_t_text u_t_readOuts u_t_readBacks u_t_readPauses : Nat) (t : Nat → Int32) (t_backs : Nat → Int32) (t_outs : Nat → Int32) (t_pauses : Nat → Int32) : va_W := [(a_t, oX8 u_t_rig u_t_trial u_t_strokes a_t_outs a_t_backs a_t_pauses u_t_cuts u_t_text u_t_readOuts u_t_readBacks u_t_readPauses t), (a_t_backs, oA cI 16 t_backs), (a_t_outs, oA cI 16 t_outs), (a_t_pauses, oA cI 16 t_pauses)]
abbrev rmX8_clashOf : Room := { frames := 1, cells := 0, slots := 0, locals := 23 }
theorem hd_X8_clashOf : yX8_clashOf.cls = RX8 ∧ yX8_clashOf.cls ≠ "java/lang/invoke/MethodHandle" ∧ yX8_clashOf.cls ≠ "java/lang/invoke/VarHandle" ∧ (parseMethodDescriptor yX8_clashOf.desc).map (fun d => d.parameters.length) = some 2 := by decide +kernel
set_option maxHeartbeats 4000000 in
set_option maxRecDepth 100000 in
theorem kX8_clashOf (l : Launch) (D : va_G) (cI cJ : ClassId) (a_t a_t_backs a_t_outs a_t_pauses u_t_rig u_t_trial u_t_strokes u_t_cuts u_t_text u_t_readOuts u_t_readBacks u_t_readPauses : Nat) (t t_backs t_outs t_pauses : Nat → Int32) (x1 : Int32) (x2 : Int32) (r : Int32) (hm : mX8_clashOf t t_backs t_outs t_pauses x1 x2 = some r) : bq_M l D cI cJ yX8_clashOf cX8_clashOf 7 (some .int) rmX8_clashOf [.ref a_t, .int x1, .int x2] (wdX8_clashOf cI a_t a_t_backs a_t_outs a_t_pauses u_t_rig u_t_trial u_t_strokes u_t_cuts u_t_text u_t_readOuts u_t_readBacks u_t_readPauses t t_backs t_outs t_pauses) (wdX8_clashOf cI a_t a_t_backs a_t_outs a_t_pauses u_t_rig u_t_trial u_t_strokes u_t_cuts u_t_text u_t_readOuts u_t_readBacks u_t_readPauses t t_backs t_outs t_pauses) (some (.int r)) := by
  refine bq_start (by decide) (Nat.le_of_ble_eq_true rfl) ?_
  intro p e s m av9 below meth c A ls Q H locs E K w hA hr hk hn hQ hl
  have E : bq_E p m c cX8_clashOf 7 s av9 RX8 := E
  have hx := E.1
  have hb := E.2.1
  have hl : lv_has ls 7 [(0, .ref a_t), (1, .int x1), (2, .int x2)] := hl
  unfold mX8_clashOf at hm
  refine lv_aload_n hx hb dX8_clashOf_0 rfl (lv_at hl 0 rfl) ?_
  refine lv_iload_n hx hb dX8_clashOf_1 rfl (lv_at hl 1 rfl) ?_
  obtain ⟨v1, hC, hm⟩ := bq_bd_el hm
  refine bq_V (As := [.int x1]) (rest := []) (st1 := [.int v1]) (ws' := wdX8_clashOf cI a_t a_t_backs a_t_outs a_t_pauses u_t_rig u_t_trial u_t_strokes u_t_cuts u_t_text u_t_readOuts u_t_readBacks u_t_readPauses t t_backs t_outs t_pauses) E K w hA (kX8_outBehind l D cI cJ a_t a_t_backs a_t_outs u_t_rig u_t_trial u_t_strokes a_t_pauses u_t_cuts u_t_text u_t_readOuts u_t_readBacks u_t_readPauses t t_backs t_outs x1 v1 hC) (bq_gV ml_X8_117 im_X8_outBehind sl_X8_outBehind in_X8 cd_X8_outBehind) hd_X8_outBehind ⟨Nat.le_of_ble_eq_true rfl, Nat.le_of_ble_eq_true rfl⟩ ⟨Nat.le_of_ble_eq_true rfl, Nat.le_of_ble_eq_true rfl⟩ ⟨[0, 1, 2], [3], [1, 2, 3, 0], rfl, rfl, rfl, rfl, rfl, rfl, rfl, rfl, rfl⟩ 0 rfl rfl rfl hl.1 rfl (Nat.le_of_ble_eq_true rfl) rfl dX8_clashOf_2 (fun H locs w => bq_z ⟨rfl, rfl⟩ ?_)
  clear hC
  refine lv_istore_n (lv' := [(3, .int v1), (0, .ref a_t), (1, .int x1), (2, .int x2)]) hx hb dX8_clashOf_5 rfl hl (by decide) rfl (fun ls hl => ?_)
  refine lv_iconst (v := 0) hx hb dX8_clashOf_6 (by decide) ?_
  refine lv_istore (lv' := [(4, .int 0), (3, .int v1), (0, .ref a_t), (1, .int x1), (2, .int x2)]) hx hb dX8_clashOf_7 hl (by decide) rfl (fun ls hl => ?_)
  obtain ⟨rr9, hL, hm⟩ := bq_bd_el hm
  obtain ⟨B, eB, nn, hL⟩ := bq_loop_B hL
  have X109 : ∀ (hE : rr9 = .inl ()) (H : Heap) (locs : List Loc) (ls : Array Slot), bq_w D A s.heap (wdX8_clashOf cI a_t a_t_backs a_t_outs a_t_pauses u_t_rig u_t_trial u_t_strokes u_t_cuts u_t_text u_t_readOuts u_t_readBacks u_t_readPauses t t_backs t_outs t_pauses) H locs → lv_has ls 7 [] → W p l e rmX8_clashOf s m av9 below meth c H locs 0 0 Q (F0 m 109 ls []) := by
    intro hE H locs ls w hl
    subst hE
    replace hm := bq_or1_l hm
    refine lv_iconst (v := (-1)) hx hb dX8_clashOf_109 (by decide) ?_
    obtain rfl := Option.some.inj hm
    exact bq_iret E w hr hk dX8_clashOf_110 hQ
  have L9 : ∀ (nn : Nat) (i2 : Int32) (H : Heap) (locs : List Loc) (ls : Array Slot), bq_lp B nn i2 = some rr9 → bq_w D A s.heap (wdX8_clashOf cI a_t a_t_backs a_t_outs a_t_pauses u_t_rig u_t_trial u_t_strokes u_t_cuts u_t_text u_t_readOuts u_t_readBacks u_t_readPauses t t_backs t_outs t_pauses) H locs → lv_has ls 7 [(0, .ref a_t), (1, .int x1), (2, .int x2), (3, .int v1), (4, .int i2)] → W p l e rmX8_clashOf s m av9 below meth c H locs 0 0 Q (F0 m 9 ls []) := by
    intro nn
    induction nn with
    | zero =>
      intro i2 H locs ls hL w hl
      exact bq_lp_0 hL
    | succ nn ih =>
      intro i2 H locs ls hL w hl
      obtain ⟨oo9, hT9, hR9⟩ := bq_lp_el hL
      clear hL
      replace hT9 := bq_u1_el eB hT9
      unfold bX8_clashOf_9 at hT9
      refine lv_iload hx hb dX8_clashOf_9 (lv_at hl 4 rfl) ?_
      refine lv_aload_n hx hb dX8_clashOf_11 rfl (lv_at hl 0 rfl) ?_
      refine gt_X8_104 E K w 0 rfl rfl dX8_clashOf_12 ?_
      refine lv_icmp_ge (tgt := 109) hx hb dX8_clashOf_15 (by decide) (fun hc => ?_) (fun hc => ?_)
      · replace hT9 := bq_t hc hT9
        clear hc
        obtain rfl := Option.some.inj hT9
        replace hR9 := bq_lk_r hR9
        exact X109  hR9.symm H locs ls w (lv_sub hl [] rfl)
      · replace hT9 := bq_f hc hT9
        clear hc
        refine lv_aload_n hx hb dX8_clashOf_18 rfl (lv_at hl 0 rfl) ?_
        refine lv_iload hx hb dX8_clashOf_19 (lv_at hl 4 rfl) ?_
        obtain ⟨v3, hC, hT9⟩ := bq_bd_el hT9
        refine bq_V (As := [.int i2]) (rest := []) (st1 := [.int v3]) (ws' := wdX8_clashOf cI a_t a_t_backs a_t_outs a_t_pauses u_t_rig u_t_trial u_t_strokes u_t_cuts u_t_text u_t_readOuts u_t_readBacks u_t_readPauses t t_backs t_outs t_pauses) E K w hA (kX8_before l D cI cJ a_t u_t_rig u_t_trial u_t_strokes a_t_outs a_t_backs a_t_pauses u_t_cuts u_t_text u_t_readOuts u_t_readBacks u_t_readPauses t i2 v3 hC) (bq_gV ml_X8_120 im_X8_before sl_X8_before in_X8 cd_X8_before) hd_X8_before ⟨Nat.le_of_ble_eq_true rfl, Nat.le_of_ble_eq_true rfl⟩ ⟨Nat.le_of_ble_eq_true rfl, Nat.le_of_ble_eq_true rfl⟩ ⟨[0], [1, 2, 3], [3, 0, 1, 2], rfl, rfl, rfl, rfl, rfl, rfl, rfl, rfl, rfl⟩ 0 rfl rfl rfl hl.1 rfl (Nat.le_of_ble_eq_true rfl) rfl dX8_clashOf_21 (fun H locs w => bq_z ⟨rfl, rfl⟩ ?_)
        clear hC
        refine lv_istore (lv' := [(5, .int v3), (0, .ref a_t), (1, .int x1), (2, .int x2), (3, .int v1), (4, .int i2)]) hx hb dX8_clashOf_24 hl (by decide) rfl (fun ls hl => ?_)
        refine lv_aload_n hx hb dX8_clashOf_26 rfl (lv_at hl 1 rfl) ?_
        refine gt_X8_25 E K w 0 rfl rfl dX8_clashOf_27 ?_
        refine lv_iload hx hb dX8_clashOf_30 (lv_at hl 0 rfl) ?_
        obtain ⟨hI, hT9⟩ := bq_ci_el hT9
        refine bq_ald E K w 3 rfl hI dX8_clashOf_32 ?_
        obtain ⟨v4, hT67, hT9⟩ := bq_bd_el hT9
        have K67 : ∀ (H : Heap) (locs : List Loc) (ls : Array Slot), bq_w D A s.heap (wdX8_clashOf cI a_t a_t_backs a_t_outs a_t_pauses u_t_rig u_t_trial u_t_strokes u_t_cuts u_t_text u_t_readOuts u_t_readBacks u_t_readPauses t t_backs t_outs t_pauses) H locs → lv_has ls 7 [(0, .ref a_t), (1, .int x1), (2, .int x2), (3, .int v1), (4, .int i2)] → W p l e rmX8_clashOf s m av9 below meth c H locs 0 0 Q (F0 m 67 ls [.int v4]) := by
          intro H locs ls w hl
          refine lv_istore (lv' := [(6, .int v4), (0, .ref a_t), (1, .int x1), (2, .int x2), (3, .int v1), (4, .int i2)]) hx hb dX8_clashOf_67 hl (by decide) rfl (fun ls hl => ?_)
          refine lv_aload_n hx hb dX8_clashOf_69 rfl (lv_at hl 1 rfl) ?_
          refine lv_iload hx hb dX8_clashOf_70 (lv_at hl 5 rfl) ?_
          refine lv_iload_n hx hb dX8_clashOf_72 rfl (lv_at hl 3 rfl) ?_
          obtain ⟨v5, hC, hT9⟩ := bq_bd_el hT9
          refine bq_V (As := [.int i2, .int x2]) (rest := []) (st1 := [.int v5]) (ws' := wdX8_clashOf cI a_t a_t_backs a_t_outs a_t_pauses u_t_rig u_t_trial u_t_strokes u_t_cuts u_t_text u_t_readOuts u_t_readBacks u_t_readPauses t t_backs t_outs t_pauses) E K w hA (kX8_directionOf l D cI cJ a_t a_t_backs a_t_outs u_t_rig u_t_trial u_t_strokes a_t_pauses u_t_cuts u_t_text u_t_readOuts u_t_readBacks u_t_readPauses t t_backs t_outs i2 x2 v5 hC) (bq_gV ml_X8_113 im_X8_directionOf sl_X8_directionOf in_X8 cd_X8_directionOf) hd_X8_directionOf ⟨Nat.le_of_ble_eq_true rfl, Nat.le_of_ble_eq_true rfl⟩ ⟨Nat.le_of_ble_eq_true rfl, Nat.le_of_ble_eq_true rfl⟩ ⟨[0, 1, 2], [3], [1, 2, 3, 0], rfl, rfl, rfl, rfl, rfl, rfl, rfl, rfl, rfl⟩ 0 rfl rfl rfl hl.1 rfl (Nat.le_of_ble_eq_true rfl) rfl dX8_clashOf_73 (fun H locs w => bq_z ⟨rfl, rfl⟩ ?_)
          clear hC
          refine lv_aload_n hx hb dX8_clashOf_76 rfl (lv_at hl 1 rfl) ?_
          refine lv_iload_n hx hb dX8_clashOf_77 rfl (lv_at hl 2 rfl) ?_
          refine lv_iload_n hx hb dX8_clashOf_78 rfl (lv_at hl 3 rfl) ?_
          obtain ⟨v6, hC, hT9⟩ := bq_bd_el hT9
          refine bq_V (As := [.int x1, .int x2]) (rest := [.int v5]) (st1 := [.int v6, .int v5]) (ws' := wdX8_clashOf cI a_t a_t_backs a_t_outs a_t_pauses u_t_rig u_t_trial u_t_strokes u_t_cuts u_t_text u_t_readOuts u_t_readBacks u_t_readPauses t t_backs t_outs t_pauses) E K w hA (kX8_directionOf l D cI cJ a_t a_t_backs a_t_outs u_t_rig u_t_trial u_t_strokes a_t_pauses u_t_cuts u_t_text u_t_readOuts u_t_readBacks u_t_readPauses t t_backs t_outs x1 x2 v6 hC) (bq_gV ml_X8_113 im_X8_directionOf sl_X8_directionOf in_X8 cd_X8_directionOf) hd_X8_directionOf ⟨Nat.le_of_ble_eq_true rfl, Nat.le_of_ble_eq_true rfl⟩ ⟨Nat.le_of_ble_eq_true rfl, Nat.le_of_ble_eq_true rfl⟩ ⟨[0, 1, 2], [3], [1, 2, 3, 0], rfl, rfl, rfl, rfl, rfl, rfl, rfl, rfl, rfl⟩ 0 rfl rfl rfl hl.1 rfl (Nat.le_of_ble_eq_true rfl) rfl dX8_clashOf_79 (fun H locs w => bq_z ⟨rfl, rfl⟩ ?_)
          clear hC
          refine lv_ineg hx hb dX8_clashOf_82 ?_
          refine lv_icmp_ne (tgt := 103) hx hb dX8_clashOf_83 (by decide) (fun hc => ?_) (fun hc => ?_)
          · replace hT9 := bq_f hc hT9
            clear hc
            obtain ⟨v7, e9, hT9⟩ := bq_let_el hT9
            refine lv_iinc (v := v7) (lv' := [(4, .int v7), (6, .int v4), (0, .ref a_t), (1, .int x1), (2, .int x2), (3, .int v1)]) hx hb dX8_clashOf_103 hl (k := 5) rfl (by rw [e9]; rfl) (by decide) rfl (fun ls hl => ?_)
            clear e9
            refine lv_goto (tgt := 9) hx hb dX8_clashOf_106 (by decide) ?_
            obtain rfl := Option.some.inj hT9
            exact ih v7 H locs ls hR9 w (lv_sub hl [2, 3, 4, 5, 0] rfl)
          · replace hT9 := bq_t hc hT9
            clear hc
            refine lv_aload_n hx hb dX8_clashOf_86 rfl (lv_at hl 1 rfl) ?_
            refine lv_iload_n hx hb dX8_clashOf_87 rfl (lv_at hl 2 rfl) ?_
            refine lv_iload_n hx hb dX8_clashOf_88 rfl (lv_at hl 3 rfl) ?_
            obtain ⟨v8, hC, hT9⟩ := bq_bd_el hT9
            refine bq_V (As := [.int x1, .int x2]) (rest := []) (st1 := [.int v8]) (ws' := wdX8_clashOf cI a_t a_t_backs a_t_outs a_t_pauses u_t_rig u_t_trial u_t_strokes u_t_cuts u_t_text u_t_readOuts u_t_readBacks u_t_readPauses t t_backs t_outs t_pauses) E K w hA (kX8_directionOf l D cI cJ a_t a_t_backs a_t_outs u_t_rig u_t_trial u_t_strokes a_t_pauses u_t_cuts u_t_text u_t_readOuts u_t_readBacks u_t_readPauses t t_backs t_outs x1 x2 v8 hC) (bq_gV ml_X8_113 im_X8_directionOf sl_X8_directionOf in_X8 cd_X8_directionOf) hd_X8_directionOf ⟨Nat.le_of_ble_eq_true rfl, Nat.le_of_ble_eq_true rfl⟩ ⟨Nat.le_of_ble_eq_true rfl, Nat.le_of_ble_eq_true rfl⟩ ⟨[0, 1, 2], [3], [1, 2, 3, 0], rfl, rfl, rfl, rfl, rfl, rfl, rfl, rfl, rfl⟩ 0 rfl rfl rfl hl.1 rfl (Nat.le_of_ble_eq_true rfl) rfl dX8_clashOf_89 (fun H locs w => bq_z ⟨rfl, rfl⟩ ?_)
            clear hC
            refine lv_if_eq (tgt := 103) hx hb dX8_clashOf_92 (by decide) (fun hc => ?_) (fun hc => ?_)
            · replace hT9 := bq_t hc hT9
              clear hc
              obtain ⟨v9, e9, hT9⟩ := bq_let_el hT9
              refine lv_iinc (v := v9) (lv' := [(4, .int v9), (6, .int v4), (0, .ref a_t), (1, .int x1), (2, .int x2), (3, .int v1)]) hx hb dX8_clashOf_103 hl (k := 5) rfl (by rw [e9]; rfl) (by decide) rfl (fun ls hl => ?_)
              clear e9
              refine lv_goto (tgt := 9) hx hb dX8_clashOf_106 (by decide) ?_
              obtain rfl := Option.some.inj hT9
              exact ih v9 H locs ls hR9 w (lv_sub hl [2, 3, 4, 5, 0] rfl)
            · replace hT9 := bq_f hc hT9
              clear hc
              refine lv_iload hx hb dX8_clashOf_95 (lv_at hl 0 rfl) ?_
              refine lv_if_eq (tgt := 103) hx hb dX8_clashOf_97 (by decide) (fun hc => ?_) (fun hc => ?_)
              · replace hT9 := bq_t hc hT9
                clear hc
                obtain ⟨v10, e9, hT9⟩ := bq_let_el hT9
                refine lv_iinc (v := v10) (lv' := [(4, .int v10), (6, .int v4), (0, .ref a_t), (1, .int x1), (2, .int x2), (3, .int v1)]) hx hb dX8_clashOf_103 hl (k := 5) rfl (by rw [e9]; rfl) (by decide) rfl (fun ls hl => ?_)
                clear e9
                refine lv_goto (tgt := 9) hx hb dX8_clashOf_106 (by decide) ?_
                obtain rfl := Option.some.inj hT9
                exact ih v10 H locs ls hR9 w (lv_sub hl [2, 3, 4, 5, 0] rfl)
              · replace hT9 := bq_f hc hT9
                clear hc
                refine lv_iload hx hb dX8_clashOf_100 (lv_at hl 5 rfl) ?_
                obtain rfl := Option.some.inj hT9
                replace hR9 := bq_lk_r hR9
                subst hR9
                replace hm := bq_or1_r hm
                obtain rfl := Option.some.inj hm
                exact bq_iret E w hr hk dX8_clashOf_102 hQ
        clear hT9
        refine lv_if_ne (tgt := 66) hx hb dX8_clashOf_33 (by decide) (fun hc => ?_) (fun hc => ?_)
        · replace hT67 := bq_f hc hT67
          clear hc
          refine lv_iconst (v := 0) hx hb dX8_clashOf_66 (by decide) ?_
          obtain rfl := Option.some.inj hT67
          exact K67 H locs ls w (lv_sub hl [1, 2, 3, 4, 5] rfl)
        · replace hT67 := bq_t hc hT67
          clear hc
          refine lv_aload_n hx hb dX8_clashOf_36 rfl (lv_at hl 1 rfl) ?_
          refine gt_X8_19 E K w 0 rfl rfl dX8_clashOf_37 ?_
          refine lv_iload hx hb dX8_clashOf_40 (lv_at hl 0 rfl) ?_
          obtain ⟨hI, hT67⟩ := bq_ci_el hT67
          refine bq_ald E K w 2 rfl hI dX8_clashOf_42 ?_
          refine lv_iload_n hx hb dX8_clashOf_43 rfl (lv_at hl 4 rfl) ?_
          refine lv_iconst (v := (-1)) hx hb dX8_clashOf_44 (by decide) ?_
          refine lv_ixor hx hb dX8_clashOf_45 ?_
          refine lv_iand hx hb dX8_clashOf_46 ?_
          refine lv_if_ne (tgt := 66) hx hb dX8_clashOf_47 (by decide) (fun hc => ?_) (fun hc => ?_)
          · replace hT67 := bq_f hc hT67
            clear hc
            refine lv_iconst (v := 0) hx hb dX8_clashOf_66 (by decide) ?_
            obtain rfl := Option.some.inj hT67
            exact K67 H locs ls w (lv_sub hl [1, 2, 3, 4, 5] rfl)
          · replace hT67 := bq_t hc hT67
            clear hc
            refine lv_aload_n hx hb dX8_clashOf_50 rfl (lv_at hl 1 rfl) ?_
            refine gt_X8_22 E K w 0 rfl rfl dX8_clashOf_51 ?_
            refine lv_iload hx hb dX8_clashOf_54 (lv_at hl 0 rfl) ?_
            obtain ⟨hI, hT67⟩ := bq_ci_el hT67
            refine bq_ald E K w 1 rfl hI dX8_clashOf_56 ?_
            refine lv_iload_n hx hb dX8_clashOf_57 rfl (lv_at hl 4 rfl) ?_
            refine lv_iand hx hb dX8_clashOf_58 ?_
            refine lv_if_ne (tgt := 66) hx hb dX8_clashOf_59 (by decide) (fun hc => ?_) (fun hc => ?_)
            · replace hT67 := bq_f hc hT67
              clear hc
              refine lv_iconst (v := 0) hx hb dX8_clashOf_66 (by decide) ?_
              obtain rfl := Option.some.inj hT67
              exact K67 H locs ls w (lv_sub hl [1, 2, 3, 4, 5] rfl)
            · replace hT67 := bq_t hc hT67
              clear hc
              refine lv_iconst (v := 1) hx hb dX8_clashOf_62 (by decide) ?_
              refine lv_goto (tgt := 67) hx hb dX8_clashOf_63 (by decide) ?_
              obtain rfl := Option.some.inj hT67
              exact K67 H locs ls w (lv_sub hl [1, 2, 3, 4, 5] rfl)
  exact L9 nn 0 H locs ls hL w (lv_sub hl [2, 3, 4, 1, 0] rfl)
abbrev wdX8_clashes (cI : ClassId) (a_t a_t_backs a_t_outs a_t_pauses u_t_rig u_t_trial u_t_strokes u_t_cuts u_t_text u_t_readOuts u_t_readBacks u_t_readPauses : Nat) (t : Nat → Int32) (t_backs : Nat → Int32) (t_outs : Nat → Int32) (t_pauses : Nat → Int32) : va_W := [(a_t, oX8 u_t_rig u_t_trial u_t_strokes a_t_outs a_t_backs a_t_pauses u_t_cuts u_t_text u_t_readOuts u_t_readBacks u_t_readPauses t), (a_t_backs, oA cI 16 t_backs), (a_t_outs, oA cI 16 t_outs), (a_t_pauses, oA cI 16 t_pauses)]
abbrev rmX8_clashes : Room := { frames := 2, cells := 0, slots := 0, locals := 49 }
theorem hd_X8_clashes : yX8_clashes.cls = RX8 ∧ yX8_clashes.cls ≠ "java/lang/invoke/MethodHandle" ∧ yX8_clashes.cls ≠ "java/lang/invoke/VarHandle" ∧ (parseMethodDescriptor yX8_clashes.desc).map (fun d => d.parameters.length) = some 0 := by decide +kernel
set_option maxHeartbeats 4000000 in
set_option maxRecDepth 100000 in
theorem kX8_clashes (l : Launch) (D : va_G) (cI cJ : ClassId) (a_t a_t_backs a_t_outs a_t_pauses u_t_rig u_t_trial u_t_strokes u_t_cuts u_t_text u_t_readOuts u_t_readBacks u_t_readPauses : Nat) (t t_backs t_outs t_pauses : Nat → Int32) (r : Int32) (t_o : Nat → Int32) (hm : mX8_clashes t t_backs t_outs t_pauses = some (r, t_o)) : bq_M l D cI cJ yX8_clashes cX8_clashes 4 (some .int) rmX8_clashes [.ref a_t] (wdX8_clashes cI a_t a_t_backs a_t_outs a_t_pauses u_t_rig u_t_trial u_t_strokes u_t_cuts u_t_text u_t_readOuts u_t_readBacks u_t_readPauses t t_backs t_outs t_pauses) (wdX8_clashes cI a_t a_t_backs a_t_outs a_t_pauses u_t_rig u_t_trial u_t_strokes u_t_cuts u_t_text u_t_readOuts u_t_readBacks u_t_readPauses t_o t_backs t_outs t_pauses) (some (.int r)) := by
  refine bq_start (by decide) (Nat.le_of_ble_eq_true rfl) ?_
  intro p e s m av9 below meth c A ls Q H locs E K w hA hr hk hn hQ hl
  have E : bq_E p m c cX8_clashes 4 s av9 RX8 := E
  have hx := E.1
  have hb := E.2.1
  have hl : lv_has ls 4 [(0, .ref a_t)] := hl
  unfold mX8_clashes at hm
  refine lv_aload_n hx hb dX8_clashes_0 rfl (lv_at hl 0 rfl) ?_
  refine lv_iconst (v := 0) hx hb dX8_clashes_1 (by decide) ?_
  obtain ⟨t_1, e9, hm⟩ := bq_let_el hm
  refine pt_X8_47 E K w 0 rfl (Nat.le_of_ble_eq_true rfl) dX8_clashes_2 (fun H locs w => ?_)
  replace w : bq_w D A s.heap (wdX8_clashes cI a_t a_t_backs a_t_outs a_t_pauses u_t_rig u_t_trial u_t_strokes u_t_cuts u_t_text u_t_readOuts u_t_readBacks u_t_readPauses t_1 t_backs t_outs t_pauses) H locs := by rw [e9]; exact w
  clear e9
  refine lv_aload_n hx hb dX8_clashes_5 rfl (lv_at hl 0 rfl) ?_
  refine gt_X8_104 E K w 0 rfl rfl dX8_clashes_6 ?_
  refine lv_if_ne (tgt := 18) hx hb dX8_clashes_9 (by decide) (fun hc => ?_) (fun hc => ?_)
  · replace hm := bq_f hc hm
    clear hc
    refine lv_iconst (v := 0) hx hb dX8_clashes_18 (by decide) ?_
    refine lv_istore_n (lv' := [(1, .int 0), (0, .ref a_t)]) hx hb dX8_clashes_19 rfl hl (by decide) rfl (fun ls hl => ?_)
    refine lv_iconst (v := 0) hx hb dX8_clashes_20 (by decide) ?_
    refine lv_istore_n (lv' := [(2, .int 0), (1, .int 0), (0, .ref a_t)]) hx hb dX8_clashes_21 rfl hl (by decide) rfl (fun ls hl => ?_)
    obtain ⟨v4, hL, hm⟩ := bq_bd_el hm
    obtain ⟨B, eB, nn, hL⟩ := bq_loop_B hL
    have X67 : ∀ (H : Heap) (locs : List Loc) (ls : Array Slot), bq_w D A s.heap (wdX8_clashes cI a_t a_t_backs a_t_outs a_t_pauses u_t_rig u_t_trial u_t_strokes u_t_cuts u_t_text u_t_readOuts u_t_readBacks u_t_readPauses t_1 t_backs t_outs t_pauses) H locs → lv_has ls 4 [(1, .int v4)] → W p l e rmX8_clashes s m av9 below meth c H locs 0 0 Q (F0 m 67 ls []) := by
      intro H locs ls w hl
      refine lv_iload_n hx hb dX8_clashes_67 rfl (lv_at hl 0 rfl) ?_
      obtain ⟨rfl, rfl⟩ := bq_in2 (Option.some.inj hm)
      exact bq_iret E w hr hk dX8_clashes_68 hQ
    clear hm
    have L22 : ∀ (nn : Nat) (i2 : Int32) (i3 : Int32) (H : Heap) (locs : List Loc) (ls : Array Slot), bq_lp B nn (i2, i3) = some v4 → bq_w D A s.heap (wdX8_clashes cI a_t a_t_backs a_t_outs a_t_pauses u_t_rig u_t_trial u_t_strokes u_t_cuts u_t_text u_t_readOuts u_t_readBacks u_t_readPauses t_1 t_backs t_outs t_pauses) H locs → lv_has ls 4 [(0, .ref a_t), (1, .int i3), (2, .int i2)] → W p l e rmX8_clashes s m av9 below meth c H locs 0 0 Q (F0 m 22 ls []) := by
      intro nn
      induction nn with
      | zero =>
        intro i2 i3 H locs ls hL w hl
        exact bq_lp_0 hL
      | succ nn ih =>
        intro i2 i3 H locs ls hL w hl
        obtain ⟨oo22, hT22, hR22⟩ := bq_lp_el hL
        clear hL
        replace hT22 := bq_u2_el eB hT22
        unfold bX8_clashes_22 at hT22
        refine lv_iload_n hx hb dX8_clashes_22 rfl (lv_at hl 2 rfl) ?_
        refine lv_aload_n hx hb dX8_clashes_23 rfl (lv_at hl 0 rfl) ?_
        refine gt_X8_104 E K w 0 rfl rfl dX8_clashes_24 ?_
        refine lv_icmp_ge (tgt := 67) hx hb dX8_clashes_27 (by decide) (fun hc => ?_) (fun hc => ?_)
        · replace hT22 := bq_t hc hT22
          clear hc
          obtain rfl := Option.some.inj hT22
          replace hR22 := bq_lk_r hR22
          subst hR22
          exact X67 H locs ls w (lv_sub hl [1] rfl)
        · replace hT22 := bq_f hc hT22
          clear hc
          refine lv_iconst (v := 0) hx hb dX8_clashes_30 (by decide) ?_
          refine lv_istore_n (lv' := [(3, .int 0), (0, .ref a_t), (1, .int i3), (2, .int i2)]) hx hb dX8_clashes_31 rfl hl (by decide) rfl (fun ls hl => ?_)
          obtain ⟨v7, hL, hT22⟩ := bq_bd_el hT22
          obtain ⟨B, eB, nn, hL⟩ := bq_loop_B hL
          have X61 : ∀ (H : Heap) (locs : List Loc) (ls : Array Slot), bq_w D A s.heap (wdX8_clashes cI a_t a_t_backs a_t_outs a_t_pauses u_t_rig u_t_trial u_t_strokes u_t_cuts u_t_text u_t_readOuts u_t_readBacks u_t_readPauses t_1 t_backs t_outs t_pauses) H locs → lv_has ls 4 [(0, .ref a_t), (1, .int v7), (2, .int i2)] → W p l e rmX8_clashes s m av9 below meth c H locs 0 0 Q (F0 m 61 ls []) := by
            intro H locs ls w hl
            obtain ⟨v8, e9, hT22⟩ := bq_let_el hT22
            refine lv_iinc (v := v8) (lv' := [(2, .int v8), (0, .ref a_t), (1, .int v7)]) hx hb dX8_clashes_61 hl (k := 2) rfl (by rw [e9]; rfl) (by decide) rfl (fun ls hl => ?_)
            clear e9
            refine lv_goto (tgt := 22) hx hb dX8_clashes_64 (by decide) ?_
            obtain rfl := Option.some.inj hT22
            exact ih v8 v7 H locs ls hR22 w (lv_sub hl [1, 2, 0] rfl)
          clear hT22
          have L32 : ∀ (nn : Nat) (i5 : Int32) (i6 : Int32) (H : Heap) (locs : List Loc) (ls : Array Slot), bq_lp B nn (i5, i6) = some v7 → bq_w D A s.heap (wdX8_clashes cI a_t a_t_backs a_t_outs a_t_pauses u_t_rig u_t_trial u_t_strokes u_t_cuts u_t_text u_t_readOuts u_t_readBacks u_t_readPauses t_1 t_backs t_outs t_pauses) H locs → lv_has ls 4 [(0, .ref a_t), (1, .int i6), (2, .int i2), (3, .int i5)] → W p l e rmX8_clashes s m av9 below meth c H locs 0 0 Q (F0 m 32 ls []) := by
            intro nn
            induction nn with
            | zero =>
              intro i5 i6 H locs ls hL w hl
              exact bq_lp_0 hL
            | succ nn ih =>
              intro i5 i6 H locs ls hL w hl
              obtain ⟨oo32, hT32, hR32⟩ := bq_lp_el hL
              clear hL
              replace hT32 := bq_u2_el eB hT32
              unfold bX8_clashes_32 at hT32
              refine lv_iload_n hx hb dX8_clashes_32 rfl (lv_at hl 3 rfl) ?_
              refine lv_bipush (v := 6) hx hb dX8_clashes_33 (by decide) ?_
              refine lv_icmp_ge (tgt := 61) hx hb dX8_clashes_35 (by decide) (fun hc => ?_) (fun hc => ?_)
              · replace hT32 := bq_t hc hT32
                clear hc
                obtain rfl := Option.some.inj hT32
                replace hR32 := bq_lk_r hR32
                subst hR32
                exact X61 H locs ls w (lv_sub hl [0, 1, 2] rfl)
              · replace hT32 := bq_f hc hT32
                clear hc
                refine lv_iload_n hx hb dX8_clashes_38 rfl (lv_at hl 1 rfl) ?_
                refine lv_aload_n hx hb dX8_clashes_39 rfl (lv_at hl 0 rfl) ?_
                refine lv_iload_n hx hb dX8_clashes_40 rfl (lv_at hl 2 rfl) ?_
                refine lv_iload_n hx hb dX8_clashes_41 rfl (lv_at hl 3 rfl) ?_
                obtain ⟨v9, hC, hT32⟩ := bq_bd_el hT32
                refine bq_V (As := [.int i2, .int i5]) (rest := [.int i6]) (st1 := [.int v9, .int i6]) (ws' := wdX8_clashes cI a_t a_t_backs a_t_outs a_t_pauses u_t_rig u_t_trial u_t_strokes u_t_cuts u_t_text u_t_readOuts u_t_readBacks u_t_readPauses t_1 t_backs t_outs t_pauses) E K w hA (kX8_clashOf l D cI cJ a_t a_t_backs a_t_outs a_t_pauses u_t_rig u_t_trial u_t_strokes u_t_cuts u_t_text u_t_readOuts u_t_readBacks u_t_readPauses t_1 t_backs t_outs t_pauses i2 i5 v9 hC) (bq_gV ml_X8_123 im_X8_clashOf sl_X8_clashOf in_X8 cd_X8_clashOf) hd_X8_clashOf ⟨Nat.le_of_ble_eq_true rfl, Nat.le_of_ble_eq_true rfl⟩ ⟨Nat.le_of_ble_eq_true rfl, Nat.le_of_ble_eq_true rfl⟩ ⟨[0, 1, 2, 3], [], [0, 1, 2, 3], rfl, rfl, rfl, rfl, rfl, rfl, rfl, rfl, rfl⟩ 0 rfl rfl rfl hl.1 rfl (Nat.le_of_ble_eq_true rfl) rfl dX8_clashes_42 (fun H locs w => bq_z ⟨rfl, rfl⟩ ?_)
                clear hC
                obtain ⟨v10, hT53, hT32⟩ := bq_let_el hT32
                have K53 : ∀ (H : Heap) (locs : List Loc) (ls : Array Slot), bq_w D A s.heap (wdX8_clashes cI a_t a_t_backs a_t_outs a_t_pauses u_t_rig u_t_trial u_t_strokes u_t_cuts u_t_text u_t_readOuts u_t_readBacks u_t_readPauses t_1 t_backs t_outs t_pauses) H locs → lv_has ls 4 [(0, .ref a_t), (2, .int i2), (3, .int i5)] → W p l e rmX8_clashes s m av9 below meth c H locs 0 0 Q (F0 m 53 ls [.int v10, .int i6]) := by
                  intro H locs ls w hl
                  refine lv_iadd hx hb dX8_clashes_53 ?_
                  obtain ⟨v11, e9, hT32⟩ := bq_let_el hT32
                  refine bq_nmi e9 ?_
                  clear e9
                  refine lv_istore_n (lv' := [(1, .int v11), (0, .ref a_t), (2, .int i2), (3, .int i5)]) hx hb dX8_clashes_54 rfl hl (by decide) rfl (fun ls hl => ?_)
                  obtain ⟨v12, e9, hT32⟩ := bq_let_el hT32
                  refine lv_iinc (v := v12) (lv' := [(3, .int v12), (1, .int v11), (0, .ref a_t), (2, .int i2)]) hx hb dX8_clashes_55 hl (k := 3) rfl (by rw [e9]; rfl) (by decide) rfl (fun ls hl => ?_)
                  clear e9
                  refine lv_goto (tgt := 32) hx hb dX8_clashes_58 (by decide) ?_
                  obtain rfl := Option.some.inj hT32
                  exact ih v12 v11 H locs ls hR32 w (lv_sub hl [2, 1, 3, 0] rfl)
                clear hT32
                refine lv_if_lt (tgt := 52) hx hb dX8_clashes_45 (by decide) (fun hc => ?_) (fun hc => ?_)
                · replace hT53 := bq_et hc hT53
                  clear hc
                  refine lv_iconst (v := 0) hx hb dX8_clashes_52 (by decide) ?_
                  subst hT53
                  exact K53 H locs ls w (lv_sub hl [0, 2, 3] rfl)
                · replace hT53 := bq_ef hc hT53
                  clear hc
                  refine lv_iconst (v := 1) hx hb dX8_clashes_48 (by decide) ?_
                  refine lv_goto (tgt := 53) hx hb dX8_clashes_49 (by decide) ?_
                  subst hT53
                  exact K53 H locs ls w (lv_sub hl [0, 2, 3] rfl)
          exact L32 nn 0 i3 H locs ls hL w (lv_sub hl [1, 2, 3, 0] rfl)
    exact L22 nn 0 0 H locs ls hL w (lv_sub hl [2, 1, 0] rfl)
  · replace hm := bq_t hc hm
    clear hc
    refine lv_aload_n hx hb dX8_clashes_12 rfl (lv_at hl 0 rfl) ?_
    refine lv_iconst (v := 1) hx hb dX8_clashes_13 (by decide) ?_
    obtain ⟨v13, t_14, hC, hm⟩ := bq_b2_el hm
    refine bq_V (As := [.int 1]) (rest := []) (st1 := [.int v13]) (ws' := wdX8_clashes cI a_t a_t_backs a_t_outs a_t_pauses u_t_rig u_t_trial u_t_strokes u_t_cuts u_t_text u_t_readOuts u_t_readBacks u_t_readPauses t_14 t_backs t_outs t_pauses) E K w hA (kX8_fails l D cI cJ a_t u_t_rig u_t_trial u_t_strokes a_t_outs a_t_backs a_t_pauses u_t_cuts u_t_text u_t_readOuts u_t_readBacks u_t_readPauses t_1 1 v13 t_14 hC) (bq_gV ml_X8_55 im_X8_fails sl_X8_fails in_X8 cd_X8_fails) hd_X8_fails ⟨Nat.le_of_ble_eq_true rfl, Nat.le_of_ble_eq_true rfl⟩ ⟨Nat.le_of_ble_eq_true rfl, Nat.le_of_ble_eq_true rfl⟩ ⟨[0], [1, 2, 3], [3, 0, 1, 2], rfl, rfl, rfl, rfl, rfl, rfl, rfl, rfl, rfl⟩ 0 rfl rfl rfl hl.1 rfl (Nat.le_of_ble_eq_true rfl) rfl dX8_clashes_14 (fun H locs w => bq_z ⟨rfl, rfl⟩ ?_)
    clear hC
    obtain ⟨rfl, rfl⟩ := bq_in2 (Option.some.inj hm)
    exact bq_iret E w hr hk dX8_clashes_17 hQ
abbrev wdX8_clash (cI : ClassId) (a_t a_t_backs a_t_outs a_t_pauses u_t_rig u_t_trial u_t_strokes u_t_cuts u_t_text u_t_readOuts u_t_readBacks u_t_readPauses : Nat) (t : Nat → Int32) (t_backs : Nat → Int32) (t_outs : Nat → Int32) (t_pauses : Nat → Int32) : va_W := [(a_t, oX8 u_t_rig u_t_trial u_t_strokes a_t_outs a_t_backs a_t_pauses u_t_cuts u_t_text u_t_readOuts u_t_readBacks u_t_readPauses t), (a_t_backs, oA cI 16 t_backs), (a_t_outs, oA cI 16 t_outs), (a_t_pauses, oA cI 16 t_pauses)]
abbrev rmX8_clash : Room := { frames := 2, cells := 0, slots := 0, locals := 49 }
theorem hd_X8_clash : yX8_clash.cls = RX8 ∧ yX8_clash.cls ≠ "java/lang/invoke/MethodHandle" ∧ yX8_clash.cls ≠ "java/lang/invoke/VarHandle" ∧ (parseMethodDescriptor yX8_clash.desc).map (fun d => d.parameters.length) = some 2 := by decide +kernel
set_option maxHeartbeats 4000000 in
set_option maxRecDepth 100000 in
theorem kX8_clash (l : Launch) (D : va_G) (cI cJ : ClassId) (a_t a_t_backs a_t_outs a_t_pauses u_t_rig u_t_trial u_t_strokes u_t_cuts u_t_text u_t_readOuts u_t_readBacks u_t_readPauses : Nat) (t t_backs t_outs t_pauses : Nat → Int32) (x1 : Int32) (x2 : Int32) (r : Int32) (t_o : Nat → Int32) (hm : mX8_clash t t_backs t_outs t_pauses x1 x2 = some (r, t_o)) : bq_M l D cI cJ yX8_clash cX8_clash 3 (some .int) rmX8_clash [.ref a_t, .int x1, .int x2] (wdX8_clash cI a_t a_t_backs a_t_outs a_t_pauses u_t_rig u_t_trial u_t_strokes u_t_cuts u_t_text u_t_readOuts u_t_readBacks u_t_readPauses t t_backs t_outs t_pauses) (wdX8_clash cI a_t a_t_backs a_t_outs a_t_pauses u_t_rig u_t_trial u_t_strokes u_t_cuts u_t_text u_t_readOuts u_t_readBacks u_t_readPauses t_o t_backs t_outs t_pauses) (some (.int r)) := by
  refine bq_start (by decide) (Nat.le_of_ble_eq_true rfl) ?_
  intro p e s m av9 below meth c A ls Q H locs E K w hA hr hk hn hQ hl
  have E : bq_E p m c cX8_clash 3 s av9 RX8 := E
  have hx := E.1
  have hb := E.2.1
  have hl : lv_has ls 3 [(0, .ref a_t), (1, .int x1), (2, .int x2)] := hl
  unfold mX8_clash at hm
  refine lv_aload_n hx hb dX8_clash_0 rfl (lv_at hl 0 rfl) ?_
  refine lv_iconst (v := 0) hx hb dX8_clash_1 (by decide) ?_
  obtain ⟨t_1, e9, hm⟩ := bq_let_el hm
  refine pt_X8_47 E K w 0 rfl (Nat.le_of_ble_eq_true rfl) dX8_clash_2 (fun H locs w => ?_)
  replace w : bq_w D A s.heap (wdX8_clash cI a_t a_t_backs a_t_outs a_t_pauses u_t_rig u_t_trial u_t_strokes u_t_cuts u_t_text u_t_readOuts u_t_readBacks u_t_readPauses t_1 t_backs t_outs t_pauses) H locs := by rw [e9]; exact w
  clear e9
  refine lv_aload_n hx hb dX8_clash_5 rfl (lv_at hl 0 rfl) ?_
  refine lv_iload_n hx hb dX8_clash_6 rfl (lv_at hl 1 rfl) ?_
  obtain ⟨v2, hC, hm⟩ := bq_bd_el hm
  refine bq_V (As := [.int x1]) (rest := []) (st1 := [.int v2]) (ws' := wdX8_clash cI a_t a_t_backs a_t_outs a_t_pauses u_t_rig u_t_trial u_t_strokes u_t_cuts u_t_text u_t_readOuts u_t_readBacks u_t_readPauses t_1 t_backs t_outs t_pauses) E K w hA (kX8_isStep l D cI cJ a_t u_t_rig u_t_trial u_t_strokes a_t_outs a_t_backs a_t_pauses u_t_cuts u_t_text u_t_readOuts u_t_readBacks u_t_readPauses t_1 x1 v2 hC) (bq_gV ml_X8_110 im_X8_isStep sl_X8_isStep in_X8 cd_X8_isStep) hd_X8_isStep ⟨Nat.le_of_ble_eq_true rfl, Nat.le_of_ble_eq_true rfl⟩ ⟨Nat.le_of_ble_eq_true rfl, Nat.le_of_ble_eq_true rfl⟩ ⟨[0], [1, 2, 3], [3, 0, 1, 2], rfl, rfl, rfl, rfl, rfl, rfl, rfl, rfl, rfl⟩ 0 rfl rfl rfl hl.1 rfl (Nat.le_of_ble_eq_true rfl) rfl dX8_clash_7 (fun H locs w => bq_z ⟨rfl, rfl⟩ ?_)
  clear hC
  obtain ⟨v3, t_4, hT36, hm⟩ := bq_b2_el hm
  have K36 : ∀ (H : Heap) (locs : List Loc) (ls : Array Slot), bq_w D A s.heap (wdX8_clash cI a_t a_t_backs a_t_outs a_t_pauses u_t_rig u_t_trial u_t_strokes u_t_cuts u_t_text u_t_readOuts u_t_readBacks u_t_readPauses t_4 t_backs t_outs t_pauses) H locs → lv_has ls 3 [] → W p l e rmX8_clash s m av9 below meth c H locs 0 0 Q (F0 m 36 ls [.int v3]) := by
    intro H locs ls w hl
    obtain ⟨rfl, rfl⟩ := bq_in2 (Option.some.inj hm)
    exact bq_iret E w hr hk dX8_clash_36 hQ
  clear hm
  refine lv_if_eq (tgt := 31) hx hb dX8_clash_10 (by decide) (fun hc => ?_) (fun hc => ?_)
  · replace hT36 := bq_t hc hT36
    clear hc
    refine lv_aload_n hx hb dX8_clash_31 rfl (lv_at hl 0 rfl) ?_
    refine lv_iconst (v := 1) hx hb dX8_clash_32 (by decide) ?_
    obtain ⟨v5, t_6, hC, hT36⟩ := bq_b2_el hT36
    refine bq_V (As := [.int 1]) (rest := []) (st1 := [.int v5]) (ws' := wdX8_clash cI a_t a_t_backs a_t_outs a_t_pauses u_t_rig u_t_trial u_t_strokes u_t_cuts u_t_text u_t_readOuts u_t_readBacks u_t_readPauses t_6 t_backs t_outs t_pauses) E K w hA (kX8_fails l D cI cJ a_t u_t_rig u_t_trial u_t_strokes a_t_outs a_t_backs a_t_pauses u_t_cuts u_t_text u_t_readOuts u_t_readBacks u_t_readPauses t_1 1 v5 t_6 hC) (bq_gV ml_X8_55 im_X8_fails sl_X8_fails in_X8 cd_X8_fails) hd_X8_fails ⟨Nat.le_of_ble_eq_true rfl, Nat.le_of_ble_eq_true rfl⟩ ⟨Nat.le_of_ble_eq_true rfl, Nat.le_of_ble_eq_true rfl⟩ ⟨[0], [1, 2, 3], [3, 0, 1, 2], rfl, rfl, rfl, rfl, rfl, rfl, rfl, rfl, rfl⟩ 0 rfl rfl rfl hl.1 rfl (Nat.le_of_ble_eq_true rfl) rfl dX8_clash_33 (fun H locs w => bq_z ⟨rfl, rfl⟩ ?_)
    clear hC
    obtain ⟨rfl, rfl⟩ := bq_in2 (Option.some.inj hT36)
    exact K36 H locs ls w (lv_sub hl [] rfl)
  · replace hT36 := bq_f hc hT36
    clear hc
    refine lv_iload_n hx hb dX8_clash_13 rfl (lv_at hl 2 rfl) ?_
    refine lv_iconst (v := 0) hx hb dX8_clash_14 (by decide) ?_
    refine lv_iconst (v := 5) hx hb dX8_clash_15 (by decide) ?_
    obtain ⟨v7, hC, hT36⟩ := bq_bd_el hT36
    refine bq_S0 (As := [.int x2, .int 0, .int 5]) (rest := []) (st1 := [.int v7]) E K w hA (kX8_in l D cI cJ x2 0 5 v7 hC) cd_X8_in ml_X8_51 in_X8 st_X8_in hs_X8_in ⟨Nat.le_of_ble_eq_true rfl, Nat.le_of_ble_eq_true rfl⟩ ⟨Nat.le_of_ble_eq_true rfl, Nat.le_of_ble_eq_true rfl⟩ rfl hl.1 rfl (Nat.le_of_ble_eq_true rfl) rfl dX8_clash_16 (fun H locs w => bq_z ⟨rfl, rfl⟩ ?_)
    clear hC
    refine lv_if_eq (tgt := 31) hx hb dX8_clash_19 (by decide) (fun hc => ?_) (fun hc => ?_)
    · replace hT36 := bq_t hc hT36
      clear hc
      refine lv_aload_n hx hb dX8_clash_31 rfl (lv_at hl 0 rfl) ?_
      refine lv_iconst (v := 1) hx hb dX8_clash_32 (by decide) ?_
      obtain ⟨v8, t_9, hC, hT36⟩ := bq_b2_el hT36
      refine bq_V (As := [.int 1]) (rest := []) (st1 := [.int v8]) (ws' := wdX8_clash cI a_t a_t_backs a_t_outs a_t_pauses u_t_rig u_t_trial u_t_strokes u_t_cuts u_t_text u_t_readOuts u_t_readBacks u_t_readPauses t_9 t_backs t_outs t_pauses) E K w hA (kX8_fails l D cI cJ a_t u_t_rig u_t_trial u_t_strokes a_t_outs a_t_backs a_t_pauses u_t_cuts u_t_text u_t_readOuts u_t_readBacks u_t_readPauses t_1 1 v8 t_9 hC) (bq_gV ml_X8_55 im_X8_fails sl_X8_fails in_X8 cd_X8_fails) hd_X8_fails ⟨Nat.le_of_ble_eq_true rfl, Nat.le_of_ble_eq_true rfl⟩ ⟨Nat.le_of_ble_eq_true rfl, Nat.le_of_ble_eq_true rfl⟩ ⟨[0], [1, 2, 3], [3, 0, 1, 2], rfl, rfl, rfl, rfl, rfl, rfl, rfl, rfl, rfl⟩ 0 rfl rfl rfl hl.1 rfl (Nat.le_of_ble_eq_true rfl) rfl dX8_clash_33 (fun H locs w => bq_z ⟨rfl, rfl⟩ ?_)
      clear hC
      obtain ⟨rfl, rfl⟩ := bq_in2 (Option.some.inj hT36)
      exact K36 H locs ls w (lv_sub hl [] rfl)
    · replace hT36 := bq_f hc hT36
      clear hc
      refine lv_aload_n hx hb dX8_clash_22 rfl (lv_at hl 0 rfl) ?_
      refine lv_iload_n hx hb dX8_clash_23 rfl (lv_at hl 1 rfl) ?_
      refine lv_iload_n hx hb dX8_clash_24 rfl (lv_at hl 2 rfl) ?_
      obtain ⟨v10, hC, hT36⟩ := bq_bd_el hT36
      refine bq_V (As := [.int x1, .int x2]) (rest := []) (st1 := [.int v10]) (ws' := wdX8_clash cI a_t a_t_backs a_t_outs a_t_pauses u_t_rig u_t_trial u_t_strokes u_t_cuts u_t_text u_t_readOuts u_t_readBacks u_t_readPauses t_1 t_backs t_outs t_pauses) E K w hA (kX8_clashOf l D cI cJ a_t a_t_backs a_t_outs a_t_pauses u_t_rig u_t_trial u_t_strokes u_t_cuts u_t_text u_t_readOuts u_t_readBacks u_t_readPauses t_1 t_backs t_outs t_pauses x1 x2 v10 hC) (bq_gV ml_X8_123 im_X8_clashOf sl_X8_clashOf in_X8 cd_X8_clashOf) hd_X8_clashOf ⟨Nat.le_of_ble_eq_true rfl, Nat.le_of_ble_eq_true rfl⟩ ⟨Nat.le_of_ble_eq_true rfl, Nat.le_of_ble_eq_true rfl⟩ ⟨[0, 1, 2, 3], [], [0, 1, 2, 3], rfl, rfl, rfl, rfl, rfl, rfl, rfl, rfl, rfl⟩ 0 rfl rfl rfl hl.1 rfl (Nat.le_of_ble_eq_true rfl) rfl dX8_clash_25 (fun H locs w => bq_z ⟨rfl, rfl⟩ ?_)
      clear hC
      refine lv_goto (tgt := 36) hx hb dX8_clash_28 (by decide) ?_
      obtain ⟨rfl, rfl⟩ := bq_in2 (Option.some.inj hT36)
      exact K36 H locs ls w (lv_sub hl [] rfl)
