abbrev wdX2_append (cI : ClassId) (a_t a_t_signs : Nat) (t : Nat → Int32) (t_signs : Nat → Int32) : va_W := [(a_t, oX2 a_t_signs t), (a_t_signs, oA cI 80 t_signs)]
abbrev rmX2_append : Room := { frames := 0, cells := 0, slots := 0, locals := 0 }
theorem hd_X2_append : yX2_append.cls = RX2 ∧ yX2_append.cls ≠ "java/lang/invoke/MethodHandle" ∧ yX2_append.cls ≠ "java/lang/invoke/VarHandle" ∧ (parseMethodDescriptor yX2_append.desc).map (fun d => d.parameters.length) = some 1 := by decide +kernel
set_option maxHeartbeats 4000000 in
set_option maxRecDepth 100000 in
theorem kX2_append (l : Launch) (D : va_G) (cI cJ : ClassId) (a_t a_t_signs : Nat) (t t_signs : Nat → Int32) (x1 : Int32) (t_o : Nat → Int32) (t_signs_o : Nat → Int32) (hm : mX2_append t t_signs x1 = some (t_o, t_signs_o)) : bq_M l D cI cJ yX2_append cX2_append 2 none rmX2_append [.ref a_t, .int x1] (wdX2_append cI a_t a_t_signs t t_signs) (wdX2_append cI a_t a_t_signs t_o t_signs_o) none := by
  refine bq_start (by decide) (Nat.le_of_ble_eq_true rfl) ?_
  intro p e s m av9 below meth c A ls Q H locs E K w hA hr hk hn hQ hl
  have E : bq_E p m c cX2_append 2 s av9 RX2 := E
  have hx := E.1
  have hb := E.2.1
  have hl : lv_has ls 2 [(0, .ref a_t), (1, .int x1)] := hl
  unfold mX2_append at hm
  refine lv_aload_n hx hb dX2_append_0 rfl (lv_at hl 0 rfl) ?_
  refine gt_X2_15 E K w 0 rfl rfl dX2_append_1 ?_
  refine lv_bipush (v := 80) hx hb dX2_append_4 (by decide) ?_
  obtain ⟨t_1, t_signs_2, hT29, hm⟩ := bq_b2_el hm
  have K29 : ∀ (H : Heap) (locs : List Loc) (ls : Array Slot), bq_w D A s.heap (wdX2_append cI a_t a_t_signs t_1 t_signs_2) H locs → lv_has ls 2 [] → W p l e rmX2_append s m av9 below meth c H locs 0 0 Q (F0 m 29 ls []) := by
    intro H locs ls w hl
    obtain ⟨rfl, rfl⟩ := bq_in2 (Option.some.inj hm)
    exact bq_vret E w hr hk dX2_append_29 hQ
  clear hm
  refine lv_icmp_ge (tgt := 29) hx hb dX2_append_6 (by decide) (fun hc => ?_) (fun hc => ?_)
  · replace hT29 := bq_t hc hT29
    clear hc
    obtain ⟨rfl, rfl⟩ := bq_in2 (Option.some.inj hT29)
    exact K29 H locs ls w (lv_sub hl [] rfl)
  · replace hT29 := bq_f hc hT29
    clear hc
    refine lv_aload_n hx hb dX2_append_9 rfl (lv_at hl 0 rfl) ?_
    refine gt_X2_9 E K w 0 rfl rfl dX2_append_10 ?_
    refine lv_aload_n hx hb dX2_append_13 rfl (lv_at hl 0 rfl) ?_
    refine gt_X2_15 E K w 0 rfl rfl dX2_append_14 ?_
    refine lv_iload_n hx hb dX2_append_17 rfl (lv_at hl 1 rfl) ?_
    obtain ⟨hI, hT29⟩ := bq_ci_el hT29
    obtain ⟨t_signs_3, e9, hT29⟩ := bq_let_el hT29
    refine bq_ast E K w 1 rfl hI dX2_append_18 (fun H locs w => ?_)
    replace w : bq_w D A s.heap (wdX2_append cI a_t a_t_signs t t_signs_3) H locs := by rw [e9]; exact w
    clear e9
    refine lv_aload_n hx hb dX2_append_19 rfl (lv_at hl 0 rfl) ?_
    refine lv_dup hx hb dX2_append_20 rfl ?_
    refine gt_X2_15 E K w 0 rfl rfl dX2_append_21 ?_
    refine lv_iconst (v := 1) hx hb dX2_append_24 (by decide) ?_
    refine lv_iadd hx hb dX2_append_25 ?_
    obtain ⟨t_4, e9, hT29⟩ := bq_let_el hT29
    refine pt_X2_15 E K w 0 rfl (Nat.le_of_ble_eq_true rfl) dX2_append_26 (fun H locs w => ?_)
    replace w : bq_w D A s.heap (wdX2_append cI a_t a_t_signs t_4 t_signs_3) H locs := by rw [e9]; exact w
    clear e9
    obtain ⟨rfl, rfl⟩ := bq_in2 (Option.some.inj hT29)
    exact K29 H locs ls w (lv_sub hl [] rfl)
abbrev wdX2_signAt (cI : ClassId) (a_t a_t_signs : Nat) (t : Nat → Int32) (t_signs : Nat → Int32) : va_W := [(a_t, oX2 a_t_signs t), (a_t_signs, oA cI 80 t_signs)]
abbrev rmX2_signAt : Room := { frames := 0, cells := 0, slots := 0, locals := 0 }
theorem hd_X2_signAt : yX2_signAt.cls = RX2 ∧ yX2_signAt.cls ≠ "java/lang/invoke/MethodHandle" ∧ yX2_signAt.cls ≠ "java/lang/invoke/VarHandle" ∧ (parseMethodDescriptor yX2_signAt.desc).map (fun d => d.parameters.length) = some 1 := by decide +kernel
set_option maxHeartbeats 4000000 in
set_option maxRecDepth 100000 in
theorem kX2_signAt (l : Launch) (D : va_G) (cI cJ : ClassId) (a_t a_t_signs : Nat) (t t_signs : Nat → Int32) (x1 : Int32) (r : Int32) (hm : mX2_signAt t t_signs x1 = some r) : bq_M l D cI cJ yX2_signAt cX2_signAt 2 (some .int) rmX2_signAt [.ref a_t, .int x1] (wdX2_signAt cI a_t a_t_signs t t_signs) (wdX2_signAt cI a_t a_t_signs t t_signs) (some (.int r)) := by
  refine bq_start (by decide) (Nat.le_of_ble_eq_true rfl) ?_
  intro p e s m av9 below meth c A ls Q H locs E K w hA hr hk hn hQ hl
  have E : bq_E p m c cX2_signAt 2 s av9 RX2 := E
  have hx := E.1
  have hb := E.2.1
  have hl : lv_has ls 2 [(0, .ref a_t), (1, .int x1)] := hl
  unfold mX2_signAt at hm
  refine lv_iload_n hx hb dX2_signAt_0 rfl (lv_at hl 1 rfl) ?_
  obtain ⟨v1, hT22, hm⟩ := bq_bd_el hm
  have K22 : ∀ (H : Heap) (locs : List Loc) (ls : Array Slot), bq_w D A s.heap (wdX2_signAt cI a_t a_t_signs t t_signs) H locs → lv_has ls 2 [] → W p l e rmX2_signAt s m av9 below meth c H locs 0 0 Q (F0 m 22 ls [.int v1]) := by
    intro H locs ls w hl
    obtain rfl := Option.some.inj hm
    exact bq_iret E w hr hk dX2_signAt_22 hQ
  clear hm
  refine lv_if_lt (tgt := 21) hx hb dX2_signAt_1 (by decide) (fun hc => ?_) (fun hc => ?_)
  · replace hT22 := bq_t hc hT22
    clear hc
    refine lv_iconst (v := (-1)) hx hb dX2_signAt_21 (by decide) ?_
    obtain rfl := Option.some.inj hT22
    exact K22 H locs ls w (lv_sub hl [] rfl)
  · replace hT22 := bq_f hc hT22
    clear hc
    refine lv_iload_n hx hb dX2_signAt_4 rfl (lv_at hl 1 rfl) ?_
    refine lv_aload_n hx hb dX2_signAt_5 rfl (lv_at hl 0 rfl) ?_
    refine gt_X2_15 E K w 0 rfl rfl dX2_signAt_6 ?_
    refine lv_icmp_ge (tgt := 21) hx hb dX2_signAt_9 (by decide) (fun hc => ?_) (fun hc => ?_)
    · replace hT22 := bq_t hc hT22
      clear hc
      refine lv_iconst (v := (-1)) hx hb dX2_signAt_21 (by decide) ?_
      obtain rfl := Option.some.inj hT22
      exact K22 H locs ls w (lv_sub hl [] rfl)
    · replace hT22 := bq_f hc hT22
      clear hc
      refine lv_aload_n hx hb dX2_signAt_12 rfl (lv_at hl 0 rfl) ?_
      refine gt_X2_9 E K w 0 rfl rfl dX2_signAt_13 ?_
      refine lv_iload_n hx hb dX2_signAt_16 rfl (lv_at hl 1 rfl) ?_
      obtain ⟨hI, hT22⟩ := bq_ci_el hT22
      refine bq_ald E K w 1 rfl hI dX2_signAt_17 ?_
      refine lv_goto (tgt := 22) hx hb dX2_signAt_18 (by decide) ?_
      obtain rfl := Option.some.inj hT22
      exact K22 H locs ls w (lv_sub hl [] rfl)
abbrev wdX2_refuseSign (cI : ClassId) (a_t u_t_signs : Nat) (t : Nat → Int32) : va_W := [(a_t, oX2 u_t_signs t)]
abbrev rmX2_refuseSign : Room := { frames := 0, cells := 0, slots := 0, locals := 0 }
theorem hd_X2_refuseSign : yX2_refuseSign.cls = RX2 ∧ yX2_refuseSign.cls ≠ "java/lang/invoke/MethodHandle" ∧ yX2_refuseSign.cls ≠ "java/lang/invoke/VarHandle" ∧ (parseMethodDescriptor yX2_refuseSign.desc).map (fun d => d.parameters.length) = some 1 := by decide +kernel
set_option maxHeartbeats 4000000 in
set_option maxRecDepth 100000 in
theorem kX2_refuseSign (l : Launch) (D : va_G) (cI cJ : ClassId) (a_t u_t_signs : Nat) (t : Nat → Int32) (x1 : Int32) (t_o : Nat → Int32) (hm : mX2_refuseSign t x1 = some t_o) : bq_M l D cI cJ yX2_refuseSign cX2_refuseSign 2 none rmX2_refuseSign [.ref a_t, .int x1] (wdX2_refuseSign cI a_t u_t_signs t) (wdX2_refuseSign cI a_t u_t_signs t_o) none := by
  refine bq_start (by decide) (Nat.le_of_ble_eq_true rfl) ?_
  intro p e s m av9 below meth c A ls Q H locs E K w hA hr hk hn hQ hl
  have E : bq_E p m c cX2_refuseSign 2 s av9 RX2 := E
  have hx := E.1
  have hb := E.2.1
  have hl : lv_has ls 2 [(0, .ref a_t), (1, .int x1)] := hl
  unfold mX2_refuseSign at hm
  refine lv_aload_n hx hb dX2_refuseSign_0 rfl (lv_at hl 0 rfl) ?_
  refine lv_iconst (v := 1) hx hb dX2_refuseSign_1 (by decide) ?_
  obtain ⟨t_1, e9, hm⟩ := bq_let_el hm
  refine pt_X2_24 E K w 0 rfl (Nat.le_of_ble_eq_true rfl) dX2_refuseSign_2 (fun H locs w => ?_)
  replace w : bq_w D A s.heap (wdX2_refuseSign cI a_t u_t_signs t_1) H locs := by rw [e9]; exact w
  clear e9
  refine lv_aload_n hx hb dX2_refuseSign_5 rfl (lv_at hl 0 rfl) ?_
  refine lv_iload_n hx hb dX2_refuseSign_6 rfl (lv_at hl 1 rfl) ?_
  obtain ⟨t_2, e9, hm⟩ := bq_let_el hm
  refine pt_X2_27 E K w 0 rfl (Nat.le_of_ble_eq_true rfl) dX2_refuseSign_7 (fun H locs w => ?_)
  replace w : bq_w D A s.heap (wdX2_refuseSign cI a_t u_t_signs t_2) H locs := by rw [e9]; exact w
  clear e9
  obtain rfl := Option.some.inj hm
  exact bq_vret E w hr hk dX2_refuseSign_10 hQ
abbrev wdX2_digitAt (cI : ClassId) (a_t a_t_signs : Nat) (t : Nat → Int32) (t_signs : Nat → Int32) : va_W := [(a_t, oX2 a_t_signs t), (a_t_signs, oA cI 80 t_signs)]
abbrev rmX2_digitAt : Room := { frames := 1, cells := 0, slots := 0, locals := 21 }
theorem hd_X2_digitAt : yX2_digitAt.cls = RX2 ∧ yX2_digitAt.cls ≠ "java/lang/invoke/MethodHandle" ∧ yX2_digitAt.cls ≠ "java/lang/invoke/VarHandle" ∧ (parseMethodDescriptor yX2_digitAt.desc).map (fun d => d.parameters.length) = some 1 := by decide +kernel
set_option maxHeartbeats 4000000 in
set_option maxRecDepth 100000 in
theorem kX2_digitAt (l : Launch) (D : va_G) (cI cJ : ClassId) (a_t a_t_signs : Nat) (t t_signs : Nat → Int32) (x1 : Int32) (r : Int32) (hm : mX2_digitAt t t_signs x1 = some r) : bq_M l D cI cJ yX2_digitAt cX2_digitAt 3 (some .int) rmX2_digitAt [.ref a_t, .int x1] (wdX2_digitAt cI a_t a_t_signs t t_signs) (wdX2_digitAt cI a_t a_t_signs t t_signs) (some (.int r)) := by
  refine bq_start (by decide) (Nat.le_of_ble_eq_true rfl) ?_
  intro p e s m av9 below meth c A ls Q H locs E K w hA hr hk hn hQ hl
  have E : bq_E p m c cX2_digitAt 3 s av9 RX2 := E
  have hx := E.1
  have hb := E.2.1
  have hl : lv_has ls 3 [(0, .ref a_t), (1, .int x1)] := hl
  unfold mX2_digitAt at hm
  refine lv_aload_n hx hb dX2_digitAt_0 rfl (lv_at hl 0 rfl) ?_
  refine lv_iload_n hx hb dX2_digitAt_1 rfl (lv_at hl 1 rfl) ?_
  obtain ⟨v1, hC, hm⟩ := bq_bd_el hm
  refine bq_V (As := [.int x1]) (rest := []) (st1 := [.int v1]) (ws' := wdX2_digitAt cI a_t a_t_signs t t_signs) E K w hA (kX2_signAt l D cI cJ a_t a_t_signs t t_signs x1 v1 hC) (bq_gV ml_X2_54 im_X2_signAt sl_X2_signAt in_X2 cd_X2_signAt) hd_X2_signAt ⟨Nat.le_of_ble_eq_true rfl, Nat.le_of_ble_eq_true rfl⟩ ⟨Nat.le_of_ble_eq_true rfl, Nat.le_of_ble_eq_true rfl⟩ ⟨[0, 1], [], [0, 1], rfl, rfl, rfl, rfl, rfl, rfl, rfl, rfl, rfl⟩ 0 rfl rfl rfl hl.1 rfl (Nat.le_of_ble_eq_true rfl) rfl dX2_digitAt_2 (fun H locs w => bq_z ⟨rfl, rfl⟩ ?_)
  clear hC
  refine lv_istore_n (lv' := [(2, .int v1), (0, .ref a_t), (1, .int x1)]) hx hb dX2_digitAt_5 rfl hl (by decide) rfl (fun ls hl => ?_)
  refine lv_iload_n hx hb dX2_digitAt_6 rfl (lv_at hl 0 rfl) ?_
  refine lv_bipush (v := 48) hx hb dX2_digitAt_7 (by decide) ?_
  obtain ⟨v2, hT26, hm⟩ := bq_let_el hm
  have K26 : ∀ (H : Heap) (locs : List Loc) (ls : Array Slot), bq_w D A s.heap (wdX2_digitAt cI a_t a_t_signs t t_signs) H locs → lv_has ls 3 [] → W p l e rmX2_digitAt s m av9 below meth c H locs 0 0 Q (F0 m 26 ls [.int v2]) := by
    intro H locs ls w hl
    obtain rfl := Option.some.inj hm
    exact bq_iret E w hr hk dX2_digitAt_26 hQ
  clear hm
  refine lv_icmp_lt (tgt := 25) hx hb dX2_digitAt_9 (by decide) (fun hc => ?_) (fun hc => ?_)
  · replace hT26 := bq_et hc hT26
    clear hc
    refine lv_iconst (v := (-1)) hx hb dX2_digitAt_25 (by decide) ?_
    subst hT26
    exact K26 H locs ls w (lv_sub hl [] rfl)
  · replace hT26 := bq_ef hc hT26
    clear hc
    refine lv_iload_n hx hb dX2_digitAt_12 rfl (lv_at hl 0 rfl) ?_
    refine lv_bipush (v := 57) hx hb dX2_digitAt_13 (by decide) ?_
    refine lv_icmp_gt (tgt := 25) hx hb dX2_digitAt_15 (by decide) (fun hc => ?_) (fun hc => ?_)
    · replace hT26 := bq_et hc hT26
      clear hc
      refine lv_iconst (v := (-1)) hx hb dX2_digitAt_25 (by decide) ?_
      subst hT26
      exact K26 H locs ls w (lv_sub hl [] rfl)
    · replace hT26 := bq_ef hc hT26
      clear hc
      refine lv_iload_n hx hb dX2_digitAt_18 rfl (lv_at hl 0 rfl) ?_
      refine lv_bipush (v := 48) hx hb dX2_digitAt_19 (by decide) ?_
      refine lv_isub hx hb dX2_digitAt_21 ?_
      refine lv_goto (tgt := 26) hx hb dX2_digitAt_22 (by decide) ?_
      subst hT26
      exact K26 H locs ls w (lv_sub hl [] rfl)
abbrev wdX2_takeMove (cI : ClassId) (a_t a_p1 a_p1_minus a_p1_plus u_t_signs u_p1_pauses u_p1_outBefore u_p1_cuts u_p1_groupOfStep : Nat) (t : Nat → Int32) (p1 : Nat → Int32) (p1_minus : Nat → Int32) (p1_plus : Nat → Int32) : va_W := [(a_t, oX2 u_t_signs t), (a_p1, oX5 a_p1_plus a_p1_minus u_p1_pauses u_p1_outBefore u_p1_cuts u_p1_groupOfStep p1), (a_p1_minus, oA cI 16 p1_minus), (a_p1_plus, oA cI 16 p1_plus)]
abbrev rmX2_takeMove : Room := { frames := 1, cells := 0, slots := 0, locals := 21 }
theorem hd_X2_takeMove : yX2_takeMove.cls = RX2 ∧ yX2_takeMove.cls ≠ "java/lang/invoke/MethodHandle" ∧ yX2_takeMove.cls ≠ "java/lang/invoke/VarHandle" ∧ (parseMethodDescriptor yX2_takeMove.desc).map (fun d => d.parameters.length) = some 4 := by decide +kernel
set_option maxHeartbeats 4000000 in
set_option maxRecDepth 100000 in
theorem kX2_takeMove (l : Launch) (D : va_G) (cI cJ : ClassId) (a_t a_p1 a_p1_minus a_p1_plus u_t_signs u_p1_pauses u_p1_outBefore u_p1_cuts u_p1_groupOfStep : Nat) (t p1 p1_minus p1_plus : Nat → Int32) (x2 : Int32) (x3 : Int32) (x4 : Int32) (t_o : Nat → Int32) (p1_minus_o : Nat → Int32) (p1_plus_o : Nat → Int32) (hm : mX2_takeMove t p1_minus p1_plus x2 x3 x4 = some (t_o, p1_minus_o, p1_plus_o)) : bq_M l D cI cJ yX2_takeMove cX2_takeMove 6 none rmX2_takeMove [.ref a_t, .ref a_p1, .int x2, .int x3, .int x4] (wdX2_takeMove cI a_t a_p1 a_p1_minus a_p1_plus u_t_signs u_p1_pauses u_p1_outBefore u_p1_cuts u_p1_groupOfStep t p1 p1_minus p1_plus) (wdX2_takeMove cI a_t a_p1 a_p1_minus a_p1_plus u_t_signs u_p1_pauses u_p1_outBefore u_p1_cuts u_p1_groupOfStep t_o p1 p1_minus_o p1_plus_o) none := by
  refine bq_start (by decide) (Nat.le_of_ble_eq_true rfl) ?_
  intro p e s m av9 below meth c A ls Q H locs E K w hA hr hk hn hQ hl
  have E : bq_E p m c cX2_takeMove 6 s av9 RX2 := E
  have hx := E.1
  have hb := E.2.1
  have hl : lv_has ls 6 [(0, .ref a_t), (1, .ref a_p1), (2, .int x2), (3, .int x3), (4, .int x4)] := hl
  unfold mX2_takeMove at hm
  refine lv_aload_n hx hb dX2_takeMove_0 rfl (lv_at hl 1 rfl) ?_
  refine lv_iload_n hx hb dX2_takeMove_1 rfl (lv_at hl 2 rfl) ?_
  obtain ⟨v1, hC, hm⟩ := bq_bd_el hm
  refine bq_V (As := [.int x2]) (rest := []) (st1 := [.int v1]) (ws' := wdX2_takeMove cI a_t a_p1 a_p1_minus a_p1_plus u_t_signs u_p1_pauses u_p1_outBefore u_p1_cuts u_p1_groupOfStep t p1 p1_minus p1_plus) E K w hA (kX5_movesIn l D cI cJ a_p1 a_p1_minus a_p1_plus u_p1_pauses u_p1_outBefore u_p1_cuts u_p1_groupOfStep p1 p1_minus p1_plus x2 v1 hC) (bq_gV ml_X2_71 im_X5_movesIn sl_X5_movesIn in_X5 cd_X5_movesIn) hd_X5_movesIn ⟨Nat.le_of_ble_eq_true rfl, Nat.le_of_ble_eq_true rfl⟩ ⟨Nat.le_of_ble_eq_true rfl, Nat.le_of_ble_eq_true rfl⟩ ⟨[1, 2, 3], [0], [0, 1, 2, 3], rfl, rfl, rfl, rfl, rfl, rfl, rfl, rfl, rfl⟩ 1 rfl rfl rfl hl.1 rfl (Nat.le_of_ble_eq_true rfl) rfl dX2_takeMove_2 (fun H locs w => bq_z ⟨rfl, rfl⟩ ?_)
  clear hC
  refine lv_iload_n hx hb dX2_takeMove_5 rfl (lv_at hl 3 rfl) ?_
  obtain ⟨v2, hC, hm⟩ := bq_bd_el hm
  refine bq_SN0 (As := [.int v1, .int x3]) (rest := []) (st1 := [.int v2]) E K w hA (kX7_holds l D cI cJ v1 x3 v2 hC) cd_X7_holds mn_X2_74 in_X7 st_X7_holds hs_X7_holds ⟨Nat.le_of_ble_eq_true rfl, Nat.le_of_ble_eq_true rfl⟩ ⟨Nat.le_of_ble_eq_true rfl, Nat.le_of_ble_eq_true rfl⟩ rfl hl.1 rfl (Nat.le_of_ble_eq_true rfl) rfl dX2_takeMove_6 (fun H locs w => bq_z ⟨rfl, rfl⟩ ?_)
  clear hC
  refine lv_istore (lv' := [(5, .int v2), (0, .ref a_t), (1, .ref a_p1), (2, .int x2), (3, .int x3), (4, .int x4)]) hx hb dX2_takeMove_9 hl (by decide) rfl (fun ls hl => ?_)
  refine lv_aload_n hx hb dX2_takeMove_11 rfl (lv_at hl 1 rfl) ?_
  refine gt_X2_24 E K w 0 rfl rfl dX2_takeMove_12 ?_
  obtain ⟨t_3, hT49, hm⟩ := bq_bd_el hm
  have K49 : ∀ (H : Heap) (locs : List Loc) (ls : Array Slot), bq_w D A s.heap (wdX2_takeMove cI a_t a_p1 a_p1_minus a_p1_plus u_t_signs u_p1_pauses u_p1_outBefore u_p1_cuts u_p1_groupOfStep t_3 p1 p1_minus p1_plus) H locs → lv_has ls 6 [(0, .ref a_t), (1, .ref a_p1), (2, .int x2), (3, .int x3), (4, .int x4)] → W p l e rmX2_takeMove s m av9 below meth c H locs 0 0 Q (F0 m 49 ls []) := by
    intro H locs ls w hl
    refine lv_iload hx hb dX2_takeMove_49 (lv_at hl 4 rfl) ?_
    obtain ⟨t_7, p1_minus_8, p1_plus_9, hT107, hm⟩ := bq_b3_el hm
    have K107 : ∀ (H : Heap) (locs : List Loc) (ls : Array Slot), bq_w D A s.heap (wdX2_takeMove cI a_t a_p1 a_p1_minus a_p1_plus u_t_signs u_p1_pauses u_p1_outBefore u_p1_cuts u_p1_groupOfStep t_7 p1 p1_minus_8 p1_plus_9) H locs → lv_has ls 6 [] → W p l e rmX2_takeMove s m av9 below meth c H locs 0 0 Q (F0 m 107 ls []) := by
      intro H locs ls w hl
      obtain ⟨rfl, rfl, rfl⟩ := bq_in3 (Option.some.inj hm)
      exact bq_vret E w hr hk dX2_takeMove_107 hQ
    clear hm
    refine lv_if_eq (tgt := 81) hx hb dX2_takeMove_51 (by decide) (fun hc => ?_) (fun hc => ?_)
    · replace hT107 := bq_t hc hT107
      clear hc
      refine lv_aload_n hx hb dX2_takeMove_81 rfl (lv_at hl 1 rfl) ?_
      refine gt_X2_81 E K w 1 rfl rfl dX2_takeMove_82 ?_
      refine lv_iload_n hx hb dX2_takeMove_85 rfl (lv_at hl 2 rfl) ?_
      refine lv_dup2_11 hx hb dX2_takeMove_86 rfl rfl ?_
      obtain ⟨hI, hT107⟩ := bq_ci_el hT107
      refine bq_ald E K w 2 rfl hI dX2_takeMove_87 ?_
      refine lv_iconst (v := 1) hx hb dX2_takeMove_88 (by decide) ?_
      refine lv_iload_n hx hb dX2_takeMove_89 rfl (lv_at hl 3 rfl) ?_
      refine lv_ishl hx hb dX2_takeMove_90 ?_
      refine lv_ior hx hb dX2_takeMove_91 ?_
      obtain ⟨hI, hT107⟩ := bq_ci_el hT107
      obtain ⟨p1_minus_10, e9, hT107⟩ := bq_let_el hT107
      refine bq_ast E K w 2 rfl hI dX2_takeMove_92 (fun H locs w => ?_)
      replace w : bq_w D A s.heap (wdX2_takeMove cI a_t a_p1 a_p1_minus a_p1_plus u_t_signs u_p1_pauses u_p1_outBefore u_p1_cuts u_p1_groupOfStep t_3 p1 p1_minus_10 p1_plus) H locs := by rw [e9]; exact w
      clear e9
      refine lv_aload_n hx hb dX2_takeMove_93 rfl (lv_at hl 0 rfl) ?_
      refine lv_dup hx hb dX2_takeMove_94 rfl ?_
      refine gt_X2_33 E K w 0 rfl rfl dX2_takeMove_95 ?_
      refine lv_iconst (v := 1) hx hb dX2_takeMove_98 (by decide) ?_
      refine lv_iload_n hx hb dX2_takeMove_99 rfl (lv_at hl 3 rfl) ?_
      refine lv_ishl hx hb dX2_takeMove_100 ?_
      refine lv_iconst (v := (-1)) hx hb dX2_takeMove_101 (by decide) ?_
      refine lv_ixor hx hb dX2_takeMove_102 ?_
      refine lv_iand hx hb dX2_takeMove_103 ?_
      obtain ⟨t_11, e9, hT107⟩ := bq_let_el hT107
      refine pt_X2_33 E K w 0 rfl (Nat.le_of_ble_eq_true rfl) dX2_takeMove_104 (fun H locs w => ?_)
      replace w : bq_w D A s.heap (wdX2_takeMove cI a_t a_p1 a_p1_minus a_p1_plus u_t_signs u_p1_pauses u_p1_outBefore u_p1_cuts u_p1_groupOfStep t_11 p1 p1_minus_10 p1_plus) H locs := by rw [e9]; exact w
      clear e9
      obtain ⟨rfl, rfl, rfl⟩ := bq_in3 (Option.some.inj hT107)
      exact K107 H locs ls w (lv_sub hl [] rfl)
    · replace hT107 := bq_f hc hT107
      clear hc
      refine lv_aload_n hx hb dX2_takeMove_54 rfl (lv_at hl 1 rfl) ?_
      refine gt_X2_78 E K w 1 rfl rfl dX2_takeMove_55 ?_
      refine lv_iload_n hx hb dX2_takeMove_58 rfl (lv_at hl 2 rfl) ?_
      refine lv_dup2_11 hx hb dX2_takeMove_59 rfl rfl ?_
      obtain ⟨hI, hT107⟩ := bq_ci_el hT107
      refine bq_ald E K w 3 rfl hI dX2_takeMove_60 ?_
      refine lv_iconst (v := 1) hx hb dX2_takeMove_61 (by decide) ?_
      refine lv_iload_n hx hb dX2_takeMove_62 rfl (lv_at hl 3 rfl) ?_
      refine lv_ishl hx hb dX2_takeMove_63 ?_
      refine lv_ior hx hb dX2_takeMove_64 ?_
      obtain ⟨hI, hT107⟩ := bq_ci_el hT107
      obtain ⟨p1_plus_12, e9, hT107⟩ := bq_let_el hT107
      refine bq_ast E K w 3 rfl hI dX2_takeMove_65 (fun H locs w => ?_)
      replace w : bq_w D A s.heap (wdX2_takeMove cI a_t a_p1 a_p1_minus a_p1_plus u_t_signs u_p1_pauses u_p1_outBefore u_p1_cuts u_p1_groupOfStep t_3 p1 p1_minus p1_plus_12) H locs := by rw [e9]; exact w
      clear e9
      refine lv_aload_n hx hb dX2_takeMove_66 rfl (lv_at hl 0 rfl) ?_
      refine lv_dup hx hb dX2_takeMove_67 rfl ?_
      refine gt_X2_33 E K w 0 rfl rfl dX2_takeMove_68 ?_
      refine lv_iconst (v := 1) hx hb dX2_takeMove_71 (by decide) ?_
      refine lv_iload_n hx hb dX2_takeMove_72 rfl (lv_at hl 3 rfl) ?_
      refine lv_ishl hx hb dX2_takeMove_73 ?_
      refine lv_ior hx hb dX2_takeMove_74 ?_
      obtain ⟨t_13, e9, hT107⟩ := bq_let_el hT107
      refine pt_X2_33 E K w 0 rfl (Nat.le_of_ble_eq_true rfl) dX2_takeMove_75 (fun H locs w => ?_)
      replace w : bq_w D A s.heap (wdX2_takeMove cI a_t a_p1 a_p1_minus a_p1_plus u_t_signs u_p1_pauses u_p1_outBefore u_p1_cuts u_p1_groupOfStep t_13 p1 p1_minus p1_plus_12) H locs := by rw [e9]; exact w
      clear e9
      refine lv_goto (tgt := 107) hx hb dX2_takeMove_78 (by decide) ?_
      obtain ⟨rfl, rfl, rfl⟩ := bq_in3 (Option.some.inj hT107)
      exact K107 H locs ls w (lv_sub hl [] rfl)
  clear hm
  refine lv_if_ne (tgt := 49) hx hb dX2_takeMove_15 (by decide) (fun hc => ?_) (fun hc => ?_)
  · replace hT49 := bq_f hc hT49
    clear hc
    obtain rfl := Option.some.inj hT49
    exact K49 H locs ls w (lv_sub hl [1, 2, 3, 4, 5] rfl)
  · replace hT49 := bq_t hc hT49
    clear hc
    refine lv_iload hx hb dX2_takeMove_18 (lv_at hl 0 rfl) ?_
    obtain ⟨J36, eJ36, hT49⟩ := bq_let_el hT49
    have K36 : ∀ (H : Heap) (locs : List Loc) (ls : Array Slot), J36 () = some t_3 → bq_w D A s.heap (wdX2_takeMove cI a_t a_p1 a_p1_minus a_p1_plus u_t_signs u_p1_pauses u_p1_outBefore u_p1_cuts u_p1_groupOfStep t p1 p1_minus p1_plus) H locs → lv_has ls 6 [(0, .ref a_t), (1, .ref a_p1), (2, .int x2), (3, .int x3), (4, .int x4)] → W p l e rmX2_takeMove s m av9 below meth c H locs 0 0 Q (F0 m 36 ls []) := by
      intro H locs ls hJ w hl
      replace hJ := bq_ap1 eJ36 hJ
      refine lv_aload_n hx hb dX2_takeMove_36 rfl (lv_at hl 0 rfl) ?_
      refine lv_iconst (v := 2) hx hb dX2_takeMove_37 (by decide) ?_
      obtain ⟨t_4, e9, hJ⟩ := bq_let_el hJ
      refine pt_X2_24 E K w 0 rfl (Nat.le_of_ble_eq_true rfl) dX2_takeMove_38 (fun H locs w => ?_)
      replace w : bq_w D A s.heap (wdX2_takeMove cI a_t a_p1 a_p1_minus a_p1_plus u_t_signs u_p1_pauses u_p1_outBefore u_p1_cuts u_p1_groupOfStep t_4 p1 p1_minus p1_plus) H locs := by rw [e9]; exact w
      clear e9
      refine lv_aload_n hx hb dX2_takeMove_41 rfl (lv_at hl 0 rfl) ?_
      refine lv_aload_n hx hb dX2_takeMove_42 rfl (lv_at hl 0 rfl) ?_
      refine gt_X2_30 E K w 0 rfl rfl dX2_takeMove_43 ?_
      obtain ⟨t_5, e9, hJ⟩ := bq_let_el hJ
      refine pt_X2_27 E K w 0 rfl (Nat.le_of_ble_eq_true rfl) dX2_takeMove_46 (fun H locs w => ?_)
      replace w : bq_w D A s.heap (wdX2_takeMove cI a_t a_p1 a_p1_minus a_p1_plus u_t_signs u_p1_pauses u_p1_outBefore u_p1_cuts u_p1_groupOfStep t_5 p1 p1_minus p1_plus) H locs := by rw [e9]; exact w
      clear e9
      obtain rfl := Option.some.inj hJ
      exact K49 H locs ls w (lv_sub hl [0, 1, 2, 3, 4] rfl)
    refine lv_if_ne (tgt := 36) hx hb dX2_takeMove_20 (by decide) (fun hc => ?_) (fun hc => ?_)
    · replace hT49 := bq_f hc hT49
      clear hc
      exact K36 H locs ls hT49 w (lv_sub hl [1, 2, 3, 4, 5] rfl)
    · replace hT49 := bq_t hc hT49
      clear hc
      refine lv_aload_n hx hb dX2_takeMove_23 rfl (lv_at hl 1 rfl) ?_
      refine gt_X2_33 E K w 0 rfl rfl dX2_takeMove_24 ?_
      refine lv_iload_n hx hb dX2_takeMove_27 rfl (lv_at hl 4 rfl) ?_
      obtain ⟨v6, hC, hT49⟩ := bq_bd_el hT49
      refine bq_SN0 (As := [.int (t 5), .int x3]) (rest := []) (st1 := [.int v6]) E K w hA (kX7_holds l D cI cJ (t 5) x3 v6 hC) cd_X7_holds mn_X2_74 in_X7 st_X7_holds hs_X7_holds ⟨Nat.le_of_ble_eq_true rfl, Nat.le_of_ble_eq_true rfl⟩ ⟨Nat.le_of_ble_eq_true rfl, Nat.le_of_ble_eq_true rfl⟩ rfl hl.1 rfl (Nat.le_of_ble_eq_true rfl) rfl dX2_takeMove_28 (fun H locs w => bq_z ⟨rfl, rfl⟩ ?_)
      clear hC
      refine lv_iload hx hb dX2_takeMove_31 (lv_at hl 5 rfl) ?_
      refine lv_icmp_ne (tgt := 49) hx hb dX2_takeMove_33 (by decide) (fun hc => ?_) (fun hc => ?_)
      · replace hT49 := bq_f hc hT49
        clear hc
        obtain rfl := Option.some.inj hT49
        exact K49 H locs ls w (lv_sub hl [1, 2, 3, 4, 5] rfl)
      · replace hT49 := bq_t hc hT49
        clear hc
        exact K36 H locs ls hT49 w (lv_sub hl [1, 2, 3, 4, 5] rfl)
abbrev wdX2_readMove (cI : ClassId) (a_t a_t_signs a_p1 a_p1_minus a_p1_plus u_p1_pauses u_p1_outBefore u_p1_cuts u_p1_groupOfStep : Nat) (t : Nat → Int32) (t_signs : Nat → Int32) (p1 : Nat → Int32) (p1_minus : Nat → Int32) (p1_plus : Nat → Int32) : va_W := [(a_t, oX2 a_t_signs t), (a_t_signs, oA cI 80 t_signs), (a_p1, oX5 a_p1_plus a_p1_minus u_p1_pauses u_p1_outBefore u_p1_cuts u_p1_groupOfStep p1), (a_p1_minus, oA cI 16 p1_minus), (a_p1_plus, oA cI 16 p1_plus)]
abbrev rmX2_readMove : Room := { frames := 2, cells := 0, slots := 0, locals := 46 }
theorem hd_X2_readMove : yX2_readMove.cls = RX2 ∧ yX2_readMove.cls ≠ "java/lang/invoke/MethodHandle" ∧ yX2_readMove.cls ≠ "java/lang/invoke/VarHandle" ∧ (parseMethodDescriptor yX2_readMove.desc).map (fun d => d.parameters.length) = some 2 := by decide +kernel
set_option maxHeartbeats 4000000 in
set_option maxRecDepth 100000 in
theorem kX2_readMove (l : Launch) (D : va_G) (cI cJ : ClassId) (a_t a_t_signs a_p1 a_p1_minus a_p1_plus u_p1_pauses u_p1_outBefore u_p1_cuts u_p1_groupOfStep : Nat) (t t_signs p1 p1_minus p1_plus : Nat → Int32) (x2 : Int32) (t_o : Nat → Int32) (p1_minus_o : Nat → Int32) (p1_plus_o : Nat → Int32) (hm : mX2_readMove t t_signs p1_minus p1_plus x2 = some (t_o, p1_minus_o, p1_plus_o)) : bq_M l D cI cJ yX2_readMove cX2_readMove 5 none rmX2_readMove [.ref a_t, .ref a_p1, .int x2] (wdX2_readMove cI a_t a_t_signs a_p1 a_p1_minus a_p1_plus u_p1_pauses u_p1_outBefore u_p1_cuts u_p1_groupOfStep t t_signs p1 p1_minus p1_plus) (wdX2_readMove cI a_t a_t_signs a_p1 a_p1_minus a_p1_plus u_p1_pauses u_p1_outBefore u_p1_cuts u_p1_groupOfStep t_o t_signs p1 p1_minus_o p1_plus_o) none := by
  refine bq_start (by decide) (Nat.le_of_ble_eq_true rfl) ?_
  intro p e s m av9 below meth c A ls Q H locs E K w hA hr hk hn hQ hl
  have E : bq_E p m c cX2_readMove 5 s av9 RX2 := E
  have hx := E.1
  have hb := E.2.1
  have hl : lv_has ls 5 [(0, .ref a_t), (1, .ref a_p1), (2, .int x2)] := hl
  unfold mX2_readMove at hm
  refine lv_aload_n hx hb dX2_readMove_0 rfl (lv_at hl 0 rfl) ?_
  refine lv_aload_n hx hb dX2_readMove_1 rfl (lv_at hl 0 rfl) ?_
  refine gt_X2_30 E K w 0 rfl rfl dX2_readMove_2 ?_
  obtain ⟨v1, hC, hm⟩ := bq_bd_el hm
  refine bq_V (As := [.int (t 4)]) (rest := []) (st1 := [.int v1]) (ws' := wdX2_readMove cI a_t a_t_signs a_p1 a_p1_minus a_p1_plus u_p1_pauses u_p1_outBefore u_p1_cuts u_p1_groupOfStep t t_signs p1 p1_minus p1_plus) E K w hA (kX2_signAt l D cI cJ a_t a_t_signs t t_signs (t 4) v1 hC) (bq_gV ml_X2_54 im_X2_signAt sl_X2_signAt in_X2 cd_X2_signAt) hd_X2_signAt ⟨Nat.le_of_ble_eq_true rfl, Nat.le_of_ble_eq_true rfl⟩ ⟨Nat.le_of_ble_eq_true rfl, Nat.le_of_ble_eq_true rfl⟩ ⟨[0, 1], [2, 3, 4], [3, 4, 0, 1, 2], rfl, rfl, rfl, rfl, rfl, rfl, rfl, rfl, rfl⟩ 0 rfl rfl rfl hl.1 rfl (Nat.le_of_ble_eq_true rfl) rfl dX2_readMove_5 (fun H locs w => bq_z ⟨rfl, rfl⟩ ?_)
  clear hC
  refine lv_bipush (v := 65) hx hb dX2_readMove_8 (by decide) ?_
  refine lv_isub hx hb dX2_readMove_10 ?_
  obtain ⟨v2, e9, hm⟩ := bq_let_el hm
  refine bq_nmi e9 ?_
  clear e9
  refine lv_istore_n (lv' := [(3, .int v2), (0, .ref a_t), (1, .ref a_p1), (2, .int x2)]) hx hb dX2_readMove_11 rfl hl (by decide) rfl (fun ls hl => ?_)
  refine lv_aload_n hx hb dX2_readMove_12 rfl (lv_at hl 1 rfl) ?_
  refine lv_aload_n hx hb dX2_readMove_13 rfl (lv_at hl 1 rfl) ?_
  refine gt_X2_30 E K w 0 rfl rfl dX2_readMove_14 ?_
  refine lv_iconst (v := 1) hx hb dX2_readMove_17 (by decide) ?_
  refine lv_iadd hx hb dX2_readMove_18 ?_
  obtain ⟨v3, hC, hm⟩ := bq_bd_el hm
  refine bq_V (As := [.int ((t 4) + 1)]) (rest := []) (st1 := [.int v3]) (ws' := wdX2_readMove cI a_t a_t_signs a_p1 a_p1_minus a_p1_plus u_p1_pauses u_p1_outBefore u_p1_cuts u_p1_groupOfStep t t_signs p1 p1_minus p1_plus) E K w hA (kX2_signAt l D cI cJ a_t a_t_signs t t_signs ((t 4) + 1) v3 hC) (bq_gV ml_X2_54 im_X2_signAt sl_X2_signAt in_X2 cd_X2_signAt) hd_X2_signAt ⟨Nat.le_of_ble_eq_true rfl, Nat.le_of_ble_eq_true rfl⟩ ⟨Nat.le_of_ble_eq_true rfl, Nat.le_of_ble_eq_true rfl⟩ ⟨[0, 1], [2, 3, 4], [3, 4, 0, 1, 2], rfl, rfl, rfl, rfl, rfl, rfl, rfl, rfl, rfl⟩ 0 rfl rfl rfl hl.1 rfl (Nat.le_of_ble_eq_true rfl) rfl dX2_readMove_19 (fun H locs w => bq_z ⟨rfl, rfl⟩ ?_)
  clear hC
  refine lv_istore (lv' := [(4, .int v3), (3, .int v2), (0, .ref a_t), (1, .ref a_p1), (2, .int x2)]) hx hb dX2_readMove_22 hl (by decide) rfl (fun ls hl => ?_)
  refine lv_iload_n hx hb dX2_readMove_24 rfl (lv_at hl 1 rfl) ?_
  obtain ⟨t_4, p1_minus_5, p1_plus_6, hT101, hm⟩ := bq_b3_el hm
  have K101 : ∀ (H : Heap) (locs : List Loc) (ls : Array Slot), bq_w D A s.heap (wdX2_readMove cI a_t a_t_signs a_p1 a_p1_minus a_p1_plus u_p1_pauses u_p1_outBefore u_p1_cuts u_p1_groupOfStep t_4 t_signs p1 p1_minus_5 p1_plus_6) H locs → lv_has ls 5 [] → W p l e rmX2_readMove s m av9 below meth c H locs 0 0 Q (F0 m 101 ls []) := by
    intro H locs ls w hl
    obtain ⟨rfl, rfl, rfl⟩ := bq_in3 (Option.some.inj hm)
    exact bq_vret E w hr hk dX2_readMove_101 hQ
  clear hm
  refine lv_if_lt (tgt := 34) hx hb dX2_readMove_25 (by decide) (fun hc => ?_) (fun hc => ?_)
  · replace hT101 := bq_t hc hT101
    clear hc
    refine lv_aload_n hx hb dX2_readMove_34 rfl (lv_at hl 2 rfl) ?_
    refine lv_aload_n hx hb dX2_readMove_35 rfl (lv_at hl 2 rfl) ?_
    refine gt_X2_30 E K w 0 rfl rfl dX2_readMove_36 ?_
    obtain ⟨t_7, hC, hT101⟩ := bq_bd_el hT101
    refine bq_V (As := [.int (t 4)]) (rest := []) (st1 := []) (ws' := wdX2_readMove cI a_t a_t_signs a_p1 a_p1_minus a_p1_plus u_p1_pauses u_p1_outBefore u_p1_cuts u_p1_groupOfStep t_7 t_signs p1 p1_minus p1_plus) E K w hA (kX2_refuseSign l D cI cJ a_t a_t_signs t (t 4) t_7 hC) (bq_gV ml_X2_46 im_X2_refuseSign sl_X2_refuseSign in_X2 cd_X2_refuseSign) hd_X2_refuseSign ⟨Nat.le_of_ble_eq_true rfl, Nat.le_of_ble_eq_true rfl⟩ ⟨Nat.le_of_ble_eq_true rfl, Nat.le_of_ble_eq_true rfl⟩ ⟨[0], [1, 2, 3, 4], [4, 0, 1, 2, 3], rfl, rfl, rfl, rfl, rfl, rfl, rfl, rfl, rfl⟩ 0 rfl rfl rfl hl.1 rfl (Nat.le_of_ble_eq_true rfl) rfl dX2_readMove_39 (fun H locs w => bq_z ⟨rfl, rfl⟩ ?_)
    clear hC
    refine lv_goto (tgt := 101) hx hb dX2_readMove_42 (by decide) ?_
    obtain ⟨rfl, rfl, rfl⟩ := bq_in3 (Option.some.inj hT101)
    exact K101 H locs ls w (lv_sub hl [] rfl)
  · replace hT101 := bq_f hc hT101
    clear hc
    refine lv_iload_n hx hb dX2_readMove_28 rfl (lv_at hl 1 rfl) ?_
    refine lv_bipush (v := 6) hx hb dX2_readMove_29 (by decide) ?_
    refine lv_icmp_lt (tgt := 45) hx hb dX2_readMove_31 (by decide) (fun hc => ?_) (fun hc => ?_)
    · replace hT101 := bq_t hc hT101
      clear hc
      refine lv_iload hx hb dX2_readMove_45 (lv_at hl 0 rfl) ?_
      refine lv_bipush (v := 43) hx hb dX2_readMove_47 (by decide) ?_
      obtain ⟨J72, eJ72, hT101⟩ := bq_let_el hT101
      have K72 : ∀ (H : Heap) (locs : List Loc) (ls : Array Slot), J72 () = some (t_4, p1_minus_5, p1_plus_6) → bq_w D A s.heap (wdX2_readMove cI a_t a_t_signs a_p1 a_p1_minus a_p1_plus u_p1_pauses u_p1_outBefore u_p1_cuts u_p1_groupOfStep t t_signs p1 p1_minus p1_plus) H locs → lv_has ls 5 [(0, .ref a_t), (1, .ref a_p1), (2, .int x2), (3, .int v2), (4, .int v3)] → W p l e rmX2_readMove s m av9 below meth c H locs 0 0 Q (F0 m 72 ls []) := by
        intro H locs ls hJ w hl
        replace hJ := bq_ap1 eJ72 hJ
        refine lv_aload_n hx hb dX2_readMove_72 rfl (lv_at hl 0 rfl) ?_
        refine lv_aload_n hx hb dX2_readMove_73 rfl (lv_at hl 1 rfl) ?_
        refine lv_iload_n hx hb dX2_readMove_74 rfl (lv_at hl 2 rfl) ?_
        refine lv_iload_n hx hb dX2_readMove_75 rfl (lv_at hl 3 rfl) ?_
        refine lv_iload hx hb dX2_readMove_76 (lv_at hl 4 rfl) ?_
        refine lv_bipush (v := 43) hx hb dX2_readMove_78 (by decide) ?_
        obtain ⟨v8, hT88, hJ⟩ := bq_let_el hJ
        have K88 : ∀ (H : Heap) (locs : List Loc) (ls : Array Slot), bq_w D A s.heap (wdX2_readMove cI a_t a_t_signs a_p1 a_p1_minus a_p1_plus u_p1_pauses u_p1_outBefore u_p1_cuts u_p1_groupOfStep t t_signs p1 p1_minus p1_plus) H locs → lv_has ls 5 [(0, .ref a_t)] → W p l e rmX2_readMove s m av9 below meth c H locs 0 0 Q (F0 m 88 ls [.int v8, .int v2, .int x2, .ref a_p1, .ref a_t]) := by
          intro H locs ls w hl
          obtain ⟨t_9, p1_minus_10, p1_plus_11, hC, hJ⟩ := bq_b3_el hJ
          refine bq_V (As := [.ref a_p1, .int x2, .int v2, .int v8]) (rest := []) (st1 := []) (ws' := wdX2_readMove cI a_t a_t_signs a_p1 a_p1_minus a_p1_plus u_p1_pauses u_p1_outBefore u_p1_cuts u_p1_groupOfStep t_9 t_signs p1 p1_minus_10 p1_plus_11) E K w hA (kX2_takeMove l D cI cJ a_t a_p1 a_p1_minus a_p1_plus a_t_signs u_p1_pauses u_p1_outBefore u_p1_cuts u_p1_groupOfStep t p1 p1_minus p1_plus x2 v2 v8 t_9 p1_minus_10 p1_plus_11 hC) (bq_gV ml_X2_67 im_X2_takeMove sl_X2_takeMove in_X2 cd_X2_takeMove) hd_X2_takeMove ⟨Nat.le_of_ble_eq_true rfl, Nat.le_of_ble_eq_true rfl⟩ ⟨Nat.le_of_ble_eq_true rfl, Nat.le_of_ble_eq_true rfl⟩ ⟨[0, 2, 3, 4], [1], [1, 0, 2, 3, 4], rfl, rfl, rfl, rfl, rfl, rfl, rfl, rfl, rfl⟩ 0 rfl rfl rfl hl.1 rfl (Nat.le_of_ble_eq_true rfl) rfl dX2_readMove_88 (fun H locs w => bq_z ⟨rfl, rfl⟩ ?_)
          clear hC
          refine lv_aload_n hx hb dX2_readMove_91 rfl (lv_at hl 0 rfl) ?_
          refine lv_dup hx hb dX2_readMove_92 rfl ?_
          refine gt_X2_30 E K w 0 rfl rfl dX2_readMove_93 ?_
          refine lv_iconst (v := 2) hx hb dX2_readMove_96 (by decide) ?_
          refine lv_iadd hx hb dX2_readMove_97 ?_
          obtain ⟨t_12, e9, hJ⟩ := bq_let_el hJ
          refine pt_X2_30 E K w 0 rfl (Nat.le_of_ble_eq_true rfl) dX2_readMove_98 (fun H locs w => ?_)
          replace w : bq_w D A s.heap (wdX2_readMove cI a_t a_t_signs a_p1 a_p1_minus a_p1_plus u_p1_pauses u_p1_outBefore u_p1_cuts u_p1_groupOfStep t_12 t_signs p1 p1_minus_10 p1_plus_11) H locs := by rw [e9]; exact w
          clear e9
          obtain ⟨rfl, rfl, rfl⟩ := bq_in3 (Option.some.inj hJ)
          exact K101 H locs ls w (lv_sub hl [] rfl)
        clear hJ
        refine lv_icmp_ne (tgt := 87) hx hb dX2_readMove_80 (by decide) (fun hc => ?_) (fun hc => ?_)
        · replace hT88 := bq_ef hc hT88
          clear hc
          refine lv_iconst (v := 0) hx hb dX2_readMove_87 (by decide) ?_
          subst hT88
          exact K88 H locs ls w (lv_sub hl [0] rfl)
        · replace hT88 := bq_et hc hT88
          clear hc
          refine lv_iconst (v := 1) hx hb dX2_readMove_83 (by decide) ?_
          refine lv_goto (tgt := 88) hx hb dX2_readMove_84 (by decide) ?_
          subst hT88
          exact K88 H locs ls w (lv_sub hl [0] rfl)
      refine lv_icmp_eq (tgt := 72) hx hb dX2_readMove_49 (by decide) (fun hc => ?_) (fun hc => ?_)
      · replace hT101 := bq_t hc hT101
        clear hc
        exact K72 H locs ls hT101 w (lv_sub hl [2, 3, 4, 1, 0] rfl)
      · replace hT101 := bq_f hc hT101
        clear hc
        refine lv_iload hx hb dX2_readMove_52 (lv_at hl 0 rfl) ?_
        refine lv_bipush (v := 45) hx hb dX2_readMove_54 (by decide) ?_
        refine lv_icmp_eq (tgt := 72) hx hb dX2_readMove_56 (by decide) (fun hc => ?_) (fun hc => ?_)
        · replace hT101 := bq_t hc hT101
          clear hc
          exact K72 H locs ls hT101 w (lv_sub hl [2, 3, 4, 1, 0] rfl)
        · replace hT101 := bq_f hc hT101
          clear hc
          refine lv_aload_n hx hb dX2_readMove_59 rfl (lv_at hl 2 rfl) ?_
          refine lv_aload_n hx hb dX2_readMove_60 rfl (lv_at hl 2 rfl) ?_
          refine gt_X2_30 E K w 0 rfl rfl dX2_readMove_61 ?_
          refine lv_iconst (v := 1) hx hb dX2_readMove_64 (by decide) ?_
          refine lv_iadd hx hb dX2_readMove_65 ?_
          obtain ⟨t_13, hC, hT101⟩ := bq_bd_el hT101
          refine bq_V (As := [.int ((t 4) + 1)]) (rest := []) (st1 := []) (ws' := wdX2_readMove cI a_t a_t_signs a_p1 a_p1_minus a_p1_plus u_p1_pauses u_p1_outBefore u_p1_cuts u_p1_groupOfStep t_13 t_signs p1 p1_minus p1_plus) E K w hA (kX2_refuseSign l D cI cJ a_t a_t_signs t ((t 4) + 1) t_13 hC) (bq_gV ml_X2_46 im_X2_refuseSign sl_X2_refuseSign in_X2 cd_X2_refuseSign) hd_X2_refuseSign ⟨Nat.le_of_ble_eq_true rfl, Nat.le_of_ble_eq_true rfl⟩ ⟨Nat.le_of_ble_eq_true rfl, Nat.le_of_ble_eq_true rfl⟩ ⟨[0], [1, 2, 3, 4], [4, 0, 1, 2, 3], rfl, rfl, rfl, rfl, rfl, rfl, rfl, rfl, rfl⟩ 0 rfl rfl rfl hl.1 rfl (Nat.le_of_ble_eq_true rfl) rfl dX2_readMove_66 (fun H locs w => bq_z ⟨rfl, rfl⟩ ?_)
          clear hC
          refine lv_goto (tgt := 101) hx hb dX2_readMove_69 (by decide) ?_
          obtain ⟨rfl, rfl, rfl⟩ := bq_in3 (Option.some.inj hT101)
          exact K101 H locs ls w (lv_sub hl [] rfl)
    · replace hT101 := bq_f hc hT101
      clear hc
      refine lv_aload_n hx hb dX2_readMove_34 rfl (lv_at hl 2 rfl) ?_
      refine lv_aload_n hx hb dX2_readMove_35 rfl (lv_at hl 2 rfl) ?_
      refine gt_X2_30 E K w 0 rfl rfl dX2_readMove_36 ?_
      obtain ⟨t_14, hC, hT101⟩ := bq_bd_el hT101
      refine bq_V (As := [.int (t 4)]) (rest := []) (st1 := []) (ws' := wdX2_readMove cI a_t a_t_signs a_p1 a_p1_minus a_p1_plus u_p1_pauses u_p1_outBefore u_p1_cuts u_p1_groupOfStep t_14 t_signs p1 p1_minus p1_plus) E K w hA (kX2_refuseSign l D cI cJ a_t a_t_signs t (t 4) t_14 hC) (bq_gV ml_X2_46 im_X2_refuseSign sl_X2_refuseSign in_X2 cd_X2_refuseSign) hd_X2_refuseSign ⟨Nat.le_of_ble_eq_true rfl, Nat.le_of_ble_eq_true rfl⟩ ⟨Nat.le_of_ble_eq_true rfl, Nat.le_of_ble_eq_true rfl⟩ ⟨[0], [1, 2, 3, 4], [4, 0, 1, 2, 3], rfl, rfl, rfl, rfl, rfl, rfl, rfl, rfl, rfl⟩ 0 rfl rfl rfl hl.1 rfl (Nat.le_of_ble_eq_true rfl) rfl dX2_readMove_39 (fun H locs w => bq_z ⟨rfl, rfl⟩ ?_)
      clear hC
      refine lv_goto (tgt := 101) hx hb dX2_readMove_42 (by decide) ?_
      obtain ⟨rfl, rfl, rfl⟩ := bq_in3 (Option.some.inj hT101)
      exact K101 H locs ls w (lv_sub hl [] rfl)
abbrev wdX2_readParallel (cI : ClassId) (a_t a_t_signs a_p1 a_p1_minus a_p1_plus u_p1_pauses u_p1_outBefore u_p1_cuts u_p1_groupOfStep : Nat) (t : Nat → Int32) (t_signs : Nat → Int32) (p1 : Nat → Int32) (p1_minus : Nat → Int32) (p1_plus : Nat → Int32) : va_W := [(a_t, oX2 a_t_signs t), (a_t_signs, oA cI 80 t_signs), (a_p1, oX5 a_p1_plus a_p1_minus u_p1_pauses u_p1_outBefore u_p1_cuts u_p1_groupOfStep p1), (a_p1_minus, oA cI 16 p1_minus), (a_p1_plus, oA cI 16 p1_plus)]
abbrev rmX2_readParallel : Room := { frames := 3, cells := 0, slots := 0, locals := 70 }
theorem hd_X2_readParallel : yX2_readParallel.cls = RX2 ∧ yX2_readParallel.cls ≠ "java/lang/invoke/MethodHandle" ∧ yX2_readParallel.cls ≠ "java/lang/invoke/VarHandle" ∧ (parseMethodDescriptor yX2_readParallel.desc).map (fun d => d.parameters.length) = some 2 := by decide +kernel
set_option maxHeartbeats 4000000 in
set_option maxRecDepth 100000 in
theorem kX2_readParallel (l : Launch) (D : va_G) (cI cJ : ClassId) (a_t a_t_signs a_p1 a_p1_minus a_p1_plus u_p1_pauses u_p1_outBefore u_p1_cuts u_p1_groupOfStep : Nat) (t t_signs p1 p1_minus p1_plus : Nat → Int32) (x2 : Int32) (t_o : Nat → Int32) (p1_minus_o : Nat → Int32) (p1_plus_o : Nat → Int32) (hm : mX2_readParallel t t_signs p1_minus p1_plus x2 = some (t_o, p1_minus_o, p1_plus_o)) : bq_M l D cI cJ yX2_readParallel cX2_readParallel 4 none rmX2_readParallel [.ref a_t, .ref a_p1, .int x2] (wdX2_readParallel cI a_t a_t_signs a_p1 a_p1_minus a_p1_plus u_p1_pauses u_p1_outBefore u_p1_cuts u_p1_groupOfStep t t_signs p1 p1_minus p1_plus) (wdX2_readParallel cI a_t a_t_signs a_p1 a_p1_minus a_p1_plus u_p1_pauses u_p1_outBefore u_p1_cuts u_p1_groupOfStep t_o t_signs p1 p1_minus_o p1_plus_o) none := by
  refine bq_start (by decide) (Nat.le_of_ble_eq_true rfl) ?_
  intro p e s m av9 below meth c A ls Q H locs E K w hA hr hk hn hQ hl
  have E : bq_E p m c cX2_readParallel 4 s av9 RX2 := E
  have hx := E.1
  have hb := E.2.1
  have hl : lv_has ls 4 [(0, .ref a_t), (1, .ref a_p1), (2, .int x2)] := hl
  unfold mX2_readParallel at hm
  refine lv_aload_n hx hb dX2_readParallel_0 rfl (lv_at hl 0 rfl) ?_
  refine lv_dup hx hb dX2_readParallel_1 rfl ?_
  refine gt_X2_30 E K w 0 rfl rfl dX2_readParallel_2 ?_
  refine lv_iconst (v := 1) hx hb dX2_readParallel_5 (by decide) ?_
  refine lv_iadd hx hb dX2_readParallel_6 ?_
  obtain ⟨t_1, e9, hm⟩ := bq_let_el hm
  refine pt_X2_30 E K w 0 rfl (Nat.le_of_ble_eq_true rfl) dX2_readParallel_7 (fun H locs w => ?_)
  replace w : bq_w D A s.heap (wdX2_readParallel cI a_t a_t_signs a_p1 a_p1_minus a_p1_plus u_p1_pauses u_p1_outBefore u_p1_cuts u_p1_groupOfStep t_1 t_signs p1 p1_minus p1_plus) H locs := by rw [e9]; exact w
  clear e9
  refine lv_iconst (v := 0) hx hb dX2_readParallel_10 (by decide) ?_
  refine lv_istore_n (lv' := [(3, .int 0), (0, .ref a_t), (1, .ref a_p1), (2, .int x2)]) hx hb dX2_readParallel_11 rfl hl (by decide) rfl (fun ls hl => ?_)
  obtain ⟨rr12, hL, hm⟩ := bq_bd_el hm
  obtain ⟨B, eB, nn, hL⟩ := bq_loop_B hL
  have X67 : ∀ (t_6 : Nat → Int32) (p1_minus_7 : Nat → Int32) (p1_plus_8 : Nat → Int32) (hE : rr12 = .inl (t_6, p1_minus_7, p1_plus_8)) (H : Heap) (locs : List Loc) (ls : Array Slot), bq_w D A s.heap (wdX2_readParallel cI a_t a_t_signs a_p1 a_p1_minus a_p1_plus u_p1_pauses u_p1_outBefore u_p1_cuts u_p1_groupOfStep t_6 t_signs p1 p1_minus_7 p1_plus_8) H locs → lv_has ls 4 [] → W p l e rmX2_readParallel s m av9 below meth c H locs 0 0 Q (F0 m 67 ls []) := by
    intro t_6 p1_minus_7 p1_plus_8 hE H locs ls w hl
    subst hE
    replace hm := bq_or3_l hm
    obtain ⟨rfl, rfl, rfl⟩ := bq_in3 (Option.some.inj hm)
    exact bq_vret E w hr hk dX2_readParallel_67 hQ
  have L12 : ∀ (nn : Nat) (i2 : Int32) (t_3 : Nat → Int32) (p1_minus_4 : Nat → Int32) (p1_plus_5 : Nat → Int32) (H : Heap) (locs : List Loc) (ls : Array Slot), bq_lp B nn (i2, t_3, p1_minus_4, p1_plus_5) = some rr12 → bq_w D A s.heap (wdX2_readParallel cI a_t a_t_signs a_p1 a_p1_minus a_p1_plus u_p1_pauses u_p1_outBefore u_p1_cuts u_p1_groupOfStep t_3 t_signs p1 p1_minus_4 p1_plus_5) H locs → lv_has ls 4 [(0, .ref a_t), (1, .ref a_p1), (2, .int x2), (3, .int i2)] → W p l e rmX2_readParallel s m av9 below meth c H locs 0 0 Q (F0 m 12 ls []) := by
    intro nn
    induction nn with
    | zero =>
      intro i2 t_3 p1_minus_4 p1_plus_5 H locs ls hL w hl
      exact bq_lp_0 hL
    | succ nn ih =>
      intro i2 t_3 p1_minus_4 p1_plus_5 H locs ls hL w hl
      obtain ⟨oo12, hT12, hR12⟩ := bq_lp_el hL
      clear hL
      replace hT12 := bq_u4_el eB hT12
      unfold bX2_readParallel_12 at hT12
      refine lv_iload_n hx hb dX2_readParallel_12 rfl (lv_at hl 3 rfl) ?_
      refine lv_bipush (v := 80) hx hb dX2_readParallel_13 (by decide) ?_
      refine lv_icmp_ge (tgt := 67) hx hb dX2_readParallel_15 (by decide) (fun hc => ?_) (fun hc => ?_)
      · replace hT12 := bq_t hc hT12
        clear hc
        obtain rfl := Option.some.inj hT12
        replace hR12 := bq_lk_r hR12
        exact X67 t_3 p1_minus_4 p1_plus_5 hR12.symm H locs ls w (lv_sub hl [] rfl)
      · replace hT12 := bq_f hc hT12
        clear hc
        refine lv_aload_n hx hb dX2_readParallel_18 rfl (lv_at hl 0 rfl) ?_
        refine gt_X2_24 E K w 0 rfl rfl dX2_readParallel_19 ?_
        refine lv_iconst (v := 1) hx hb dX2_readParallel_22 (by decide) ?_
        refine lv_icmp_eq (tgt := 67) hx hb dX2_readParallel_23 (by decide) (fun hc => ?_) (fun hc => ?_)
        · replace hT12 := bq_t hc hT12
          clear hc
          obtain rfl := Option.some.inj hT12
          replace hR12 := bq_lk_r hR12
          exact X67 t_3 p1_minus_4 p1_plus_5 hR12.symm H locs ls w (lv_sub hl [] rfl)
        · replace hT12 := bq_f hc hT12
          clear hc
          refine lv_iload_n hx hb dX2_readParallel_26 rfl (lv_at hl 3 rfl) ?_
          refine lv_iconst (v := 2) hx hb dX2_readParallel_27 (by decide) ?_
          obtain ⟨J55, eJ55, hT12⟩ := bq_let_el hT12
          have K55 : ∀ (H : Heap) (locs : List Loc) (ls : Array Slot), J55 () = some oo12 → bq_w D A s.heap (wdX2_readParallel cI a_t a_t_signs a_p1 a_p1_minus a_p1_plus u_p1_pauses u_p1_outBefore u_p1_cuts u_p1_groupOfStep t_3 t_signs p1 p1_minus_4 p1_plus_5) H locs → lv_has ls 4 [(0, .ref a_t), (1, .ref a_p1), (2, .int x2), (3, .int i2)] → W p l e rmX2_readParallel s m av9 below meth c H locs 0 0 Q (F0 m 55 ls []) := by
            intro H locs ls hJ w hl
            replace hJ := bq_ap1 eJ55 hJ
            refine lv_aload_n hx hb dX2_readParallel_55 rfl (lv_at hl 0 rfl) ?_
            refine lv_aload_n hx hb dX2_readParallel_56 rfl (lv_at hl 1 rfl) ?_
            refine lv_iload_n hx hb dX2_readParallel_57 rfl (lv_at hl 2 rfl) ?_
            obtain ⟨t_9, p1_minus_10, p1_plus_11, hC, hJ⟩ := bq_b3_el hJ
            refine bq_V (As := [.ref a_p1, .int x2]) (rest := []) (st1 := []) (ws' := wdX2_readParallel cI a_t a_t_signs a_p1 a_p1_minus a_p1_plus u_p1_pauses u_p1_outBefore u_p1_cuts u_p1_groupOfStep t_9 t_signs p1 p1_minus_10 p1_plus_11) E K w hA (kX2_readMove l D cI cJ a_t a_t_signs a_p1 a_p1_minus a_p1_plus u_p1_pauses u_p1_outBefore u_p1_cuts u_p1_groupOfStep t_3 t_signs p1 p1_minus_4 p1_plus_5 x2 t_9 p1_minus_10 p1_plus_11 hC) (bq_gV ml_X2_64 im_X2_readMove sl_X2_readMove in_X2 cd_X2_readMove) hd_X2_readMove ⟨Nat.le_of_ble_eq_true rfl, Nat.le_of_ble_eq_true rfl⟩ ⟨Nat.le_of_ble_eq_true rfl, Nat.le_of_ble_eq_true rfl⟩ ⟨[0, 1, 2, 3, 4], [], [0, 1, 2, 3, 4], rfl, rfl, rfl, rfl, rfl, rfl, rfl, rfl, rfl⟩ 0 rfl rfl rfl hl.1 rfl (Nat.le_of_ble_eq_true rfl) rfl dX2_readParallel_58 (fun H locs w => bq_z ⟨rfl, rfl⟩ ?_)
            clear hC
            obtain ⟨v12, e9, hJ⟩ := bq_let_el hJ
            refine lv_iinc (v := v12) (lv' := [(3, .int v12), (0, .ref a_t), (1, .ref a_p1), (2, .int x2)]) hx hb dX2_readParallel_61 hl (k := 3) rfl (by rw [e9]; rfl) (by decide) rfl (fun ls hl => ?_)
            clear e9
            refine lv_goto (tgt := 12) hx hb dX2_readParallel_64 (by decide) ?_
            obtain rfl := Option.some.inj hJ
            exact ih v12 t_9 p1_minus_10 p1_plus_11 H locs ls hR12 w (lv_sub hl [1, 2, 3, 0] rfl)
          refine lv_icmp_lt (tgt := 55) hx hb dX2_readParallel_28 (by decide) (fun hc => ?_) (fun hc => ?_)
          · replace hT12 := bq_t hc hT12
            clear hc
            exact K55 H locs ls hT12 w (lv_sub hl [0, 1, 2, 3] rfl)
          · replace hT12 := bq_f hc hT12
            clear hc
            refine lv_aload_n hx hb dX2_readParallel_31 rfl (lv_at hl 0 rfl) ?_
            refine lv_aload_n hx hb dX2_readParallel_32 rfl (lv_at hl 0 rfl) ?_
            refine gt_X2_30 E K w 0 rfl rfl dX2_readParallel_33 ?_
            obtain ⟨v13, hC, hT12⟩ := bq_bd_el hT12
            refine bq_V (As := [.int (t_3 4)]) (rest := []) (st1 := [.int v13]) (ws' := wdX2_readParallel cI a_t a_t_signs a_p1 a_p1_minus a_p1_plus u_p1_pauses u_p1_outBefore u_p1_cuts u_p1_groupOfStep t_3 t_signs p1 p1_minus_4 p1_plus_5) E K w hA (kX2_signAt l D cI cJ a_t a_t_signs t_3 t_signs (t_3 4) v13 hC) (bq_gV ml_X2_54 im_X2_signAt sl_X2_signAt in_X2 cd_X2_signAt) hd_X2_signAt ⟨Nat.le_of_ble_eq_true rfl, Nat.le_of_ble_eq_true rfl⟩ ⟨Nat.le_of_ble_eq_true rfl, Nat.le_of_ble_eq_true rfl⟩ ⟨[0, 1], [2, 3, 4], [3, 4, 0, 1, 2], rfl, rfl, rfl, rfl, rfl, rfl, rfl, rfl, rfl⟩ 0 rfl rfl rfl hl.1 rfl (Nat.le_of_ble_eq_true rfl) rfl dX2_readParallel_36 (fun H locs w => bq_z ⟨rfl, rfl⟩ ?_)
            clear hC
            refine lv_bipush (v := 41) hx hb dX2_readParallel_39 (by decide) ?_
            refine lv_icmp_ne (tgt := 55) hx hb dX2_readParallel_41 (by decide) (fun hc => ?_) (fun hc => ?_)
            · replace hT12 := bq_f hc hT12
              clear hc
              exact K55 H locs ls hT12 w (lv_sub hl [0, 1, 2, 3] rfl)
            · replace hT12 := bq_t hc hT12
              clear hc
              refine lv_aload_n hx hb dX2_readParallel_44 rfl (lv_at hl 0 rfl) ?_
              refine lv_dup hx hb dX2_readParallel_45 rfl ?_
              refine gt_X2_30 E K w 0 rfl rfl dX2_readParallel_46 ?_
              refine lv_iconst (v := 1) hx hb dX2_readParallel_49 (by decide) ?_
              refine lv_iadd hx hb dX2_readParallel_50 ?_
              obtain ⟨t_14, e9, hT12⟩ := bq_let_el hT12
              refine pt_X2_30 E K w 0 rfl (Nat.le_of_ble_eq_true rfl) dX2_readParallel_51 (fun H locs w => ?_)
              replace w : bq_w D A s.heap (wdX2_readParallel cI a_t a_t_signs a_p1 a_p1_minus a_p1_plus u_p1_pauses u_p1_outBefore u_p1_cuts u_p1_groupOfStep t_14 t_signs p1 p1_minus_4 p1_plus_5) H locs := by rw [e9]; exact w
              clear e9
              obtain rfl := Option.some.inj hT12
              replace hR12 := bq_lk_r hR12
              subst hR12
              replace hm := bq_or3_r hm
              obtain ⟨rfl, rfl, rfl⟩ := bq_in3 (Option.some.inj hm)
              exact bq_vret E w hr hk dX2_readParallel_54 hQ
  exact L12 nn 0 t_1 p1_minus p1_plus H locs ls hL w (lv_sub hl [1, 2, 3, 0] rfl)
abbrev wdX2_readPause (cI : ClassId) (a_t a_t_signs a_p1 a_p1_pauses u_p1_plus u_p1_minus u_p1_outBefore u_p1_cuts u_p1_groupOfStep : Nat) (t : Nat → Int32) (t_signs : Nat → Int32) (p1 : Nat → Int32) (p1_pauses : Nat → Int32) : va_W := [(a_t, oX2 a_t_signs t), (a_t_signs, oA cI 80 t_signs), (a_p1, oX5 u_p1_plus u_p1_minus a_p1_pauses u_p1_outBefore u_p1_cuts u_p1_groupOfStep p1), (a_p1_pauses, oA cI 16 p1_pauses)]
abbrev rmX2_readPause : Room := { frames := 2, cells := 0, slots := 0, locals := 43 }
theorem hd_X2_readPause : yX2_readPause.cls = RX2 ∧ yX2_readPause.cls ≠ "java/lang/invoke/MethodHandle" ∧ yX2_readPause.cls ≠ "java/lang/invoke/VarHandle" ∧ (parseMethodDescriptor yX2_readPause.desc).map (fun d => d.parameters.length) = some 2 := by decide +kernel
set_option maxHeartbeats 4000000 in
set_option maxRecDepth 100000 in
theorem kX2_readPause (l : Launch) (D : va_G) (cI cJ : ClassId) (a_t a_t_signs a_p1 a_p1_pauses u_p1_plus u_p1_minus u_p1_outBefore u_p1_cuts u_p1_groupOfStep : Nat) (t t_signs p1 p1_pauses : Nat → Int32) (x2 : Int32) (t_o : Nat → Int32) (p1_pauses_o : Nat → Int32) (hm : mX2_readPause t t_signs p1_pauses x2 = some (t_o, p1_pauses_o)) : bq_M l D cI cJ yX2_readPause cX2_readPause 5 none rmX2_readPause [.ref a_t, .ref a_p1, .int x2] (wdX2_readPause cI a_t a_t_signs a_p1 a_p1_pauses u_p1_plus u_p1_minus u_p1_outBefore u_p1_cuts u_p1_groupOfStep t t_signs p1 p1_pauses) (wdX2_readPause cI a_t a_t_signs a_p1 a_p1_pauses u_p1_plus u_p1_minus u_p1_outBefore u_p1_cuts u_p1_groupOfStep t_o t_signs p1 p1_pauses_o) none := by
  refine bq_start (by decide) (Nat.le_of_ble_eq_true rfl) ?_
  intro p e s m av9 below meth c A ls Q H locs E K w hA hr hk hn hQ hl
  have E : bq_E p m c cX2_readPause 5 s av9 RX2 := E
  have hx := E.1
  have hb := E.2.1
  have hl : lv_has ls 5 [(0, .ref a_t), (1, .ref a_p1), (2, .int x2)] := hl
  unfold mX2_readPause at hm
  refine lv_aload_n hx hb dX2_readPause_0 rfl (lv_at hl 0 rfl) ?_
  refine lv_aload_n hx hb dX2_readPause_1 rfl (lv_at hl 0 rfl) ?_
  refine gt_X2_30 E K w 0 rfl rfl dX2_readPause_2 ?_
  refine lv_iconst (v := 1) hx hb dX2_readPause_5 (by decide) ?_
  refine lv_iadd hx hb dX2_readPause_6 ?_
  obtain ⟨v1, hC, hm⟩ := bq_bd_el hm
  refine bq_V (As := [.int ((t 4) + 1)]) (rest := []) (st1 := [.int v1]) (ws' := wdX2_readPause cI a_t a_t_signs a_p1 a_p1_pauses u_p1_plus u_p1_minus u_p1_outBefore u_p1_cuts u_p1_groupOfStep t t_signs p1 p1_pauses) E K w hA (kX2_digitAt l D cI cJ a_t a_t_signs t t_signs ((t 4) + 1) v1 hC) (bq_gV ml_X2_84 im_X2_digitAt sl_X2_digitAt in_X2 cd_X2_digitAt) hd_X2_digitAt ⟨Nat.le_of_ble_eq_true rfl, Nat.le_of_ble_eq_true rfl⟩ ⟨Nat.le_of_ble_eq_true rfl, Nat.le_of_ble_eq_true rfl⟩ ⟨[0, 1], [2, 3], [2, 3, 0, 1], rfl, rfl, rfl, rfl, rfl, rfl, rfl, rfl, rfl⟩ 0 rfl rfl rfl hl.1 rfl (Nat.le_of_ble_eq_true rfl) rfl dX2_readPause_7 (fun H locs w => bq_z ⟨rfl, rfl⟩ ?_)
  clear hC
  refine lv_istore_n (lv' := [(3, .int v1), (0, .ref a_t), (1, .ref a_p1), (2, .int x2)]) hx hb dX2_readPause_10 rfl hl (by decide) rfl (fun ls hl => ?_)
  refine lv_aload_n hx hb dX2_readPause_11 rfl (lv_at hl 1 rfl) ?_
  refine lv_aload_n hx hb dX2_readPause_12 rfl (lv_at hl 1 rfl) ?_
  refine gt_X2_30 E K w 0 rfl rfl dX2_readPause_13 ?_
  refine lv_iconst (v := 2) hx hb dX2_readPause_16 (by decide) ?_
  refine lv_iadd hx hb dX2_readPause_17 ?_
  obtain ⟨v2, hC, hm⟩ := bq_bd_el hm
  refine bq_V (As := [.int ((t 4) + 2)]) (rest := []) (st1 := [.int v2]) (ws' := wdX2_readPause cI a_t a_t_signs a_p1 a_p1_pauses u_p1_plus u_p1_minus u_p1_outBefore u_p1_cuts u_p1_groupOfStep t t_signs p1 p1_pauses) E K w hA (kX2_digitAt l D cI cJ a_t a_t_signs t t_signs ((t 4) + 2) v2 hC) (bq_gV ml_X2_84 im_X2_digitAt sl_X2_digitAt in_X2 cd_X2_digitAt) hd_X2_digitAt ⟨Nat.le_of_ble_eq_true rfl, Nat.le_of_ble_eq_true rfl⟩ ⟨Nat.le_of_ble_eq_true rfl, Nat.le_of_ble_eq_true rfl⟩ ⟨[0, 1], [2, 3], [2, 3, 0, 1], rfl, rfl, rfl, rfl, rfl, rfl, rfl, rfl, rfl⟩ 0 rfl rfl rfl hl.1 rfl (Nat.le_of_ble_eq_true rfl) rfl dX2_readPause_18 (fun H locs w => bq_z ⟨rfl, rfl⟩ ?_)
  clear hC
  refine lv_istore (lv' := [(4, .int v2), (3, .int v1), (0, .ref a_t), (1, .ref a_p1), (2, .int x2)]) hx hb dX2_readPause_21 hl (by decide) rfl (fun ls hl => ?_)
  refine lv_iload_n hx hb dX2_readPause_23 rfl (lv_at hl 1 rfl) ?_
  refine lv_if_ge (tgt := 38) hx hb dX2_readPause_24 (by decide) (fun hc => ?_) (fun hc => ?_)
  · replace hm := bq_t hc hm
    clear hc
    refine lv_iload hx hb dX2_readPause_38 (lv_at hl 0 rfl) ?_
    obtain ⟨v3, hT51, hm⟩ := bq_let_el hm
    have K51 : ∀ (H : Heap) (locs : List Loc) (ls : Array Slot), bq_w D A s.heap (wdX2_readPause cI a_t a_t_signs a_p1 a_p1_pauses u_p1_plus u_p1_minus u_p1_outBefore u_p1_cuts u_p1_groupOfStep t t_signs p1 p1_pauses) H locs → lv_has ls 5 [(0, .ref a_t), (1, .ref a_p1), (2, .int x2), (3, .int v3), (4, .int v2)] → W p l e rmX2_readPause s m av9 below meth c H locs 0 0 Q (F0 m 51 ls []) := by
      intro H locs ls w hl
      refine lv_iload_n hx hb dX2_readPause_51 rfl (lv_at hl 3 rfl) ?_
      refine lv_iconst (v := 1) hx hb dX2_readPause_52 (by decide) ?_
      obtain ⟨J62, eJ62, hm⟩ := bq_let_el hm
      have K62 : ∀ (H : Heap) (locs : List Loc) (ls : Array Slot), J62 () = some (t_o, p1_pauses_o) → bq_w D A s.heap (wdX2_readPause cI a_t a_t_signs a_p1 a_p1_pauses u_p1_plus u_p1_minus u_p1_outBefore u_p1_cuts u_p1_groupOfStep t t_signs p1 p1_pauses) H locs → lv_has ls 5 [(0, .ref a_t)] → W p l e rmX2_readPause s m av9 below meth c H locs 0 0 Q (F0 m 62 ls []) := by
        intro H locs ls hJ w hl
        replace hJ := bq_ap1 eJ62 hJ
        refine lv_aload_n hx hb dX2_readPause_62 rfl (lv_at hl 0 rfl) ?_
        refine lv_aload_n hx hb dX2_readPause_63 rfl (lv_at hl 0 rfl) ?_
        refine gt_X2_30 E K w 0 rfl rfl dX2_readPause_64 ?_
        refine lv_iconst (v := 1) hx hb dX2_readPause_67 (by decide) ?_
        refine lv_iadd hx hb dX2_readPause_68 ?_
        obtain ⟨t_4, hC, hJ⟩ := bq_bd_el hJ
        refine bq_V (As := [.int ((t 4) + 1)]) (rest := []) (st1 := []) (ws' := wdX2_readPause cI a_t a_t_signs a_p1 a_p1_pauses u_p1_plus u_p1_minus u_p1_outBefore u_p1_cuts u_p1_groupOfStep t_4 t_signs p1 p1_pauses) E K w hA (kX2_refuseSign l D cI cJ a_t a_t_signs t ((t 4) + 1) t_4 hC) (bq_gV ml_X2_46 im_X2_refuseSign sl_X2_refuseSign in_X2 cd_X2_refuseSign) hd_X2_refuseSign ⟨Nat.le_of_ble_eq_true rfl, Nat.le_of_ble_eq_true rfl⟩ ⟨Nat.le_of_ble_eq_true rfl, Nat.le_of_ble_eq_true rfl⟩ ⟨[0], [1, 2, 3], [3, 0, 1, 2], rfl, rfl, rfl, rfl, rfl, rfl, rfl, rfl, rfl⟩ 0 rfl rfl rfl hl.1 rfl (Nat.le_of_ble_eq_true rfl) rfl dX2_readPause_69 (fun H locs w => bq_z ⟨rfl, rfl⟩ ?_)
        clear hC
        obtain ⟨rfl, rfl⟩ := bq_in2 (Option.some.inj hJ)
        exact bq_vret E w hr hk dX2_readPause_72 hQ
      refine lv_icmp_lt (tgt := 62) hx hb dX2_readPause_53 (by decide) (fun hc => ?_) (fun hc => ?_)
      · replace hm := bq_t hc hm
        clear hc
        exact K62 H locs ls hm w (lv_sub hl [0] rfl)
      · replace hm := bq_f hc hm
        clear hc
        refine lv_iload_n hx hb dX2_readPause_56 rfl (lv_at hl 3 rfl) ?_
        refine lv_bipush (v := 60) hx hb dX2_readPause_57 (by decide) ?_
        refine lv_icmp_le (tgt := 73) hx hb dX2_readPause_59 (by decide) (fun hc => ?_) (fun hc => ?_)
        · replace hm := bq_t hc hm
          clear hc
          refine lv_aload_n hx hb dX2_readPause_73 rfl (lv_at hl 1 rfl) ?_
          refine gt_X2_87 E K w 2 rfl rfl dX2_readPause_74 ?_
          refine lv_iload_n hx hb dX2_readPause_77 rfl (lv_at hl 2 rfl) ?_
          refine lv_iload_n hx hb dX2_readPause_78 rfl (lv_at hl 3 rfl) ?_
          obtain ⟨hI, hm⟩ := bq_ci_el hm
          obtain ⟨p1_pauses_5, e9, hm⟩ := bq_let_el hm
          refine bq_ast E K w 3 rfl hI dX2_readPause_79 (fun H locs w => ?_)
          replace w : bq_w D A s.heap (wdX2_readPause cI a_t a_t_signs a_p1 a_p1_pauses u_p1_plus u_p1_minus u_p1_outBefore u_p1_cuts u_p1_groupOfStep t t_signs p1 p1_pauses_5) H locs := by rw [e9]; exact w
          clear e9
          refine lv_aload_n hx hb dX2_readPause_80 rfl (lv_at hl 0 rfl) ?_
          refine lv_dup hx hb dX2_readPause_81 rfl ?_
          refine gt_X2_30 E K w 0 rfl rfl dX2_readPause_82 ?_
          refine lv_iload hx hb dX2_readPause_85 (lv_at hl 4 rfl) ?_
          obtain ⟨v6, hT95, hm⟩ := bq_let_el hm
          have K95 : ∀ (H : Heap) (locs : List Loc) (ls : Array Slot), bq_w D A s.heap (wdX2_readPause cI a_t a_t_signs a_p1 a_p1_pauses u_p1_plus u_p1_minus u_p1_outBefore u_p1_cuts u_p1_groupOfStep t t_signs p1 p1_pauses_5) H locs → lv_has ls 5 [] → W p l e rmX2_readPause s m av9 below meth c H locs 0 0 Q (F0 m 95 ls [.int v6, .int (t 4), .ref a_t]) := by
            intro H locs ls w hl
            refine lv_iadd hx hb dX2_readPause_95 ?_
            obtain ⟨t_7, e9, hm⟩ := bq_let_el hm
            refine pt_X2_30 E K w 0 rfl (Nat.le_of_ble_eq_true rfl) dX2_readPause_96 (fun H locs w => ?_)
            replace w : bq_w D A s.heap (wdX2_readPause cI a_t a_t_signs a_p1 a_p1_pauses u_p1_plus u_p1_minus u_p1_outBefore u_p1_cuts u_p1_groupOfStep t_7 t_signs p1 p1_pauses_5) H locs := by rw [e9]; exact w
            clear e9
            obtain ⟨rfl, rfl⟩ := bq_in2 (Option.some.inj hm)
            exact bq_vret E w hr hk dX2_readPause_99 hQ
          clear hm
          refine lv_if_lt (tgt := 94) hx hb dX2_readPause_87 (by decide) (fun hc => ?_) (fun hc => ?_)
          · replace hT95 := bq_et hc hT95
            clear hc
            refine lv_iconst (v := 2) hx hb dX2_readPause_94 (by decide) ?_
            subst hT95
            exact K95 H locs ls w (lv_sub hl [] rfl)
          · replace hT95 := bq_ef hc hT95
            clear hc
            refine lv_iconst (v := 3) hx hb dX2_readPause_90 (by decide) ?_
            refine lv_goto (tgt := 95) hx hb dX2_readPause_91 (by decide) ?_
            subst hT95
            exact K95 H locs ls w (lv_sub hl [] rfl)
        · replace hm := bq_f hc hm
          clear hc
          exact K62 H locs ls hm w (lv_sub hl [0] rfl)
    clear hm
    refine lv_if_lt (tgt := 51) hx hb dX2_readPause_40 (by decide) (fun hc => ?_) (fun hc => ?_)
    · replace hT51 := bq_et hc hT51
      clear hc
      subst hT51
      exact K51 H locs ls w (lv_sub hl [2, 3, 4, 1, 0] rfl)
    · replace hT51 := bq_ef hc hT51
      clear hc
      refine lv_bipush (v := 10) hx hb dX2_readPause_43 (by decide) ?_
      refine lv_iload_n hx hb dX2_readPause_45 rfl (lv_at hl 1 rfl) ?_
      refine lv_imul hx hb dX2_readPause_46 ?_
      refine lv_iload hx hb dX2_readPause_47 (lv_at hl 0 rfl) ?_
      refine lv_iadd hx hb dX2_readPause_49 ?_
      refine lv_istore_n (lv' := [(3, .int ((10 * v1) + v2)), (4, .int v2), (0, .ref a_t), (1, .ref a_p1), (2, .int x2)]) hx hb dX2_readPause_50 rfl hl (by decide) rfl (fun ls hl => ?_)
      subst hT51
      exact K51 H locs ls w (lv_sub hl [2, 3, 4, 0, 1] rfl)
  · replace hm := bq_f hc hm
    clear hc
    refine lv_aload_n hx hb dX2_readPause_27 rfl (lv_at hl 2 rfl) ?_
    refine lv_aload_n hx hb dX2_readPause_28 rfl (lv_at hl 2 rfl) ?_
    refine gt_X2_30 E K w 0 rfl rfl dX2_readPause_29 ?_
    refine lv_iconst (v := 1) hx hb dX2_readPause_32 (by decide) ?_
    refine lv_iadd hx hb dX2_readPause_33 ?_
    obtain ⟨t_8, hC, hm⟩ := bq_bd_el hm
    refine bq_V (As := [.int ((t 4) + 1)]) (rest := []) (st1 := []) (ws' := wdX2_readPause cI a_t a_t_signs a_p1 a_p1_pauses u_p1_plus u_p1_minus u_p1_outBefore u_p1_cuts u_p1_groupOfStep t_8 t_signs p1 p1_pauses) E K w hA (kX2_refuseSign l D cI cJ a_t a_t_signs t ((t 4) + 1) t_8 hC) (bq_gV ml_X2_46 im_X2_refuseSign sl_X2_refuseSign in_X2 cd_X2_refuseSign) hd_X2_refuseSign ⟨Nat.le_of_ble_eq_true rfl, Nat.le_of_ble_eq_true rfl⟩ ⟨Nat.le_of_ble_eq_true rfl, Nat.le_of_ble_eq_true rfl⟩ ⟨[0], [1, 2, 3], [3, 0, 1, 2], rfl, rfl, rfl, rfl, rfl, rfl, rfl, rfl, rfl⟩ 0 rfl rfl rfl hl.1 rfl (Nat.le_of_ble_eq_true rfl) rfl dX2_readPause_34 (fun H locs w => bq_z ⟨rfl, rfl⟩ ?_)
    clear hC
    obtain ⟨rfl, rfl⟩ := bq_in2 (Option.some.inj hm)
    exact bq_vret E w hr hk dX2_readPause_37 hQ
abbrev wdX2_readStep (cI : ClassId) (a_t a_t_signs a_p1 a_p1_minus a_p1_pauses a_p1_plus u_p1_outBefore u_p1_cuts u_p1_groupOfStep : Nat) (t : Nat → Int32) (t_signs : Nat → Int32) (p1 : Nat → Int32) (p1_minus : Nat → Int32) (p1_pauses : Nat → Int32) (p1_plus : Nat → Int32) : va_W := [(a_t, oX2 a_t_signs t), (a_t_signs, oA cI 80 t_signs), (a_p1, oX5 a_p1_plus a_p1_minus a_p1_pauses u_p1_outBefore u_p1_cuts u_p1_groupOfStep p1), (a_p1_minus, oA cI 16 p1_minus), (a_p1_pauses, oA cI 16 p1_pauses), (a_p1_plus, oA cI 16 p1_plus)]
abbrev rmX2_readStep : Room := { frames := 4, cells := 0, slots := 0, locals := 93 }
theorem hd_X2_readStep : yX2_readStep.cls = RX2 ∧ yX2_readStep.cls ≠ "java/lang/invoke/MethodHandle" ∧ yX2_readStep.cls ≠ "java/lang/invoke/VarHandle" ∧ (parseMethodDescriptor yX2_readStep.desc).map (fun d => d.parameters.length) = some 2 := by decide +kernel
set_option maxHeartbeats 4000000 in
set_option maxRecDepth 100000 in
theorem kX2_readStep (l : Launch) (D : va_G) (cI cJ : ClassId) (a_t a_t_signs a_p1 a_p1_minus a_p1_pauses a_p1_plus u_p1_outBefore u_p1_cuts u_p1_groupOfStep : Nat) (t t_signs p1 p1_minus p1_pauses p1_plus : Nat → Int32) (x2 : Int32) (t_o : Nat → Int32) (p1_minus_o : Nat → Int32) (p1_pauses_o : Nat → Int32) (p1_plus_o : Nat → Int32) (hm : mX2_readStep t t_signs p1_minus p1_pauses p1_plus x2 = some (t_o, p1_minus_o, p1_pauses_o, p1_plus_o)) : bq_M l D cI cJ yX2_readStep cX2_readStep 4 none rmX2_readStep [.ref a_t, .ref a_p1, .int x2] (wdX2_readStep cI a_t a_t_signs a_p1 a_p1_minus a_p1_pauses a_p1_plus u_p1_outBefore u_p1_cuts u_p1_groupOfStep t t_signs p1 p1_minus p1_pauses p1_plus) (wdX2_readStep cI a_t a_t_signs a_p1 a_p1_minus a_p1_pauses a_p1_plus u_p1_outBefore u_p1_cuts u_p1_groupOfStep t_o t_signs p1 p1_minus_o p1_pauses_o p1_plus_o) none := by
  refine bq_start (by decide) (Nat.le_of_ble_eq_true rfl) ?_
  intro p e s m av9 below meth c A ls Q H locs E K w hA hr hk hn hQ hl
  have E : bq_E p m c cX2_readStep 4 s av9 RX2 := E
  have hx := E.1
  have hb := E.2.1
  have hl : lv_has ls 4 [(0, .ref a_t), (1, .ref a_p1), (2, .int x2)] := hl
  unfold mX2_readStep at hm
  refine lv_aload_n hx hb dX2_readStep_0 rfl (lv_at hl 0 rfl) ?_
  refine lv_aload_n hx hb dX2_readStep_1 rfl (lv_at hl 0 rfl) ?_
  refine gt_X2_30 E K w 0 rfl rfl dX2_readStep_2 ?_
  obtain ⟨v1, hC, hm⟩ := bq_bd_el hm
  refine bq_V (As := [.int (t 4)]) (rest := []) (st1 := [.int v1]) (ws' := wdX2_readStep cI a_t a_t_signs a_p1 a_p1_minus a_p1_pauses a_p1_plus u_p1_outBefore u_p1_cuts u_p1_groupOfStep t t_signs p1 p1_minus p1_pauses p1_plus) E K w hA (kX2_signAt l D cI cJ a_t a_t_signs t t_signs (t 4) v1 hC) (bq_gV ml_X2_54 im_X2_signAt sl_X2_signAt in_X2 cd_X2_signAt) hd_X2_signAt ⟨Nat.le_of_ble_eq_true rfl, Nat.le_of_ble_eq_true rfl⟩ ⟨Nat.le_of_ble_eq_true rfl, Nat.le_of_ble_eq_true rfl⟩ ⟨[0, 1], [2, 3, 4, 5], [4, 5, 0, 1, 2, 3], rfl, rfl, rfl, rfl, rfl, rfl, rfl, rfl, rfl⟩ 0 rfl rfl rfl hl.1 rfl (Nat.le_of_ble_eq_true rfl) rfl dX2_readStep_5 (fun H locs w => bq_z ⟨rfl, rfl⟩ ?_)
  clear hC
  refine lv_istore_n (lv' := [(3, .int v1), (0, .ref a_t), (1, .ref a_p1), (2, .int x2)]) hx hb dX2_readStep_8 rfl hl (by decide) rfl (fun ls hl => ?_)
  refine lv_iload_n hx hb dX2_readStep_9 rfl (lv_at hl 0 rfl) ?_
  refine lv_bipush (v := 40) hx hb dX2_readStep_10 (by decide) ?_
  obtain ⟨t_2, p1_minus_3, p1_pauses_4, p1_plus_5, hT45, hm⟩ := bq_b4_el hm
  have K45 : ∀ (H : Heap) (locs : List Loc) (ls : Array Slot), bq_w D A s.heap (wdX2_readStep cI a_t a_t_signs a_p1 a_p1_minus a_p1_pauses a_p1_plus u_p1_outBefore u_p1_cuts u_p1_groupOfStep t_2 t_signs p1 p1_minus_3 p1_pauses_4 p1_plus_5) H locs → lv_has ls 4 [] → W p l e rmX2_readStep s m av9 below meth c H locs 0 0 Q (F0 m 45 ls []) := by
    intro H locs ls w hl
    obtain ⟨rfl, rfl, rfl, rfl⟩ := bq_in4 (Option.some.inj hm)
    exact bq_vret E w hr hk dX2_readStep_45 hQ
  clear hm
  refine lv_icmp_ne (tgt := 24) hx hb dX2_readStep_12 (by decide) (fun hc => ?_) (fun hc => ?_)
  · replace hT45 := bq_f hc hT45
    clear hc
    refine lv_iload_n hx hb dX2_readStep_24 rfl (lv_at hl 0 rfl) ?_
    refine lv_bipush (v := 84) hx hb dX2_readStep_25 (by decide) ?_
    refine lv_icmp_ne (tgt := 39) hx hb dX2_readStep_27 (by decide) (fun hc => ?_) (fun hc => ?_)
    · replace hT45 := bq_f hc hT45
      clear hc
      refine lv_aload_n hx hb dX2_readStep_39 rfl (lv_at hl 1 rfl) ?_
      refine lv_aload_n hx hb dX2_readStep_40 rfl (lv_at hl 2 rfl) ?_
      refine lv_iload_n hx hb dX2_readStep_41 rfl (lv_at hl 3 rfl) ?_
      obtain ⟨t_6, p1_minus_7, p1_plus_8, hC, hT45⟩ := bq_b3_el hT45
      refine bq_V (As := [.ref a_p1, .int x2]) (rest := []) (st1 := []) (ws' := wdX2_readStep cI a_t a_t_signs a_p1 a_p1_minus a_p1_pauses a_p1_plus u_p1_outBefore u_p1_cuts u_p1_groupOfStep t_6 t_signs p1 p1_minus_7 p1_pauses p1_plus_8) E K w hA (kX2_readMove l D cI cJ a_t a_t_signs a_p1 a_p1_minus a_p1_plus a_p1_pauses u_p1_outBefore u_p1_cuts u_p1_groupOfStep t t_signs p1 p1_minus p1_plus x2 t_6 p1_minus_7 p1_plus_8 hC) (bq_gV ml_X2_64 im_X2_readMove sl_X2_readMove in_X2 cd_X2_readMove) hd_X2_readMove ⟨Nat.le_of_ble_eq_true rfl, Nat.le_of_ble_eq_true rfl⟩ ⟨Nat.le_of_ble_eq_true rfl, Nat.le_of_ble_eq_true rfl⟩ ⟨[0, 1, 2, 3, 5], [4], [1, 2, 3, 4, 0, 5], rfl, rfl, rfl, rfl, rfl, rfl, rfl, rfl, rfl⟩ 0 rfl rfl rfl hl.1 rfl (Nat.le_of_ble_eq_true rfl) rfl dX2_readStep_42 (fun H locs w => bq_z ⟨rfl, rfl⟩ ?_)
      clear hC
      obtain ⟨rfl, rfl, rfl, rfl⟩ := bq_in4 (Option.some.inj hT45)
      exact K45 H locs ls w (lv_sub hl [] rfl)
    · replace hT45 := bq_t hc hT45
      clear hc
      refine lv_aload_n hx hb dX2_readStep_30 rfl (lv_at hl 1 rfl) ?_
      refine lv_aload_n hx hb dX2_readStep_31 rfl (lv_at hl 2 rfl) ?_
      refine lv_iload_n hx hb dX2_readStep_32 rfl (lv_at hl 3 rfl) ?_
      obtain ⟨t_9, p1_pauses_10, hC, hT45⟩ := bq_b2_el hT45
      refine bq_V (As := [.ref a_p1, .int x2]) (rest := []) (st1 := []) (ws' := wdX2_readStep cI a_t a_t_signs a_p1 a_p1_minus a_p1_pauses a_p1_plus u_p1_outBefore u_p1_cuts u_p1_groupOfStep t_9 t_signs p1 p1_minus p1_pauses_10 p1_plus) E K w hA (kX2_readPause l D cI cJ a_t a_t_signs a_p1 a_p1_pauses a_p1_plus a_p1_minus u_p1_outBefore u_p1_cuts u_p1_groupOfStep t t_signs p1 p1_pauses x2 t_9 p1_pauses_10 hC) (bq_gV ml_X2_61 im_X2_readPause sl_X2_readPause in_X2 cd_X2_readPause) hd_X2_readPause ⟨Nat.le_of_ble_eq_true rfl, Nat.le_of_ble_eq_true rfl⟩ ⟨Nat.le_of_ble_eq_true rfl, Nat.le_of_ble_eq_true rfl⟩ ⟨[0, 1, 2, 4], [3, 5], [2, 3, 4, 0, 5, 1], rfl, rfl, rfl, rfl, rfl, rfl, rfl, rfl, rfl⟩ 0 rfl rfl rfl hl.1 rfl (Nat.le_of_ble_eq_true rfl) rfl dX2_readStep_33 (fun H locs w => bq_z ⟨rfl, rfl⟩ ?_)
      clear hC
      refine lv_goto (tgt := 45) hx hb dX2_readStep_36 (by decide) ?_
      obtain ⟨rfl, rfl, rfl, rfl⟩ := bq_in4 (Option.some.inj hT45)
      exact K45 H locs ls w (lv_sub hl [] rfl)
  · replace hT45 := bq_t hc hT45
    clear hc
    refine lv_aload_n hx hb dX2_readStep_15 rfl (lv_at hl 1 rfl) ?_
    refine lv_aload_n hx hb dX2_readStep_16 rfl (lv_at hl 2 rfl) ?_
    refine lv_iload_n hx hb dX2_readStep_17 rfl (lv_at hl 3 rfl) ?_
    obtain ⟨t_11, p1_minus_12, p1_plus_13, hC, hT45⟩ := bq_b3_el hT45
    refine bq_V (As := [.ref a_p1, .int x2]) (rest := []) (st1 := []) (ws' := wdX2_readStep cI a_t a_t_signs a_p1 a_p1_minus a_p1_pauses a_p1_plus u_p1_outBefore u_p1_cuts u_p1_groupOfStep t_11 t_signs p1 p1_minus_12 p1_pauses p1_plus_13) E K w hA (kX2_readParallel l D cI cJ a_t a_t_signs a_p1 a_p1_minus a_p1_plus a_p1_pauses u_p1_outBefore u_p1_cuts u_p1_groupOfStep t t_signs p1 p1_minus p1_plus x2 t_11 p1_minus_12 p1_plus_13 hC) (bq_gV ml_X2_58 im_X2_readParallel sl_X2_readParallel in_X2 cd_X2_readParallel) hd_X2_readParallel ⟨Nat.le_of_ble_eq_true rfl, Nat.le_of_ble_eq_true rfl⟩ ⟨Nat.le_of_ble_eq_true rfl, Nat.le_of_ble_eq_true rfl⟩ ⟨[0, 1, 2, 3, 5], [4], [1, 2, 3, 4, 0, 5], rfl, rfl, rfl, rfl, rfl, rfl, rfl, rfl, rfl⟩ 0 rfl rfl rfl hl.1 rfl (Nat.le_of_ble_eq_true rfl) rfl dX2_readStep_18 (fun H locs w => bq_z ⟨rfl, rfl⟩ ?_)
    clear hC
    refine lv_goto (tgt := 45) hx hb dX2_readStep_21 (by decide) ?_
    obtain ⟨rfl, rfl, rfl, rfl⟩ := bq_in4 (Option.some.inj hT45)
    exact K45 H locs ls w (lv_sub hl [] rfl)
abbrev wdX2_readInto (cI : ClassId) (a_t a_t_signs a_p1 a_p1_minus a_p1_outBefore a_p1_pauses a_p1_plus u_p1_cuts u_p1_groupOfStep : Nat) (t : Nat → Int32) (t_signs : Nat → Int32) (p1 : Nat → Int32) (p1_minus : Nat → Int32) (p1_outBefore : Nat → Int32) (p1_pauses : Nat → Int32) (p1_plus : Nat → Int32) : va_W := [(a_t, oX2 a_t_signs t), (a_t_signs, oA cI 80 t_signs), (a_p1, oX5 a_p1_plus a_p1_minus a_p1_pauses a_p1_outBefore u_p1_cuts u_p1_groupOfStep p1), (a_p1_minus, oA cI 16 p1_minus), (a_p1_outBefore, oA cI 16 p1_outBefore), (a_p1_pauses, oA cI 16 p1_pauses), (a_p1_plus, oA cI 16 p1_plus)]
abbrev rmX2_readInto : Room := { frames := 5, cells := 0, slots := 0, locals := 116 }
theorem hd_X2_readInto : yX2_readInto.cls = RX2 ∧ yX2_readInto.cls ≠ "java/lang/invoke/MethodHandle" ∧ yX2_readInto.cls ≠ "java/lang/invoke/VarHandle" ∧ (parseMethodDescriptor yX2_readInto.desc).map (fun d => d.parameters.length) = some 1 := by decide +kernel
set_option maxHeartbeats 4000000 in
set_option maxRecDepth 100000 in
theorem kX2_readInto (l : Launch) (D : va_G) (cI cJ : ClassId) (a_t a_t_signs a_p1 a_p1_minus a_p1_outBefore a_p1_pauses a_p1_plus u_p1_cuts u_p1_groupOfStep : Nat) (t t_signs p1 p1_minus p1_outBefore p1_pauses p1_plus : Nat → Int32) (t_o : Nat → Int32) (p1_o : Nat → Int32) (p1_minus_o : Nat → Int32) (p1_outBefore_o : Nat → Int32) (p1_pauses_o : Nat → Int32) (p1_plus_o : Nat → Int32) (hm : mX2_readInto t t_signs p1 p1_minus p1_outBefore p1_pauses p1_plus = some (t_o, p1_o, p1_minus_o, p1_outBefore_o, p1_pauses_o, p1_plus_o)) : bq_M l D cI cJ yX2_readInto cX2_readInto 3 none rmX2_readInto [.ref a_t, .ref a_p1] (wdX2_readInto cI a_t a_t_signs a_p1 a_p1_minus a_p1_outBefore a_p1_pauses a_p1_plus u_p1_cuts u_p1_groupOfStep t t_signs p1 p1_minus p1_outBefore p1_pauses p1_plus) (wdX2_readInto cI a_t a_t_signs a_p1 a_p1_minus a_p1_outBefore a_p1_pauses a_p1_plus u_p1_cuts u_p1_groupOfStep t_o t_signs p1_o p1_minus_o p1_outBefore_o p1_pauses_o p1_plus_o) none := by
  refine bq_start (by decide) (Nat.le_of_ble_eq_true rfl) ?_
  intro p e s m av9 below meth c A ls Q H locs E K w hA hr hk hn hQ hl
  have E : bq_E p m c cX2_readInto 3 s av9 RX2 := E
  have hx := E.1
  have hb := E.2.1
  have hl : lv_has ls 3 [(0, .ref a_t), (1, .ref a_p1)] := hl
  unfold mX2_readInto at hm
  refine lv_aload_n hx hb dX2_readInto_0 rfl (lv_at hl 1 rfl) ?_
  obtain ⟨p1_1, p1_minus_2, p1_pauses_3, p1_plus_4, hC, hm⟩ := bq_b4_el hm
  refine bq_V (As := []) (rest := []) (st1 := []) (ws' := wdX2_readInto cI a_t a_t_signs a_p1 a_p1_minus a_p1_outBefore a_p1_pauses a_p1_plus u_p1_cuts u_p1_groupOfStep t t_signs p1_1 p1_minus_2 p1_outBefore p1_pauses_3 p1_plus_4) E K w hA (kX5_clear l D cI cJ a_p1 a_p1_minus a_p1_pauses a_p1_plus a_p1_outBefore u_p1_cuts u_p1_groupOfStep p1 p1_minus p1_pauses p1_plus p1_1 p1_minus_2 p1_pauses_3 p1_plus_4 hC) (bq_gV ml_X2_19 im_X5_clear sl_X5_clear in_X5 cd_X5_clear) hd_X5_clear ⟨Nat.le_of_ble_eq_true rfl, Nat.le_of_ble_eq_true rfl⟩ ⟨Nat.le_of_ble_eq_true rfl, Nat.le_of_ble_eq_true rfl⟩ ⟨[2, 3, 5, 6], [0, 1, 4], [0, 1, 3, 4, 2, 5, 6], rfl, rfl, rfl, rfl, rfl, rfl, rfl, rfl, rfl⟩ 2 rfl rfl rfl hl.1 rfl (Nat.le_of_ble_eq_true rfl) rfl dX2_readInto_1 (fun H locs w => bq_z ⟨rfl, rfl⟩ ?_)
  clear hC
  refine lv_aload_n hx hb dX2_readInto_4 rfl (lv_at hl 0 rfl) ?_
  refine lv_iconst (v := 0) hx hb dX2_readInto_5 (by decide) ?_
  obtain ⟨t_5, e9, hm⟩ := bq_let_el hm
  refine pt_X2_24 E K w 0 rfl (Nat.le_of_ble_eq_true rfl) dX2_readInto_6 (fun H locs w => ?_)
  replace w : bq_w D A s.heap (wdX2_readInto cI a_t a_t_signs a_p1 a_p1_minus a_p1_outBefore a_p1_pauses a_p1_plus u_p1_cuts u_p1_groupOfStep t_5 t_signs p1_1 p1_minus_2 p1_outBefore p1_pauses_3 p1_plus_4) H locs := by rw [e9]; exact w
  clear e9
  refine lv_aload_n hx hb dX2_readInto_9 rfl (lv_at hl 0 rfl) ?_
  refine lv_iconst (v := 0) hx hb dX2_readInto_10 (by decide) ?_
  obtain ⟨t_6, e9, hm⟩ := bq_let_el hm
  refine pt_X2_27 E K w 0 rfl (Nat.le_of_ble_eq_true rfl) dX2_readInto_11 (fun H locs w => ?_)
  replace w : bq_w D A s.heap (wdX2_readInto cI a_t a_t_signs a_p1 a_p1_minus a_p1_outBefore a_p1_pauses a_p1_plus u_p1_cuts u_p1_groupOfStep t_6 t_signs p1_1 p1_minus_2 p1_outBefore p1_pauses_3 p1_plus_4) H locs := by rw [e9]; exact w
  clear e9
  refine lv_aload_n hx hb dX2_readInto_14 rfl (lv_at hl 0 rfl) ?_
  refine lv_iconst (v := 0) hx hb dX2_readInto_15 (by decide) ?_
  obtain ⟨t_7, e9, hm⟩ := bq_let_el hm
  refine pt_X2_30 E K w 0 rfl (Nat.le_of_ble_eq_true rfl) dX2_readInto_16 (fun H locs w => ?_)
  replace w : bq_w D A s.heap (wdX2_readInto cI a_t a_t_signs a_p1 a_p1_minus a_p1_outBefore a_p1_pauses a_p1_plus u_p1_cuts u_p1_groupOfStep t_7 t_signs p1_1 p1_minus_2 p1_outBefore p1_pauses_3 p1_plus_4) H locs := by rw [e9]; exact w
  clear e9
  refine lv_aload_n hx hb dX2_readInto_19 rfl (lv_at hl 0 rfl) ?_
  refine lv_iconst (v := 0) hx hb dX2_readInto_20 (by decide) ?_
  obtain ⟨t_8, e9, hm⟩ := bq_let_el hm
  refine pt_X2_33 E K w 0 rfl (Nat.le_of_ble_eq_true rfl) dX2_readInto_21 (fun H locs w => ?_)
  replace w : bq_w D A s.heap (wdX2_readInto cI a_t a_t_signs a_p1 a_p1_minus a_p1_outBefore a_p1_pauses a_p1_plus u_p1_cuts u_p1_groupOfStep t_8 t_signs p1_1 p1_minus_2 p1_outBefore p1_pauses_3 p1_plus_4) H locs := by rw [e9]; exact w
  clear e9
  refine lv_iconst (v := 0) hx hb dX2_readInto_24 (by decide) ?_
  refine lv_istore_n (lv' := [(2, .int 0), (0, .ref a_t), (1, .ref a_p1)]) hx hb dX2_readInto_25 rfl hl (by decide) rfl (fun ls hl => ?_)
  obtain ⟨t_16, p1_17, p1_minus_18, p1_outBefore_19, p1_pauses_20, p1_plus_21, hL, hm⟩ := bq_b6_el hm
  obtain ⟨B, eB, nn, hL⟩ := bq_loop_B hL
  have X80 : ∀ (H : Heap) (locs : List Loc) (ls : Array Slot), bq_w D A s.heap (wdX2_readInto cI a_t a_t_signs a_p1 a_p1_minus a_p1_outBefore a_p1_pauses a_p1_plus u_p1_cuts u_p1_groupOfStep t_16 t_signs p1_17 p1_minus_18 p1_outBefore_19 p1_pauses_20 p1_plus_21) H locs → lv_has ls 3 [(0, .ref a_t), (1, .ref a_p1)] → W p l e rmX2_readInto s m av9 below meth c H locs 0 0 Q (F0 m 80 ls []) := by
    intro H locs ls w hl
    refine lv_aload_n hx hb dX2_readInto_80 rfl (lv_at hl 0 rfl) ?_
    refine gt_X2_24 E K w 0 rfl rfl dX2_readInto_81 ?_
    refine lv_iconst (v := 1) hx hb dX2_readInto_84 (by decide) ?_
    obtain ⟨t_22, hT114, hm⟩ := bq_bd_el hm
    have K114 : ∀ (H : Heap) (locs : List Loc) (ls : Array Slot), bq_w D A s.heap (wdX2_readInto cI a_t a_t_signs a_p1 a_p1_minus a_p1_outBefore a_p1_pauses a_p1_plus u_p1_cuts u_p1_groupOfStep t_22 t_signs p1_17 p1_minus_18 p1_outBefore_19 p1_pauses_20 p1_plus_21) H locs → lv_has ls 3 [(0, .ref a_t), (1, .ref a_p1)] → W p l e rmX2_readInto s m av9 below meth c H locs 0 0 Q (F0 m 114 ls []) := by
      intro H locs ls w hl
      refine lv_aload_n hx hb dX2_readInto_114 rfl (lv_at hl 0 rfl) ?_
      refine gt_X2_24 E K w 0 rfl rfl dX2_readInto_115 ?_
      obtain ⟨t_25, hT148, hm⟩ := bq_bd_el hm
      have K148 : ∀ (H : Heap) (locs : List Loc) (ls : Array Slot), bq_w D A s.heap (wdX2_readInto cI a_t a_t_signs a_p1 a_p1_minus a_p1_outBefore a_p1_pauses a_p1_plus u_p1_cuts u_p1_groupOfStep t_25 t_signs p1_17 p1_minus_18 p1_outBefore_19 p1_pauses_20 p1_plus_21) H locs → lv_has ls 3 [] → W p l e rmX2_readInto s m av9 below meth c H locs 0 0 Q (F0 m 148 ls []) := by
        intro H locs ls w hl
        obtain ⟨rfl, rfl, rfl, rfl, rfl, rfl⟩ := bq_in6 (Option.some.inj hm)
        exact bq_vret E w hr hk dX2_readInto_148 hQ
      clear hm
      refine lv_if_ne (tgt := 148) hx hb dX2_readInto_118 (by decide) (fun hc => ?_) (fun hc => ?_)
      · replace hT148 := bq_f hc hT148
        clear hc
        obtain rfl := Option.some.inj hT148
        exact K148 H locs ls w (lv_sub hl [] rfl)
      · replace hT148 := bq_t hc hT148
        clear hc
        refine lv_aload_n hx hb dX2_readInto_121 rfl (lv_at hl 0 rfl) ?_
        refine gt_X2_33 E K w 0 rfl rfl dX2_readInto_122 ?_
        obtain ⟨J135, eJ135, hT148⟩ := bq_let_el hT148
        have K135 : ∀ (H : Heap) (locs : List Loc) (ls : Array Slot), J135 () = some t_25 → bq_w D A s.heap (wdX2_readInto cI a_t a_t_signs a_p1 a_p1_minus a_p1_outBefore a_p1_pauses a_p1_plus u_p1_cuts u_p1_groupOfStep t_22 t_signs p1_17 p1_minus_18 p1_outBefore_19 p1_pauses_20 p1_plus_21) H locs → lv_has ls 3 [(0, .ref a_t)] → W p l e rmX2_readInto s m av9 below meth c H locs 0 0 Q (F0 m 135 ls []) := by
          intro H locs ls hJ w hl
          replace hJ := bq_ap1 eJ135 hJ
          refine lv_aload_n hx hb dX2_readInto_135 rfl (lv_at hl 0 rfl) ?_
          refine lv_iconst (v := 3) hx hb dX2_readInto_136 (by decide) ?_
          obtain ⟨t_26, e9, hJ⟩ := bq_let_el hJ
          refine pt_X2_24 E K w 0 rfl (Nat.le_of_ble_eq_true rfl) dX2_readInto_137 (fun H locs w => ?_)
          replace w : bq_w D A s.heap (wdX2_readInto cI a_t a_t_signs a_p1 a_p1_minus a_p1_outBefore a_p1_pauses a_p1_plus u_p1_cuts u_p1_groupOfStep t_26 t_signs p1_17 p1_minus_18 p1_outBefore_19 p1_pauses_20 p1_plus_21) H locs := by rw [e9]; exact w
          clear e9
          refine lv_aload_n hx hb dX2_readInto_140 rfl (lv_at hl 0 rfl) ?_
          refine lv_aload_n hx hb dX2_readInto_141 rfl (lv_at hl 0 rfl) ?_
          refine gt_X2_15 E K w 0 rfl rfl dX2_readInto_142 ?_
          obtain ⟨t_27, e9, hJ⟩ := bq_let_el hJ
          refine pt_X2_27 E K w 0 rfl (Nat.le_of_ble_eq_true rfl) dX2_readInto_145 (fun H locs w => ?_)
          replace w : bq_w D A s.heap (wdX2_readInto cI a_t a_t_signs a_p1 a_p1_minus a_p1_outBefore a_p1_pauses a_p1_plus u_p1_cuts u_p1_groupOfStep t_27 t_signs p1_17 p1_minus_18 p1_outBefore_19 p1_pauses_20 p1_plus_21) H locs := by rw [e9]; exact w
          clear e9
          obtain rfl := Option.some.inj hJ
          exact K148 H locs ls w (lv_sub hl [] rfl)
        refine lv_if_ne (tgt := 135) hx hb dX2_readInto_125 (by decide) (fun hc => ?_) (fun hc => ?_)
        · replace hT148 := bq_f hc hT148
          clear hc
          exact K135 H locs ls hT148 w (lv_sub hl [0] rfl)
        · replace hT148 := bq_t hc hT148
          clear hc
          refine lv_aload_n hx hb dX2_readInto_128 rfl (lv_at hl 1 rfl) ?_
          obtain ⟨v28, hC, hT148⟩ := bq_bd_el hT148
          refine bq_V (As := []) (rest := []) (st1 := [.int v28]) (ws' := wdX2_readInto cI a_t a_t_signs a_p1 a_p1_minus a_p1_outBefore a_p1_pauses a_p1_plus u_p1_cuts u_p1_groupOfStep t_22 t_signs p1_17 p1_minus_18 p1_outBefore_19 p1_pauses_20 p1_plus_21) E K w hA (kX5_movingCylinders l D cI cJ a_p1 a_p1_minus a_p1_plus a_p1_pauses a_p1_outBefore u_p1_cuts u_p1_groupOfStep p1_17 p1_minus_18 p1_plus_21 v28 hC) (bq_gV ml_X2_50 im_X5_movingCylinders sl_X5_movingCylinders in_X5 cd_X5_movingCylinders) hd_X5_movingCylinders ⟨Nat.le_of_ble_eq_true rfl, Nat.le_of_ble_eq_true rfl⟩ ⟨Nat.le_of_ble_eq_true rfl, Nat.le_of_ble_eq_true rfl⟩ ⟨[2, 3, 6], [0, 1, 4, 5], [0, 1, 4, 5, 2, 3, 6], rfl, rfl, rfl, rfl, rfl, rfl, rfl, rfl, rfl⟩ 2 rfl rfl rfl hl.1 rfl (Nat.le_of_ble_eq_true rfl) rfl dX2_readInto_129 (fun H locs w => bq_z ⟨rfl, rfl⟩ ?_)
          clear hC
          refine lv_if_ne (tgt := 148) hx hb dX2_readInto_132 (by decide) (fun hc => ?_) (fun hc => ?_)
          · replace hT148 := bq_f hc hT148
            clear hc
            obtain rfl := Option.some.inj hT148
            exact K148 H locs ls w (lv_sub hl [] rfl)
          · replace hT148 := bq_t hc hT148
            clear hc
            exact K135 H locs ls hT148 w (lv_sub hl [0] rfl)
    clear hm
    refine lv_icmp_eq (tgt := 114) hx hb dX2_readInto_85 (by decide) (fun hc => ?_) (fun hc => ?_)
    · replace hT114 := bq_t hc hT114
      clear hc
      obtain rfl := Option.some.inj hT114
      exact K114 H locs ls w (lv_sub hl [0, 1] rfl)
    · replace hT114 := bq_f hc hT114
      clear hc
      refine lv_aload_n hx hb dX2_readInto_88 rfl (lv_at hl 0 rfl) ?_
      refine gt_X2_30 E K w 0 rfl rfl dX2_readInto_89 ?_
      refine lv_aload_n hx hb dX2_readInto_92 rfl (lv_at hl 0 rfl) ?_
      refine gt_X2_15 E K w 0 rfl rfl dX2_readInto_93 ?_
      refine lv_icmp_lt (tgt := 106) hx hb dX2_readInto_96 (by decide) (fun hc => ?_) (fun hc => ?_)
      · replace hT114 := bq_t hc hT114
        clear hc
        refine lv_aload_n hx hb dX2_readInto_106 rfl (lv_at hl 0 rfl) ?_
        refine lv_aload_n hx hb dX2_readInto_107 rfl (lv_at hl 0 rfl) ?_
        refine gt_X2_30 E K w 0 rfl rfl dX2_readInto_108 ?_
        obtain ⟨t_23, hC, hT114⟩ := bq_bd_el hT114
        refine bq_V (As := [.int (t_16 4)]) (rest := []) (st1 := []) (ws' := wdX2_readInto cI a_t a_t_signs a_p1 a_p1_minus a_p1_outBefore a_p1_pauses a_p1_plus u_p1_cuts u_p1_groupOfStep t_23 t_signs p1_17 p1_minus_18 p1_outBefore_19 p1_pauses_20 p1_plus_21) E K w hA (kX2_refuseSign l D cI cJ a_t a_t_signs t_16 (t_16 4) t_23 hC) (bq_gV ml_X2_46 im_X2_refuseSign sl_X2_refuseSign in_X2 cd_X2_refuseSign) hd_X2_refuseSign ⟨Nat.le_of_ble_eq_true rfl, Nat.le_of_ble_eq_true rfl⟩ ⟨Nat.le_of_ble_eq_true rfl, Nat.le_of_ble_eq_true rfl⟩ ⟨[0], [1, 2, 3, 4, 5, 6], [6, 0, 1, 2, 3, 4, 5], rfl, rfl, rfl, rfl, rfl, rfl, rfl, rfl, rfl⟩ 0 rfl rfl rfl hl.1 rfl (Nat.le_of_ble_eq_true rfl) rfl dX2_readInto_111 (fun H locs w => bq_z ⟨rfl, rfl⟩ ?_)
        clear hC
        obtain rfl := Option.some.inj hT114
        exact K114 H locs ls w (lv_sub hl [0, 1] rfl)
      · replace hT114 := bq_f hc hT114
        clear hc
        refine lv_aload_n hx hb dX2_readInto_99 rfl (lv_at hl 0 rfl) ?_
        refine gt_X2_15 E K w 0 rfl rfl dX2_readInto_100 ?_
        refine lv_if_ne (tgt := 114) hx hb dX2_readInto_103 (by decide) (fun hc => ?_) (fun hc => ?_)
        · replace hT114 := bq_f hc hT114
          clear hc
          obtain rfl := Option.some.inj hT114
          exact K114 H locs ls w (lv_sub hl [0, 1] rfl)
        · replace hT114 := bq_t hc hT114
          clear hc
          refine lv_aload_n hx hb dX2_readInto_106 rfl (lv_at hl 0 rfl) ?_
          refine lv_aload_n hx hb dX2_readInto_107 rfl (lv_at hl 0 rfl) ?_
          refine gt_X2_30 E K w 0 rfl rfl dX2_readInto_108 ?_
          obtain ⟨t_24, hC, hT114⟩ := bq_bd_el hT114
          refine bq_V (As := [.int (t_16 4)]) (rest := []) (st1 := []) (ws' := wdX2_readInto cI a_t a_t_signs a_p1 a_p1_minus a_p1_outBefore a_p1_pauses a_p1_plus u_p1_cuts u_p1_groupOfStep t_24 t_signs p1_17 p1_minus_18 p1_outBefore_19 p1_pauses_20 p1_plus_21) E K w hA (kX2_refuseSign l D cI cJ a_t a_t_signs t_16 (t_16 4) t_24 hC) (bq_gV ml_X2_46 im_X2_refuseSign sl_X2_refuseSign in_X2 cd_X2_refuseSign) hd_X2_refuseSign ⟨Nat.le_of_ble_eq_true rfl, Nat.le_of_ble_eq_true rfl⟩ ⟨Nat.le_of_ble_eq_true rfl, Nat.le_of_ble_eq_true rfl⟩ ⟨[0], [1, 2, 3, 4, 5, 6], [6, 0, 1, 2, 3, 4, 5], rfl, rfl, rfl, rfl, rfl, rfl, rfl, rfl, rfl⟩ 0 rfl rfl rfl hl.1 rfl (Nat.le_of_ble_eq_true rfl) rfl dX2_readInto_111 (fun H locs w => bq_z ⟨rfl, rfl⟩ ?_)
          clear hC
          obtain rfl := Option.some.inj hT114
          exact K114 H locs ls w (lv_sub hl [0, 1] rfl)
  clear hm
  have L26 : ∀ (nn : Nat) (i9 : Int32) (t_10 : Nat → Int32) (p1_11 : Nat → Int32) (p1_minus_12 : Nat → Int32) (p1_outBefore_13 : Nat → Int32) (p1_pauses_14 : Nat → Int32) (p1_plus_15 : Nat → Int32) (H : Heap) (locs : List Loc) (ls : Array Slot), bq_lp B nn (i9, t_10, p1_11, p1_minus_12, p1_outBefore_13, p1_pauses_14, p1_plus_15) = some (t_16, p1_17, p1_minus_18, p1_outBefore_19, p1_pauses_20, p1_plus_21) → bq_w D A s.heap (wdX2_readInto cI a_t a_t_signs a_p1 a_p1_minus a_p1_outBefore a_p1_pauses a_p1_plus u_p1_cuts u_p1_groupOfStep t_10 t_signs p1_11 p1_minus_12 p1_outBefore_13 p1_pauses_14 p1_plus_15) H locs → lv_has ls 3 [(0, .ref a_t), (1, .ref a_p1), (2, .int i9)] → W p l e rmX2_readInto s m av9 below meth c H locs 0 0 Q (F0 m 26 ls []) := by
    intro nn
    induction nn with
    | zero =>
      intro i9 t_10 p1_11 p1_minus_12 p1_outBefore_13 p1_pauses_14 p1_plus_15 H locs ls hL w hl
      exact bq_lp_0 hL
    | succ nn ih =>
      intro i9 t_10 p1_11 p1_minus_12 p1_outBefore_13 p1_pauses_14 p1_plus_15 H locs ls hL w hl
      obtain ⟨oo26, hT26, hR26⟩ := bq_lp_el hL
      clear hL
      replace hT26 := bq_u7_el eB hT26
      unfold bX2_readInto_26 at hT26
      refine lv_iload_n hx hb dX2_readInto_26 rfl (lv_at hl 2 rfl) ?_
      refine lv_bipush (v := 16) hx hb dX2_readInto_27 (by decide) ?_
      refine lv_icmp_ge (tgt := 80) hx hb dX2_readInto_29 (by decide) (fun hc => ?_) (fun hc => ?_)
      · replace hT26 := bq_t hc hT26
        clear hc
        obtain rfl := Option.some.inj hT26
        replace hR26 := bq_lk_r hR26
        obtain ⟨rfl, rfl, rfl, rfl, rfl, rfl⟩ := bq_in6 hR26
        exact X80 H locs ls w (lv_sub hl [0, 1] rfl)
      · replace hT26 := bq_f hc hT26
        clear hc
        refine lv_aload_n hx hb dX2_readInto_32 rfl (lv_at hl 0 rfl) ?_
        refine gt_X2_30 E K w 0 rfl rfl dX2_readInto_33 ?_
        refine lv_aload_n hx hb dX2_readInto_36 rfl (lv_at hl 0 rfl) ?_
        refine gt_X2_15 E K w 0 rfl rfl dX2_readInto_37 ?_
        refine lv_icmp_ge (tgt := 80) hx hb dX2_readInto_40 (by decide) (fun hc => ?_) (fun hc => ?_)
        · replace hT26 := bq_t hc hT26
          clear hc
          obtain rfl := Option.some.inj hT26
          replace hR26 := bq_lk_r hR26
          obtain ⟨rfl, rfl, rfl, rfl, rfl, rfl⟩ := bq_in6 hR26
          exact X80 H locs ls w (lv_sub hl [0, 1] rfl)
        · replace hT26 := bq_f hc hT26
          clear hc
          refine lv_aload_n hx hb dX2_readInto_43 rfl (lv_at hl 0 rfl) ?_
          refine gt_X2_24 E K w 0 rfl rfl dX2_readInto_44 ?_
          refine lv_iconst (v := 1) hx hb dX2_readInto_47 (by decide) ?_
          refine lv_icmp_eq (tgt := 80) hx hb dX2_readInto_48 (by decide) (fun hc => ?_) (fun hc => ?_)
          · replace hT26 := bq_t hc hT26
            clear hc
            obtain rfl := Option.some.inj hT26
            replace hR26 := bq_lk_r hR26
            obtain ⟨rfl, rfl, rfl, rfl, rfl, rfl⟩ := bq_in6 hR26
            exact X80 H locs ls w (lv_sub hl [0, 1] rfl)
          · replace hT26 := bq_f hc hT26
            clear hc
            refine lv_aload_n hx hb dX2_readInto_51 rfl (lv_at hl 1 rfl) ?_
            refine gt_X2_36 E K w 2 rfl rfl dX2_readInto_52 ?_
            refine lv_iload_n hx hb dX2_readInto_55 rfl (lv_at hl 2 rfl) ?_
            refine lv_aload_n hx hb dX2_readInto_56 rfl (lv_at hl 0 rfl) ?_
            refine gt_X2_33 E K w 0 rfl rfl dX2_readInto_57 ?_
            obtain ⟨hI, hT26⟩ := bq_ci_el hT26
            obtain ⟨p1_outBefore_29, e9, hT26⟩ := bq_let_el hT26
            refine bq_ast E K w 4 rfl hI dX2_readInto_60 (fun H locs w => ?_)
            replace w : bq_w D A s.heap (wdX2_readInto cI a_t a_t_signs a_p1 a_p1_minus a_p1_outBefore a_p1_pauses a_p1_plus u_p1_cuts u_p1_groupOfStep t_10 t_signs p1_11 p1_minus_12 p1_outBefore_29 p1_pauses_14 p1_plus_15) H locs := by rw [e9]; exact w
            clear e9
            refine lv_aload_n hx hb dX2_readInto_61 rfl (lv_at hl 0 rfl) ?_
            refine lv_aload_n hx hb dX2_readInto_62 rfl (lv_at hl 1 rfl) ?_
            refine lv_iload_n hx hb dX2_readInto_63 rfl (lv_at hl 2 rfl) ?_
            obtain ⟨t_30, p1_minus_31, p1_pauses_32, p1_plus_33, hC, hT26⟩ := bq_b4_el hT26
            refine bq_V (As := [.ref a_p1, .int i9]) (rest := []) (st1 := []) (ws' := wdX2_readInto cI a_t a_t_signs a_p1 a_p1_minus a_p1_outBefore a_p1_pauses a_p1_plus u_p1_cuts u_p1_groupOfStep t_30 t_signs p1_11 p1_minus_31 p1_outBefore_29 p1_pauses_32 p1_plus_33) E K w hA (kX2_readStep l D cI cJ a_t a_t_signs a_p1 a_p1_minus a_p1_pauses a_p1_plus a_p1_outBefore u_p1_cuts u_p1_groupOfStep t_10 t_signs p1_11 p1_minus_12 p1_pauses_14 p1_plus_15 i9 t_30 p1_minus_31 p1_pauses_32 p1_plus_33 hC) (bq_gV ml_X2_39 im_X2_readStep sl_X2_readStep in_X2 cd_X2_readStep) hd_X2_readStep ⟨Nat.le_of_ble_eq_true rfl, Nat.le_of_ble_eq_true rfl⟩ ⟨Nat.le_of_ble_eq_true rfl, Nat.le_of_ble_eq_true rfl⟩ ⟨[0, 1, 2, 3, 5, 6], [4], [1, 2, 3, 4, 0, 5, 6], rfl, rfl, rfl, rfl, rfl, rfl, rfl, rfl, rfl⟩ 0 rfl rfl rfl hl.1 rfl (Nat.le_of_ble_eq_true rfl) rfl dX2_readInto_64 (fun H locs w => bq_z ⟨rfl, rfl⟩ ?_)
            clear hC
            refine lv_aload_n hx hb dX2_readInto_67 rfl (lv_at hl 1 rfl) ?_
            refine lv_iload_n hx hb dX2_readInto_68 rfl (lv_at hl 2 rfl) ?_
            refine lv_iconst (v := 1) hx hb dX2_readInto_69 (by decide) ?_
            refine lv_iadd hx hb dX2_readInto_70 ?_
            obtain ⟨p1_34, e9, hT26⟩ := bq_let_el hT26
            refine pt_X2_43 E K w 2 rfl (Nat.le_of_ble_eq_true rfl) dX2_readInto_71 (fun H locs w => ?_)
            replace w : bq_w D A s.heap (wdX2_readInto cI a_t a_t_signs a_p1 a_p1_minus a_p1_outBefore a_p1_pauses a_p1_plus u_p1_cuts u_p1_groupOfStep t_30 t_signs p1_34 p1_minus_31 p1_outBefore_29 p1_pauses_32 p1_plus_33) H locs := by rw [e9]; exact w
            clear e9
            obtain ⟨v35, e9, hT26⟩ := bq_let_el hT26
            refine lv_iinc (v := v35) (lv' := [(2, .int v35), (0, .ref a_t), (1, .ref a_p1)]) hx hb dX2_readInto_74 hl (k := 2) rfl (by rw [e9]; rfl) (by decide) rfl (fun ls hl => ?_)
            clear e9
            refine lv_goto (tgt := 26) hx hb dX2_readInto_77 (by decide) ?_
            obtain rfl := Option.some.inj hT26
            exact ih v35 t_30 p1_34 p1_minus_31 p1_outBefore_29 p1_pauses_32 p1_plus_33 H locs ls hR26 w (lv_sub hl [1, 2, 0] rfl)
  exact L26 nn 0 t_8 p1_1 p1_minus_2 p1_outBefore p1_pauses_3 p1_plus_4 H locs ls hL w (lv_sub hl [1, 2, 0] rfl)
