abbrev rmX7_checkCylinder : Room := { frames := 0, cells := 0, slots := 0, locals := 0 }
theorem hs_X7_checkCylinder : yX7_checkCylinder.cls ≠ "java/lang/invoke/MethodHandle" ∧ yX7_checkCylinder.cls ≠ "java/lang/invoke/VarHandle" ∧ (parseMethodDescriptor yX7_checkCylinder.desc).map (fun d => d.parameters.length) = some 1 := by decide +kernel
set_option maxHeartbeats 4000000 in
set_option maxRecDepth 100000 in
theorem kX7_checkCylinder (l : Launch) (D : va_G) (cI cJ : ClassId) (x0 : Int32) (hm : mX7_checkCylinder x0 = some ()) : bq_M l D cI cJ yX7_checkCylinder cX7_checkCylinder 1 none rmX7_checkCylinder [.int x0] ([]) ([]) none := by
  refine bq_start (by decide) (Nat.le_of_ble_eq_true rfl) ?_
  intro p e s m av9 below meth c A ls Q H locs E K w hA hr hk hn hQ hl
  have E : bq_E p m c cX7_checkCylinder 1 s av9 RX7 := E
  have hx := E.1
  have hb := E.2.1
  have hl : lv_has ls 1 [(0, .int x0)] := hl
  unfold mX7_checkCylinder at hm
  refine lv_iload_n hx hb dX7_checkCylinder_0 rfl (lv_at hl 0 rfl) ?_
  refine lv_if_lt (tgt := 10) hx hb dX7_checkCylinder_1 (by decide) (fun hc => ?_) (fun hc => ?_)
  · replace hm := bq_t hc hm
    clear hc
    cases hm
  · replace hm := bq_f hc hm
    clear hc
    refine lv_iload_n hx hb dX7_checkCylinder_4 rfl (lv_at hl 0 rfl) ?_
    refine lv_bipush (v := 6) hx hb dX7_checkCylinder_5 (by decide) ?_
    refine lv_icmp_lt (tgt := 20) hx hb dX7_checkCylinder_7 (by decide) (fun hc => ?_) (fun hc => ?_)
    · replace hm := bq_t hc hm
      clear hc
      clear hm
      exact bq_vret E w hr hk dX7_checkCylinder_20 hQ
    · replace hm := bq_f hc hm
      clear hc
      cases hm
abbrev rmTX7_checkCylinder : Room := { frames := 6, cells := 1, slots := 6, locals := 100 }
set_option maxHeartbeats 4000000 in
set_option maxRecDepth 100000 in
theorem tkX7_checkCylinder {l : Launch} (hlf : l.stackTraces = false) (D : va_G) (cI cJ : ClassId) (x0 : Int32) (r : Nat) (hm : tX7_checkCylinder x0 = some r) : bq_MT l D cI cJ yX7_checkCylinder cX7_checkCylinder 1 none rmTX7_checkCylinder [.int x0] ([]) (bq_cls r) := by
  refine bq_startT (by decide) (Nat.le_of_ble_eq_true rfl) ?_
  intro p e s m av9 below meth c A ls Q H locs E K w hA hnt hk hX hQ hl
  have E : bq_E p m c cX7_checkCylinder 1 s av9 RX7 := E
  have hx := E.1
  have hb := E.2.1
  have hl : lv_has ls 1 [(0, .int x0)] := hl
  unfold tX7_checkCylinder at hm
  refine lv_iload_n hx hb dX7_checkCylinder_0 rfl (lv_at hl 0 rfl) ?_
  refine lv_if_lt (tgt := 10) hx hb dX7_checkCylinder_1 (by decide) (fun hc => ?_) (fun hc => ?_)
  · replace hm := bq_t hc hm
    clear hc
    obtain rfl := Option.some.inj hm
    exact bq_throw (cls := "java/lang/IndexOutOfBoundsException") hlf E K w hX hnt hk hQ (by decide +kernel) bq_upf cl_X7_120 in_IndexOutOfBoundsException sr_X7_252 xa_X7_124 xb_X7_124 xg_X7_120_124 hl.1 dX7_checkCylinder_10 dX7_checkCylinder_13 dX7_checkCylinder_14 dX7_checkCylinder_16 dX7_checkCylinder_19 (Nat.le_of_ble_eq_true rfl) (Nat.le_of_ble_eq_true rfl) (Nat.le_of_ble_eq_true rfl) (Nat.le_of_ble_eq_true rfl)
  · replace hm := bq_f hc hm
    clear hc
    refine lv_iload_n hx hb dX7_checkCylinder_4 rfl (lv_at hl 0 rfl) ?_
    refine lv_bipush (v := 6) hx hb dX7_checkCylinder_5 (by decide) ?_
    refine lv_icmp_lt (tgt := 20) hx hb dX7_checkCylinder_7 (by decide) (fun hc => ?_) (fun hc => ?_)
    · replace hm := bq_t hc hm
      clear hc
      cases hm
    · replace hm := bq_f hc hm
      clear hc
      obtain rfl := Option.some.inj hm
      exact bq_throw (cls := "java/lang/IndexOutOfBoundsException") hlf E K w hX hnt hk hQ (by decide +kernel) bq_upf cl_X7_120 in_IndexOutOfBoundsException sr_X7_252 xa_X7_124 xb_X7_124 xg_X7_120_124 hl.1 dX7_checkCylinder_10 dX7_checkCylinder_13 dX7_checkCylinder_14 dX7_checkCylinder_16 dX7_checkCylinder_19 (Nat.le_of_ble_eq_true rfl) (Nat.le_of_ble_eq_true rfl) (Nat.le_of_ble_eq_true rfl) (Nat.le_of_ble_eq_true rfl)
abbrev rmX7_checkFaultKind : Room := { frames := 0, cells := 0, slots := 0, locals := 0 }
theorem hs_X7_checkFaultKind : yX7_checkFaultKind.cls ≠ "java/lang/invoke/MethodHandle" ∧ yX7_checkFaultKind.cls ≠ "java/lang/invoke/VarHandle" ∧ (parseMethodDescriptor yX7_checkFaultKind.desc).map (fun d => d.parameters.length) = some 1 := by decide +kernel
set_option maxHeartbeats 4000000 in
set_option maxRecDepth 100000 in
theorem kX7_checkFaultKind (l : Launch) (D : va_G) (cI cJ : ClassId) (x0 : Int32) (hm : mX7_checkFaultKind x0 = some ()) : bq_M l D cI cJ yX7_checkFaultKind cX7_checkFaultKind 1 none rmX7_checkFaultKind [.int x0] ([]) ([]) none := by
  refine bq_start (by decide) (Nat.le_of_ble_eq_true rfl) ?_
  intro p e s m av9 below meth c A ls Q H locs E K w hA hr hk hn hQ hl
  have E : bq_E p m c cX7_checkFaultKind 1 s av9 RX7 := E
  have hx := E.1
  have hb := E.2.1
  have hl : lv_has ls 1 [(0, .int x0)] := hl
  unfold mX7_checkFaultKind at hm
  refine lv_iload_n hx hb dX7_checkFaultKind_0 rfl (lv_at hl 0 rfl) ?_
  refine lv_if_lt (tgt := 9) hx hb dX7_checkFaultKind_1 (by decide) (fun hc => ?_) (fun hc => ?_)
  · replace hm := bq_t hc hm
    clear hc
    cases hm
  · replace hm := bq_f hc hm
    clear hc
    refine lv_iload_n hx hb dX7_checkFaultKind_4 rfl (lv_at hl 0 rfl) ?_
    refine lv_iconst (v := 5) hx hb dX7_checkFaultKind_5 (by decide) ?_
    refine lv_icmp_lt (tgt := 19) hx hb dX7_checkFaultKind_6 (by decide) (fun hc => ?_) (fun hc => ?_)
    · replace hm := bq_t hc hm
      clear hc
      clear hm
      exact bq_vret E w hr hk dX7_checkFaultKind_19 hQ
    · replace hm := bq_f hc hm
      clear hc
      cases hm
abbrev rmTX7_checkFaultKind : Room := { frames := 6, cells := 1, slots := 6, locals := 100 }
set_option maxHeartbeats 4000000 in
set_option maxRecDepth 100000 in
theorem tkX7_checkFaultKind {l : Launch} (hlf : l.stackTraces = false) (D : va_G) (cI cJ : ClassId) (x0 : Int32) (r : Nat) (hm : tX7_checkFaultKind x0 = some r) : bq_MT l D cI cJ yX7_checkFaultKind cX7_checkFaultKind 1 none rmTX7_checkFaultKind [.int x0] ([]) (bq_cls r) := by
  refine bq_startT (by decide) (Nat.le_of_ble_eq_true rfl) ?_
  intro p e s m av9 below meth c A ls Q H locs E K w hA hnt hk hX hQ hl
  have E : bq_E p m c cX7_checkFaultKind 1 s av9 RX7 := E
  have hx := E.1
  have hb := E.2.1
  have hl : lv_has ls 1 [(0, .int x0)] := hl
  unfold tX7_checkFaultKind at hm
  refine lv_iload_n hx hb dX7_checkFaultKind_0 rfl (lv_at hl 0 rfl) ?_
  refine lv_if_lt (tgt := 9) hx hb dX7_checkFaultKind_1 (by decide) (fun hc => ?_) (fun hc => ?_)
  · replace hm := bq_t hc hm
    clear hc
    obtain rfl := Option.some.inj hm
    exact bq_throw (cls := "java/lang/IllegalArgumentException") hlf E K w hX hnt hk hQ (by decide +kernel) bq_upf cl_X7_46 in_IllegalArgumentException sr_X7_254 xa_X7_50 xb_X7_50 xg_X7_46_50 hl.1 dX7_checkFaultKind_9 dX7_checkFaultKind_12 dX7_checkFaultKind_13 dX7_checkFaultKind_15 dX7_checkFaultKind_18 (Nat.le_of_ble_eq_true rfl) (Nat.le_of_ble_eq_true rfl) (Nat.le_of_ble_eq_true rfl) (Nat.le_of_ble_eq_true rfl)
  · replace hm := bq_f hc hm
    clear hc
    refine lv_iload_n hx hb dX7_checkFaultKind_4 rfl (lv_at hl 0 rfl) ?_
    refine lv_iconst (v := 5) hx hb dX7_checkFaultKind_5 (by decide) ?_
    refine lv_icmp_lt (tgt := 19) hx hb dX7_checkFaultKind_6 (by decide) (fun hc => ?_) (fun hc => ?_)
    · replace hm := bq_t hc hm
      clear hc
      cases hm
    · replace hm := bq_f hc hm
      clear hc
      obtain rfl := Option.some.inj hm
      exact bq_throw (cls := "java/lang/IllegalArgumentException") hlf E K w hX hnt hk hQ (by decide +kernel) bq_upf cl_X7_46 in_IllegalArgumentException sr_X7_254 xa_X7_50 xb_X7_50 xg_X7_46_50 hl.1 dX7_checkFaultKind_9 dX7_checkFaultKind_12 dX7_checkFaultKind_13 dX7_checkFaultKind_15 dX7_checkFaultKind_18 (Nat.le_of_ble_eq_true rfl) (Nat.le_of_ble_eq_true rfl) (Nat.le_of_ble_eq_true rfl) (Nat.le_of_ble_eq_true rfl)
abbrev rmX7_checkMethod : Room := { frames := 0, cells := 0, slots := 0, locals := 0 }
theorem hs_X7_checkMethod : yX7_checkMethod.cls ≠ "java/lang/invoke/MethodHandle" ∧ yX7_checkMethod.cls ≠ "java/lang/invoke/VarHandle" ∧ (parseMethodDescriptor yX7_checkMethod.desc).map (fun d => d.parameters.length) = some 1 := by decide +kernel
set_option maxHeartbeats 4000000 in
set_option maxRecDepth 100000 in
theorem kX7_checkMethod (l : Launch) (D : va_G) (cI cJ : ClassId) (x0 : Int32) (hm : mX7_checkMethod x0 = some ()) : bq_M l D cI cJ yX7_checkMethod cX7_checkMethod 1 none rmX7_checkMethod [.int x0] ([]) ([]) none := by
  refine bq_start (by decide) (Nat.le_of_ble_eq_true rfl) ?_
  intro p e s m av9 below meth c A ls Q H locs E K w hA hr hk hn hQ hl
  have E : bq_E p m c cX7_checkMethod 1 s av9 RX7 := E
  have hx := E.1
  have hb := E.2.1
  have hl : lv_has ls 1 [(0, .int x0)] := hl
  unfold mX7_checkMethod at hm
  refine lv_iload_n hx hb dX7_checkMethod_0 rfl (lv_at hl 0 rfl) ?_
  refine lv_if_lt (tgt := 9) hx hb dX7_checkMethod_1 (by decide) (fun hc => ?_) (fun hc => ?_)
  · replace hm := bq_t hc hm
    clear hc
    cases hm
  · replace hm := bq_f hc hm
    clear hc
    refine lv_iload_n hx hb dX7_checkMethod_4 rfl (lv_at hl 0 rfl) ?_
    refine lv_iconst (v := 3) hx hb dX7_checkMethod_5 (by decide) ?_
    refine lv_icmp_lt (tgt := 20) hx hb dX7_checkMethod_6 (by decide) (fun hc => ?_) (fun hc => ?_)
    · replace hm := bq_t hc hm
      clear hc
      clear hm
      exact bq_vret E w hr hk dX7_checkMethod_20 hQ
    · replace hm := bq_f hc hm
      clear hc
      cases hm
abbrev rmTX7_checkMethod : Room := { frames := 6, cells := 1, slots := 6, locals := 100 }
set_option maxHeartbeats 4000000 in
set_option maxRecDepth 100000 in
theorem tkX7_checkMethod {l : Launch} (hlf : l.stackTraces = false) (D : va_G) (cI cJ : ClassId) (x0 : Int32) (r : Nat) (hm : tX7_checkMethod x0 = some r) : bq_MT l D cI cJ yX7_checkMethod cX7_checkMethod 1 none rmTX7_checkMethod [.int x0] ([]) (bq_cls r) := by
  refine bq_startT (by decide) (Nat.le_of_ble_eq_true rfl) ?_
  intro p e s m av9 below meth c A ls Q H locs E K w hA hnt hk hX hQ hl
  have E : bq_E p m c cX7_checkMethod 1 s av9 RX7 := E
  have hx := E.1
  have hb := E.2.1
  have hl : lv_has ls 1 [(0, .int x0)] := hl
  unfold tX7_checkMethod at hm
  refine lv_iload_n hx hb dX7_checkMethod_0 rfl (lv_at hl 0 rfl) ?_
  refine lv_if_lt (tgt := 9) hx hb dX7_checkMethod_1 (by decide) (fun hc => ?_) (fun hc => ?_)
  · replace hm := bq_t hc hm
    clear hc
    obtain rfl := Option.some.inj hm
    exact bq_throwW (cls := "java/lang/IllegalArgumentException") hlf E K w hX hnt hk hQ (by decide +kernel) bq_upf cl_X7_46 in_IllegalArgumentException sr_X7_256 xa_X7_50 xb_X7_50 xg_X7_46_50 hl.1 dX7_checkMethod_9 dX7_checkMethod_12 dX7_checkMethod_13 dX7_checkMethod_16 dX7_checkMethod_19 (Nat.le_of_ble_eq_true rfl) (Nat.le_of_ble_eq_true rfl) (Nat.le_of_ble_eq_true rfl) (Nat.le_of_ble_eq_true rfl)
  · replace hm := bq_f hc hm
    clear hc
    refine lv_iload_n hx hb dX7_checkMethod_4 rfl (lv_at hl 0 rfl) ?_
    refine lv_iconst (v := 3) hx hb dX7_checkMethod_5 (by decide) ?_
    refine lv_icmp_lt (tgt := 20) hx hb dX7_checkMethod_6 (by decide) (fun hc => ?_) (fun hc => ?_)
    · replace hm := bq_t hc hm
      clear hc
      cases hm
    · replace hm := bq_f hc hm
      clear hc
      obtain rfl := Option.some.inj hm
      exact bq_throwW (cls := "java/lang/IllegalArgumentException") hlf E K w hX hnt hk hQ (by decide +kernel) bq_upf cl_X7_46 in_IllegalArgumentException sr_X7_256 xa_X7_50 xb_X7_50 xg_X7_46_50 hl.1 dX7_checkMethod_9 dX7_checkMethod_12 dX7_checkMethod_13 dX7_checkMethod_16 dX7_checkMethod_19 (Nat.le_of_ble_eq_true rfl) (Nat.le_of_ble_eq_true rfl) (Nat.le_of_ble_eq_true rfl) (Nat.le_of_ble_eq_true rfl)
abbrev rmX7_checkEvent : Room := { frames := 0, cells := 0, slots := 0, locals := 0 }
theorem hs_X7_checkEvent : yX7_checkEvent.cls ≠ "java/lang/invoke/MethodHandle" ∧ yX7_checkEvent.cls ≠ "java/lang/invoke/VarHandle" ∧ (parseMethodDescriptor yX7_checkEvent.desc).map (fun d => d.parameters.length) = some 1 := by decide +kernel
set_option maxHeartbeats 4000000 in
set_option maxRecDepth 100000 in
theorem kX7_checkEvent (l : Launch) (D : va_G) (cI cJ : ClassId) (x0 : Int32) (hm : mX7_checkEvent x0 = some ()) : bq_M l D cI cJ yX7_checkEvent cX7_checkEvent 1 none rmX7_checkEvent [.int x0] ([]) ([]) none := by
  refine bq_start (by decide) (Nat.le_of_ble_eq_true rfl) ?_
  intro p e s m av9 below meth c A ls Q H locs E K w hA hr hk hn hQ hl
  have E : bq_E p m c cX7_checkEvent 1 s av9 RX7 := E
  have hx := E.1
  have hb := E.2.1
  have hl : lv_has ls 1 [(0, .int x0)] := hl
  unfold mX7_checkEvent at hm
  refine lv_iload_n hx hb dX7_checkEvent_0 rfl (lv_at hl 0 rfl) ?_
  refine lv_if_ge (tgt := 15) hx hb dX7_checkEvent_1 (by decide) (fun hc => ?_) (fun hc => ?_)
  · replace hm := bq_t hc hm
    clear hc
    clear hm
    exact bq_vret E w hr hk dX7_checkEvent_15 hQ
  · replace hm := bq_f hc hm
    clear hc
    cases hm
abbrev rmTX7_checkEvent : Room := { frames := 6, cells := 1, slots := 6, locals := 100 }
set_option maxHeartbeats 4000000 in
set_option maxRecDepth 100000 in
theorem tkX7_checkEvent {l : Launch} (hlf : l.stackTraces = false) (D : va_G) (cI cJ : ClassId) (x0 : Int32) (r : Nat) (hm : tX7_checkEvent x0 = some r) : bq_MT l D cI cJ yX7_checkEvent cX7_checkEvent 1 none rmTX7_checkEvent [.int x0] ([]) (bq_cls r) := by
  refine bq_startT (by decide) (Nat.le_of_ble_eq_true rfl) ?_
  intro p e s m av9 below meth c A ls Q H locs E K w hA hnt hk hX hQ hl
  have E : bq_E p m c cX7_checkEvent 1 s av9 RX7 := E
  have hx := E.1
  have hb := E.2.1
  have hl : lv_has ls 1 [(0, .int x0)] := hl
  unfold tX7_checkEvent at hm
  refine lv_iload_n hx hb dX7_checkEvent_0 rfl (lv_at hl 0 rfl) ?_
  refine lv_if_ge (tgt := 15) hx hb dX7_checkEvent_1 (by decide) (fun hc => ?_) (fun hc => ?_)
  · replace hm := bq_t hc hm
    clear hc
    cases hm
  · replace hm := bq_f hc hm
    clear hc
    obtain rfl := Option.some.inj hm
    exact bq_throwW (cls := "java/lang/IndexOutOfBoundsException") hlf E K w hX hnt hk hQ (by decide +kernel) bq_upf cl_X7_120 in_IndexOutOfBoundsException sr_X7_258 xa_X7_124 xb_X7_124 xg_X7_120_124 hl.1 dX7_checkEvent_4 dX7_checkEvent_7 dX7_checkEvent_8 dX7_checkEvent_11 dX7_checkEvent_14 (Nat.le_of_ble_eq_true rfl) (Nat.le_of_ble_eq_true rfl) (Nat.le_of_ble_eq_true rfl) (Nat.le_of_ble_eq_true rfl)
abbrev wdX7_checkStep (cI : ClassId) (a_t a_t_rig a_t_rig_sequence u_t_reader u_t_trial u_t_snapshot u_t_spare u_t_rig_circuit u_t_rig_log u_t_rig_score u_t_rig_strokes u_t_rig_positions u_t_rig_timers u_t_rig_faults u_t_rig_sequence_plus u_t_rig_sequence_minus u_t_rig_sequence_pauses u_t_rig_sequence_outBefore u_t_rig_sequence_cuts u_t_rig_sequence_groupOfStep : Nat) (t : Nat → Int32) (t_rig : Nat → Int32) (t_rig_sequence : Nat → Int32) : va_W := [(a_t, oX7 u_t_reader a_t_rig u_t_trial u_t_snapshot u_t_spare t), (a_t_rig, oX3 a_t_rig_sequence u_t_rig_circuit u_t_rig_log u_t_rig_score u_t_rig_strokes u_t_rig_positions u_t_rig_timers u_t_rig_faults t_rig), (a_t_rig_sequence, oX5 u_t_rig_sequence_plus u_t_rig_sequence_minus u_t_rig_sequence_pauses u_t_rig_sequence_outBefore u_t_rig_sequence_cuts u_t_rig_sequence_groupOfStep t_rig_sequence)]
abbrev rmX7_checkStep : Room := { frames := 0, cells := 0, slots := 0, locals := 0 }
theorem hd_X7_checkStep : yX7_checkStep.cls = RX7 ∧ yX7_checkStep.cls ≠ "java/lang/invoke/MethodHandle" ∧ yX7_checkStep.cls ≠ "java/lang/invoke/VarHandle" ∧ (parseMethodDescriptor yX7_checkStep.desc).map (fun d => d.parameters.length) = some 1 := by decide +kernel
set_option maxHeartbeats 4000000 in
set_option maxRecDepth 100000 in
theorem kX7_checkStep (l : Launch) (D : va_G) (cI cJ : ClassId) (a_t a_t_rig a_t_rig_sequence u_t_reader u_t_trial u_t_snapshot u_t_spare u_t_rig_circuit u_t_rig_log u_t_rig_score u_t_rig_strokes u_t_rig_positions u_t_rig_timers u_t_rig_faults u_t_rig_sequence_plus u_t_rig_sequence_minus u_t_rig_sequence_pauses u_t_rig_sequence_outBefore u_t_rig_sequence_cuts u_t_rig_sequence_groupOfStep : Nat) (t t_rig t_rig_sequence : Nat → Int32) (x1 : Int32) (hm : mX7_checkStep t_rig_sequence x1 = some ()) : bq_M l D cI cJ yX7_checkStep cX7_checkStep 2 none rmX7_checkStep [.ref a_t, .int x1] (wdX7_checkStep cI a_t a_t_rig a_t_rig_sequence u_t_reader u_t_trial u_t_snapshot u_t_spare u_t_rig_circuit u_t_rig_log u_t_rig_score u_t_rig_strokes u_t_rig_positions u_t_rig_timers u_t_rig_faults u_t_rig_sequence_plus u_t_rig_sequence_minus u_t_rig_sequence_pauses u_t_rig_sequence_outBefore u_t_rig_sequence_cuts u_t_rig_sequence_groupOfStep t t_rig t_rig_sequence) (wdX7_checkStep cI a_t a_t_rig a_t_rig_sequence u_t_reader u_t_trial u_t_snapshot u_t_spare u_t_rig_circuit u_t_rig_log u_t_rig_score u_t_rig_strokes u_t_rig_positions u_t_rig_timers u_t_rig_faults u_t_rig_sequence_plus u_t_rig_sequence_minus u_t_rig_sequence_pauses u_t_rig_sequence_outBefore u_t_rig_sequence_cuts u_t_rig_sequence_groupOfStep t t_rig t_rig_sequence) none := by
  refine bq_start (by decide) (Nat.le_of_ble_eq_true rfl) ?_
  intro p e s m av9 below meth c A ls Q H locs E K w hA hr hk hn hQ hl
  have E : bq_E p m c cX7_checkStep 2 s av9 RX7 := E
  have hx := E.1
  have hb := E.2.1
  have hl : lv_has ls 2 [(0, .ref a_t), (1, .int x1)] := hl
  unfold mX7_checkStep at hm
  refine lv_iload_n hx hb dX7_checkStep_0 rfl (lv_at hl 1 rfl) ?_
  refine lv_if_lt (tgt := 18) hx hb dX7_checkStep_1 (by decide) (fun hc => ?_) (fun hc => ?_)
  · replace hm := bq_t hc hm
    clear hc
    cases hm
  · replace hm := bq_f hc hm
    clear hc
    refine lv_iload_n hx hb dX7_checkStep_4 rfl (lv_at hl 1 rfl) ?_
    refine lv_aload_n hx hb dX7_checkStep_5 rfl (lv_at hl 0 rfl) ?_
    refine gt_X7_24 E K w 0 rfl rfl dX7_checkStep_6 ?_
    refine gt_X7_77 E K w 1 rfl rfl dX7_checkStep_9 ?_
    refine gt_X7_83 E K w 2 rfl rfl dX7_checkStep_12 ?_
    refine lv_icmp_lt (tgt := 29) hx hb dX7_checkStep_15 (by decide) (fun hc => ?_) (fun hc => ?_)
    · replace hm := bq_t hc hm
      clear hc
      clear hm
      exact bq_vret E w hr hk dX7_checkStep_29 hQ
    · replace hm := bq_f hc hm
      clear hc
      cases hm
abbrev rmTX7_checkStep : Room := { frames := 6, cells := 1, slots := 6, locals := 100 }
set_option maxHeartbeats 4000000 in
set_option maxRecDepth 100000 in
theorem tkX7_checkStep {l : Launch} (hlf : l.stackTraces = false) (D : va_G) (cI cJ : ClassId) (a_t a_t_rig a_t_rig_sequence u_t_reader u_t_trial u_t_snapshot u_t_spare u_t_rig_circuit u_t_rig_log u_t_rig_score u_t_rig_strokes u_t_rig_positions u_t_rig_timers u_t_rig_faults u_t_rig_sequence_plus u_t_rig_sequence_minus u_t_rig_sequence_pauses u_t_rig_sequence_outBefore u_t_rig_sequence_cuts u_t_rig_sequence_groupOfStep : Nat) (t t_rig t_rig_sequence : Nat → Int32) (x1 : Int32) (r : Nat) (hm : tX7_checkStep t_rig_sequence x1 = some r) : bq_MT l D cI cJ yX7_checkStep cX7_checkStep 2 none rmTX7_checkStep [.ref a_t, .int x1] (wdX7_checkStep cI a_t a_t_rig a_t_rig_sequence u_t_reader u_t_trial u_t_snapshot u_t_spare u_t_rig_circuit u_t_rig_log u_t_rig_score u_t_rig_strokes u_t_rig_positions u_t_rig_timers u_t_rig_faults u_t_rig_sequence_plus u_t_rig_sequence_minus u_t_rig_sequence_pauses u_t_rig_sequence_outBefore u_t_rig_sequence_cuts u_t_rig_sequence_groupOfStep t t_rig t_rig_sequence) (bq_cls r) := by
  refine bq_startT (by decide) (Nat.le_of_ble_eq_true rfl) ?_
  intro p e s m av9 below meth c A ls Q H locs E K w hA hnt hk hX hQ hl
  have E : bq_E p m c cX7_checkStep 2 s av9 RX7 := E
  have hx := E.1
  have hb := E.2.1
  have hl : lv_has ls 2 [(0, .ref a_t), (1, .int x1)] := hl
  unfold tX7_checkStep at hm
  refine lv_iload_n hx hb dX7_checkStep_0 rfl (lv_at hl 1 rfl) ?_
  refine lv_if_lt (tgt := 18) hx hb dX7_checkStep_1 (by decide) (fun hc => ?_) (fun hc => ?_)
  · replace hm := bq_t hc hm
    clear hc
    obtain rfl := Option.some.inj hm
    exact bq_throwW (cls := "java/lang/IndexOutOfBoundsException") hlf E K w hX hnt hk hQ (by decide +kernel) bq_upf cl_X7_120 in_IndexOutOfBoundsException sr_X7_260 xa_X7_124 xb_X7_124 xg_X7_120_124 hl.1 dX7_checkStep_18 dX7_checkStep_21 dX7_checkStep_22 dX7_checkStep_25 dX7_checkStep_28 (Nat.le_of_ble_eq_true rfl) (Nat.le_of_ble_eq_true rfl) (Nat.le_of_ble_eq_true rfl) (Nat.le_of_ble_eq_true rfl)
  · replace hm := bq_f hc hm
    clear hc
    refine lv_iload_n hx hb dX7_checkStep_4 rfl (lv_at hl 1 rfl) ?_
    refine lv_aload_n hx hb dX7_checkStep_5 rfl (lv_at hl 0 rfl) ?_
    refine gt_X7_24 E K w 0 rfl rfl dX7_checkStep_6 ?_
    refine gt_X7_77 E K w 1 rfl rfl dX7_checkStep_9 ?_
    refine gt_X7_83 E K w 2 rfl rfl dX7_checkStep_12 ?_
    refine lv_icmp_lt (tgt := 29) hx hb dX7_checkStep_15 (by decide) (fun hc => ?_) (fun hc => ?_)
    · replace hm := bq_t hc hm
      clear hc
      cases hm
    · replace hm := bq_f hc hm
      clear hc
      obtain rfl := Option.some.inj hm
      exact bq_throwW (cls := "java/lang/IndexOutOfBoundsException") hlf E K w hX hnt hk hQ (by decide +kernel) bq_upf cl_X7_120 in_IndexOutOfBoundsException sr_X7_260 xa_X7_124 xb_X7_124 xg_X7_120_124 hl.1 dX7_checkStep_18 dX7_checkStep_21 dX7_checkStep_22 dX7_checkStep_25 dX7_checkStep_28 (Nat.le_of_ble_eq_true rfl) (Nat.le_of_ble_eq_true rfl) (Nat.le_of_ble_eq_true rfl) (Nat.le_of_ble_eq_true rfl)
abbrev wdX7_checkSequence (cI : ClassId) (a_t a_t_rig a_t_rig_sequence u_t_reader u_t_trial u_t_snapshot u_t_spare u_t_rig_circuit u_t_rig_log u_t_rig_score u_t_rig_strokes u_t_rig_positions u_t_rig_timers u_t_rig_faults u_t_rig_sequence_plus u_t_rig_sequence_minus u_t_rig_sequence_pauses u_t_rig_sequence_outBefore u_t_rig_sequence_cuts u_t_rig_sequence_groupOfStep : Nat) (t : Nat → Int32) (t_rig : Nat → Int32) (t_rig_sequence : Nat → Int32) : va_W := [(a_t, oX7 u_t_reader a_t_rig u_t_trial u_t_snapshot u_t_spare t), (a_t_rig, oX3 a_t_rig_sequence u_t_rig_circuit u_t_rig_log u_t_rig_score u_t_rig_strokes u_t_rig_positions u_t_rig_timers u_t_rig_faults t_rig), (a_t_rig_sequence, oX5 u_t_rig_sequence_plus u_t_rig_sequence_minus u_t_rig_sequence_pauses u_t_rig_sequence_outBefore u_t_rig_sequence_cuts u_t_rig_sequence_groupOfStep t_rig_sequence)]
abbrev rmX7_checkSequence : Room := { frames := 0, cells := 0, slots := 0, locals := 0 }
theorem hd_X7_checkSequence : yX7_checkSequence.cls = RX7 ∧ yX7_checkSequence.cls ≠ "java/lang/invoke/MethodHandle" ∧ yX7_checkSequence.cls ≠ "java/lang/invoke/VarHandle" ∧ (parseMethodDescriptor yX7_checkSequence.desc).map (fun d => d.parameters.length) = some 0 := by decide +kernel
set_option maxHeartbeats 4000000 in
set_option maxRecDepth 100000 in
theorem kX7_checkSequence (l : Launch) (D : va_G) (cI cJ : ClassId) (a_t a_t_rig a_t_rig_sequence u_t_reader u_t_trial u_t_snapshot u_t_spare u_t_rig_circuit u_t_rig_log u_t_rig_score u_t_rig_strokes u_t_rig_positions u_t_rig_timers u_t_rig_faults u_t_rig_sequence_plus u_t_rig_sequence_minus u_t_rig_sequence_pauses u_t_rig_sequence_outBefore u_t_rig_sequence_cuts u_t_rig_sequence_groupOfStep : Nat) (t t_rig t_rig_sequence : Nat → Int32) (hm : mX7_checkSequence t_rig_sequence = some ()) : bq_M l D cI cJ yX7_checkSequence cX7_checkSequence 1 none rmX7_checkSequence [.ref a_t] (wdX7_checkSequence cI a_t a_t_rig a_t_rig_sequence u_t_reader u_t_trial u_t_snapshot u_t_spare u_t_rig_circuit u_t_rig_log u_t_rig_score u_t_rig_strokes u_t_rig_positions u_t_rig_timers u_t_rig_faults u_t_rig_sequence_plus u_t_rig_sequence_minus u_t_rig_sequence_pauses u_t_rig_sequence_outBefore u_t_rig_sequence_cuts u_t_rig_sequence_groupOfStep t t_rig t_rig_sequence) (wdX7_checkSequence cI a_t a_t_rig a_t_rig_sequence u_t_reader u_t_trial u_t_snapshot u_t_spare u_t_rig_circuit u_t_rig_log u_t_rig_score u_t_rig_strokes u_t_rig_positions u_t_rig_timers u_t_rig_faults u_t_rig_sequence_plus u_t_rig_sequence_minus u_t_rig_sequence_pauses u_t_rig_sequence_outBefore u_t_rig_sequence_cuts u_t_rig_sequence_groupOfStep t t_rig t_rig_sequence) none := by
  refine bq_start (by decide) (Nat.le_of_ble_eq_true rfl) ?_
  intro p e s m av9 below meth c A ls Q H locs E K w hA hr hk hn hQ hl
  have E : bq_E p m c cX7_checkSequence 1 s av9 RX7 := E
  have hx := E.1
  have hb := E.2.1
  have hl : lv_has ls 1 [(0, .ref a_t)] := hl
  unfold mX7_checkSequence at hm
  refine lv_aload_n hx hb dX7_checkSequence_0 rfl (lv_at hl 0 rfl) ?_
  refine gt_X7_24 E K w 0 rfl rfl dX7_checkSequence_1 ?_
  refine gt_X7_77 E K w 1 rfl rfl dX7_checkSequence_4 ?_
  refine gt_X7_83 E K w 2 rfl rfl dX7_checkSequence_7 ?_
  refine lv_if_ne (tgt := 24) hx hb dX7_checkSequence_10 (by decide) (fun hc => ?_) (fun hc => ?_)
  · replace hm := bq_f hc hm
    clear hc
    clear hm
    exact bq_vret E w hr hk dX7_checkSequence_24 hQ
  · replace hm := bq_t hc hm
    clear hc
    cases hm
abbrev rmTX7_checkSequence : Room := { frames := 6, cells := 1, slots := 6, locals := 100 }
set_option maxHeartbeats 4000000 in
set_option maxRecDepth 100000 in
theorem tkX7_checkSequence {l : Launch} (hlf : l.stackTraces = false) (D : va_G) (cI cJ : ClassId) (a_t a_t_rig a_t_rig_sequence u_t_reader u_t_trial u_t_snapshot u_t_spare u_t_rig_circuit u_t_rig_log u_t_rig_score u_t_rig_strokes u_t_rig_positions u_t_rig_timers u_t_rig_faults u_t_rig_sequence_plus u_t_rig_sequence_minus u_t_rig_sequence_pauses u_t_rig_sequence_outBefore u_t_rig_sequence_cuts u_t_rig_sequence_groupOfStep : Nat) (t t_rig t_rig_sequence : Nat → Int32) (r : Nat) (hm : tX7_checkSequence t_rig_sequence = some r) : bq_MT l D cI cJ yX7_checkSequence cX7_checkSequence 1 none rmTX7_checkSequence [.ref a_t] (wdX7_checkSequence cI a_t a_t_rig a_t_rig_sequence u_t_reader u_t_trial u_t_snapshot u_t_spare u_t_rig_circuit u_t_rig_log u_t_rig_score u_t_rig_strokes u_t_rig_positions u_t_rig_timers u_t_rig_faults u_t_rig_sequence_plus u_t_rig_sequence_minus u_t_rig_sequence_pauses u_t_rig_sequence_outBefore u_t_rig_sequence_cuts u_t_rig_sequence_groupOfStep t t_rig t_rig_sequence) (bq_cls r) := by
  refine bq_startT (by decide) (Nat.le_of_ble_eq_true rfl) ?_
  intro p e s m av9 below meth c A ls Q H locs E K w hA hnt hk hX hQ hl
  have E : bq_E p m c cX7_checkSequence 1 s av9 RX7 := E
  have hx := E.1
  have hb := E.2.1
  have hl : lv_has ls 1 [(0, .ref a_t)] := hl
  unfold tX7_checkSequence at hm
  refine lv_aload_n hx hb dX7_checkSequence_0 rfl (lv_at hl 0 rfl) ?_
  refine gt_X7_24 E K w 0 rfl rfl dX7_checkSequence_1 ?_
  refine gt_X7_77 E K w 1 rfl rfl dX7_checkSequence_4 ?_
  refine gt_X7_83 E K w 2 rfl rfl dX7_checkSequence_7 ?_
  refine lv_if_ne (tgt := 24) hx hb dX7_checkSequence_10 (by decide) (fun hc => ?_) (fun hc => ?_)
  · replace hm := bq_f hc hm
    clear hc
    cases hm
  · replace hm := bq_t hc hm
    clear hc
    obtain rfl := Option.some.inj hm
    exact bq_throwW (cls := "java/lang/IllegalStateException") hlf E K w hX hnt hk hQ (by decide +kernel) bq_upf cl_X7_56 in_IllegalStateException sr_X7_262 xa_X7_60 xb_X7_60 xg_X7_56_60 hl.1 dX7_checkSequence_13 dX7_checkSequence_16 dX7_checkSequence_17 dX7_checkSequence_20 dX7_checkSequence_23 (Nat.le_of_ble_eq_true rfl) (Nat.le_of_ble_eq_true rfl) (Nat.le_of_ble_eq_true rfl) (Nat.le_of_ble_eq_true rfl)
abbrev wdX7_type (cI : ClassId) (a_t a_t_reader a_t_reader_signs u_t_rig u_t_trial u_t_snapshot u_t_spare : Nat) (t : Nat → Int32) (t_reader : Nat → Int32) (t_reader_signs : Nat → Int32) : va_W := [(a_t, oX7 a_t_reader u_t_rig u_t_trial u_t_snapshot u_t_spare t), (a_t_reader, oX2 a_t_reader_signs t_reader), (a_t_reader_signs, oA cI 80 t_reader_signs)]
abbrev rmX7_type : Room := { frames := 1, cells := 0, slots := 0, locals := 21 }
theorem hd_X7_type : yX7_type.cls = RX7 ∧ yX7_type.cls ≠ "java/lang/invoke/MethodHandle" ∧ yX7_type.cls ≠ "java/lang/invoke/VarHandle" ∧ (parseMethodDescriptor yX7_type.desc).map (fun d => d.parameters.length) = some 1 := by decide +kernel
set_option maxHeartbeats 4000000 in
set_option maxRecDepth 100000 in
theorem kX7_type (l : Launch) (D : va_G) (cI cJ : ClassId) (a_t a_t_reader a_t_reader_signs u_t_rig u_t_trial u_t_snapshot u_t_spare : Nat) (t t_reader t_reader_signs : Nat → Int32) (x1 : Int32) (r : Int32) (t_reader_o : Nat → Int32) (t_reader_signs_o : Nat → Int32) (hm : mX7_type t_reader t_reader_signs x1 = some (r, t_reader_o, t_reader_signs_o)) : bq_M l D cI cJ yX7_type cX7_type 2 (some .int) rmX7_type [.ref a_t, .int x1] (wdX7_type cI a_t a_t_reader a_t_reader_signs u_t_rig u_t_trial u_t_snapshot u_t_spare t t_reader t_reader_signs) (wdX7_type cI a_t a_t_reader a_t_reader_signs u_t_rig u_t_trial u_t_snapshot u_t_spare t t_reader_o t_reader_signs_o) (some (.int r)) := by
  refine bq_start (by decide) (Nat.le_of_ble_eq_true rfl) ?_
  intro p e s m av9 below meth c A ls Q H locs E K w hA hr hk hn hQ hl
  have E : bq_E p m c cX7_type 2 s av9 RX7 := E
  have hx := E.1
  have hb := E.2.1
  have hl : lv_has ls 2 [(0, .ref a_t), (1, .int x1)] := hl
  unfold mX7_type at hm
  refine lv_iload_n hx hb dX7_type_0 rfl (lv_at hl 1 rfl) ?_
  refine lv_bipush (v := 32) hx hb dX7_type_1 (by decide) ?_
  refine lv_icmp_lt (tgt := 12) hx hb dX7_type_3 (by decide) (fun hc => ?_) (fun hc => ?_)
  · replace hm := bq_t hc hm
    clear hc
    cases hm
  · replace hm := bq_f hc hm
    clear hc
    refine lv_iload_n hx hb dX7_type_6 rfl (lv_at hl 1 rfl) ?_
    refine lv_bipush (v := 126) hx hb dX7_type_7 (by decide) ?_
    refine lv_icmp_le (tgt := 22) hx hb dX7_type_9 (by decide) (fun hc => ?_) (fun hc => ?_)
    · replace hm := bq_t hc hm
      clear hc
      refine lv_aload_n hx hb dX7_type_22 rfl (lv_at hl 0 rfl) ?_
      refine gt_X7_13 E K w 0 rfl rfl dX7_type_23 ?_
      refine gt_X7_53 E K w 1 rfl rfl dX7_type_26 ?_
      refine lv_bipush (v := 80) hx hb dX7_type_29 (by decide) ?_
      refine lv_icmp_lt (tgt := 44) hx hb dX7_type_31 (by decide) (fun hc => ?_) (fun hc => ?_)
      · replace hm := bq_t hc hm
        clear hc
        refine lv_aload_n hx hb dX7_type_44 rfl (lv_at hl 0 rfl) ?_
        refine gt_X7_13 E K w 0 rfl rfl dX7_type_45 ?_
        refine lv_iload_n hx hb dX7_type_48 rfl (lv_at hl 1 rfl) ?_
        obtain ⟨t_reader_1, t_reader_signs_2, hC, hm⟩ := bq_b2_el hm
        refine bq_V (As := [.int x1]) (rest := []) (st1 := []) (ws' := wdX7_type cI a_t a_t_reader a_t_reader_signs u_t_rig u_t_trial u_t_snapshot u_t_spare t t_reader_1 t_reader_signs_2) E K w hA (kX2_append l D cI cJ a_t_reader a_t_reader_signs t_reader t_reader_signs x1 t_reader_1 t_reader_signs_2 hC) (bq_gV ml_X7_61 im_X2_append sl_X2_append in_X2 cd_X2_append) hd_X2_append ⟨Nat.le_of_ble_eq_true rfl, Nat.le_of_ble_eq_true rfl⟩ ⟨Nat.le_of_ble_eq_true rfl, Nat.le_of_ble_eq_true rfl⟩ ⟨[1, 2], [0], [0, 1, 2], rfl, rfl, rfl, rfl, rfl, rfl, rfl, rfl, rfl⟩ 1 rfl rfl rfl hl.1 rfl (Nat.le_of_ble_eq_true rfl) rfl dX7_type_49 (fun H locs w => bq_z ⟨rfl, rfl⟩ ?_)
        clear hC
        refine lv_aload_n hx hb dX7_type_52 rfl (lv_at hl 0 rfl) ?_
        refine gt_X7_13 E K w 0 rfl rfl dX7_type_53 ?_
        refine gt_X7_53 E K w 1 rfl rfl dX7_type_56 ?_
        obtain ⟨rfl, rfl, rfl⟩ := bq_in3 (Option.some.inj hm)
        exact bq_iret E w hr hk dX7_type_59 hQ
      · replace hm := bq_f hc hm
        clear hc
        cases hm
    · replace hm := bq_f hc hm
      clear hc
      cases hm
abbrev rmTX7_type : Room := { frames := 6, cells := 1, slots := 6, locals := 100 }
set_option maxHeartbeats 4000000 in
set_option maxRecDepth 100000 in
theorem tkX7_type {l : Launch} (hlf : l.stackTraces = false) (D : va_G) (cI cJ : ClassId) (a_t a_t_reader a_t_reader_signs u_t_rig u_t_trial u_t_snapshot u_t_spare : Nat) (t t_reader t_reader_signs : Nat → Int32) (x1 : Int32) (r : Nat) (hm : tX7_type t_reader t_reader_signs x1 = some r) : bq_MT l D cI cJ yX7_type cX7_type 2 (some .int) rmTX7_type [.ref a_t, .int x1] (wdX7_type cI a_t a_t_reader a_t_reader_signs u_t_rig u_t_trial u_t_snapshot u_t_spare t t_reader t_reader_signs) (bq_cls r) := by
  refine bq_startT (by decide) (Nat.le_of_ble_eq_true rfl) ?_
  intro p e s m av9 below meth c A ls Q H locs E K w hA hnt hk hX hQ hl
  have E : bq_E p m c cX7_type 2 s av9 RX7 := E
  have hx := E.1
  have hb := E.2.1
  have hl : lv_has ls 2 [(0, .ref a_t), (1, .int x1)] := hl
  unfold tX7_type at hm
  refine lv_iload_n hx hb dX7_type_0 rfl (lv_at hl 1 rfl) ?_
  refine lv_bipush (v := 32) hx hb dX7_type_1 (by decide) ?_
  refine lv_icmp_lt (tgt := 12) hx hb dX7_type_3 (by decide) (fun hc => ?_) (fun hc => ?_)
  · replace hm := bq_t hc hm
    clear hc
    obtain rfl := Option.some.inj hm
    exact bq_throw (cls := "java/lang/IllegalArgumentException") hlf E K w hX hnt hk hQ (by decide +kernel) bq_upf cl_X7_46 in_IllegalArgumentException sr_X7_48 xa_X7_50 xb_X7_50 xg_X7_46_50 hl.1 dX7_type_12 dX7_type_15 dX7_type_16 dX7_type_18 dX7_type_21 (Nat.le_of_ble_eq_true rfl) (Nat.le_of_ble_eq_true rfl) (Nat.le_of_ble_eq_true rfl) (Nat.le_of_ble_eq_true rfl)
  · replace hm := bq_f hc hm
    clear hc
    refine lv_iload_n hx hb dX7_type_6 rfl (lv_at hl 1 rfl) ?_
    refine lv_bipush (v := 126) hx hb dX7_type_7 (by decide) ?_
    refine lv_icmp_le (tgt := 22) hx hb dX7_type_9 (by decide) (fun hc => ?_) (fun hc => ?_)
    · replace hm := bq_t hc hm
      clear hc
      refine lv_aload_n hx hb dX7_type_22 rfl (lv_at hl 0 rfl) ?_
      refine gt_X7_13 E K w 0 rfl rfl dX7_type_23 ?_
      refine gt_X7_53 E K w 1 rfl rfl dX7_type_26 ?_
      refine lv_bipush (v := 80) hx hb dX7_type_29 (by decide) ?_
      refine lv_icmp_lt (tgt := 44) hx hb dX7_type_31 (by decide) (fun hc => ?_) (fun hc => ?_)
      · replace hm := bq_t hc hm
        clear hc
        cases hm
      · replace hm := bq_f hc hm
        clear hc
        obtain rfl := Option.some.inj hm
        exact bq_throw (cls := "java/lang/IllegalStateException") hlf E K w hX hnt hk hQ (by decide +kernel) bq_upf cl_X7_56 in_IllegalStateException sr_X7_58 xa_X7_60 xb_X7_60 xg_X7_56_60 hl.1 dX7_type_34 dX7_type_37 dX7_type_38 dX7_type_40 dX7_type_43 (Nat.le_of_ble_eq_true rfl) (Nat.le_of_ble_eq_true rfl) (Nat.le_of_ble_eq_true rfl) (Nat.le_of_ble_eq_true rfl)
    · replace hm := bq_f hc hm
      clear hc
      obtain rfl := Option.some.inj hm
      exact bq_throw (cls := "java/lang/IllegalArgumentException") hlf E K w hX hnt hk hQ (by decide +kernel) bq_upf cl_X7_46 in_IllegalArgumentException sr_X7_48 xa_X7_50 xb_X7_50 xg_X7_46_50 hl.1 dX7_type_12 dX7_type_15 dX7_type_16 dX7_type_18 dX7_type_21 (Nat.le_of_ble_eq_true rfl) (Nat.le_of_ble_eq_true rfl) (Nat.le_of_ble_eq_true rfl) (Nat.le_of_ble_eq_true rfl)
abbrev wdX7_clearText (cI : ClassId) (a_t a_t_reader u_t_rig u_t_trial u_t_snapshot u_t_spare u_t_reader_signs : Nat) (t : Nat → Int32) (t_reader : Nat → Int32) : va_W := [(a_t, oX7 a_t_reader u_t_rig u_t_trial u_t_snapshot u_t_spare t), (a_t_reader, oX2 u_t_reader_signs t_reader)]
abbrev rmX7_clearText : Room := { frames := 0, cells := 0, slots := 0, locals := 0 }
theorem hd_X7_clearText : yX7_clearText.cls = RX7 ∧ yX7_clearText.cls ≠ "java/lang/invoke/MethodHandle" ∧ yX7_clearText.cls ≠ "java/lang/invoke/VarHandle" ∧ (parseMethodDescriptor yX7_clearText.desc).map (fun d => d.parameters.length) = some 0 := by decide +kernel
set_option maxHeartbeats 4000000 in
set_option maxRecDepth 100000 in
theorem kX7_clearText (l : Launch) (D : va_G) (cI cJ : ClassId) (a_t a_t_reader u_t_rig u_t_trial u_t_snapshot u_t_spare u_t_reader_signs : Nat) (t t_reader : Nat → Int32) (r : Int32) (t_reader_o : Nat → Int32) (hm : mX7_clearText t_reader = some (r, t_reader_o)) : bq_M l D cI cJ yX7_clearText cX7_clearText 2 (some .int) rmX7_clearText [.ref a_t] (wdX7_clearText cI a_t a_t_reader u_t_rig u_t_trial u_t_snapshot u_t_spare u_t_reader_signs t t_reader) (wdX7_clearText cI a_t a_t_reader u_t_rig u_t_trial u_t_snapshot u_t_spare u_t_reader_signs t t_reader_o) (some (.int r)) := by
  refine bq_start (by decide) (Nat.le_of_ble_eq_true rfl) ?_
  intro p e s m av9 below meth c A ls Q H locs E K w hA hr hk hn hQ hl
  have E : bq_E p m c cX7_clearText 2 s av9 RX7 := E
  have hx := E.1
  have hb := E.2.1
  have hl : lv_has ls 2 [(0, .ref a_t)] := hl
  unfold mX7_clearText at hm
  refine lv_aload_n hx hb dX7_clearText_0 rfl (lv_at hl 0 rfl) ?_
  refine gt_X7_13 E K w 0 rfl rfl dX7_clearText_1 ?_
  refine gt_X7_53 E K w 1 rfl rfl dX7_clearText_4 ?_
  obtain ⟨v1, e9, hm⟩ := bq_let_el hm
  refine bq_nmi e9 ?_
  clear e9
  refine lv_istore_n (lv' := [(1, .int v1), (0, .ref a_t)]) hx hb dX7_clearText_7 rfl hl (by decide) rfl (fun ls hl => ?_)
  refine lv_aload_n hx hb dX7_clearText_8 rfl (lv_at hl 1 rfl) ?_
  refine gt_X7_13 E K w 0 rfl rfl dX7_clearText_9 ?_
  refine lv_iconst (v := 0) hx hb dX7_clearText_12 (by decide) ?_
  obtain ⟨t_reader_2, e9, hm⟩ := bq_let_el hm
  refine pt_X7_53 E K w 1 rfl (Nat.le_of_ble_eq_true rfl) dX7_clearText_13 (fun H locs w => ?_)
  replace w : bq_w D A s.heap (wdX7_clearText cI a_t a_t_reader u_t_rig u_t_trial u_t_snapshot u_t_spare u_t_reader_signs t t_reader_2) H locs := by rw [e9]; exact w
  clear e9
  refine lv_iload_n hx hb dX7_clearText_16 rfl (lv_at hl 0 rfl) ?_
  obtain ⟨rfl, rfl⟩ := bq_in2 (Option.some.inj hm)
  exact bq_iret E w hr hk dX7_clearText_17 hQ
abbrev wdX7_errorKind (cI : ClassId) (a_t u_t_reader u_t_rig u_t_trial u_t_snapshot u_t_spare : Nat) (t : Nat → Int32) : va_W := [(a_t, oX7 u_t_reader u_t_rig u_t_trial u_t_snapshot u_t_spare t)]
abbrev rmX7_errorKind : Room := { frames := 0, cells := 0, slots := 0, locals := 0 }
theorem hd_X7_errorKind : yX7_errorKind.cls = RX7 ∧ yX7_errorKind.cls ≠ "java/lang/invoke/MethodHandle" ∧ yX7_errorKind.cls ≠ "java/lang/invoke/VarHandle" ∧ (parseMethodDescriptor yX7_errorKind.desc).map (fun d => d.parameters.length) = some 0 := by decide +kernel
set_option maxHeartbeats 4000000 in
set_option maxRecDepth 100000 in
theorem kX7_errorKind (l : Launch) (D : va_G) (cI cJ : ClassId) (a_t u_t_reader u_t_rig u_t_trial u_t_snapshot u_t_spare : Nat) (t : Nat → Int32) (r : Int32) (hm : mX7_errorKind t = some r) : bq_M l D cI cJ yX7_errorKind cX7_errorKind 1 (some .int) rmX7_errorKind [.ref a_t] (wdX7_errorKind cI a_t u_t_reader u_t_rig u_t_trial u_t_snapshot u_t_spare t) (wdX7_errorKind cI a_t u_t_reader u_t_rig u_t_trial u_t_snapshot u_t_spare t) (some (.int r)) := by
  refine bq_start (by decide) (Nat.le_of_ble_eq_true rfl) ?_
  intro p e s m av9 below meth c A ls Q H locs E K w hA hr hk hn hQ hl
  have E : bq_E p m c cX7_errorKind 1 s av9 RX7 := E
  have hx := E.1
  have hb := E.2.1
  have hl : lv_has ls 1 [(0, .ref a_t)] := hl
  unfold mX7_errorKind at hm
  refine lv_aload_n hx hb dX7_errorKind_0 rfl (lv_at hl 0 rfl) ?_
  refine gt_X7_42 E K w 0 rfl rfl dX7_errorKind_1 ?_
  obtain rfl := Option.some.inj hm
  exact bq_iret E w hr hk dX7_errorKind_4 hQ
abbrev wdX7_steps (cI : ClassId) (a_t a_t_rig a_t_rig_sequence u_t_reader u_t_trial u_t_snapshot u_t_spare u_t_rig_circuit u_t_rig_log u_t_rig_score u_t_rig_strokes u_t_rig_positions u_t_rig_timers u_t_rig_faults u_t_rig_sequence_plus u_t_rig_sequence_minus u_t_rig_sequence_pauses u_t_rig_sequence_outBefore u_t_rig_sequence_cuts u_t_rig_sequence_groupOfStep : Nat) (t : Nat → Int32) (t_rig : Nat → Int32) (t_rig_sequence : Nat → Int32) : va_W := [(a_t, oX7 u_t_reader a_t_rig u_t_trial u_t_snapshot u_t_spare t), (a_t_rig, oX3 a_t_rig_sequence u_t_rig_circuit u_t_rig_log u_t_rig_score u_t_rig_strokes u_t_rig_positions u_t_rig_timers u_t_rig_faults t_rig), (a_t_rig_sequence, oX5 u_t_rig_sequence_plus u_t_rig_sequence_minus u_t_rig_sequence_pauses u_t_rig_sequence_outBefore u_t_rig_sequence_cuts u_t_rig_sequence_groupOfStep t_rig_sequence)]
abbrev rmX7_steps : Room := { frames := 0, cells := 0, slots := 0, locals := 0 }
theorem hd_X7_steps : yX7_steps.cls = RX7 ∧ yX7_steps.cls ≠ "java/lang/invoke/MethodHandle" ∧ yX7_steps.cls ≠ "java/lang/invoke/VarHandle" ∧ (parseMethodDescriptor yX7_steps.desc).map (fun d => d.parameters.length) = some 0 := by decide +kernel
set_option maxHeartbeats 4000000 in
set_option maxRecDepth 100000 in
theorem kX7_steps (l : Launch) (D : va_G) (cI cJ : ClassId) (a_t a_t_rig a_t_rig_sequence u_t_reader u_t_trial u_t_snapshot u_t_spare u_t_rig_circuit u_t_rig_log u_t_rig_score u_t_rig_strokes u_t_rig_positions u_t_rig_timers u_t_rig_faults u_t_rig_sequence_plus u_t_rig_sequence_minus u_t_rig_sequence_pauses u_t_rig_sequence_outBefore u_t_rig_sequence_cuts u_t_rig_sequence_groupOfStep : Nat) (t t_rig t_rig_sequence : Nat → Int32) (r : Int32) (hm : mX7_steps t_rig_sequence = some r) : bq_M l D cI cJ yX7_steps cX7_steps 1 (some .int) rmX7_steps [.ref a_t] (wdX7_steps cI a_t a_t_rig a_t_rig_sequence u_t_reader u_t_trial u_t_snapshot u_t_spare u_t_rig_circuit u_t_rig_log u_t_rig_score u_t_rig_strokes u_t_rig_positions u_t_rig_timers u_t_rig_faults u_t_rig_sequence_plus u_t_rig_sequence_minus u_t_rig_sequence_pauses u_t_rig_sequence_outBefore u_t_rig_sequence_cuts u_t_rig_sequence_groupOfStep t t_rig t_rig_sequence) (wdX7_steps cI a_t a_t_rig a_t_rig_sequence u_t_reader u_t_trial u_t_snapshot u_t_spare u_t_rig_circuit u_t_rig_log u_t_rig_score u_t_rig_strokes u_t_rig_positions u_t_rig_timers u_t_rig_faults u_t_rig_sequence_plus u_t_rig_sequence_minus u_t_rig_sequence_pauses u_t_rig_sequence_outBefore u_t_rig_sequence_cuts u_t_rig_sequence_groupOfStep t t_rig t_rig_sequence) (some (.int r)) := by
  refine bq_start (by decide) (Nat.le_of_ble_eq_true rfl) ?_
  intro p e s m av9 below meth c A ls Q H locs E K w hA hr hk hn hQ hl
  have E : bq_E p m c cX7_steps 1 s av9 RX7 := E
  have hx := E.1
  have hb := E.2.1
  have hl : lv_has ls 1 [(0, .ref a_t)] := hl
  unfold mX7_steps at hm
  refine lv_aload_n hx hb dX7_steps_0 rfl (lv_at hl 0 rfl) ?_
  refine gt_X7_24 E K w 0 rfl rfl dX7_steps_1 ?_
  refine gt_X7_77 E K w 1 rfl rfl dX7_steps_4 ?_
  refine gt_X7_83 E K w 2 rfl rfl dX7_steps_7 ?_
  obtain rfl := Option.some.inj hm
  exact bq_iret E w hr hk dX7_steps_10 hQ
abbrev wdX7_moves (cI : ClassId) (a_t a_t_rig a_t_rig_sequence a_t_rig_sequence_minus a_t_rig_sequence_plus u_t_reader u_t_trial u_t_snapshot u_t_spare u_t_rig_circuit u_t_rig_log u_t_rig_score u_t_rig_strokes u_t_rig_positions u_t_rig_timers u_t_rig_faults u_t_rig_sequence_pauses u_t_rig_sequence_outBefore u_t_rig_sequence_cuts u_t_rig_sequence_groupOfStep : Nat) (t : Nat → Int32) (t_rig : Nat → Int32) (t_rig_sequence : Nat → Int32) (t_rig_sequence_minus : Nat → Int32) (t_rig_sequence_plus : Nat → Int32) : va_W := [(a_t, oX7 u_t_reader a_t_rig u_t_trial u_t_snapshot u_t_spare t), (a_t_rig, oX3 a_t_rig_sequence u_t_rig_circuit u_t_rig_log u_t_rig_score u_t_rig_strokes u_t_rig_positions u_t_rig_timers u_t_rig_faults t_rig), (a_t_rig_sequence, oX5 a_t_rig_sequence_plus a_t_rig_sequence_minus u_t_rig_sequence_pauses u_t_rig_sequence_outBefore u_t_rig_sequence_cuts u_t_rig_sequence_groupOfStep t_rig_sequence), (a_t_rig_sequence_minus, oA cI 16 t_rig_sequence_minus), (a_t_rig_sequence_plus, oA cI 16 t_rig_sequence_plus)]
abbrev rmX7_moves : Room := { frames := 1, cells := 0, slots := 0, locals := 21 }
theorem hd_X7_moves : yX7_moves.cls = RX7 ∧ yX7_moves.cls ≠ "java/lang/invoke/MethodHandle" ∧ yX7_moves.cls ≠ "java/lang/invoke/VarHandle" ∧ (parseMethodDescriptor yX7_moves.desc).map (fun d => d.parameters.length) = some 1 := by decide +kernel
set_option maxHeartbeats 4000000 in
set_option maxRecDepth 100000 in
theorem kX7_moves (l : Launch) (D : va_G) (cI cJ : ClassId) (a_t a_t_rig a_t_rig_sequence a_t_rig_sequence_minus a_t_rig_sequence_plus u_t_reader u_t_trial u_t_snapshot u_t_spare u_t_rig_circuit u_t_rig_log u_t_rig_score u_t_rig_strokes u_t_rig_positions u_t_rig_timers u_t_rig_faults u_t_rig_sequence_pauses u_t_rig_sequence_outBefore u_t_rig_sequence_cuts u_t_rig_sequence_groupOfStep : Nat) (t t_rig t_rig_sequence t_rig_sequence_minus t_rig_sequence_plus : Nat → Int32) (x1 : Int32) (r : Int32) (hm : mX7_moves t_rig_sequence t_rig_sequence_minus t_rig_sequence_plus x1 = some r) : bq_M l D cI cJ yX7_moves cX7_moves 2 (some .int) rmX7_moves [.ref a_t, .int x1] (wdX7_moves cI a_t a_t_rig a_t_rig_sequence a_t_rig_sequence_minus a_t_rig_sequence_plus u_t_reader u_t_trial u_t_snapshot u_t_spare u_t_rig_circuit u_t_rig_log u_t_rig_score u_t_rig_strokes u_t_rig_positions u_t_rig_timers u_t_rig_faults u_t_rig_sequence_pauses u_t_rig_sequence_outBefore u_t_rig_sequence_cuts u_t_rig_sequence_groupOfStep t t_rig t_rig_sequence t_rig_sequence_minus t_rig_sequence_plus) (wdX7_moves cI a_t a_t_rig a_t_rig_sequence a_t_rig_sequence_minus a_t_rig_sequence_plus u_t_reader u_t_trial u_t_snapshot u_t_spare u_t_rig_circuit u_t_rig_log u_t_rig_score u_t_rig_strokes u_t_rig_positions u_t_rig_timers u_t_rig_faults u_t_rig_sequence_pauses u_t_rig_sequence_outBefore u_t_rig_sequence_cuts u_t_rig_sequence_groupOfStep t t_rig t_rig_sequence t_rig_sequence_minus t_rig_sequence_plus) (some (.int r)) := by
  refine bq_start (by decide) (Nat.le_of_ble_eq_true rfl) ?_
  intro p e s m av9 below meth c A ls Q H locs E K w hA hr hk hn hQ hl
  have E : bq_E p m c cX7_moves 2 s av9 RX7 := E
  have hx := E.1
  have hb := E.2.1
  have hl : lv_has ls 2 [(0, .ref a_t), (1, .int x1)] := hl
  unfold mX7_moves at hm
  refine lv_aload_n hx hb dX7_moves_0 rfl (lv_at hl 0 rfl) ?_
  refine lv_iload_n hx hb dX7_moves_1 rfl (lv_at hl 1 rfl) ?_
  obtain ⟨⟨⟩, hC, hm⟩ := bq_bd_el hm
  refine bq_V (As := [.int x1]) (rest := []) (st1 := []) (ws' := wdX7_moves cI a_t a_t_rig a_t_rig_sequence a_t_rig_sequence_minus a_t_rig_sequence_plus u_t_reader u_t_trial u_t_snapshot u_t_spare u_t_rig_circuit u_t_rig_log u_t_rig_score u_t_rig_strokes u_t_rig_positions u_t_rig_timers u_t_rig_faults u_t_rig_sequence_pauses u_t_rig_sequence_outBefore u_t_rig_sequence_cuts u_t_rig_sequence_groupOfStep t t_rig t_rig_sequence t_rig_sequence_minus t_rig_sequence_plus) E K w hA (kX7_checkStep l D cI cJ a_t a_t_rig a_t_rig_sequence u_t_reader u_t_trial u_t_snapshot u_t_spare u_t_rig_circuit u_t_rig_log u_t_rig_score u_t_rig_strokes u_t_rig_positions u_t_rig_timers u_t_rig_faults a_t_rig_sequence_plus a_t_rig_sequence_minus u_t_rig_sequence_pauses u_t_rig_sequence_outBefore u_t_rig_sequence_cuts u_t_rig_sequence_groupOfStep t t_rig t_rig_sequence x1 hC) (bq_gV ml_X7_86 im_X7_checkStep sl_X7_checkStep in_X7 cd_X7_checkStep) hd_X7_checkStep ⟨Nat.le_of_ble_eq_true rfl, Nat.le_of_ble_eq_true rfl⟩ ⟨Nat.le_of_ble_eq_true rfl, Nat.le_of_ble_eq_true rfl⟩ ⟨[0, 1, 2], [3, 4], [2, 3, 4, 0, 1], rfl, rfl, rfl, rfl, rfl, rfl, rfl, rfl, rfl⟩ 0 rfl rfl rfl hl.1 rfl (Nat.le_of_ble_eq_true rfl) rfl dX7_moves_2 (fun H locs w => bq_z ⟨rfl, rfl⟩ ?_)
  clear hC
  refine lv_aload_n hx hb dX7_moves_5 rfl (lv_at hl 0 rfl) ?_
  refine gt_X7_24 E K w 0 rfl rfl dX7_moves_6 ?_
  refine gt_X7_77 E K w 1 rfl rfl dX7_moves_9 ?_
  refine lv_iload_n hx hb dX7_moves_12 rfl (lv_at hl 1 rfl) ?_
  obtain ⟨v1, hC, hm⟩ := bq_bd_el hm
  refine bq_V (As := [.int x1]) (rest := []) (st1 := [.int v1]) (ws' := wdX7_moves cI a_t a_t_rig a_t_rig_sequence a_t_rig_sequence_minus a_t_rig_sequence_plus u_t_reader u_t_trial u_t_snapshot u_t_spare u_t_rig_circuit u_t_rig_log u_t_rig_score u_t_rig_strokes u_t_rig_positions u_t_rig_timers u_t_rig_faults u_t_rig_sequence_pauses u_t_rig_sequence_outBefore u_t_rig_sequence_cuts u_t_rig_sequence_groupOfStep t t_rig t_rig_sequence t_rig_sequence_minus t_rig_sequence_plus) E K w hA (kX5_movesIn l D cI cJ a_t_rig_sequence a_t_rig_sequence_minus a_t_rig_sequence_plus u_t_rig_sequence_pauses u_t_rig_sequence_outBefore u_t_rig_sequence_cuts u_t_rig_sequence_groupOfStep t_rig_sequence t_rig_sequence_minus t_rig_sequence_plus x1 v1 hC) (bq_gV ml_X7_89 im_X5_movesIn sl_X5_movesIn in_X5 cd_X5_movesIn) hd_X5_movesIn ⟨Nat.le_of_ble_eq_true rfl, Nat.le_of_ble_eq_true rfl⟩ ⟨Nat.le_of_ble_eq_true rfl, Nat.le_of_ble_eq_true rfl⟩ ⟨[2, 3, 4], [0, 1], [0, 1, 2, 3, 4], rfl, rfl, rfl, rfl, rfl, rfl, rfl, rfl, rfl⟩ 2 rfl rfl rfl hl.1 rfl (Nat.le_of_ble_eq_true rfl) rfl dX7_moves_13 (fun H locs w => bq_z ⟨rfl, rfl⟩ ?_)
  clear hC
  obtain rfl := Option.some.inj hm
  exact bq_iret E w hr hk dX7_moves_16 hQ
abbrev rmTX7_moves : Room := { frames := 7, cells := 1, slots := 6, locals := 121 }
set_option maxHeartbeats 4000000 in
set_option maxRecDepth 100000 in
theorem tkX7_moves {l : Launch} (hlf : l.stackTraces = false) (D : va_G) (cI cJ : ClassId) (a_t a_t_rig a_t_rig_sequence a_t_rig_sequence_minus a_t_rig_sequence_plus u_t_reader u_t_trial u_t_snapshot u_t_spare u_t_rig_circuit u_t_rig_log u_t_rig_score u_t_rig_strokes u_t_rig_positions u_t_rig_timers u_t_rig_faults u_t_rig_sequence_pauses u_t_rig_sequence_outBefore u_t_rig_sequence_cuts u_t_rig_sequence_groupOfStep : Nat) (t t_rig t_rig_sequence t_rig_sequence_minus t_rig_sequence_plus : Nat → Int32) (x1 : Int32) (r : Nat) (hm : tX7_moves t_rig_sequence t_rig_sequence_minus t_rig_sequence_plus x1 = some r) : bq_MT l D cI cJ yX7_moves cX7_moves 2 (some .int) rmTX7_moves [.ref a_t, .int x1] (wdX7_moves cI a_t a_t_rig a_t_rig_sequence a_t_rig_sequence_minus a_t_rig_sequence_plus u_t_reader u_t_trial u_t_snapshot u_t_spare u_t_rig_circuit u_t_rig_log u_t_rig_score u_t_rig_strokes u_t_rig_positions u_t_rig_timers u_t_rig_faults u_t_rig_sequence_pauses u_t_rig_sequence_outBefore u_t_rig_sequence_cuts u_t_rig_sequence_groupOfStep t t_rig t_rig_sequence t_rig_sequence_minus t_rig_sequence_plus) (bq_cls r) := by
  refine bq_startT (by decide) (Nat.le_of_ble_eq_true rfl) ?_
  intro p e s m av9 below meth c A ls Q H locs E K w hA hnt hk hX hQ hl
  have E : bq_E p m c cX7_moves 2 s av9 RX7 := E
  have hx := E.1
  have hb := E.2.1
  have hl : lv_has ls 2 [(0, .ref a_t), (1, .int x1)] := hl
  unfold tX7_moves at hm
  refine lv_aload_n hx hb dX7_moves_0 rfl (lv_at hl 0 rfl) ?_
  refine lv_iload_n hx hb dX7_moves_1 rfl (lv_at hl 1 rfl) ?_
  refine (bq_tc_el hm).elim (fun hC => ?_) (fun hm => ?_)
  · exact bq_TV (As := [.int x1]) (rest := []) E K w hA hX hnt hk ⟨rfl, rfl⟩ (tkX7_checkStep hlf D cI cJ a_t a_t_rig a_t_rig_sequence u_t_reader u_t_trial u_t_snapshot u_t_spare u_t_rig_circuit u_t_rig_log u_t_rig_score u_t_rig_strokes u_t_rig_positions u_t_rig_timers u_t_rig_faults a_t_rig_sequence_plus a_t_rig_sequence_minus u_t_rig_sequence_pauses u_t_rig_sequence_outBefore u_t_rig_sequence_cuts u_t_rig_sequence_groupOfStep t t_rig t_rig_sequence x1 _ hC) (bq_gV ml_X7_86 im_X7_checkStep sl_X7_checkStep in_X7 cd_X7_checkStep) hd_X7_checkStep ⟨Nat.le_of_ble_eq_true rfl, Nat.le_of_ble_eq_true rfl⟩ ⟨Nat.le_of_ble_eq_true rfl, Nat.le_of_ble_eq_true rfl⟩ ⟨[0, 1, 2], [3, 4], [2, 3, 4, 0, 1], rfl, rfl, rfl, rfl, rfl, rfl, rfl, rfl, rfl⟩ 0 rfl rfl rfl hl.1 rfl (Nat.le_of_ble_eq_true rfl) dX7_moves_2 hQ
  obtain ⟨⟨⟩, hC, hm⟩ := bq_bd_el hm
  refine bq_V (As := [.int x1]) (rest := []) (st1 := []) (ws' := wdX7_moves cI a_t a_t_rig a_t_rig_sequence a_t_rig_sequence_minus a_t_rig_sequence_plus u_t_reader u_t_trial u_t_snapshot u_t_spare u_t_rig_circuit u_t_rig_log u_t_rig_score u_t_rig_strokes u_t_rig_positions u_t_rig_timers u_t_rig_faults u_t_rig_sequence_pauses u_t_rig_sequence_outBefore u_t_rig_sequence_cuts u_t_rig_sequence_groupOfStep t t_rig t_rig_sequence t_rig_sequence_minus t_rig_sequence_plus) E K w hA (kX7_checkStep l D cI cJ a_t a_t_rig a_t_rig_sequence u_t_reader u_t_trial u_t_snapshot u_t_spare u_t_rig_circuit u_t_rig_log u_t_rig_score u_t_rig_strokes u_t_rig_positions u_t_rig_timers u_t_rig_faults a_t_rig_sequence_plus a_t_rig_sequence_minus u_t_rig_sequence_pauses u_t_rig_sequence_outBefore u_t_rig_sequence_cuts u_t_rig_sequence_groupOfStep t t_rig t_rig_sequence x1 hC) (bq_gV ml_X7_86 im_X7_checkStep sl_X7_checkStep in_X7 cd_X7_checkStep) hd_X7_checkStep ⟨Nat.le_of_ble_eq_true rfl, Nat.le_of_ble_eq_true rfl⟩ ⟨Nat.le_of_ble_eq_true rfl, Nat.le_of_ble_eq_true rfl⟩ ⟨[0, 1, 2], [3, 4], [2, 3, 4, 0, 1], rfl, rfl, rfl, rfl, rfl, rfl, rfl, rfl, rfl⟩ 0 rfl rfl rfl hl.1 rfl (Nat.le_of_ble_eq_true rfl) rfl dX7_moves_2 (fun H locs w => bq_z ⟨rfl, rfl⟩ ?_)
  clear hC
  cases hm
abbrev wdX7_direction (cI : ClassId) (a_t a_t_rig a_t_rig_sequence a_t_rig_sequence_minus a_t_rig_sequence_plus u_t_reader u_t_trial u_t_snapshot u_t_spare u_t_rig_circuit u_t_rig_log u_t_rig_score u_t_rig_strokes u_t_rig_positions u_t_rig_timers u_t_rig_faults u_t_rig_sequence_pauses u_t_rig_sequence_outBefore u_t_rig_sequence_cuts u_t_rig_sequence_groupOfStep : Nat) (t : Nat → Int32) (t_rig : Nat → Int32) (t_rig_sequence : Nat → Int32) (t_rig_sequence_minus : Nat → Int32) (t_rig_sequence_plus : Nat → Int32) : va_W := [(a_t, oX7 u_t_reader a_t_rig u_t_trial u_t_snapshot u_t_spare t), (a_t_rig, oX3 a_t_rig_sequence u_t_rig_circuit u_t_rig_log u_t_rig_score u_t_rig_strokes u_t_rig_positions u_t_rig_timers u_t_rig_faults t_rig), (a_t_rig_sequence, oX5 a_t_rig_sequence_plus a_t_rig_sequence_minus u_t_rig_sequence_pauses u_t_rig_sequence_outBefore u_t_rig_sequence_cuts u_t_rig_sequence_groupOfStep t_rig_sequence), (a_t_rig_sequence_minus, oA cI 16 t_rig_sequence_minus), (a_t_rig_sequence_plus, oA cI 16 t_rig_sequence_plus)]
abbrev rmX7_direction : Room := { frames := 1, cells := 0, slots := 0, locals := 21 }
theorem hd_X7_direction : yX7_direction.cls = RX7 ∧ yX7_direction.cls ≠ "java/lang/invoke/MethodHandle" ∧ yX7_direction.cls ≠ "java/lang/invoke/VarHandle" ∧ (parseMethodDescriptor yX7_direction.desc).map (fun d => d.parameters.length) = some 2 := by decide +kernel
set_option maxHeartbeats 4000000 in
set_option maxRecDepth 100000 in
theorem kX7_direction (l : Launch) (D : va_G) (cI cJ : ClassId) (a_t a_t_rig a_t_rig_sequence a_t_rig_sequence_minus a_t_rig_sequence_plus u_t_reader u_t_trial u_t_snapshot u_t_spare u_t_rig_circuit u_t_rig_log u_t_rig_score u_t_rig_strokes u_t_rig_positions u_t_rig_timers u_t_rig_faults u_t_rig_sequence_pauses u_t_rig_sequence_outBefore u_t_rig_sequence_cuts u_t_rig_sequence_groupOfStep : Nat) (t t_rig t_rig_sequence t_rig_sequence_minus t_rig_sequence_plus : Nat → Int32) (x1 : Int32) (x2 : Int32) (r : Int32) (hm : mX7_direction t_rig_sequence t_rig_sequence_minus t_rig_sequence_plus x1 x2 = some r) : bq_M l D cI cJ yX7_direction cX7_direction 3 (some .int) rmX7_direction [.ref a_t, .int x1, .int x2] (wdX7_direction cI a_t a_t_rig a_t_rig_sequence a_t_rig_sequence_minus a_t_rig_sequence_plus u_t_reader u_t_trial u_t_snapshot u_t_spare u_t_rig_circuit u_t_rig_log u_t_rig_score u_t_rig_strokes u_t_rig_positions u_t_rig_timers u_t_rig_faults u_t_rig_sequence_pauses u_t_rig_sequence_outBefore u_t_rig_sequence_cuts u_t_rig_sequence_groupOfStep t t_rig t_rig_sequence t_rig_sequence_minus t_rig_sequence_plus) (wdX7_direction cI a_t a_t_rig a_t_rig_sequence a_t_rig_sequence_minus a_t_rig_sequence_plus u_t_reader u_t_trial u_t_snapshot u_t_spare u_t_rig_circuit u_t_rig_log u_t_rig_score u_t_rig_strokes u_t_rig_positions u_t_rig_timers u_t_rig_faults u_t_rig_sequence_pauses u_t_rig_sequence_outBefore u_t_rig_sequence_cuts u_t_rig_sequence_groupOfStep t t_rig t_rig_sequence t_rig_sequence_minus t_rig_sequence_plus) (some (.int r)) := by
  refine bq_start (by decide) (Nat.le_of_ble_eq_true rfl) ?_
  intro p e s m av9 below meth c A ls Q H locs E K w hA hr hk hn hQ hl
  have E : bq_E p m c cX7_direction 3 s av9 RX7 := E
  have hx := E.1
  have hb := E.2.1
  have hl : lv_has ls 3 [(0, .ref a_t), (1, .int x1), (2, .int x2)] := hl
  unfold mX7_direction at hm
  refine lv_aload_n hx hb dX7_direction_0 rfl (lv_at hl 0 rfl) ?_
  refine lv_iload_n hx hb dX7_direction_1 rfl (lv_at hl 1 rfl) ?_
  obtain ⟨⟨⟩, hC, hm⟩ := bq_bd_el hm
  refine bq_V (As := [.int x1]) (rest := []) (st1 := []) (ws' := wdX7_direction cI a_t a_t_rig a_t_rig_sequence a_t_rig_sequence_minus a_t_rig_sequence_plus u_t_reader u_t_trial u_t_snapshot u_t_spare u_t_rig_circuit u_t_rig_log u_t_rig_score u_t_rig_strokes u_t_rig_positions u_t_rig_timers u_t_rig_faults u_t_rig_sequence_pauses u_t_rig_sequence_outBefore u_t_rig_sequence_cuts u_t_rig_sequence_groupOfStep t t_rig t_rig_sequence t_rig_sequence_minus t_rig_sequence_plus) E K w hA (kX7_checkStep l D cI cJ a_t a_t_rig a_t_rig_sequence u_t_reader u_t_trial u_t_snapshot u_t_spare u_t_rig_circuit u_t_rig_log u_t_rig_score u_t_rig_strokes u_t_rig_positions u_t_rig_timers u_t_rig_faults a_t_rig_sequence_plus a_t_rig_sequence_minus u_t_rig_sequence_pauses u_t_rig_sequence_outBefore u_t_rig_sequence_cuts u_t_rig_sequence_groupOfStep t t_rig t_rig_sequence x1 hC) (bq_gV ml_X7_86 im_X7_checkStep sl_X7_checkStep in_X7 cd_X7_checkStep) hd_X7_checkStep ⟨Nat.le_of_ble_eq_true rfl, Nat.le_of_ble_eq_true rfl⟩ ⟨Nat.le_of_ble_eq_true rfl, Nat.le_of_ble_eq_true rfl⟩ ⟨[0, 1, 2], [3, 4], [2, 3, 4, 0, 1], rfl, rfl, rfl, rfl, rfl, rfl, rfl, rfl, rfl⟩ 0 rfl rfl rfl hl.1 rfl (Nat.le_of_ble_eq_true rfl) rfl dX7_direction_2 (fun H locs w => bq_z ⟨rfl, rfl⟩ ?_)
  clear hC
  refine lv_iload_n hx hb dX7_direction_5 rfl (lv_at hl 2 rfl) ?_
  obtain ⟨⟨⟩, hC, hm⟩ := bq_bd_el hm
  refine bq_S0 (As := [.int x2]) (rest := []) (st1 := []) E K w hA (kX7_checkCylinder l D cI cJ x2 hC) cd_X7_checkCylinder ml_X7_93 in_X7 st_X7_checkCylinder hs_X7_checkCylinder ⟨Nat.le_of_ble_eq_true rfl, Nat.le_of_ble_eq_true rfl⟩ ⟨Nat.le_of_ble_eq_true rfl, Nat.le_of_ble_eq_true rfl⟩ rfl hl.1 rfl (Nat.le_of_ble_eq_true rfl) rfl dX7_direction_6 (fun H locs w => bq_z ⟨rfl, rfl⟩ ?_)
  clear hC
  refine lv_aload_n hx hb dX7_direction_9 rfl (lv_at hl 0 rfl) ?_
  refine gt_X7_24 E K w 0 rfl rfl dX7_direction_10 ?_
  refine gt_X7_77 E K w 1 rfl rfl dX7_direction_13 ?_
  refine gt_X7_96 E K w 2 rfl rfl dX7_direction_16 ?_
  refine lv_iload_n hx hb dX7_direction_19 rfl (lv_at hl 1 rfl) ?_
  obtain ⟨hI, hm⟩ := bq_ci_el hm
  refine bq_ald E K w 4 rfl hI dX7_direction_20 ?_
  refine lv_iload_n hx hb dX7_direction_21 rfl (lv_at hl 2 rfl) ?_
  obtain ⟨v1, hC, hm⟩ := bq_bd_el hm
  refine bq_S0 (As := [.int (t_rig_sequence_plus (x1 : Int32).toNatClampNeg), .int x2]) (rest := []) (st1 := [.int v1]) E K w hA (kX7_holds l D cI cJ (t_rig_sequence_plus (x1 : Int32).toNatClampNeg) x2 v1 hC) cd_X7_holds ml_X7_100 in_X7 st_X7_holds hs_X7_holds ⟨Nat.le_of_ble_eq_true rfl, Nat.le_of_ble_eq_true rfl⟩ ⟨Nat.le_of_ble_eq_true rfl, Nat.le_of_ble_eq_true rfl⟩ rfl hl.1 rfl (Nat.le_of_ble_eq_true rfl) rfl dX7_direction_22 (fun H locs w => bq_z ⟨rfl, rfl⟩ ?_)
  clear hC
  refine lv_if_eq (tgt := 30) hx hb dX7_direction_25 (by decide) (fun hc => ?_) (fun hc => ?_)
  · replace hm := bq_t hc hm
    clear hc
    refine lv_aload_n hx hb dX7_direction_30 rfl (lv_at hl 0 rfl) ?_
    refine gt_X7_24 E K w 0 rfl rfl dX7_direction_31 ?_
    refine gt_X7_77 E K w 1 rfl rfl dX7_direction_34 ?_
    refine gt_X7_104 E K w 2 rfl rfl dX7_direction_37 ?_
    refine lv_iload_n hx hb dX7_direction_40 rfl (lv_at hl 1 rfl) ?_
    obtain ⟨hI, hm⟩ := bq_ci_el hm
    refine bq_ald E K w 3 rfl hI dX7_direction_41 ?_
    refine lv_iload_n hx hb dX7_direction_42 rfl (lv_at hl 2 rfl) ?_
    obtain ⟨v2, hC, hm⟩ := bq_bd_el hm
    refine bq_S0 (As := [.int (t_rig_sequence_minus (x1 : Int32).toNatClampNeg), .int x2]) (rest := []) (st1 := [.int v2]) E K w hA (kX7_holds l D cI cJ (t_rig_sequence_minus (x1 : Int32).toNatClampNeg) x2 v2 hC) cd_X7_holds ml_X7_100 in_X7 st_X7_holds hs_X7_holds ⟨Nat.le_of_ble_eq_true rfl, Nat.le_of_ble_eq_true rfl⟩ ⟨Nat.le_of_ble_eq_true rfl, Nat.le_of_ble_eq_true rfl⟩ rfl hl.1 rfl (Nat.le_of_ble_eq_true rfl) rfl dX7_direction_43 (fun H locs w => bq_z ⟨rfl, rfl⟩ ?_)
    clear hC
    obtain ⟨v3, hT54, hm⟩ := bq_let_el hm
    have K54 : ∀ (H : Heap) (locs : List Loc) (ls : Array Slot), bq_w D A s.heap (wdX7_direction cI a_t a_t_rig a_t_rig_sequence a_t_rig_sequence_minus a_t_rig_sequence_plus u_t_reader u_t_trial u_t_snapshot u_t_spare u_t_rig_circuit u_t_rig_log u_t_rig_score u_t_rig_strokes u_t_rig_positions u_t_rig_timers u_t_rig_faults u_t_rig_sequence_pauses u_t_rig_sequence_outBefore u_t_rig_sequence_cuts u_t_rig_sequence_groupOfStep t t_rig t_rig_sequence t_rig_sequence_minus t_rig_sequence_plus) H locs → lv_has ls 3 [] → W p l e rmX7_direction s m av9 below meth c H locs 0 0 Q (F0 m 54 ls [.int v3]) := by
      intro H locs ls w hl
      obtain rfl := Option.some.inj hm
      exact bq_iret E w hr hk dX7_direction_54 hQ
    clear hm
    refine lv_if_eq (tgt := 53) hx hb dX7_direction_46 (by decide) (fun hc => ?_) (fun hc => ?_)
    · replace hT54 := bq_et hc hT54
      clear hc
      refine lv_iconst (v := 0) hx hb dX7_direction_53 (by decide) ?_
      subst hT54
      exact K54 H locs ls w (lv_sub hl [] rfl)
    · replace hT54 := bq_ef hc hT54
      clear hc
      refine lv_iconst (v := (-1)) hx hb dX7_direction_49 (by decide) ?_
      refine lv_goto (tgt := 54) hx hb dX7_direction_50 (by decide) ?_
      subst hT54
      exact K54 H locs ls w (lv_sub hl [] rfl)
  · replace hm := bq_f hc hm
    clear hc
    refine lv_iconst (v := 1) hx hb dX7_direction_28 (by decide) ?_
    obtain rfl := Option.some.inj hm
    exact bq_iret E w hr hk dX7_direction_29 hQ
abbrev rmTX7_direction : Room := { frames := 7, cells := 1, slots := 6, locals := 121 }
set_option maxHeartbeats 4000000 in
set_option maxRecDepth 100000 in
theorem tkX7_direction {l : Launch} (hlf : l.stackTraces = false) (D : va_G) (cI cJ : ClassId) (a_t a_t_rig a_t_rig_sequence a_t_rig_sequence_minus a_t_rig_sequence_plus u_t_reader u_t_trial u_t_snapshot u_t_spare u_t_rig_circuit u_t_rig_log u_t_rig_score u_t_rig_strokes u_t_rig_positions u_t_rig_timers u_t_rig_faults u_t_rig_sequence_pauses u_t_rig_sequence_outBefore u_t_rig_sequence_cuts u_t_rig_sequence_groupOfStep : Nat) (t t_rig t_rig_sequence t_rig_sequence_minus t_rig_sequence_plus : Nat → Int32) (x1 : Int32) (x2 : Int32) (r : Nat) (hm : tX7_direction t_rig_sequence t_rig_sequence_minus t_rig_sequence_plus x1 x2 = some r) : bq_MT l D cI cJ yX7_direction cX7_direction 3 (some .int) rmTX7_direction [.ref a_t, .int x1, .int x2] (wdX7_direction cI a_t a_t_rig a_t_rig_sequence a_t_rig_sequence_minus a_t_rig_sequence_plus u_t_reader u_t_trial u_t_snapshot u_t_spare u_t_rig_circuit u_t_rig_log u_t_rig_score u_t_rig_strokes u_t_rig_positions u_t_rig_timers u_t_rig_faults u_t_rig_sequence_pauses u_t_rig_sequence_outBefore u_t_rig_sequence_cuts u_t_rig_sequence_groupOfStep t t_rig t_rig_sequence t_rig_sequence_minus t_rig_sequence_plus) (bq_cls r) := by
  refine bq_startT (by decide) (Nat.le_of_ble_eq_true rfl) ?_
  intro p e s m av9 below meth c A ls Q H locs E K w hA hnt hk hX hQ hl
  have E : bq_E p m c cX7_direction 3 s av9 RX7 := E
  have hx := E.1
  have hb := E.2.1
  have hl : lv_has ls 3 [(0, .ref a_t), (1, .int x1), (2, .int x2)] := hl
  unfold tX7_direction at hm
  refine lv_aload_n hx hb dX7_direction_0 rfl (lv_at hl 0 rfl) ?_
  refine lv_iload_n hx hb dX7_direction_1 rfl (lv_at hl 1 rfl) ?_
  refine (bq_tc_el hm).elim (fun hC => ?_) (fun hm => ?_)
  · exact bq_TV (As := [.int x1]) (rest := []) E K w hA hX hnt hk ⟨rfl, rfl⟩ (tkX7_checkStep hlf D cI cJ a_t a_t_rig a_t_rig_sequence u_t_reader u_t_trial u_t_snapshot u_t_spare u_t_rig_circuit u_t_rig_log u_t_rig_score u_t_rig_strokes u_t_rig_positions u_t_rig_timers u_t_rig_faults a_t_rig_sequence_plus a_t_rig_sequence_minus u_t_rig_sequence_pauses u_t_rig_sequence_outBefore u_t_rig_sequence_cuts u_t_rig_sequence_groupOfStep t t_rig t_rig_sequence x1 _ hC) (bq_gV ml_X7_86 im_X7_checkStep sl_X7_checkStep in_X7 cd_X7_checkStep) hd_X7_checkStep ⟨Nat.le_of_ble_eq_true rfl, Nat.le_of_ble_eq_true rfl⟩ ⟨Nat.le_of_ble_eq_true rfl, Nat.le_of_ble_eq_true rfl⟩ ⟨[0, 1, 2], [3, 4], [2, 3, 4, 0, 1], rfl, rfl, rfl, rfl, rfl, rfl, rfl, rfl, rfl⟩ 0 rfl rfl rfl hl.1 rfl (Nat.le_of_ble_eq_true rfl) dX7_direction_2 hQ
  obtain ⟨⟨⟩, hC, hm⟩ := bq_bd_el hm
  refine bq_V (As := [.int x1]) (rest := []) (st1 := []) (ws' := wdX7_direction cI a_t a_t_rig a_t_rig_sequence a_t_rig_sequence_minus a_t_rig_sequence_plus u_t_reader u_t_trial u_t_snapshot u_t_spare u_t_rig_circuit u_t_rig_log u_t_rig_score u_t_rig_strokes u_t_rig_positions u_t_rig_timers u_t_rig_faults u_t_rig_sequence_pauses u_t_rig_sequence_outBefore u_t_rig_sequence_cuts u_t_rig_sequence_groupOfStep t t_rig t_rig_sequence t_rig_sequence_minus t_rig_sequence_plus) E K w hA (kX7_checkStep l D cI cJ a_t a_t_rig a_t_rig_sequence u_t_reader u_t_trial u_t_snapshot u_t_spare u_t_rig_circuit u_t_rig_log u_t_rig_score u_t_rig_strokes u_t_rig_positions u_t_rig_timers u_t_rig_faults a_t_rig_sequence_plus a_t_rig_sequence_minus u_t_rig_sequence_pauses u_t_rig_sequence_outBefore u_t_rig_sequence_cuts u_t_rig_sequence_groupOfStep t t_rig t_rig_sequence x1 hC) (bq_gV ml_X7_86 im_X7_checkStep sl_X7_checkStep in_X7 cd_X7_checkStep) hd_X7_checkStep ⟨Nat.le_of_ble_eq_true rfl, Nat.le_of_ble_eq_true rfl⟩ ⟨Nat.le_of_ble_eq_true rfl, Nat.le_of_ble_eq_true rfl⟩ ⟨[0, 1, 2], [3, 4], [2, 3, 4, 0, 1], rfl, rfl, rfl, rfl, rfl, rfl, rfl, rfl, rfl⟩ 0 rfl rfl rfl hl.1 rfl (Nat.le_of_ble_eq_true rfl) rfl dX7_direction_2 (fun H locs w => bq_z ⟨rfl, rfl⟩ ?_)
  clear hC
  refine lv_iload_n hx hb dX7_direction_5 rfl (lv_at hl 2 rfl) ?_
  refine (bq_tc_el hm).elim (fun hC => ?_) (fun hm => ?_)
  · exact bq_TS (As := [.int x2]) (rest := []) E K w hA hX hnt hk ⟨rfl, rfl⟩ (tkX7_checkCylinder hlf D cI cJ x2 _ hC) cd_X7_checkCylinder ml_X7_93 in_X7 st_X7_checkCylinder hs_X7_checkCylinder ⟨Nat.le_of_ble_eq_true rfl, Nat.le_of_ble_eq_true rfl⟩ ⟨Nat.le_of_ble_eq_true rfl, Nat.le_of_ble_eq_true rfl⟩ ⟨[], [0, 1, 2, 3, 4], [0, 1, 2, 3, 4], rfl, rfl, rfl, rfl, rfl, rfl, rfl, rfl, rfl⟩ rfl hl.1 rfl (Nat.le_of_ble_eq_true rfl) dX7_direction_6 hQ
  obtain ⟨⟨⟩, hC, hm⟩ := bq_bd_el hm
  refine bq_S0 (As := [.int x2]) (rest := []) (st1 := []) E K w hA (kX7_checkCylinder l D cI cJ x2 hC) cd_X7_checkCylinder ml_X7_93 in_X7 st_X7_checkCylinder hs_X7_checkCylinder ⟨Nat.le_of_ble_eq_true rfl, Nat.le_of_ble_eq_true rfl⟩ ⟨Nat.le_of_ble_eq_true rfl, Nat.le_of_ble_eq_true rfl⟩ rfl hl.1 rfl (Nat.le_of_ble_eq_true rfl) rfl dX7_direction_6 (fun H locs w => bq_z ⟨rfl, rfl⟩ ?_)
  clear hC
  cases hm
abbrev wdX7_pause (cI : ClassId) (a_t a_t_rig a_t_rig_sequence a_t_rig_sequence_pauses u_t_reader u_t_trial u_t_snapshot u_t_spare u_t_rig_circuit u_t_rig_log u_t_rig_score u_t_rig_strokes u_t_rig_positions u_t_rig_timers u_t_rig_faults u_t_rig_sequence_plus u_t_rig_sequence_minus u_t_rig_sequence_outBefore u_t_rig_sequence_cuts u_t_rig_sequence_groupOfStep : Nat) (t : Nat → Int32) (t_rig : Nat → Int32) (t_rig_sequence : Nat → Int32) (t_rig_sequence_pauses : Nat → Int32) : va_W := [(a_t, oX7 u_t_reader a_t_rig u_t_trial u_t_snapshot u_t_spare t), (a_t_rig, oX3 a_t_rig_sequence u_t_rig_circuit u_t_rig_log u_t_rig_score u_t_rig_strokes u_t_rig_positions u_t_rig_timers u_t_rig_faults t_rig), (a_t_rig_sequence, oX5 u_t_rig_sequence_plus u_t_rig_sequence_minus a_t_rig_sequence_pauses u_t_rig_sequence_outBefore u_t_rig_sequence_cuts u_t_rig_sequence_groupOfStep t_rig_sequence), (a_t_rig_sequence_pauses, oA cI 16 t_rig_sequence_pauses)]
abbrev rmX7_pause : Room := { frames := 1, cells := 0, slots := 0, locals := 21 }
theorem hd_X7_pause : yX7_pause.cls = RX7 ∧ yX7_pause.cls ≠ "java/lang/invoke/MethodHandle" ∧ yX7_pause.cls ≠ "java/lang/invoke/VarHandle" ∧ (parseMethodDescriptor yX7_pause.desc).map (fun d => d.parameters.length) = some 1 := by decide +kernel
set_option maxHeartbeats 4000000 in
set_option maxRecDepth 100000 in
theorem kX7_pause (l : Launch) (D : va_G) (cI cJ : ClassId) (a_t a_t_rig a_t_rig_sequence a_t_rig_sequence_pauses u_t_reader u_t_trial u_t_snapshot u_t_spare u_t_rig_circuit u_t_rig_log u_t_rig_score u_t_rig_strokes u_t_rig_positions u_t_rig_timers u_t_rig_faults u_t_rig_sequence_plus u_t_rig_sequence_minus u_t_rig_sequence_outBefore u_t_rig_sequence_cuts u_t_rig_sequence_groupOfStep : Nat) (t t_rig t_rig_sequence t_rig_sequence_pauses : Nat → Int32) (x1 : Int32) (r : Int32) (hm : mX7_pause t_rig_sequence t_rig_sequence_pauses x1 = some r) : bq_M l D cI cJ yX7_pause cX7_pause 2 (some .int) rmX7_pause [.ref a_t, .int x1] (wdX7_pause cI a_t a_t_rig a_t_rig_sequence a_t_rig_sequence_pauses u_t_reader u_t_trial u_t_snapshot u_t_spare u_t_rig_circuit u_t_rig_log u_t_rig_score u_t_rig_strokes u_t_rig_positions u_t_rig_timers u_t_rig_faults u_t_rig_sequence_plus u_t_rig_sequence_minus u_t_rig_sequence_outBefore u_t_rig_sequence_cuts u_t_rig_sequence_groupOfStep t t_rig t_rig_sequence t_rig_sequence_pauses) (wdX7_pause cI a_t a_t_rig a_t_rig_sequence a_t_rig_sequence_pauses u_t_reader u_t_trial u_t_snapshot u_t_spare u_t_rig_circuit u_t_rig_log u_t_rig_score u_t_rig_strokes u_t_rig_positions u_t_rig_timers u_t_rig_faults u_t_rig_sequence_plus u_t_rig_sequence_minus u_t_rig_sequence_outBefore u_t_rig_sequence_cuts u_t_rig_sequence_groupOfStep t t_rig t_rig_sequence t_rig_sequence_pauses) (some (.int r)) := by
  refine bq_start (by decide) (Nat.le_of_ble_eq_true rfl) ?_
  intro p e s m av9 below meth c A ls Q H locs E K w hA hr hk hn hQ hl
  have E : bq_E p m c cX7_pause 2 s av9 RX7 := E
  have hx := E.1
  have hb := E.2.1
  have hl : lv_has ls 2 [(0, .ref a_t), (1, .int x1)] := hl
  unfold mX7_pause at hm
  refine lv_aload_n hx hb dX7_pause_0 rfl (lv_at hl 0 rfl) ?_
  refine lv_iload_n hx hb dX7_pause_1 rfl (lv_at hl 1 rfl) ?_
  obtain ⟨⟨⟩, hC, hm⟩ := bq_bd_el hm
  refine bq_V (As := [.int x1]) (rest := []) (st1 := []) (ws' := wdX7_pause cI a_t a_t_rig a_t_rig_sequence a_t_rig_sequence_pauses u_t_reader u_t_trial u_t_snapshot u_t_spare u_t_rig_circuit u_t_rig_log u_t_rig_score u_t_rig_strokes u_t_rig_positions u_t_rig_timers u_t_rig_faults u_t_rig_sequence_plus u_t_rig_sequence_minus u_t_rig_sequence_outBefore u_t_rig_sequence_cuts u_t_rig_sequence_groupOfStep t t_rig t_rig_sequence t_rig_sequence_pauses) E K w hA (kX7_checkStep l D cI cJ a_t a_t_rig a_t_rig_sequence u_t_reader u_t_trial u_t_snapshot u_t_spare u_t_rig_circuit u_t_rig_log u_t_rig_score u_t_rig_strokes u_t_rig_positions u_t_rig_timers u_t_rig_faults u_t_rig_sequence_plus u_t_rig_sequence_minus a_t_rig_sequence_pauses u_t_rig_sequence_outBefore u_t_rig_sequence_cuts u_t_rig_sequence_groupOfStep t t_rig t_rig_sequence x1 hC) (bq_gV ml_X7_86 im_X7_checkStep sl_X7_checkStep in_X7 cd_X7_checkStep) hd_X7_checkStep ⟨Nat.le_of_ble_eq_true rfl, Nat.le_of_ble_eq_true rfl⟩ ⟨Nat.le_of_ble_eq_true rfl, Nat.le_of_ble_eq_true rfl⟩ ⟨[0, 1, 2], [3], [1, 2, 3, 0], rfl, rfl, rfl, rfl, rfl, rfl, rfl, rfl, rfl⟩ 0 rfl rfl rfl hl.1 rfl (Nat.le_of_ble_eq_true rfl) rfl dX7_pause_2 (fun H locs w => bq_z ⟨rfl, rfl⟩ ?_)
  clear hC
  refine lv_aload_n hx hb dX7_pause_5 rfl (lv_at hl 0 rfl) ?_
  refine gt_X7_24 E K w 0 rfl rfl dX7_pause_6 ?_
  refine gt_X7_77 E K w 1 rfl rfl dX7_pause_9 ?_
  refine gt_X7_107 E K w 2 rfl rfl dX7_pause_12 ?_
  refine lv_iload_n hx hb dX7_pause_15 rfl (lv_at hl 1 rfl) ?_
  obtain ⟨hI, hm⟩ := bq_ci_el hm
  refine bq_ald E K w 3 rfl hI dX7_pause_16 ?_
  obtain rfl := Option.some.inj hm
  exact bq_iret E w hr hk dX7_pause_17 hQ
abbrev rmTX7_pause : Room := { frames := 7, cells := 1, slots := 6, locals := 121 }
set_option maxHeartbeats 4000000 in
set_option maxRecDepth 100000 in
theorem tkX7_pause {l : Launch} (hlf : l.stackTraces = false) (D : va_G) (cI cJ : ClassId) (a_t a_t_rig a_t_rig_sequence a_t_rig_sequence_pauses u_t_reader u_t_trial u_t_snapshot u_t_spare u_t_rig_circuit u_t_rig_log u_t_rig_score u_t_rig_strokes u_t_rig_positions u_t_rig_timers u_t_rig_faults u_t_rig_sequence_plus u_t_rig_sequence_minus u_t_rig_sequence_outBefore u_t_rig_sequence_cuts u_t_rig_sequence_groupOfStep : Nat) (t t_rig t_rig_sequence t_rig_sequence_pauses : Nat → Int32) (x1 : Int32) (r : Nat) (hm : tX7_pause t_rig_sequence t_rig_sequence_pauses x1 = some r) : bq_MT l D cI cJ yX7_pause cX7_pause 2 (some .int) rmTX7_pause [.ref a_t, .int x1] (wdX7_pause cI a_t a_t_rig a_t_rig_sequence a_t_rig_sequence_pauses u_t_reader u_t_trial u_t_snapshot u_t_spare u_t_rig_circuit u_t_rig_log u_t_rig_score u_t_rig_strokes u_t_rig_positions u_t_rig_timers u_t_rig_faults u_t_rig_sequence_plus u_t_rig_sequence_minus u_t_rig_sequence_outBefore u_t_rig_sequence_cuts u_t_rig_sequence_groupOfStep t t_rig t_rig_sequence t_rig_sequence_pauses) (bq_cls r) := by
  refine bq_startT (by decide) (Nat.le_of_ble_eq_true rfl) ?_
  intro p e s m av9 below meth c A ls Q H locs E K w hA hnt hk hX hQ hl
  have E : bq_E p m c cX7_pause 2 s av9 RX7 := E
  have hx := E.1
  have hb := E.2.1
  have hl : lv_has ls 2 [(0, .ref a_t), (1, .int x1)] := hl
  unfold tX7_pause at hm
  refine lv_aload_n hx hb dX7_pause_0 rfl (lv_at hl 0 rfl) ?_
  refine lv_iload_n hx hb dX7_pause_1 rfl (lv_at hl 1 rfl) ?_
  refine (bq_tc_el hm).elim (fun hC => ?_) (fun hm => ?_)
  · exact bq_TV (As := [.int x1]) (rest := []) E K w hA hX hnt hk ⟨rfl, rfl⟩ (tkX7_checkStep hlf D cI cJ a_t a_t_rig a_t_rig_sequence u_t_reader u_t_trial u_t_snapshot u_t_spare u_t_rig_circuit u_t_rig_log u_t_rig_score u_t_rig_strokes u_t_rig_positions u_t_rig_timers u_t_rig_faults u_t_rig_sequence_plus u_t_rig_sequence_minus a_t_rig_sequence_pauses u_t_rig_sequence_outBefore u_t_rig_sequence_cuts u_t_rig_sequence_groupOfStep t t_rig t_rig_sequence x1 _ hC) (bq_gV ml_X7_86 im_X7_checkStep sl_X7_checkStep in_X7 cd_X7_checkStep) hd_X7_checkStep ⟨Nat.le_of_ble_eq_true rfl, Nat.le_of_ble_eq_true rfl⟩ ⟨Nat.le_of_ble_eq_true rfl, Nat.le_of_ble_eq_true rfl⟩ ⟨[0, 1, 2], [3], [1, 2, 3, 0], rfl, rfl, rfl, rfl, rfl, rfl, rfl, rfl, rfl⟩ 0 rfl rfl rfl hl.1 rfl (Nat.le_of_ble_eq_true rfl) dX7_pause_2 hQ
  obtain ⟨⟨⟩, hC, hm⟩ := bq_bd_el hm
  refine bq_V (As := [.int x1]) (rest := []) (st1 := []) (ws' := wdX7_pause cI a_t a_t_rig a_t_rig_sequence a_t_rig_sequence_pauses u_t_reader u_t_trial u_t_snapshot u_t_spare u_t_rig_circuit u_t_rig_log u_t_rig_score u_t_rig_strokes u_t_rig_positions u_t_rig_timers u_t_rig_faults u_t_rig_sequence_plus u_t_rig_sequence_minus u_t_rig_sequence_outBefore u_t_rig_sequence_cuts u_t_rig_sequence_groupOfStep t t_rig t_rig_sequence t_rig_sequence_pauses) E K w hA (kX7_checkStep l D cI cJ a_t a_t_rig a_t_rig_sequence u_t_reader u_t_trial u_t_snapshot u_t_spare u_t_rig_circuit u_t_rig_log u_t_rig_score u_t_rig_strokes u_t_rig_positions u_t_rig_timers u_t_rig_faults u_t_rig_sequence_plus u_t_rig_sequence_minus a_t_rig_sequence_pauses u_t_rig_sequence_outBefore u_t_rig_sequence_cuts u_t_rig_sequence_groupOfStep t t_rig t_rig_sequence x1 hC) (bq_gV ml_X7_86 im_X7_checkStep sl_X7_checkStep in_X7 cd_X7_checkStep) hd_X7_checkStep ⟨Nat.le_of_ble_eq_true rfl, Nat.le_of_ble_eq_true rfl⟩ ⟨Nat.le_of_ble_eq_true rfl, Nat.le_of_ble_eq_true rfl⟩ ⟨[0, 1, 2], [3], [1, 2, 3, 0], rfl, rfl, rfl, rfl, rfl, rfl, rfl, rfl, rfl⟩ 0 rfl rfl rfl hl.1 rfl (Nat.le_of_ble_eq_true rfl) rfl dX7_pause_2 (fun H locs w => bq_z ⟨rfl, rfl⟩ ?_)
  clear hC
  cases hm
abbrev wdX7_clashes (cI : ClassId) (a_t a_t_rig a_t_rig_sequence a_t_rig_sequence_minus a_t_rig_sequence_outBefore a_t_rig_sequence_pauses a_t_rig_sequence_plus u_t_reader u_t_trial u_t_snapshot u_t_spare u_t_rig_circuit u_t_rig_log u_t_rig_score u_t_rig_strokes u_t_rig_positions u_t_rig_timers u_t_rig_faults u_t_rig_sequence_cuts u_t_rig_sequence_groupOfStep : Nat) (t : Nat → Int32) (t_rig : Nat → Int32) (t_rig_sequence : Nat → Int32) (t_rig_sequence_minus : Nat → Int32) (t_rig_sequence_outBefore : Nat → Int32) (t_rig_sequence_pauses : Nat → Int32) (t_rig_sequence_plus : Nat → Int32) : va_W := [(a_t, oX7 u_t_reader a_t_rig u_t_trial u_t_snapshot u_t_spare t), (a_t_rig, oX3 a_t_rig_sequence u_t_rig_circuit u_t_rig_log u_t_rig_score u_t_rig_strokes u_t_rig_positions u_t_rig_timers u_t_rig_faults t_rig), (a_t_rig_sequence, oX5 a_t_rig_sequence_plus a_t_rig_sequence_minus a_t_rig_sequence_pauses a_t_rig_sequence_outBefore u_t_rig_sequence_cuts u_t_rig_sequence_groupOfStep t_rig_sequence), (a_t_rig_sequence_minus, oA cI 16 t_rig_sequence_minus), (a_t_rig_sequence_outBefore, oA cI 16 t_rig_sequence_outBefore), (a_t_rig_sequence_pauses, oA cI 16 t_rig_sequence_pauses), (a_t_rig_sequence_plus, oA cI 16 t_rig_sequence_plus)]
abbrev rmX7_clashes : Room := { frames := 2, cells := 0, slots := 0, locals := 47 }
theorem hd_X7_clashes : yX7_clashes.cls = RX7 ∧ yX7_clashes.cls ≠ "java/lang/invoke/MethodHandle" ∧ yX7_clashes.cls ≠ "java/lang/invoke/VarHandle" ∧ (parseMethodDescriptor yX7_clashes.desc).map (fun d => d.parameters.length) = some 0 := by decide +kernel
set_option maxHeartbeats 4000000 in
set_option maxRecDepth 100000 in
theorem kX7_clashes (l : Launch) (D : va_G) (cI cJ : ClassId) (a_t a_t_rig a_t_rig_sequence a_t_rig_sequence_minus a_t_rig_sequence_outBefore a_t_rig_sequence_pauses a_t_rig_sequence_plus u_t_reader u_t_trial u_t_snapshot u_t_spare u_t_rig_circuit u_t_rig_log u_t_rig_score u_t_rig_strokes u_t_rig_positions u_t_rig_timers u_t_rig_faults u_t_rig_sequence_cuts u_t_rig_sequence_groupOfStep : Nat) (t t_rig t_rig_sequence t_rig_sequence_minus t_rig_sequence_outBefore t_rig_sequence_pauses t_rig_sequence_plus : Nat → Int32) (r : Int32) (hm : mX7_clashes t_rig_sequence t_rig_sequence_minus t_rig_sequence_outBefore t_rig_sequence_pauses t_rig_sequence_plus = some r) : bq_M l D cI cJ yX7_clashes cX7_clashes 4 (some .int) rmX7_clashes [.ref a_t] (wdX7_clashes cI a_t a_t_rig a_t_rig_sequence a_t_rig_sequence_minus a_t_rig_sequence_outBefore a_t_rig_sequence_pauses a_t_rig_sequence_plus u_t_reader u_t_trial u_t_snapshot u_t_spare u_t_rig_circuit u_t_rig_log u_t_rig_score u_t_rig_strokes u_t_rig_positions u_t_rig_timers u_t_rig_faults u_t_rig_sequence_cuts u_t_rig_sequence_groupOfStep t t_rig t_rig_sequence t_rig_sequence_minus t_rig_sequence_outBefore t_rig_sequence_pauses t_rig_sequence_plus) (wdX7_clashes cI a_t a_t_rig a_t_rig_sequence a_t_rig_sequence_minus a_t_rig_sequence_outBefore a_t_rig_sequence_pauses a_t_rig_sequence_plus u_t_reader u_t_trial u_t_snapshot u_t_spare u_t_rig_circuit u_t_rig_log u_t_rig_score u_t_rig_strokes u_t_rig_positions u_t_rig_timers u_t_rig_faults u_t_rig_sequence_cuts u_t_rig_sequence_groupOfStep t t_rig t_rig_sequence t_rig_sequence_minus t_rig_sequence_outBefore t_rig_sequence_pauses t_rig_sequence_plus) (some (.int r)) := by
  refine bq_start (by decide) (Nat.le_of_ble_eq_true rfl) ?_
  intro p e s m av9 below meth c A ls Q H locs E K w hA hr hk hn hQ hl
  have E : bq_E p m c cX7_clashes 4 s av9 RX7 := E
  have hx := E.1
  have hb := E.2.1
  have hl : lv_has ls 4 [(0, .ref a_t)] := hl
  unfold mX7_clashes at hm
  refine lv_aload_n hx hb dX7_clashes_0 rfl (lv_at hl 0 rfl) ?_
  obtain ⟨⟨⟩, hC, hm⟩ := bq_bd_el hm
  refine bq_V (As := []) (rest := []) (st1 := []) (ws' := wdX7_clashes cI a_t a_t_rig a_t_rig_sequence a_t_rig_sequence_minus a_t_rig_sequence_outBefore a_t_rig_sequence_pauses a_t_rig_sequence_plus u_t_reader u_t_trial u_t_snapshot u_t_spare u_t_rig_circuit u_t_rig_log u_t_rig_score u_t_rig_strokes u_t_rig_positions u_t_rig_timers u_t_rig_faults u_t_rig_sequence_cuts u_t_rig_sequence_groupOfStep t t_rig t_rig_sequence t_rig_sequence_minus t_rig_sequence_outBefore t_rig_sequence_pauses t_rig_sequence_plus) E K w hA (kX7_checkSequence l D cI cJ a_t a_t_rig a_t_rig_sequence u_t_reader u_t_trial u_t_snapshot u_t_spare u_t_rig_circuit u_t_rig_log u_t_rig_score u_t_rig_strokes u_t_rig_positions u_t_rig_timers u_t_rig_faults a_t_rig_sequence_plus a_t_rig_sequence_minus a_t_rig_sequence_pauses a_t_rig_sequence_outBefore u_t_rig_sequence_cuts u_t_rig_sequence_groupOfStep t t_rig t_rig_sequence hC) (bq_gV ml_X7_110 im_X7_checkSequence sl_X7_checkSequence in_X7 cd_X7_checkSequence) hd_X7_checkSequence ⟨Nat.le_of_ble_eq_true rfl, Nat.le_of_ble_eq_true rfl⟩ ⟨Nat.le_of_ble_eq_true rfl, Nat.le_of_ble_eq_true rfl⟩ ⟨[0, 1, 2], [3, 4, 5, 6], [4, 5, 6, 0, 1, 2, 3], rfl, rfl, rfl, rfl, rfl, rfl, rfl, rfl, rfl⟩ 0 rfl rfl rfl hl.1 rfl (Nat.le_of_ble_eq_true rfl) rfl dX7_clashes_1 (fun H locs w => bq_z ⟨rfl, rfl⟩ ?_)
  clear hC
  refine lv_iconst (v := 0) hx hb dX7_clashes_4 (by decide) ?_
  refine lv_istore_n (lv' := [(1, .int 0), (0, .ref a_t)]) hx hb dX7_clashes_5 rfl hl (by decide) rfl (fun ls hl => ?_)
  refine lv_iconst (v := 0) hx hb dX7_clashes_6 (by decide) ?_
  refine lv_istore_n (lv' := [(2, .int 0), (1, .int 0), (0, .ref a_t)]) hx hb dX7_clashes_7 rfl hl (by decide) rfl (fun ls hl => ?_)
  obtain ⟨v3, hL, hm⟩ := bq_bd_el hm
  obtain ⟨B, eB, nn, hL⟩ := bq_loop_B hL
  have X60 : ∀ (H : Heap) (locs : List Loc) (ls : Array Slot), bq_w D A s.heap (wdX7_clashes cI a_t a_t_rig a_t_rig_sequence a_t_rig_sequence_minus a_t_rig_sequence_outBefore a_t_rig_sequence_pauses a_t_rig_sequence_plus u_t_reader u_t_trial u_t_snapshot u_t_spare u_t_rig_circuit u_t_rig_log u_t_rig_score u_t_rig_strokes u_t_rig_positions u_t_rig_timers u_t_rig_faults u_t_rig_sequence_cuts u_t_rig_sequence_groupOfStep t t_rig t_rig_sequence t_rig_sequence_minus t_rig_sequence_outBefore t_rig_sequence_pauses t_rig_sequence_plus) H locs → lv_has ls 4 [(1, .int v3)] → W p l e rmX7_clashes s m av9 below meth c H locs 0 0 Q (F0 m 60 ls []) := by
    intro H locs ls w hl
    refine lv_iload_n hx hb dX7_clashes_60 rfl (lv_at hl 0 rfl) ?_
    obtain rfl := Option.some.inj hm
    exact bq_iret E w hr hk dX7_clashes_61 hQ
  clear hm
  have L8 : ∀ (nn : Nat) (i1 : Int32) (i2 : Int32) (H : Heap) (locs : List Loc) (ls : Array Slot), bq_lp B nn (i1, i2) = some v3 → bq_w D A s.heap (wdX7_clashes cI a_t a_t_rig a_t_rig_sequence a_t_rig_sequence_minus a_t_rig_sequence_outBefore a_t_rig_sequence_pauses a_t_rig_sequence_plus u_t_reader u_t_trial u_t_snapshot u_t_spare u_t_rig_circuit u_t_rig_log u_t_rig_score u_t_rig_strokes u_t_rig_positions u_t_rig_timers u_t_rig_faults u_t_rig_sequence_cuts u_t_rig_sequence_groupOfStep t t_rig t_rig_sequence t_rig_sequence_minus t_rig_sequence_outBefore t_rig_sequence_pauses t_rig_sequence_plus) H locs → lv_has ls 4 [(0, .ref a_t), (1, .int i2), (2, .int i1)] → W p l e rmX7_clashes s m av9 below meth c H locs 0 0 Q (F0 m 8 ls []) := by
    intro nn
    induction nn with
    | zero =>
      intro i1 i2 H locs ls hL w hl
      exact bq_lp_0 hL
    | succ nn ih =>
      intro i1 i2 H locs ls hL w hl
      obtain ⟨oo8, hT8, hR8⟩ := bq_lp_el hL
      clear hL
      replace hT8 := bq_u2_el eB hT8
      unfold bX7_clashes_8 at hT8
      refine lv_iload_n hx hb dX7_clashes_8 rfl (lv_at hl 2 rfl) ?_
      refine lv_aload_n hx hb dX7_clashes_9 rfl (lv_at hl 0 rfl) ?_
      refine gt_X7_24 E K w 0 rfl rfl dX7_clashes_10 ?_
      refine gt_X7_77 E K w 1 rfl rfl dX7_clashes_13 ?_
      refine gt_X7_83 E K w 2 rfl rfl dX7_clashes_16 ?_
      refine lv_icmp_ge (tgt := 60) hx hb dX7_clashes_19 (by decide) (fun hc => ?_) (fun hc => ?_)
      · replace hT8 := bq_t hc hT8
        clear hc
        obtain rfl := Option.some.inj hT8
        replace hR8 := bq_lk_r hR8
        subst hR8
        exact X60 H locs ls w (lv_sub hl [1] rfl)
      · replace hT8 := bq_f hc hT8
        clear hc
        refine lv_iconst (v := 0) hx hb dX7_clashes_22 (by decide) ?_
        refine lv_istore_n (lv' := [(3, .int 0), (0, .ref a_t), (1, .int i2), (2, .int i1)]) hx hb dX7_clashes_23 rfl hl (by decide) rfl (fun ls hl => ?_)
        obtain ⟨v6, hL, hT8⟩ := bq_bd_el hT8
        obtain ⟨B, eB, nn, hL⟩ := bq_loop_B hL
        have X54 : ∀ (H : Heap) (locs : List Loc) (ls : Array Slot), bq_w D A s.heap (wdX7_clashes cI a_t a_t_rig a_t_rig_sequence a_t_rig_sequence_minus a_t_rig_sequence_outBefore a_t_rig_sequence_pauses a_t_rig_sequence_plus u_t_reader u_t_trial u_t_snapshot u_t_spare u_t_rig_circuit u_t_rig_log u_t_rig_score u_t_rig_strokes u_t_rig_positions u_t_rig_timers u_t_rig_faults u_t_rig_sequence_cuts u_t_rig_sequence_groupOfStep t t_rig t_rig_sequence t_rig_sequence_minus t_rig_sequence_outBefore t_rig_sequence_pauses t_rig_sequence_plus) H locs → lv_has ls 4 [(0, .ref a_t), (1, .int v6), (2, .int i1)] → W p l e rmX7_clashes s m av9 below meth c H locs 0 0 Q (F0 m 54 ls []) := by
          intro H locs ls w hl
          obtain ⟨v7, e9, hT8⟩ := bq_let_el hT8
          refine lv_iinc (v := v7) (lv' := [(2, .int v7), (0, .ref a_t), (1, .int v6)]) hx hb dX7_clashes_54 hl (k := 2) rfl (by rw [e9]; rfl) (by decide) rfl (fun ls hl => ?_)
          clear e9
          refine lv_goto (tgt := 8) hx hb dX7_clashes_57 (by decide) ?_
          obtain rfl := Option.some.inj hT8
          exact ih v7 v6 H locs ls hR8 w (lv_sub hl [1, 2, 0] rfl)
        clear hT8
        have L24 : ∀ (nn : Nat) (i4 : Int32) (i5 : Int32) (H : Heap) (locs : List Loc) (ls : Array Slot), bq_lp B nn (i4, i5) = some v6 → bq_w D A s.heap (wdX7_clashes cI a_t a_t_rig a_t_rig_sequence a_t_rig_sequence_minus a_t_rig_sequence_outBefore a_t_rig_sequence_pauses a_t_rig_sequence_plus u_t_reader u_t_trial u_t_snapshot u_t_spare u_t_rig_circuit u_t_rig_log u_t_rig_score u_t_rig_strokes u_t_rig_positions u_t_rig_timers u_t_rig_faults u_t_rig_sequence_cuts u_t_rig_sequence_groupOfStep t t_rig t_rig_sequence t_rig_sequence_minus t_rig_sequence_outBefore t_rig_sequence_pauses t_rig_sequence_plus) H locs → lv_has ls 4 [(0, .ref a_t), (1, .int i5), (2, .int i1), (3, .int i4)] → W p l e rmX7_clashes s m av9 below meth c H locs 0 0 Q (F0 m 24 ls []) := by
          intro nn
          induction nn with
          | zero =>
            intro i4 i5 H locs ls hL w hl
            exact bq_lp_0 hL
          | succ nn ih =>
            intro i4 i5 H locs ls hL w hl
            obtain ⟨oo24, hT24, hR24⟩ := bq_lp_el hL
            clear hL
            replace hT24 := bq_u2_el eB hT24
            unfold bX7_clashes_24 at hT24
            refine lv_iload_n hx hb dX7_clashes_24 rfl (lv_at hl 3 rfl) ?_
            refine lv_bipush (v := 6) hx hb dX7_clashes_25 (by decide) ?_
            refine lv_icmp_ge (tgt := 54) hx hb dX7_clashes_27 (by decide) (fun hc => ?_) (fun hc => ?_)
            · replace hT24 := bq_t hc hT24
              clear hc
              obtain rfl := Option.some.inj hT24
              replace hR24 := bq_lk_r hR24
              subst hR24
              exact X54 H locs ls w (lv_sub hl [0, 1, 2] rfl)
            · replace hT24 := bq_f hc hT24
              clear hc
              refine lv_aload_n hx hb dX7_clashes_30 rfl (lv_at hl 0 rfl) ?_
              refine gt_X7_24 E K w 0 rfl rfl dX7_clashes_31 ?_
              refine gt_X7_77 E K w 1 rfl rfl dX7_clashes_34 ?_
              refine lv_iload_n hx hb dX7_clashes_37 rfl (lv_at hl 2 rfl) ?_
              refine lv_iload_n hx hb dX7_clashes_38 rfl (lv_at hl 3 rfl) ?_
              obtain ⟨v8, hC, hT24⟩ := bq_bd_el hT24
              refine bq_V (As := [.int i1, .int i4]) (rest := []) (st1 := [.int v8]) (ws' := wdX7_clashes cI a_t a_t_rig a_t_rig_sequence a_t_rig_sequence_minus a_t_rig_sequence_outBefore a_t_rig_sequence_pauses a_t_rig_sequence_plus u_t_reader u_t_trial u_t_snapshot u_t_spare u_t_rig_circuit u_t_rig_log u_t_rig_score u_t_rig_strokes u_t_rig_positions u_t_rig_timers u_t_rig_faults u_t_rig_sequence_cuts u_t_rig_sequence_groupOfStep t t_rig t_rig_sequence t_rig_sequence_minus t_rig_sequence_outBefore t_rig_sequence_pauses t_rig_sequence_plus) E K w hA (kX5_firstClash l D cI cJ a_t_rig_sequence a_t_rig_sequence_minus a_t_rig_sequence_outBefore a_t_rig_sequence_pauses a_t_rig_sequence_plus u_t_rig_sequence_cuts u_t_rig_sequence_groupOfStep t_rig_sequence t_rig_sequence_minus t_rig_sequence_outBefore t_rig_sequence_pauses t_rig_sequence_plus i1 i4 v8 hC) (bq_gV ml_X7_113 im_X5_firstClash sl_X5_firstClash in_X5 cd_X5_firstClash) hd_X5_firstClash ⟨Nat.le_of_ble_eq_true rfl, Nat.le_of_ble_eq_true rfl⟩ ⟨Nat.le_of_ble_eq_true rfl, Nat.le_of_ble_eq_true rfl⟩ ⟨[2, 3, 4, 5, 6], [0, 1], [0, 1, 2, 3, 4, 5, 6], rfl, rfl, rfl, rfl, rfl, rfl, rfl, rfl, rfl⟩ 2 rfl rfl rfl hl.1 rfl (Nat.le_of_ble_eq_true rfl) rfl dX7_clashes_39 (fun H locs w => bq_z ⟨rfl, rfl⟩ ?_)
              clear hC
              obtain ⟨v9, hT48, hT24⟩ := bq_let_el hT24
              have K48 : ∀ (H : Heap) (locs : List Loc) (ls : Array Slot), bq_w D A s.heap (wdX7_clashes cI a_t a_t_rig a_t_rig_sequence a_t_rig_sequence_minus a_t_rig_sequence_outBefore a_t_rig_sequence_pauses a_t_rig_sequence_plus u_t_reader u_t_trial u_t_snapshot u_t_spare u_t_rig_circuit u_t_rig_log u_t_rig_score u_t_rig_strokes u_t_rig_positions u_t_rig_timers u_t_rig_faults u_t_rig_sequence_cuts u_t_rig_sequence_groupOfStep t t_rig t_rig_sequence t_rig_sequence_minus t_rig_sequence_outBefore t_rig_sequence_pauses t_rig_sequence_plus) H locs → lv_has ls 4 [(0, .ref a_t), (1, .int v9), (2, .int i1), (3, .int i4)] → W p l e rmX7_clashes s m av9 below meth c H locs 0 0 Q (F0 m 48 ls []) := by
                intro H locs ls w hl
                obtain ⟨v10, e9, hT24⟩ := bq_let_el hT24
                refine lv_iinc (v := v10) (lv' := [(3, .int v10), (0, .ref a_t), (1, .int v9), (2, .int i1)]) hx hb dX7_clashes_48 hl (k := 3) rfl (by rw [e9]; rfl) (by decide) rfl (fun ls hl => ?_)
                clear e9
                refine lv_goto (tgt := 24) hx hb dX7_clashes_51 (by decide) ?_
                obtain rfl := Option.some.inj hT24
                exact ih v10 v9 H locs ls hR24 w (lv_sub hl [1, 2, 3, 0] rfl)
              clear hT24
              refine lv_if_lt (tgt := 48) hx hb dX7_clashes_42 (by decide) (fun hc => ?_) (fun hc => ?_)
              · replace hT48 := bq_et hc hT48
                clear hc
                subst hT48
                exact K48 H locs ls w (lv_sub hl [0, 1, 2, 3] rfl)
              · replace hT48 := bq_ef hc hT48
                clear hc
                refine lv_iinc (v := (i5 + 1)) (lv' := [(1, .int (i5 + 1)), (0, .ref a_t), (2, .int i1), (3, .int i4)]) hx hb dX7_clashes_45 hl (k := 1) rfl rfl (by decide) rfl (fun ls hl => ?_)
                subst hT48
                exact K48 H locs ls w (lv_sub hl [1, 0, 2, 3] rfl)
        exact L24 nn 0 i2 H locs ls hL w (lv_sub hl [1, 2, 3, 0] rfl)
  exact L8 nn 0 0 H locs ls hL w (lv_sub hl [2, 1, 0] rfl)
abbrev rmTX7_clashes : Room := { frames := 7, cells := 1, slots := 6, locals := 120 }
set_option maxHeartbeats 4000000 in
set_option maxRecDepth 100000 in
theorem tkX7_clashes {l : Launch} (hlf : l.stackTraces = false) (D : va_G) (cI cJ : ClassId) (a_t a_t_rig a_t_rig_sequence a_t_rig_sequence_minus a_t_rig_sequence_outBefore a_t_rig_sequence_pauses a_t_rig_sequence_plus u_t_reader u_t_trial u_t_snapshot u_t_spare u_t_rig_circuit u_t_rig_log u_t_rig_score u_t_rig_strokes u_t_rig_positions u_t_rig_timers u_t_rig_faults u_t_rig_sequence_cuts u_t_rig_sequence_groupOfStep : Nat) (t t_rig t_rig_sequence t_rig_sequence_minus t_rig_sequence_outBefore t_rig_sequence_pauses t_rig_sequence_plus : Nat → Int32) (r : Nat) (hm : tX7_clashes t_rig_sequence t_rig_sequence_minus t_rig_sequence_outBefore t_rig_sequence_pauses t_rig_sequence_plus = some r) : bq_MT l D cI cJ yX7_clashes cX7_clashes 4 (some .int) rmTX7_clashes [.ref a_t] (wdX7_clashes cI a_t a_t_rig a_t_rig_sequence a_t_rig_sequence_minus a_t_rig_sequence_outBefore a_t_rig_sequence_pauses a_t_rig_sequence_plus u_t_reader u_t_trial u_t_snapshot u_t_spare u_t_rig_circuit u_t_rig_log u_t_rig_score u_t_rig_strokes u_t_rig_positions u_t_rig_timers u_t_rig_faults u_t_rig_sequence_cuts u_t_rig_sequence_groupOfStep t t_rig t_rig_sequence t_rig_sequence_minus t_rig_sequence_outBefore t_rig_sequence_pauses t_rig_sequence_plus) (bq_cls r) := by
  refine bq_startT (by decide) (Nat.le_of_ble_eq_true rfl) ?_
  intro p e s m av9 below meth c A ls Q H locs E K w hA hnt hk hX hQ hl
  have E : bq_E p m c cX7_clashes 4 s av9 RX7 := E
  have hx := E.1
  have hb := E.2.1
  have hl : lv_has ls 4 [(0, .ref a_t)] := hl
  unfold tX7_clashes at hm
  refine lv_aload_n hx hb dX7_clashes_0 rfl (lv_at hl 0 rfl) ?_
  refine (bq_tc_el hm).elim (fun hC => ?_) (fun hm => ?_)
  · exact bq_TV (As := []) (rest := []) E K w hA hX hnt hk ⟨rfl, rfl⟩ (tkX7_checkSequence hlf D cI cJ a_t a_t_rig a_t_rig_sequence u_t_reader u_t_trial u_t_snapshot u_t_spare u_t_rig_circuit u_t_rig_log u_t_rig_score u_t_rig_strokes u_t_rig_positions u_t_rig_timers u_t_rig_faults a_t_rig_sequence_plus a_t_rig_sequence_minus a_t_rig_sequence_pauses a_t_rig_sequence_outBefore u_t_rig_sequence_cuts u_t_rig_sequence_groupOfStep t t_rig t_rig_sequence _ hC) (bq_gV ml_X7_110 im_X7_checkSequence sl_X7_checkSequence in_X7 cd_X7_checkSequence) hd_X7_checkSequence ⟨Nat.le_of_ble_eq_true rfl, Nat.le_of_ble_eq_true rfl⟩ ⟨Nat.le_of_ble_eq_true rfl, Nat.le_of_ble_eq_true rfl⟩ ⟨[0, 1, 2], [3, 4, 5, 6], [4, 5, 6, 0, 1, 2, 3], rfl, rfl, rfl, rfl, rfl, rfl, rfl, rfl, rfl⟩ 0 rfl rfl rfl hl.1 rfl (Nat.le_of_ble_eq_true rfl) dX7_clashes_1 hQ
  obtain ⟨⟨⟩, hC, hm⟩ := bq_bd_el hm
  refine bq_V (As := []) (rest := []) (st1 := []) (ws' := wdX7_clashes cI a_t a_t_rig a_t_rig_sequence a_t_rig_sequence_minus a_t_rig_sequence_outBefore a_t_rig_sequence_pauses a_t_rig_sequence_plus u_t_reader u_t_trial u_t_snapshot u_t_spare u_t_rig_circuit u_t_rig_log u_t_rig_score u_t_rig_strokes u_t_rig_positions u_t_rig_timers u_t_rig_faults u_t_rig_sequence_cuts u_t_rig_sequence_groupOfStep t t_rig t_rig_sequence t_rig_sequence_minus t_rig_sequence_outBefore t_rig_sequence_pauses t_rig_sequence_plus) E K w hA (kX7_checkSequence l D cI cJ a_t a_t_rig a_t_rig_sequence u_t_reader u_t_trial u_t_snapshot u_t_spare u_t_rig_circuit u_t_rig_log u_t_rig_score u_t_rig_strokes u_t_rig_positions u_t_rig_timers u_t_rig_faults a_t_rig_sequence_plus a_t_rig_sequence_minus a_t_rig_sequence_pauses a_t_rig_sequence_outBefore u_t_rig_sequence_cuts u_t_rig_sequence_groupOfStep t t_rig t_rig_sequence hC) (bq_gV ml_X7_110 im_X7_checkSequence sl_X7_checkSequence in_X7 cd_X7_checkSequence) hd_X7_checkSequence ⟨Nat.le_of_ble_eq_true rfl, Nat.le_of_ble_eq_true rfl⟩ ⟨Nat.le_of_ble_eq_true rfl, Nat.le_of_ble_eq_true rfl⟩ ⟨[0, 1, 2], [3, 4, 5, 6], [4, 5, 6, 0, 1, 2, 3], rfl, rfl, rfl, rfl, rfl, rfl, rfl, rfl, rfl⟩ 0 rfl rfl rfl hl.1 rfl (Nat.le_of_ble_eq_true rfl) rfl dX7_clashes_1 (fun H locs w => bq_z ⟨rfl, rfl⟩ ?_)
  clear hC
  cases hm
abbrev wdX7_clash (cI : ClassId) (a_t a_t_rig a_t_rig_sequence a_t_rig_sequence_minus a_t_rig_sequence_outBefore a_t_rig_sequence_pauses a_t_rig_sequence_plus u_t_reader u_t_trial u_t_snapshot u_t_spare u_t_rig_circuit u_t_rig_log u_t_rig_score u_t_rig_strokes u_t_rig_positions u_t_rig_timers u_t_rig_faults u_t_rig_sequence_cuts u_t_rig_sequence_groupOfStep : Nat) (t : Nat → Int32) (t_rig : Nat → Int32) (t_rig_sequence : Nat → Int32) (t_rig_sequence_minus : Nat → Int32) (t_rig_sequence_outBefore : Nat → Int32) (t_rig_sequence_pauses : Nat → Int32) (t_rig_sequence_plus : Nat → Int32) : va_W := [(a_t, oX7 u_t_reader a_t_rig u_t_trial u_t_snapshot u_t_spare t), (a_t_rig, oX3 a_t_rig_sequence u_t_rig_circuit u_t_rig_log u_t_rig_score u_t_rig_strokes u_t_rig_positions u_t_rig_timers u_t_rig_faults t_rig), (a_t_rig_sequence, oX5 a_t_rig_sequence_plus a_t_rig_sequence_minus a_t_rig_sequence_pauses a_t_rig_sequence_outBefore u_t_rig_sequence_cuts u_t_rig_sequence_groupOfStep t_rig_sequence), (a_t_rig_sequence_minus, oA cI 16 t_rig_sequence_minus), (a_t_rig_sequence_outBefore, oA cI 16 t_rig_sequence_outBefore), (a_t_rig_sequence_pauses, oA cI 16 t_rig_sequence_pauses), (a_t_rig_sequence_plus, oA cI 16 t_rig_sequence_plus)]
abbrev rmX7_clash : Room := { frames := 2, cells := 0, slots := 0, locals := 47 }
theorem hd_X7_clash : yX7_clash.cls = RX7 ∧ yX7_clash.cls ≠ "java/lang/invoke/MethodHandle" ∧ yX7_clash.cls ≠ "java/lang/invoke/VarHandle" ∧ (parseMethodDescriptor yX7_clash.desc).map (fun d => d.parameters.length) = some 2 := by decide +kernel
set_option maxHeartbeats 4000000 in
set_option maxRecDepth 100000 in
theorem kX7_clash (l : Launch) (D : va_G) (cI cJ : ClassId) (a_t a_t_rig a_t_rig_sequence a_t_rig_sequence_minus a_t_rig_sequence_outBefore a_t_rig_sequence_pauses a_t_rig_sequence_plus u_t_reader u_t_trial u_t_snapshot u_t_spare u_t_rig_circuit u_t_rig_log u_t_rig_score u_t_rig_strokes u_t_rig_positions u_t_rig_timers u_t_rig_faults u_t_rig_sequence_cuts u_t_rig_sequence_groupOfStep : Nat) (t t_rig t_rig_sequence t_rig_sequence_minus t_rig_sequence_outBefore t_rig_sequence_pauses t_rig_sequence_plus : Nat → Int32) (x1 : Int32) (x2 : Int32) (r : Int32) (hm : mX7_clash t_rig_sequence t_rig_sequence_minus t_rig_sequence_outBefore t_rig_sequence_pauses t_rig_sequence_plus x1 x2 = some r) : bq_M l D cI cJ yX7_clash cX7_clash 3 (some .int) rmX7_clash [.ref a_t, .int x1, .int x2] (wdX7_clash cI a_t a_t_rig a_t_rig_sequence a_t_rig_sequence_minus a_t_rig_sequence_outBefore a_t_rig_sequence_pauses a_t_rig_sequence_plus u_t_reader u_t_trial u_t_snapshot u_t_spare u_t_rig_circuit u_t_rig_log u_t_rig_score u_t_rig_strokes u_t_rig_positions u_t_rig_timers u_t_rig_faults u_t_rig_sequence_cuts u_t_rig_sequence_groupOfStep t t_rig t_rig_sequence t_rig_sequence_minus t_rig_sequence_outBefore t_rig_sequence_pauses t_rig_sequence_plus) (wdX7_clash cI a_t a_t_rig a_t_rig_sequence a_t_rig_sequence_minus a_t_rig_sequence_outBefore a_t_rig_sequence_pauses a_t_rig_sequence_plus u_t_reader u_t_trial u_t_snapshot u_t_spare u_t_rig_circuit u_t_rig_log u_t_rig_score u_t_rig_strokes u_t_rig_positions u_t_rig_timers u_t_rig_faults u_t_rig_sequence_cuts u_t_rig_sequence_groupOfStep t t_rig t_rig_sequence t_rig_sequence_minus t_rig_sequence_outBefore t_rig_sequence_pauses t_rig_sequence_plus) (some (.int r)) := by
  refine bq_start (by decide) (Nat.le_of_ble_eq_true rfl) ?_
  intro p e s m av9 below meth c A ls Q H locs E K w hA hr hk hn hQ hl
  have E : bq_E p m c cX7_clash 3 s av9 RX7 := E
  have hx := E.1
  have hb := E.2.1
  have hl : lv_has ls 3 [(0, .ref a_t), (1, .int x1), (2, .int x2)] := hl
  unfold mX7_clash at hm
  refine lv_aload_n hx hb dX7_clash_0 rfl (lv_at hl 0 rfl) ?_
  refine lv_iload_n hx hb dX7_clash_1 rfl (lv_at hl 1 rfl) ?_
  obtain ⟨⟨⟩, hC, hm⟩ := bq_bd_el hm
  refine bq_V (As := [.int x1]) (rest := []) (st1 := []) (ws' := wdX7_clash cI a_t a_t_rig a_t_rig_sequence a_t_rig_sequence_minus a_t_rig_sequence_outBefore a_t_rig_sequence_pauses a_t_rig_sequence_plus u_t_reader u_t_trial u_t_snapshot u_t_spare u_t_rig_circuit u_t_rig_log u_t_rig_score u_t_rig_strokes u_t_rig_positions u_t_rig_timers u_t_rig_faults u_t_rig_sequence_cuts u_t_rig_sequence_groupOfStep t t_rig t_rig_sequence t_rig_sequence_minus t_rig_sequence_outBefore t_rig_sequence_pauses t_rig_sequence_plus) E K w hA (kX7_checkStep l D cI cJ a_t a_t_rig a_t_rig_sequence u_t_reader u_t_trial u_t_snapshot u_t_spare u_t_rig_circuit u_t_rig_log u_t_rig_score u_t_rig_strokes u_t_rig_positions u_t_rig_timers u_t_rig_faults a_t_rig_sequence_plus a_t_rig_sequence_minus a_t_rig_sequence_pauses a_t_rig_sequence_outBefore u_t_rig_sequence_cuts u_t_rig_sequence_groupOfStep t t_rig t_rig_sequence x1 hC) (bq_gV ml_X7_86 im_X7_checkStep sl_X7_checkStep in_X7 cd_X7_checkStep) hd_X7_checkStep ⟨Nat.le_of_ble_eq_true rfl, Nat.le_of_ble_eq_true rfl⟩ ⟨Nat.le_of_ble_eq_true rfl, Nat.le_of_ble_eq_true rfl⟩ ⟨[0, 1, 2], [3, 4, 5, 6], [4, 5, 6, 0, 1, 2, 3], rfl, rfl, rfl, rfl, rfl, rfl, rfl, rfl, rfl⟩ 0 rfl rfl rfl hl.1 rfl (Nat.le_of_ble_eq_true rfl) rfl dX7_clash_2 (fun H locs w => bq_z ⟨rfl, rfl⟩ ?_)
  clear hC
  refine lv_iload_n hx hb dX7_clash_5 rfl (lv_at hl 2 rfl) ?_
  obtain ⟨⟨⟩, hC, hm⟩ := bq_bd_el hm
  refine bq_S0 (As := [.int x2]) (rest := []) (st1 := []) E K w hA (kX7_checkCylinder l D cI cJ x2 hC) cd_X7_checkCylinder ml_X7_93 in_X7 st_X7_checkCylinder hs_X7_checkCylinder ⟨Nat.le_of_ble_eq_true rfl, Nat.le_of_ble_eq_true rfl⟩ ⟨Nat.le_of_ble_eq_true rfl, Nat.le_of_ble_eq_true rfl⟩ rfl hl.1 rfl (Nat.le_of_ble_eq_true rfl) rfl dX7_clash_6 (fun H locs w => bq_z ⟨rfl, rfl⟩ ?_)
  clear hC
  refine lv_aload_n hx hb dX7_clash_9 rfl (lv_at hl 0 rfl) ?_
  refine gt_X7_24 E K w 0 rfl rfl dX7_clash_10 ?_
  refine gt_X7_77 E K w 1 rfl rfl dX7_clash_13 ?_
  refine lv_iload_n hx hb dX7_clash_16 rfl (lv_at hl 1 rfl) ?_
  refine lv_iload_n hx hb dX7_clash_17 rfl (lv_at hl 2 rfl) ?_
  obtain ⟨v1, hC, hm⟩ := bq_bd_el hm
  refine bq_V (As := [.int x1, .int x2]) (rest := []) (st1 := [.int v1]) (ws' := wdX7_clash cI a_t a_t_rig a_t_rig_sequence a_t_rig_sequence_minus a_t_rig_sequence_outBefore a_t_rig_sequence_pauses a_t_rig_sequence_plus u_t_reader u_t_trial u_t_snapshot u_t_spare u_t_rig_circuit u_t_rig_log u_t_rig_score u_t_rig_strokes u_t_rig_positions u_t_rig_timers u_t_rig_faults u_t_rig_sequence_cuts u_t_rig_sequence_groupOfStep t t_rig t_rig_sequence t_rig_sequence_minus t_rig_sequence_outBefore t_rig_sequence_pauses t_rig_sequence_plus) E K w hA (kX5_firstClash l D cI cJ a_t_rig_sequence a_t_rig_sequence_minus a_t_rig_sequence_outBefore a_t_rig_sequence_pauses a_t_rig_sequence_plus u_t_rig_sequence_cuts u_t_rig_sequence_groupOfStep t_rig_sequence t_rig_sequence_minus t_rig_sequence_outBefore t_rig_sequence_pauses t_rig_sequence_plus x1 x2 v1 hC) (bq_gV ml_X7_113 im_X5_firstClash sl_X5_firstClash in_X5 cd_X5_firstClash) hd_X5_firstClash ⟨Nat.le_of_ble_eq_true rfl, Nat.le_of_ble_eq_true rfl⟩ ⟨Nat.le_of_ble_eq_true rfl, Nat.le_of_ble_eq_true rfl⟩ ⟨[2, 3, 4, 5, 6], [0, 1], [0, 1, 2, 3, 4, 5, 6], rfl, rfl, rfl, rfl, rfl, rfl, rfl, rfl, rfl⟩ 2 rfl rfl rfl hl.1 rfl (Nat.le_of_ble_eq_true rfl) rfl dX7_clash_18 (fun H locs w => bq_z ⟨rfl, rfl⟩ ?_)
  clear hC
  obtain rfl := Option.some.inj hm
  exact bq_iret E w hr hk dX7_clash_21 hQ
abbrev rmTX7_clash : Room := { frames := 7, cells := 1, slots := 6, locals := 121 }
set_option maxHeartbeats 4000000 in
set_option maxRecDepth 100000 in
theorem tkX7_clash {l : Launch} (hlf : l.stackTraces = false) (D : va_G) (cI cJ : ClassId) (a_t a_t_rig a_t_rig_sequence a_t_rig_sequence_minus a_t_rig_sequence_outBefore a_t_rig_sequence_pauses a_t_rig_sequence_plus u_t_reader u_t_trial u_t_snapshot u_t_spare u_t_rig_circuit u_t_rig_log u_t_rig_score u_t_rig_strokes u_t_rig_positions u_t_rig_timers u_t_rig_faults u_t_rig_sequence_cuts u_t_rig_sequence_groupOfStep : Nat) (t t_rig t_rig_sequence t_rig_sequence_minus t_rig_sequence_outBefore t_rig_sequence_pauses t_rig_sequence_plus : Nat → Int32) (x1 : Int32) (x2 : Int32) (r : Nat) (hm : tX7_clash t_rig_sequence t_rig_sequence_minus t_rig_sequence_outBefore t_rig_sequence_pauses t_rig_sequence_plus x1 x2 = some r) : bq_MT l D cI cJ yX7_clash cX7_clash 3 (some .int) rmTX7_clash [.ref a_t, .int x1, .int x2] (wdX7_clash cI a_t a_t_rig a_t_rig_sequence a_t_rig_sequence_minus a_t_rig_sequence_outBefore a_t_rig_sequence_pauses a_t_rig_sequence_plus u_t_reader u_t_trial u_t_snapshot u_t_spare u_t_rig_circuit u_t_rig_log u_t_rig_score u_t_rig_strokes u_t_rig_positions u_t_rig_timers u_t_rig_faults u_t_rig_sequence_cuts u_t_rig_sequence_groupOfStep t t_rig t_rig_sequence t_rig_sequence_minus t_rig_sequence_outBefore t_rig_sequence_pauses t_rig_sequence_plus) (bq_cls r) := by
  refine bq_startT (by decide) (Nat.le_of_ble_eq_true rfl) ?_
  intro p e s m av9 below meth c A ls Q H locs E K w hA hnt hk hX hQ hl
  have E : bq_E p m c cX7_clash 3 s av9 RX7 := E
  have hx := E.1
  have hb := E.2.1
  have hl : lv_has ls 3 [(0, .ref a_t), (1, .int x1), (2, .int x2)] := hl
  unfold tX7_clash at hm
  refine lv_aload_n hx hb dX7_clash_0 rfl (lv_at hl 0 rfl) ?_
  refine lv_iload_n hx hb dX7_clash_1 rfl (lv_at hl 1 rfl) ?_
  refine (bq_tc_el hm).elim (fun hC => ?_) (fun hm => ?_)
  · exact bq_TV (As := [.int x1]) (rest := []) E K w hA hX hnt hk ⟨rfl, rfl⟩ (tkX7_checkStep hlf D cI cJ a_t a_t_rig a_t_rig_sequence u_t_reader u_t_trial u_t_snapshot u_t_spare u_t_rig_circuit u_t_rig_log u_t_rig_score u_t_rig_strokes u_t_rig_positions u_t_rig_timers u_t_rig_faults a_t_rig_sequence_plus a_t_rig_sequence_minus a_t_rig_sequence_pauses a_t_rig_sequence_outBefore u_t_rig_sequence_cuts u_t_rig_sequence_groupOfStep t t_rig t_rig_sequence x1 _ hC) (bq_gV ml_X7_86 im_X7_checkStep sl_X7_checkStep in_X7 cd_X7_checkStep) hd_X7_checkStep ⟨Nat.le_of_ble_eq_true rfl, Nat.le_of_ble_eq_true rfl⟩ ⟨Nat.le_of_ble_eq_true rfl, Nat.le_of_ble_eq_true rfl⟩ ⟨[0, 1, 2], [3, 4, 5, 6], [4, 5, 6, 0, 1, 2, 3], rfl, rfl, rfl, rfl, rfl, rfl, rfl, rfl, rfl⟩ 0 rfl rfl rfl hl.1 rfl (Nat.le_of_ble_eq_true rfl) dX7_clash_2 hQ
  obtain ⟨⟨⟩, hC, hm⟩ := bq_bd_el hm
  refine bq_V (As := [.int x1]) (rest := []) (st1 := []) (ws' := wdX7_clash cI a_t a_t_rig a_t_rig_sequence a_t_rig_sequence_minus a_t_rig_sequence_outBefore a_t_rig_sequence_pauses a_t_rig_sequence_plus u_t_reader u_t_trial u_t_snapshot u_t_spare u_t_rig_circuit u_t_rig_log u_t_rig_score u_t_rig_strokes u_t_rig_positions u_t_rig_timers u_t_rig_faults u_t_rig_sequence_cuts u_t_rig_sequence_groupOfStep t t_rig t_rig_sequence t_rig_sequence_minus t_rig_sequence_outBefore t_rig_sequence_pauses t_rig_sequence_plus) E K w hA (kX7_checkStep l D cI cJ a_t a_t_rig a_t_rig_sequence u_t_reader u_t_trial u_t_snapshot u_t_spare u_t_rig_circuit u_t_rig_log u_t_rig_score u_t_rig_strokes u_t_rig_positions u_t_rig_timers u_t_rig_faults a_t_rig_sequence_plus a_t_rig_sequence_minus a_t_rig_sequence_pauses a_t_rig_sequence_outBefore u_t_rig_sequence_cuts u_t_rig_sequence_groupOfStep t t_rig t_rig_sequence x1 hC) (bq_gV ml_X7_86 im_X7_checkStep sl_X7_checkStep in_X7 cd_X7_checkStep) hd_X7_checkStep ⟨Nat.le_of_ble_eq_true rfl, Nat.le_of_ble_eq_true rfl⟩ ⟨Nat.le_of_ble_eq_true rfl, Nat.le_of_ble_eq_true rfl⟩ ⟨[0, 1, 2], [3, 4, 5, 6], [4, 5, 6, 0, 1, 2, 3], rfl, rfl, rfl, rfl, rfl, rfl, rfl, rfl, rfl⟩ 0 rfl rfl rfl hl.1 rfl (Nat.le_of_ble_eq_true rfl) rfl dX7_clash_2 (fun H locs w => bq_z ⟨rfl, rfl⟩ ?_)
  clear hC
  refine lv_iload_n hx hb dX7_clash_5 rfl (lv_at hl 2 rfl) ?_
  refine (bq_tc_el hm).elim (fun hC => ?_) (fun hm => ?_)
  · exact bq_TS (As := [.int x2]) (rest := []) E K w hA hX hnt hk ⟨rfl, rfl⟩ (tkX7_checkCylinder hlf D cI cJ x2 _ hC) cd_X7_checkCylinder ml_X7_93 in_X7 st_X7_checkCylinder hs_X7_checkCylinder ⟨Nat.le_of_ble_eq_true rfl, Nat.le_of_ble_eq_true rfl⟩ ⟨Nat.le_of_ble_eq_true rfl, Nat.le_of_ble_eq_true rfl⟩ ⟨[], [0, 1, 2, 3, 4, 5, 6], [0, 1, 2, 3, 4, 5, 6], rfl, rfl, rfl, rfl, rfl, rfl, rfl, rfl, rfl⟩ rfl hl.1 rfl (Nat.le_of_ble_eq_true rfl) dX7_clash_6 hQ
  obtain ⟨⟨⟩, hC, hm⟩ := bq_bd_el hm
  refine bq_S0 (As := [.int x2]) (rest := []) (st1 := []) E K w hA (kX7_checkCylinder l D cI cJ x2 hC) cd_X7_checkCylinder ml_X7_93 in_X7 st_X7_checkCylinder hs_X7_checkCylinder ⟨Nat.le_of_ble_eq_true rfl, Nat.le_of_ble_eq_true rfl⟩ ⟨Nat.le_of_ble_eq_true rfl, Nat.le_of_ble_eq_true rfl⟩ rfl hl.1 rfl (Nat.le_of_ble_eq_true rfl) rfl dX7_clash_6 (fun H locs w => bq_z ⟨rfl, rfl⟩ ?_)
  clear hC
  cases hm
abbrev wdX7_groups (cI : ClassId) (a_t a_t_rig a_t_rig_sequence u_t_reader u_t_trial u_t_snapshot u_t_spare u_t_rig_circuit u_t_rig_log u_t_rig_score u_t_rig_strokes u_t_rig_positions u_t_rig_timers u_t_rig_faults u_t_rig_sequence_plus u_t_rig_sequence_minus u_t_rig_sequence_pauses u_t_rig_sequence_outBefore u_t_rig_sequence_cuts u_t_rig_sequence_groupOfStep : Nat) (t : Nat → Int32) (t_rig : Nat → Int32) (t_rig_sequence : Nat → Int32) : va_W := [(a_t, oX7 u_t_reader a_t_rig u_t_trial u_t_snapshot u_t_spare t), (a_t_rig, oX3 a_t_rig_sequence u_t_rig_circuit u_t_rig_log u_t_rig_score u_t_rig_strokes u_t_rig_positions u_t_rig_timers u_t_rig_faults t_rig), (a_t_rig_sequence, oX5 u_t_rig_sequence_plus u_t_rig_sequence_minus u_t_rig_sequence_pauses u_t_rig_sequence_outBefore u_t_rig_sequence_cuts u_t_rig_sequence_groupOfStep t_rig_sequence)]
abbrev rmX7_groups : Room := { frames := 1, cells := 0, slots := 0, locals := 20 }
theorem hd_X7_groups : yX7_groups.cls = RX7 ∧ yX7_groups.cls ≠ "java/lang/invoke/MethodHandle" ∧ yX7_groups.cls ≠ "java/lang/invoke/VarHandle" ∧ (parseMethodDescriptor yX7_groups.desc).map (fun d => d.parameters.length) = some 0 := by decide +kernel
set_option maxHeartbeats 4000000 in
set_option maxRecDepth 100000 in
theorem kX7_groups (l : Launch) (D : va_G) (cI cJ : ClassId) (a_t a_t_rig a_t_rig_sequence u_t_reader u_t_trial u_t_snapshot u_t_spare u_t_rig_circuit u_t_rig_log u_t_rig_score u_t_rig_strokes u_t_rig_positions u_t_rig_timers u_t_rig_faults u_t_rig_sequence_plus u_t_rig_sequence_minus u_t_rig_sequence_pauses u_t_rig_sequence_outBefore u_t_rig_sequence_cuts u_t_rig_sequence_groupOfStep : Nat) (t t_rig t_rig_sequence : Nat → Int32) (r : Int32) (hm : mX7_groups t_rig_sequence = some r) : bq_M l D cI cJ yX7_groups cX7_groups 1 (some .int) rmX7_groups [.ref a_t] (wdX7_groups cI a_t a_t_rig a_t_rig_sequence u_t_reader u_t_trial u_t_snapshot u_t_spare u_t_rig_circuit u_t_rig_log u_t_rig_score u_t_rig_strokes u_t_rig_positions u_t_rig_timers u_t_rig_faults u_t_rig_sequence_plus u_t_rig_sequence_minus u_t_rig_sequence_pauses u_t_rig_sequence_outBefore u_t_rig_sequence_cuts u_t_rig_sequence_groupOfStep t t_rig t_rig_sequence) (wdX7_groups cI a_t a_t_rig a_t_rig_sequence u_t_reader u_t_trial u_t_snapshot u_t_spare u_t_rig_circuit u_t_rig_log u_t_rig_score u_t_rig_strokes u_t_rig_positions u_t_rig_timers u_t_rig_faults u_t_rig_sequence_plus u_t_rig_sequence_minus u_t_rig_sequence_pauses u_t_rig_sequence_outBefore u_t_rig_sequence_cuts u_t_rig_sequence_groupOfStep t t_rig t_rig_sequence) (some (.int r)) := by
  refine bq_start (by decide) (Nat.le_of_ble_eq_true rfl) ?_
  intro p e s m av9 below meth c A ls Q H locs E K w hA hr hk hn hQ hl
  have E : bq_E p m c cX7_groups 1 s av9 RX7 := E
  have hx := E.1
  have hb := E.2.1
  have hl : lv_has ls 1 [(0, .ref a_t)] := hl
  unfold mX7_groups at hm
  refine lv_aload_n hx hb dX7_groups_0 rfl (lv_at hl 0 rfl) ?_
  obtain ⟨⟨⟩, hC, hm⟩ := bq_bd_el hm
  refine bq_V (As := []) (rest := []) (st1 := []) (ws' := wdX7_groups cI a_t a_t_rig a_t_rig_sequence u_t_reader u_t_trial u_t_snapshot u_t_spare u_t_rig_circuit u_t_rig_log u_t_rig_score u_t_rig_strokes u_t_rig_positions u_t_rig_timers u_t_rig_faults u_t_rig_sequence_plus u_t_rig_sequence_minus u_t_rig_sequence_pauses u_t_rig_sequence_outBefore u_t_rig_sequence_cuts u_t_rig_sequence_groupOfStep t t_rig t_rig_sequence) E K w hA (kX7_checkSequence l D cI cJ a_t a_t_rig a_t_rig_sequence u_t_reader u_t_trial u_t_snapshot u_t_spare u_t_rig_circuit u_t_rig_log u_t_rig_score u_t_rig_strokes u_t_rig_positions u_t_rig_timers u_t_rig_faults u_t_rig_sequence_plus u_t_rig_sequence_minus u_t_rig_sequence_pauses u_t_rig_sequence_outBefore u_t_rig_sequence_cuts u_t_rig_sequence_groupOfStep t t_rig t_rig_sequence hC) (bq_gV ml_X7_110 im_X7_checkSequence sl_X7_checkSequence in_X7 cd_X7_checkSequence) hd_X7_checkSequence ⟨Nat.le_of_ble_eq_true rfl, Nat.le_of_ble_eq_true rfl⟩ ⟨Nat.le_of_ble_eq_true rfl, Nat.le_of_ble_eq_true rfl⟩ ⟨[0, 1, 2], [], [0, 1, 2], rfl, rfl, rfl, rfl, rfl, rfl, rfl, rfl, rfl⟩ 0 rfl rfl rfl hl.1 rfl (Nat.le_of_ble_eq_true rfl) rfl dX7_groups_1 (fun H locs w => bq_z ⟨rfl, rfl⟩ ?_)
  clear hC
  refine lv_aload_n hx hb dX7_groups_4 rfl (lv_at hl 0 rfl) ?_
  refine gt_X7_24 E K w 0 rfl rfl dX7_groups_5 ?_
  refine gt_X7_77 E K w 1 rfl rfl dX7_groups_8 ?_
  refine gt_X7_117 E K w 2 rfl rfl dX7_groups_11 ?_
  obtain rfl := Option.some.inj hm
  exact bq_iret E w hr hk dX7_groups_14 hQ
abbrev rmTX7_groups : Room := { frames := 7, cells := 1, slots := 6, locals := 120 }
set_option maxHeartbeats 4000000 in
set_option maxRecDepth 100000 in
theorem tkX7_groups {l : Launch} (hlf : l.stackTraces = false) (D : va_G) (cI cJ : ClassId) (a_t a_t_rig a_t_rig_sequence u_t_reader u_t_trial u_t_snapshot u_t_spare u_t_rig_circuit u_t_rig_log u_t_rig_score u_t_rig_strokes u_t_rig_positions u_t_rig_timers u_t_rig_faults u_t_rig_sequence_plus u_t_rig_sequence_minus u_t_rig_sequence_pauses u_t_rig_sequence_outBefore u_t_rig_sequence_cuts u_t_rig_sequence_groupOfStep : Nat) (t t_rig t_rig_sequence : Nat → Int32) (r : Nat) (hm : tX7_groups t_rig_sequence = some r) : bq_MT l D cI cJ yX7_groups cX7_groups 1 (some .int) rmTX7_groups [.ref a_t] (wdX7_groups cI a_t a_t_rig a_t_rig_sequence u_t_reader u_t_trial u_t_snapshot u_t_spare u_t_rig_circuit u_t_rig_log u_t_rig_score u_t_rig_strokes u_t_rig_positions u_t_rig_timers u_t_rig_faults u_t_rig_sequence_plus u_t_rig_sequence_minus u_t_rig_sequence_pauses u_t_rig_sequence_outBefore u_t_rig_sequence_cuts u_t_rig_sequence_groupOfStep t t_rig t_rig_sequence) (bq_cls r) := by
  refine bq_startT (by decide) (Nat.le_of_ble_eq_true rfl) ?_
  intro p e s m av9 below meth c A ls Q H locs E K w hA hnt hk hX hQ hl
  have E : bq_E p m c cX7_groups 1 s av9 RX7 := E
  have hx := E.1
  have hb := E.2.1
  have hl : lv_has ls 1 [(0, .ref a_t)] := hl
  unfold tX7_groups at hm
  refine lv_aload_n hx hb dX7_groups_0 rfl (lv_at hl 0 rfl) ?_
  refine (bq_tc_el hm).elim (fun hC => ?_) (fun hm => ?_)
  · exact bq_TV (As := []) (rest := []) E K w hA hX hnt hk ⟨rfl, rfl⟩ (tkX7_checkSequence hlf D cI cJ a_t a_t_rig a_t_rig_sequence u_t_reader u_t_trial u_t_snapshot u_t_spare u_t_rig_circuit u_t_rig_log u_t_rig_score u_t_rig_strokes u_t_rig_positions u_t_rig_timers u_t_rig_faults u_t_rig_sequence_plus u_t_rig_sequence_minus u_t_rig_sequence_pauses u_t_rig_sequence_outBefore u_t_rig_sequence_cuts u_t_rig_sequence_groupOfStep t t_rig t_rig_sequence _ hC) (bq_gV ml_X7_110 im_X7_checkSequence sl_X7_checkSequence in_X7 cd_X7_checkSequence) hd_X7_checkSequence ⟨Nat.le_of_ble_eq_true rfl, Nat.le_of_ble_eq_true rfl⟩ ⟨Nat.le_of_ble_eq_true rfl, Nat.le_of_ble_eq_true rfl⟩ ⟨[0, 1, 2], [], [0, 1, 2], rfl, rfl, rfl, rfl, rfl, rfl, rfl, rfl, rfl⟩ 0 rfl rfl rfl hl.1 rfl (Nat.le_of_ble_eq_true rfl) dX7_groups_1 hQ
  obtain ⟨⟨⟩, hC, hm⟩ := bq_bd_el hm
  refine bq_V (As := []) (rest := []) (st1 := []) (ws' := wdX7_groups cI a_t a_t_rig a_t_rig_sequence u_t_reader u_t_trial u_t_snapshot u_t_spare u_t_rig_circuit u_t_rig_log u_t_rig_score u_t_rig_strokes u_t_rig_positions u_t_rig_timers u_t_rig_faults u_t_rig_sequence_plus u_t_rig_sequence_minus u_t_rig_sequence_pauses u_t_rig_sequence_outBefore u_t_rig_sequence_cuts u_t_rig_sequence_groupOfStep t t_rig t_rig_sequence) E K w hA (kX7_checkSequence l D cI cJ a_t a_t_rig a_t_rig_sequence u_t_reader u_t_trial u_t_snapshot u_t_spare u_t_rig_circuit u_t_rig_log u_t_rig_score u_t_rig_strokes u_t_rig_positions u_t_rig_timers u_t_rig_faults u_t_rig_sequence_plus u_t_rig_sequence_minus u_t_rig_sequence_pauses u_t_rig_sequence_outBefore u_t_rig_sequence_cuts u_t_rig_sequence_groupOfStep t t_rig t_rig_sequence hC) (bq_gV ml_X7_110 im_X7_checkSequence sl_X7_checkSequence in_X7 cd_X7_checkSequence) hd_X7_checkSequence ⟨Nat.le_of_ble_eq_true rfl, Nat.le_of_ble_eq_true rfl⟩ ⟨Nat.le_of_ble_eq_true rfl, Nat.le_of_ble_eq_true rfl⟩ ⟨[0, 1, 2], [], [0, 1, 2], rfl, rfl, rfl, rfl, rfl, rfl, rfl, rfl, rfl⟩ 0 rfl rfl rfl hl.1 rfl (Nat.le_of_ble_eq_true rfl) rfl dX7_groups_1 (fun H locs w => bq_z ⟨rfl, rfl⟩ ?_)
  clear hC
  cases hm
abbrev wdX7_cut (cI : ClassId) (a_t a_t_rig a_t_rig_sequence a_t_rig_sequence_cuts u_t_reader u_t_trial u_t_snapshot u_t_spare u_t_rig_circuit u_t_rig_log u_t_rig_score u_t_rig_strokes u_t_rig_positions u_t_rig_timers u_t_rig_faults u_t_rig_sequence_plus u_t_rig_sequence_minus u_t_rig_sequence_pauses u_t_rig_sequence_outBefore u_t_rig_sequence_groupOfStep : Nat) (t : Nat → Int32) (t_rig : Nat → Int32) (t_rig_sequence : Nat → Int32) (t_rig_sequence_cuts : Nat → Int32) : va_W := [(a_t, oX7 u_t_reader a_t_rig u_t_trial u_t_snapshot u_t_spare t), (a_t_rig, oX3 a_t_rig_sequence u_t_rig_circuit u_t_rig_log u_t_rig_score u_t_rig_strokes u_t_rig_positions u_t_rig_timers u_t_rig_faults t_rig), (a_t_rig_sequence, oX5 u_t_rig_sequence_plus u_t_rig_sequence_minus u_t_rig_sequence_pauses u_t_rig_sequence_outBefore a_t_rig_sequence_cuts u_t_rig_sequence_groupOfStep t_rig_sequence), (a_t_rig_sequence_cuts, oA cI 16 t_rig_sequence_cuts)]
abbrev rmX7_cut : Room := { frames := 0, cells := 0, slots := 0, locals := 0 }
theorem hd_X7_cut : yX7_cut.cls = RX7 ∧ yX7_cut.cls ≠ "java/lang/invoke/MethodHandle" ∧ yX7_cut.cls ≠ "java/lang/invoke/VarHandle" ∧ (parseMethodDescriptor yX7_cut.desc).map (fun d => d.parameters.length) = some 1 := by decide +kernel
set_option maxHeartbeats 4000000 in
set_option maxRecDepth 100000 in
theorem kX7_cut (l : Launch) (D : va_G) (cI cJ : ClassId) (a_t a_t_rig a_t_rig_sequence a_t_rig_sequence_cuts u_t_reader u_t_trial u_t_snapshot u_t_spare u_t_rig_circuit u_t_rig_log u_t_rig_score u_t_rig_strokes u_t_rig_positions u_t_rig_timers u_t_rig_faults u_t_rig_sequence_plus u_t_rig_sequence_minus u_t_rig_sequence_pauses u_t_rig_sequence_outBefore u_t_rig_sequence_groupOfStep : Nat) (t t_rig t_rig_sequence t_rig_sequence_cuts : Nat → Int32) (x1 : Int32) (r : Int32) (hm : mX7_cut t_rig_sequence t_rig_sequence_cuts x1 = some r) : bq_M l D cI cJ yX7_cut cX7_cut 2 (some .int) rmX7_cut [.ref a_t, .int x1] (wdX7_cut cI a_t a_t_rig a_t_rig_sequence a_t_rig_sequence_cuts u_t_reader u_t_trial u_t_snapshot u_t_spare u_t_rig_circuit u_t_rig_log u_t_rig_score u_t_rig_strokes u_t_rig_positions u_t_rig_timers u_t_rig_faults u_t_rig_sequence_plus u_t_rig_sequence_minus u_t_rig_sequence_pauses u_t_rig_sequence_outBefore u_t_rig_sequence_groupOfStep t t_rig t_rig_sequence t_rig_sequence_cuts) (wdX7_cut cI a_t a_t_rig a_t_rig_sequence a_t_rig_sequence_cuts u_t_reader u_t_trial u_t_snapshot u_t_spare u_t_rig_circuit u_t_rig_log u_t_rig_score u_t_rig_strokes u_t_rig_positions u_t_rig_timers u_t_rig_faults u_t_rig_sequence_plus u_t_rig_sequence_minus u_t_rig_sequence_pauses u_t_rig_sequence_outBefore u_t_rig_sequence_groupOfStep t t_rig t_rig_sequence t_rig_sequence_cuts) (some (.int r)) := by
  refine bq_start (by decide) (Nat.le_of_ble_eq_true rfl) ?_
  intro p e s m av9 below meth c A ls Q H locs E K w hA hr hk hn hQ hl
  have E : bq_E p m c cX7_cut 2 s av9 RX7 := E
  have hx := E.1
  have hb := E.2.1
  have hl : lv_has ls 2 [(0, .ref a_t), (1, .int x1)] := hl
  unfold mX7_cut at hm
  refine lv_iload_n hx hb dX7_cut_0 rfl (lv_at hl 1 rfl) ?_
  refine lv_if_lt (tgt := 18) hx hb dX7_cut_1 (by decide) (fun hc => ?_) (fun hc => ?_)
  · replace hm := bq_t hc hm
    clear hc
    cases hm
  · replace hm := bq_f hc hm
    clear hc
    refine lv_iload_n hx hb dX7_cut_4 rfl (lv_at hl 1 rfl) ?_
    refine lv_aload_n hx hb dX7_cut_5 rfl (lv_at hl 0 rfl) ?_
    refine gt_X7_24 E K w 0 rfl rfl dX7_cut_6 ?_
    refine gt_X7_77 E K w 1 rfl rfl dX7_cut_9 ?_
    refine gt_X7_117 E K w 2 rfl rfl dX7_cut_12 ?_
    refine lv_icmp_lt (tgt := 28) hx hb dX7_cut_15 (by decide) (fun hc => ?_) (fun hc => ?_)
    · replace hm := bq_t hc hm
      clear hc
      refine lv_aload_n hx hb dX7_cut_28 rfl (lv_at hl 0 rfl) ?_
      refine gt_X7_24 E K w 0 rfl rfl dX7_cut_29 ?_
      refine gt_X7_77 E K w 1 rfl rfl dX7_cut_32 ?_
      refine gt_X7_125 E K w 2 rfl rfl dX7_cut_35 ?_
      refine lv_iload_n hx hb dX7_cut_38 rfl (lv_at hl 1 rfl) ?_
      obtain ⟨hI, hm⟩ := bq_ci_el hm
      refine bq_ald E K w 3 rfl hI dX7_cut_39 ?_
      obtain rfl := Option.some.inj hm
      exact bq_iret E w hr hk dX7_cut_40 hQ
    · replace hm := bq_f hc hm
      clear hc
      cases hm
abbrev rmTX7_cut : Room := { frames := 6, cells := 1, slots := 6, locals := 100 }
set_option maxHeartbeats 4000000 in
set_option maxRecDepth 100000 in
theorem tkX7_cut {l : Launch} (hlf : l.stackTraces = false) (D : va_G) (cI cJ : ClassId) (a_t a_t_rig a_t_rig_sequence a_t_rig_sequence_cuts u_t_reader u_t_trial u_t_snapshot u_t_spare u_t_rig_circuit u_t_rig_log u_t_rig_score u_t_rig_strokes u_t_rig_positions u_t_rig_timers u_t_rig_faults u_t_rig_sequence_plus u_t_rig_sequence_minus u_t_rig_sequence_pauses u_t_rig_sequence_outBefore u_t_rig_sequence_groupOfStep : Nat) (t t_rig t_rig_sequence t_rig_sequence_cuts : Nat → Int32) (x1 : Int32) (r : Nat) (hm : tX7_cut t_rig_sequence t_rig_sequence_cuts x1 = some r) : bq_MT l D cI cJ yX7_cut cX7_cut 2 (some .int) rmTX7_cut [.ref a_t, .int x1] (wdX7_cut cI a_t a_t_rig a_t_rig_sequence a_t_rig_sequence_cuts u_t_reader u_t_trial u_t_snapshot u_t_spare u_t_rig_circuit u_t_rig_log u_t_rig_score u_t_rig_strokes u_t_rig_positions u_t_rig_timers u_t_rig_faults u_t_rig_sequence_plus u_t_rig_sequence_minus u_t_rig_sequence_pauses u_t_rig_sequence_outBefore u_t_rig_sequence_groupOfStep t t_rig t_rig_sequence t_rig_sequence_cuts) (bq_cls r) := by
  refine bq_startT (by decide) (Nat.le_of_ble_eq_true rfl) ?_
  intro p e s m av9 below meth c A ls Q H locs E K w hA hnt hk hX hQ hl
  have E : bq_E p m c cX7_cut 2 s av9 RX7 := E
  have hx := E.1
  have hb := E.2.1
  have hl : lv_has ls 2 [(0, .ref a_t), (1, .int x1)] := hl
  unfold tX7_cut at hm
  refine lv_iload_n hx hb dX7_cut_0 rfl (lv_at hl 1 rfl) ?_
  refine lv_if_lt (tgt := 18) hx hb dX7_cut_1 (by decide) (fun hc => ?_) (fun hc => ?_)
  · replace hm := bq_t hc hm
    clear hc
    obtain rfl := Option.some.inj hm
    exact bq_throw (cls := "java/lang/IndexOutOfBoundsException") hlf E K w hX hnt hk hQ (by decide +kernel) bq_upf cl_X7_120 in_IndexOutOfBoundsException sr_X7_122 xa_X7_124 xb_X7_124 xg_X7_120_124 hl.1 dX7_cut_18 dX7_cut_21 dX7_cut_22 dX7_cut_24 dX7_cut_27 (Nat.le_of_ble_eq_true rfl) (Nat.le_of_ble_eq_true rfl) (Nat.le_of_ble_eq_true rfl) (Nat.le_of_ble_eq_true rfl)
  · replace hm := bq_f hc hm
    clear hc
    refine lv_iload_n hx hb dX7_cut_4 rfl (lv_at hl 1 rfl) ?_
    refine lv_aload_n hx hb dX7_cut_5 rfl (lv_at hl 0 rfl) ?_
    refine gt_X7_24 E K w 0 rfl rfl dX7_cut_6 ?_
    refine gt_X7_77 E K w 1 rfl rfl dX7_cut_9 ?_
    refine gt_X7_117 E K w 2 rfl rfl dX7_cut_12 ?_
    refine lv_icmp_lt (tgt := 28) hx hb dX7_cut_15 (by decide) (fun hc => ?_) (fun hc => ?_)
    · replace hm := bq_t hc hm
      clear hc
      cases hm
    · replace hm := bq_f hc hm
      clear hc
      obtain rfl := Option.some.inj hm
      exact bq_throw (cls := "java/lang/IndexOutOfBoundsException") hlf E K w hX hnt hk hQ (by decide +kernel) bq_upf cl_X7_120 in_IndexOutOfBoundsException sr_X7_122 xa_X7_124 xb_X7_124 xg_X7_120_124 hl.1 dX7_cut_18 dX7_cut_21 dX7_cut_22 dX7_cut_24 dX7_cut_27 (Nat.le_of_ble_eq_true rfl) (Nat.le_of_ble_eq_true rfl) (Nat.le_of_ble_eq_true rfl) (Nat.le_of_ble_eq_true rfl)
abbrev wdX7_groupOf (cI : ClassId) (a_t a_t_rig a_t_rig_sequence a_t_rig_sequence_groupOfStep u_t_reader u_t_trial u_t_snapshot u_t_spare u_t_rig_circuit u_t_rig_log u_t_rig_score u_t_rig_strokes u_t_rig_positions u_t_rig_timers u_t_rig_faults u_t_rig_sequence_plus u_t_rig_sequence_minus u_t_rig_sequence_pauses u_t_rig_sequence_outBefore u_t_rig_sequence_cuts : Nat) (t : Nat → Int32) (t_rig : Nat → Int32) (t_rig_sequence : Nat → Int32) (t_rig_sequence_groupOfStep : Nat → Int32) : va_W := [(a_t, oX7 u_t_reader a_t_rig u_t_trial u_t_snapshot u_t_spare t), (a_t_rig, oX3 a_t_rig_sequence u_t_rig_circuit u_t_rig_log u_t_rig_score u_t_rig_strokes u_t_rig_positions u_t_rig_timers u_t_rig_faults t_rig), (a_t_rig_sequence, oX5 u_t_rig_sequence_plus u_t_rig_sequence_minus u_t_rig_sequence_pauses u_t_rig_sequence_outBefore u_t_rig_sequence_cuts a_t_rig_sequence_groupOfStep t_rig_sequence), (a_t_rig_sequence_groupOfStep, oA cI 16 t_rig_sequence_groupOfStep)]
abbrev rmX7_groupOf : Room := { frames := 1, cells := 0, slots := 0, locals := 21 }
theorem hd_X7_groupOf : yX7_groupOf.cls = RX7 ∧ yX7_groupOf.cls ≠ "java/lang/invoke/MethodHandle" ∧ yX7_groupOf.cls ≠ "java/lang/invoke/VarHandle" ∧ (parseMethodDescriptor yX7_groupOf.desc).map (fun d => d.parameters.length) = some 1 := by decide +kernel
set_option maxHeartbeats 4000000 in
set_option maxRecDepth 100000 in
theorem kX7_groupOf (l : Launch) (D : va_G) (cI cJ : ClassId) (a_t a_t_rig a_t_rig_sequence a_t_rig_sequence_groupOfStep u_t_reader u_t_trial u_t_snapshot u_t_spare u_t_rig_circuit u_t_rig_log u_t_rig_score u_t_rig_strokes u_t_rig_positions u_t_rig_timers u_t_rig_faults u_t_rig_sequence_plus u_t_rig_sequence_minus u_t_rig_sequence_pauses u_t_rig_sequence_outBefore u_t_rig_sequence_cuts : Nat) (t t_rig t_rig_sequence t_rig_sequence_groupOfStep : Nat → Int32) (x1 : Int32) (r : Int32) (hm : mX7_groupOf t_rig_sequence t_rig_sequence_groupOfStep x1 = some r) : bq_M l D cI cJ yX7_groupOf cX7_groupOf 2 (some .int) rmX7_groupOf [.ref a_t, .int x1] (wdX7_groupOf cI a_t a_t_rig a_t_rig_sequence a_t_rig_sequence_groupOfStep u_t_reader u_t_trial u_t_snapshot u_t_spare u_t_rig_circuit u_t_rig_log u_t_rig_score u_t_rig_strokes u_t_rig_positions u_t_rig_timers u_t_rig_faults u_t_rig_sequence_plus u_t_rig_sequence_minus u_t_rig_sequence_pauses u_t_rig_sequence_outBefore u_t_rig_sequence_cuts t t_rig t_rig_sequence t_rig_sequence_groupOfStep) (wdX7_groupOf cI a_t a_t_rig a_t_rig_sequence a_t_rig_sequence_groupOfStep u_t_reader u_t_trial u_t_snapshot u_t_spare u_t_rig_circuit u_t_rig_log u_t_rig_score u_t_rig_strokes u_t_rig_positions u_t_rig_timers u_t_rig_faults u_t_rig_sequence_plus u_t_rig_sequence_minus u_t_rig_sequence_pauses u_t_rig_sequence_outBefore u_t_rig_sequence_cuts t t_rig t_rig_sequence t_rig_sequence_groupOfStep) (some (.int r)) := by
  refine bq_start (by decide) (Nat.le_of_ble_eq_true rfl) ?_
  intro p e s m av9 below meth c A ls Q H locs E K w hA hr hk hn hQ hl
  have E : bq_E p m c cX7_groupOf 2 s av9 RX7 := E
  have hx := E.1
  have hb := E.2.1
  have hl : lv_has ls 2 [(0, .ref a_t), (1, .int x1)] := hl
  unfold mX7_groupOf at hm
  refine lv_aload_n hx hb dX7_groupOf_0 rfl (lv_at hl 0 rfl) ?_
  refine lv_iload_n hx hb dX7_groupOf_1 rfl (lv_at hl 1 rfl) ?_
  obtain ⟨⟨⟩, hC, hm⟩ := bq_bd_el hm
  refine bq_V (As := [.int x1]) (rest := []) (st1 := []) (ws' := wdX7_groupOf cI a_t a_t_rig a_t_rig_sequence a_t_rig_sequence_groupOfStep u_t_reader u_t_trial u_t_snapshot u_t_spare u_t_rig_circuit u_t_rig_log u_t_rig_score u_t_rig_strokes u_t_rig_positions u_t_rig_timers u_t_rig_faults u_t_rig_sequence_plus u_t_rig_sequence_minus u_t_rig_sequence_pauses u_t_rig_sequence_outBefore u_t_rig_sequence_cuts t t_rig t_rig_sequence t_rig_sequence_groupOfStep) E K w hA (kX7_checkStep l D cI cJ a_t a_t_rig a_t_rig_sequence u_t_reader u_t_trial u_t_snapshot u_t_spare u_t_rig_circuit u_t_rig_log u_t_rig_score u_t_rig_strokes u_t_rig_positions u_t_rig_timers u_t_rig_faults u_t_rig_sequence_plus u_t_rig_sequence_minus u_t_rig_sequence_pauses u_t_rig_sequence_outBefore u_t_rig_sequence_cuts a_t_rig_sequence_groupOfStep t t_rig t_rig_sequence x1 hC) (bq_gV ml_X7_86 im_X7_checkStep sl_X7_checkStep in_X7 cd_X7_checkStep) hd_X7_checkStep ⟨Nat.le_of_ble_eq_true rfl, Nat.le_of_ble_eq_true rfl⟩ ⟨Nat.le_of_ble_eq_true rfl, Nat.le_of_ble_eq_true rfl⟩ ⟨[0, 1, 2], [3], [1, 2, 3, 0], rfl, rfl, rfl, rfl, rfl, rfl, rfl, rfl, rfl⟩ 0 rfl rfl rfl hl.1 rfl (Nat.le_of_ble_eq_true rfl) rfl dX7_groupOf_2 (fun H locs w => bq_z ⟨rfl, rfl⟩ ?_)
  clear hC
  refine lv_aload_n hx hb dX7_groupOf_5 rfl (lv_at hl 0 rfl) ?_
  refine gt_X7_24 E K w 0 rfl rfl dX7_groupOf_6 ?_
  refine gt_X7_77 E K w 1 rfl rfl dX7_groupOf_9 ?_
  refine gt_X7_128 E K w 2 rfl rfl dX7_groupOf_12 ?_
  refine lv_iload_n hx hb dX7_groupOf_15 rfl (lv_at hl 1 rfl) ?_
  obtain ⟨hI, hm⟩ := bq_ci_el hm
  refine bq_ald E K w 3 rfl hI dX7_groupOf_16 ?_
  obtain rfl := Option.some.inj hm
  exact bq_iret E w hr hk dX7_groupOf_17 hQ
abbrev rmTX7_groupOf : Room := { frames := 7, cells := 1, slots := 6, locals := 121 }
set_option maxHeartbeats 4000000 in
set_option maxRecDepth 100000 in
theorem tkX7_groupOf {l : Launch} (hlf : l.stackTraces = false) (D : va_G) (cI cJ : ClassId) (a_t a_t_rig a_t_rig_sequence a_t_rig_sequence_groupOfStep u_t_reader u_t_trial u_t_snapshot u_t_spare u_t_rig_circuit u_t_rig_log u_t_rig_score u_t_rig_strokes u_t_rig_positions u_t_rig_timers u_t_rig_faults u_t_rig_sequence_plus u_t_rig_sequence_minus u_t_rig_sequence_pauses u_t_rig_sequence_outBefore u_t_rig_sequence_cuts : Nat) (t t_rig t_rig_sequence t_rig_sequence_groupOfStep : Nat → Int32) (x1 : Int32) (r : Nat) (hm : tX7_groupOf t_rig_sequence t_rig_sequence_groupOfStep x1 = some r) : bq_MT l D cI cJ yX7_groupOf cX7_groupOf 2 (some .int) rmTX7_groupOf [.ref a_t, .int x1] (wdX7_groupOf cI a_t a_t_rig a_t_rig_sequence a_t_rig_sequence_groupOfStep u_t_reader u_t_trial u_t_snapshot u_t_spare u_t_rig_circuit u_t_rig_log u_t_rig_score u_t_rig_strokes u_t_rig_positions u_t_rig_timers u_t_rig_faults u_t_rig_sequence_plus u_t_rig_sequence_minus u_t_rig_sequence_pauses u_t_rig_sequence_outBefore u_t_rig_sequence_cuts t t_rig t_rig_sequence t_rig_sequence_groupOfStep) (bq_cls r) := by
  refine bq_startT (by decide) (Nat.le_of_ble_eq_true rfl) ?_
  intro p e s m av9 below meth c A ls Q H locs E K w hA hnt hk hX hQ hl
  have E : bq_E p m c cX7_groupOf 2 s av9 RX7 := E
  have hx := E.1
  have hb := E.2.1
  have hl : lv_has ls 2 [(0, .ref a_t), (1, .int x1)] := hl
  unfold tX7_groupOf at hm
  refine lv_aload_n hx hb dX7_groupOf_0 rfl (lv_at hl 0 rfl) ?_
  refine lv_iload_n hx hb dX7_groupOf_1 rfl (lv_at hl 1 rfl) ?_
  refine (bq_tc_el hm).elim (fun hC => ?_) (fun hm => ?_)
  · exact bq_TV (As := [.int x1]) (rest := []) E K w hA hX hnt hk ⟨rfl, rfl⟩ (tkX7_checkStep hlf D cI cJ a_t a_t_rig a_t_rig_sequence u_t_reader u_t_trial u_t_snapshot u_t_spare u_t_rig_circuit u_t_rig_log u_t_rig_score u_t_rig_strokes u_t_rig_positions u_t_rig_timers u_t_rig_faults u_t_rig_sequence_plus u_t_rig_sequence_minus u_t_rig_sequence_pauses u_t_rig_sequence_outBefore u_t_rig_sequence_cuts a_t_rig_sequence_groupOfStep t t_rig t_rig_sequence x1 _ hC) (bq_gV ml_X7_86 im_X7_checkStep sl_X7_checkStep in_X7 cd_X7_checkStep) hd_X7_checkStep ⟨Nat.le_of_ble_eq_true rfl, Nat.le_of_ble_eq_true rfl⟩ ⟨Nat.le_of_ble_eq_true rfl, Nat.le_of_ble_eq_true rfl⟩ ⟨[0, 1, 2], [3], [1, 2, 3, 0], rfl, rfl, rfl, rfl, rfl, rfl, rfl, rfl, rfl⟩ 0 rfl rfl rfl hl.1 rfl (Nat.le_of_ble_eq_true rfl) dX7_groupOf_2 hQ
  obtain ⟨⟨⟩, hC, hm⟩ := bq_bd_el hm
  refine bq_V (As := [.int x1]) (rest := []) (st1 := []) (ws' := wdX7_groupOf cI a_t a_t_rig a_t_rig_sequence a_t_rig_sequence_groupOfStep u_t_reader u_t_trial u_t_snapshot u_t_spare u_t_rig_circuit u_t_rig_log u_t_rig_score u_t_rig_strokes u_t_rig_positions u_t_rig_timers u_t_rig_faults u_t_rig_sequence_plus u_t_rig_sequence_minus u_t_rig_sequence_pauses u_t_rig_sequence_outBefore u_t_rig_sequence_cuts t t_rig t_rig_sequence t_rig_sequence_groupOfStep) E K w hA (kX7_checkStep l D cI cJ a_t a_t_rig a_t_rig_sequence u_t_reader u_t_trial u_t_snapshot u_t_spare u_t_rig_circuit u_t_rig_log u_t_rig_score u_t_rig_strokes u_t_rig_positions u_t_rig_timers u_t_rig_faults u_t_rig_sequence_plus u_t_rig_sequence_minus u_t_rig_sequence_pauses u_t_rig_sequence_outBefore u_t_rig_sequence_cuts a_t_rig_sequence_groupOfStep t t_rig t_rig_sequence x1 hC) (bq_gV ml_X7_86 im_X7_checkStep sl_X7_checkStep in_X7 cd_X7_checkStep) hd_X7_checkStep ⟨Nat.le_of_ble_eq_true rfl, Nat.le_of_ble_eq_true rfl⟩ ⟨Nat.le_of_ble_eq_true rfl, Nat.le_of_ble_eq_true rfl⟩ ⟨[0, 1, 2], [3], [1, 2, 3, 0], rfl, rfl, rfl, rfl, rfl, rfl, rfl, rfl, rfl⟩ 0 rfl rfl rfl hl.1 rfl (Nat.le_of_ble_eq_true rfl) rfl dX7_groupOf_2 (fun H locs w => bq_z ⟨rfl, rfl⟩ ?_)
  clear hC
  cases hm
abbrev wdX7_countValves (cI : ClassId) (a_t a_t_rig a_t_rig_sequence a_t_rig_sequence_minus a_t_rig_sequence_plus u_t_reader u_t_trial u_t_snapshot u_t_spare u_t_rig_circuit u_t_rig_log u_t_rig_score u_t_rig_strokes u_t_rig_positions u_t_rig_timers u_t_rig_faults u_t_rig_sequence_pauses u_t_rig_sequence_outBefore u_t_rig_sequence_cuts u_t_rig_sequence_groupOfStep : Nat) (t : Nat → Int32) (t_rig : Nat → Int32) (t_rig_sequence : Nat → Int32) (t_rig_sequence_minus : Nat → Int32) (t_rig_sequence_plus : Nat → Int32) : va_W := [(a_t, oX7 u_t_reader a_t_rig u_t_trial u_t_snapshot u_t_spare t), (a_t_rig, oX3 a_t_rig_sequence u_t_rig_circuit u_t_rig_log u_t_rig_score u_t_rig_strokes u_t_rig_positions u_t_rig_timers u_t_rig_faults t_rig), (a_t_rig_sequence, oX5 a_t_rig_sequence_plus a_t_rig_sequence_minus u_t_rig_sequence_pauses u_t_rig_sequence_outBefore u_t_rig_sequence_cuts u_t_rig_sequence_groupOfStep t_rig_sequence), (a_t_rig_sequence_minus, oA cI 16 t_rig_sequence_minus), (a_t_rig_sequence_plus, oA cI 16 t_rig_sequence_plus)]
abbrev rmX7_countValves : Room := { frames := 2, cells := 0, slots := 0, locals := 43 }
theorem hd_X7_countValves : yX7_countValves.cls = RX7 ∧ yX7_countValves.cls ≠ "java/lang/invoke/MethodHandle" ∧ yX7_countValves.cls ≠ "java/lang/invoke/VarHandle" ∧ (parseMethodDescriptor yX7_countValves.desc).map (fun d => d.parameters.length) = some 1 := by decide +kernel
set_option maxHeartbeats 4000000 in
set_option maxRecDepth 100000 in
theorem kX7_countValves (l : Launch) (D : va_G) (cI cJ : ClassId) (a_t a_t_rig a_t_rig_sequence a_t_rig_sequence_minus a_t_rig_sequence_plus u_t_reader u_t_trial u_t_snapshot u_t_spare u_t_rig_circuit u_t_rig_log u_t_rig_score u_t_rig_strokes u_t_rig_positions u_t_rig_timers u_t_rig_faults u_t_rig_sequence_pauses u_t_rig_sequence_outBefore u_t_rig_sequence_cuts u_t_rig_sequence_groupOfStep : Nat) (t t_rig t_rig_sequence t_rig_sequence_minus t_rig_sequence_plus : Nat → Int32) (x1 : Int32) (r : Int32) (hm : mX7_countValves t_rig_sequence t_rig_sequence_minus t_rig_sequence_plus x1 = some r) : bq_M l D cI cJ yX7_countValves cX7_countValves 3 (some .int) rmX7_countValves [.ref a_t, .int x1] (wdX7_countValves cI a_t a_t_rig a_t_rig_sequence a_t_rig_sequence_minus a_t_rig_sequence_plus u_t_reader u_t_trial u_t_snapshot u_t_spare u_t_rig_circuit u_t_rig_log u_t_rig_score u_t_rig_strokes u_t_rig_positions u_t_rig_timers u_t_rig_faults u_t_rig_sequence_pauses u_t_rig_sequence_outBefore u_t_rig_sequence_cuts u_t_rig_sequence_groupOfStep t t_rig t_rig_sequence t_rig_sequence_minus t_rig_sequence_plus) (wdX7_countValves cI a_t a_t_rig a_t_rig_sequence a_t_rig_sequence_minus a_t_rig_sequence_plus u_t_reader u_t_trial u_t_snapshot u_t_spare u_t_rig_circuit u_t_rig_log u_t_rig_score u_t_rig_strokes u_t_rig_positions u_t_rig_timers u_t_rig_faults u_t_rig_sequence_pauses u_t_rig_sequence_outBefore u_t_rig_sequence_cuts u_t_rig_sequence_groupOfStep t t_rig t_rig_sequence t_rig_sequence_minus t_rig_sequence_plus) (some (.int r)) := by
  refine bq_start (by decide) (Nat.le_of_ble_eq_true rfl) ?_
  intro p e s m av9 below meth c A ls Q H locs E K w hA hr hk hn hQ hl
  have E : bq_E p m c cX7_countValves 3 s av9 RX7 := E
  have hx := E.1
  have hb := E.2.1
  have hl : lv_has ls 3 [(0, .ref a_t), (1, .int x1)] := hl
  unfold mX7_countValves at hm
  refine lv_aload_n hx hb dX7_countValves_0 rfl (lv_at hl 0 rfl) ?_
  refine gt_X7_24 E K w 0 rfl rfl dX7_countValves_1 ?_
  refine gt_X7_77 E K w 1 rfl rfl dX7_countValves_4 ?_
  obtain ⟨v1, hC, hm⟩ := bq_bd_el hm
  refine bq_V (As := []) (rest := []) (st1 := [.int v1]) (ws' := wdX7_countValves cI a_t a_t_rig a_t_rig_sequence a_t_rig_sequence_minus a_t_rig_sequence_plus u_t_reader u_t_trial u_t_snapshot u_t_spare u_t_rig_circuit u_t_rig_log u_t_rig_score u_t_rig_strokes u_t_rig_positions u_t_rig_timers u_t_rig_faults u_t_rig_sequence_pauses u_t_rig_sequence_outBefore u_t_rig_sequence_cuts u_t_rig_sequence_groupOfStep t t_rig t_rig_sequence t_rig_sequence_minus t_rig_sequence_plus) E K w hA (kX5_movingCylinders l D cI cJ a_t_rig_sequence a_t_rig_sequence_minus a_t_rig_sequence_plus u_t_rig_sequence_pauses u_t_rig_sequence_outBefore u_t_rig_sequence_cuts u_t_rig_sequence_groupOfStep t_rig_sequence t_rig_sequence_minus t_rig_sequence_plus v1 hC) (bq_gV ml_X7_264 im_X5_movingCylinders sl_X5_movingCylinders in_X5 cd_X5_movingCylinders) hd_X5_movingCylinders ⟨Nat.le_of_ble_eq_true rfl, Nat.le_of_ble_eq_true rfl⟩ ⟨Nat.le_of_ble_eq_true rfl, Nat.le_of_ble_eq_true rfl⟩ ⟨[2, 3, 4], [0, 1], [0, 1, 2, 3, 4], rfl, rfl, rfl, rfl, rfl, rfl, rfl, rfl, rfl⟩ 2 rfl rfl rfl hl.1 rfl (Nat.le_of_ble_eq_true rfl) rfl dX7_countValves_7 (fun H locs w => bq_z ⟨rfl, rfl⟩ ?_)
  clear hC
  obtain ⟨v2, hC, hm⟩ := bq_bd_el hm
  refine bq_S0 (As := [.int v1]) (rest := []) (st1 := [.int v2]) E K w hA (kJ6_bitCount_0f7a4 l D cI cJ v1 v2 hC) cd_J6_bitCount_0f7a4 ml_X7_267 in_J6 st_J6_bitCount_0f7a4 hs_J6_bitCount_0f7a4 ⟨Nat.le_of_ble_eq_true rfl, Nat.le_of_ble_eq_true rfl⟩ ⟨Nat.le_of_ble_eq_true rfl, Nat.le_of_ble_eq_true rfl⟩ rfl hl.1 rfl (Nat.le_of_ble_eq_true rfl) rfl dX7_countValves_10 (fun H locs w => bq_z ⟨rfl, rfl⟩ ?_)
  clear hC
  refine lv_istore_n (lv' := [(2, .int v2), (0, .ref a_t), (1, .int x1)]) hx hb dX7_countValves_13 rfl hl (by decide) rfl (fun ls hl => ?_)
  refine lv_iload_n hx hb dX7_countValves_14 rfl (lv_at hl 2 rfl) ?_
  refine lv_if_ne (tgt := 20) hx hb dX7_countValves_15 (by decide) (fun hc => ?_) (fun hc => ?_)
  · replace hm := bq_f hc hm
    clear hc
    refine lv_iload_n hx hb dX7_countValves_20 rfl (lv_at hl 0 rfl) ?_
    refine lv_iload_n hx hb dX7_countValves_21 rfl (lv_at hl 2 rfl) ?_
    refine lv_iconst (v := 1) hx hb dX7_countValves_22 (by decide) ?_
    obtain ⟨v3, hT51, hm⟩ := bq_let_el hm
    have K51 : ∀ (H : Heap) (locs : List Loc) (ls : Array Slot), bq_w D A s.heap (wdX7_countValves cI a_t a_t_rig a_t_rig_sequence a_t_rig_sequence_minus a_t_rig_sequence_plus u_t_reader u_t_trial u_t_snapshot u_t_spare u_t_rig_circuit u_t_rig_log u_t_rig_score u_t_rig_strokes u_t_rig_positions u_t_rig_timers u_t_rig_faults u_t_rig_sequence_pauses u_t_rig_sequence_outBefore u_t_rig_sequence_cuts u_t_rig_sequence_groupOfStep t t_rig t_rig_sequence t_rig_sequence_minus t_rig_sequence_plus) H locs → lv_has ls 3 [] → W p l e rmX7_countValves s m av9 below meth c H locs 0 0 Q (F0 m 51 ls [.int v3, .int v2]) := by
      intro H locs ls w hl
      refine lv_iadd hx hb dX7_countValves_51 ?_
      obtain rfl := Option.some.inj hm
      exact bq_iret E w hr hk dX7_countValves_52 hQ
    clear hm
    refine lv_icmp_ne (tgt := 41) hx hb dX7_countValves_23 (by decide) (fun hc => ?_) (fun hc => ?_)
    · replace hT51 := bq_ef hc hT51
      clear hc
      refine lv_aload_n hx hb dX7_countValves_41 rfl (lv_at hl 1 rfl) ?_
      refine gt_X7_24 E K w 0 rfl rfl dX7_countValves_42 ?_
      refine gt_X7_77 E K w 1 rfl rfl dX7_countValves_45 ?_
      refine gt_X7_83 E K w 2 rfl rfl dX7_countValves_48 ?_
      subst hT51
      exact K51 H locs ls w (lv_sub hl [] rfl)
    · replace hT51 := bq_et hc hT51
      clear hc
      refine lv_aload_n hx hb dX7_countValves_26 rfl (lv_at hl 1 rfl) ?_
      refine gt_X7_24 E K w 0 rfl rfl dX7_countValves_27 ?_
      refine gt_X7_77 E K w 1 rfl rfl dX7_countValves_30 ?_
      refine gt_X7_117 E K w 2 rfl rfl dX7_countValves_33 ?_
      refine lv_iconst (v := 1) hx hb dX7_countValves_36 (by decide) ?_
      refine lv_isub hx hb dX7_countValves_37 ?_
      refine lv_goto (tgt := 51) hx hb dX7_countValves_38 (by decide) ?_
      subst hT51
      exact K51 H locs ls w (lv_sub hl [] rfl)
  · replace hm := bq_t hc hm
    clear hc
    refine lv_iload_n hx hb dX7_countValves_18 rfl (lv_at hl 0 rfl) ?_
    obtain rfl := Option.some.inj hm
    exact bq_iret E w hr hk dX7_countValves_19 hQ
abbrev wdX7_valves (cI : ClassId) (a_t a_t_rig a_t_rig_sequence a_t_rig_sequence_minus a_t_rig_sequence_plus u_t_reader u_t_trial u_t_snapshot u_t_spare u_t_rig_circuit u_t_rig_log u_t_rig_score u_t_rig_strokes u_t_rig_positions u_t_rig_timers u_t_rig_faults u_t_rig_sequence_pauses u_t_rig_sequence_outBefore u_t_rig_sequence_cuts u_t_rig_sequence_groupOfStep : Nat) (t : Nat → Int32) (t_rig : Nat → Int32) (t_rig_sequence : Nat → Int32) (t_rig_sequence_minus : Nat → Int32) (t_rig_sequence_plus : Nat → Int32) : va_W := [(a_t, oX7 u_t_reader a_t_rig u_t_trial u_t_snapshot u_t_spare t), (a_t_rig, oX3 a_t_rig_sequence u_t_rig_circuit u_t_rig_log u_t_rig_score u_t_rig_strokes u_t_rig_positions u_t_rig_timers u_t_rig_faults t_rig), (a_t_rig_sequence, oX5 a_t_rig_sequence_plus a_t_rig_sequence_minus u_t_rig_sequence_pauses u_t_rig_sequence_outBefore u_t_rig_sequence_cuts u_t_rig_sequence_groupOfStep t_rig_sequence), (a_t_rig_sequence_minus, oA cI 16 t_rig_sequence_minus), (a_t_rig_sequence_plus, oA cI 16 t_rig_sequence_plus)]
abbrev rmX7_valves : Room := { frames := 3, cells := 0, slots := 0, locals := 65 }
theorem hd_X7_valves : yX7_valves.cls = RX7 ∧ yX7_valves.cls ≠ "java/lang/invoke/MethodHandle" ∧ yX7_valves.cls ≠ "java/lang/invoke/VarHandle" ∧ (parseMethodDescriptor yX7_valves.desc).map (fun d => d.parameters.length) = some 1 := by decide +kernel
set_option maxHeartbeats 4000000 in
set_option maxRecDepth 100000 in
theorem kX7_valves (l : Launch) (D : va_G) (cI cJ : ClassId) (a_t a_t_rig a_t_rig_sequence a_t_rig_sequence_minus a_t_rig_sequence_plus u_t_reader u_t_trial u_t_snapshot u_t_spare u_t_rig_circuit u_t_rig_log u_t_rig_score u_t_rig_strokes u_t_rig_positions u_t_rig_timers u_t_rig_faults u_t_rig_sequence_pauses u_t_rig_sequence_outBefore u_t_rig_sequence_cuts u_t_rig_sequence_groupOfStep : Nat) (t t_rig t_rig_sequence t_rig_sequence_minus t_rig_sequence_plus : Nat → Int32) (x1 : Int32) (r : Int32) (hm : mX7_valves t_rig_sequence t_rig_sequence_minus t_rig_sequence_plus x1 = some r) : bq_M l D cI cJ yX7_valves cX7_valves 2 (some .int) rmX7_valves [.ref a_t, .int x1] (wdX7_valves cI a_t a_t_rig a_t_rig_sequence a_t_rig_sequence_minus a_t_rig_sequence_plus u_t_reader u_t_trial u_t_snapshot u_t_spare u_t_rig_circuit u_t_rig_log u_t_rig_score u_t_rig_strokes u_t_rig_positions u_t_rig_timers u_t_rig_faults u_t_rig_sequence_pauses u_t_rig_sequence_outBefore u_t_rig_sequence_cuts u_t_rig_sequence_groupOfStep t t_rig t_rig_sequence t_rig_sequence_minus t_rig_sequence_plus) (wdX7_valves cI a_t a_t_rig a_t_rig_sequence a_t_rig_sequence_minus a_t_rig_sequence_plus u_t_reader u_t_trial u_t_snapshot u_t_spare u_t_rig_circuit u_t_rig_log u_t_rig_score u_t_rig_strokes u_t_rig_positions u_t_rig_timers u_t_rig_faults u_t_rig_sequence_pauses u_t_rig_sequence_outBefore u_t_rig_sequence_cuts u_t_rig_sequence_groupOfStep t t_rig t_rig_sequence t_rig_sequence_minus t_rig_sequence_plus) (some (.int r)) := by
  refine bq_start (by decide) (Nat.le_of_ble_eq_true rfl) ?_
  intro p e s m av9 below meth c A ls Q H locs E K w hA hr hk hn hQ hl
  have E : bq_E p m c cX7_valves 2 s av9 RX7 := E
  have hx := E.1
  have hb := E.2.1
  have hl : lv_has ls 2 [(0, .ref a_t), (1, .int x1)] := hl
  unfold mX7_valves at hm
  refine lv_iload_n hx hb dX7_valves_0 rfl (lv_at hl 1 rfl) ?_
  obtain ⟨⟨⟩, hC, hm⟩ := bq_bd_el hm
  refine bq_S0 (As := [.int x1]) (rest := []) (st1 := []) E K w hA (kX7_checkMethod l D cI cJ x1 hC) cd_X7_checkMethod ml_X7_131 in_X7 st_X7_checkMethod hs_X7_checkMethod ⟨Nat.le_of_ble_eq_true rfl, Nat.le_of_ble_eq_true rfl⟩ ⟨Nat.le_of_ble_eq_true rfl, Nat.le_of_ble_eq_true rfl⟩ rfl hl.1 rfl (Nat.le_of_ble_eq_true rfl) rfl dX7_valves_1 (fun H locs w => bq_z ⟨rfl, rfl⟩ ?_)
  clear hC
  refine lv_aload_n hx hb dX7_valves_4 rfl (lv_at hl 0 rfl) ?_
  obtain ⟨⟨⟩, hC, hm⟩ := bq_bd_el hm
  refine bq_V (As := []) (rest := []) (st1 := []) (ws' := wdX7_valves cI a_t a_t_rig a_t_rig_sequence a_t_rig_sequence_minus a_t_rig_sequence_plus u_t_reader u_t_trial u_t_snapshot u_t_spare u_t_rig_circuit u_t_rig_log u_t_rig_score u_t_rig_strokes u_t_rig_positions u_t_rig_timers u_t_rig_faults u_t_rig_sequence_pauses u_t_rig_sequence_outBefore u_t_rig_sequence_cuts u_t_rig_sequence_groupOfStep t t_rig t_rig_sequence t_rig_sequence_minus t_rig_sequence_plus) E K w hA (kX7_checkSequence l D cI cJ a_t a_t_rig a_t_rig_sequence u_t_reader u_t_trial u_t_snapshot u_t_spare u_t_rig_circuit u_t_rig_log u_t_rig_score u_t_rig_strokes u_t_rig_positions u_t_rig_timers u_t_rig_faults a_t_rig_sequence_plus a_t_rig_sequence_minus u_t_rig_sequence_pauses u_t_rig_sequence_outBefore u_t_rig_sequence_cuts u_t_rig_sequence_groupOfStep t t_rig t_rig_sequence hC) (bq_gV ml_X7_110 im_X7_checkSequence sl_X7_checkSequence in_X7 cd_X7_checkSequence) hd_X7_checkSequence ⟨Nat.le_of_ble_eq_true rfl, Nat.le_of_ble_eq_true rfl⟩ ⟨Nat.le_of_ble_eq_true rfl, Nat.le_of_ble_eq_true rfl⟩ ⟨[0, 1, 2], [3, 4], [2, 3, 4, 0, 1], rfl, rfl, rfl, rfl, rfl, rfl, rfl, rfl, rfl⟩ 0 rfl rfl rfl hl.1 rfl (Nat.le_of_ble_eq_true rfl) rfl dX7_valves_5 (fun H locs w => bq_z ⟨rfl, rfl⟩ ?_)
  clear hC
  refine lv_aload_n hx hb dX7_valves_8 rfl (lv_at hl 0 rfl) ?_
  refine lv_iload_n hx hb dX7_valves_9 rfl (lv_at hl 1 rfl) ?_
  obtain ⟨v1, hC, hm⟩ := bq_bd_el hm
  refine bq_V (As := [.int x1]) (rest := []) (st1 := [.int v1]) (ws' := wdX7_valves cI a_t a_t_rig a_t_rig_sequence a_t_rig_sequence_minus a_t_rig_sequence_plus u_t_reader u_t_trial u_t_snapshot u_t_spare u_t_rig_circuit u_t_rig_log u_t_rig_score u_t_rig_strokes u_t_rig_positions u_t_rig_timers u_t_rig_faults u_t_rig_sequence_pauses u_t_rig_sequence_outBefore u_t_rig_sequence_cuts u_t_rig_sequence_groupOfStep t t_rig t_rig_sequence t_rig_sequence_minus t_rig_sequence_plus) E K w hA (kX7_countValves l D cI cJ a_t a_t_rig a_t_rig_sequence a_t_rig_sequence_minus a_t_rig_sequence_plus u_t_reader u_t_trial u_t_snapshot u_t_spare u_t_rig_circuit u_t_rig_log u_t_rig_score u_t_rig_strokes u_t_rig_positions u_t_rig_timers u_t_rig_faults u_t_rig_sequence_pauses u_t_rig_sequence_outBefore u_t_rig_sequence_cuts u_t_rig_sequence_groupOfStep t t_rig t_rig_sequence t_rig_sequence_minus t_rig_sequence_plus x1 v1 hC) (bq_gV ml_X7_134 im_X7_countValves sl_X7_countValves in_X7 cd_X7_countValves) hd_X7_countValves ⟨Nat.le_of_ble_eq_true rfl, Nat.le_of_ble_eq_true rfl⟩ ⟨Nat.le_of_ble_eq_true rfl, Nat.le_of_ble_eq_true rfl⟩ ⟨[0, 1, 2, 3, 4], [], [0, 1, 2, 3, 4], rfl, rfl, rfl, rfl, rfl, rfl, rfl, rfl, rfl⟩ 0 rfl rfl rfl hl.1 rfl (Nat.le_of_ble_eq_true rfl) rfl dX7_valves_10 (fun H locs w => bq_z ⟨rfl, rfl⟩ ?_)
  clear hC
  obtain rfl := Option.some.inj hm
  exact bq_iret E w hr hk dX7_valves_13 hQ
abbrev rmTX7_valves : Room := { frames := 7, cells := 1, slots := 6, locals := 120 }
set_option maxHeartbeats 4000000 in
set_option maxRecDepth 100000 in
theorem tkX7_valves {l : Launch} (hlf : l.stackTraces = false) (D : va_G) (cI cJ : ClassId) (a_t a_t_rig a_t_rig_sequence a_t_rig_sequence_minus a_t_rig_sequence_plus u_t_reader u_t_trial u_t_snapshot u_t_spare u_t_rig_circuit u_t_rig_log u_t_rig_score u_t_rig_strokes u_t_rig_positions u_t_rig_timers u_t_rig_faults u_t_rig_sequence_pauses u_t_rig_sequence_outBefore u_t_rig_sequence_cuts u_t_rig_sequence_groupOfStep : Nat) (t t_rig t_rig_sequence t_rig_sequence_minus t_rig_sequence_plus : Nat → Int32) (x1 : Int32) (r : Nat) (hm : tX7_valves t_rig_sequence t_rig_sequence_minus t_rig_sequence_plus x1 = some r) : bq_MT l D cI cJ yX7_valves cX7_valves 2 (some .int) rmTX7_valves [.ref a_t, .int x1] (wdX7_valves cI a_t a_t_rig a_t_rig_sequence a_t_rig_sequence_minus a_t_rig_sequence_plus u_t_reader u_t_trial u_t_snapshot u_t_spare u_t_rig_circuit u_t_rig_log u_t_rig_score u_t_rig_strokes u_t_rig_positions u_t_rig_timers u_t_rig_faults u_t_rig_sequence_pauses u_t_rig_sequence_outBefore u_t_rig_sequence_cuts u_t_rig_sequence_groupOfStep t t_rig t_rig_sequence t_rig_sequence_minus t_rig_sequence_plus) (bq_cls r) := by
  refine bq_startT (by decide) (Nat.le_of_ble_eq_true rfl) ?_
  intro p e s m av9 below meth c A ls Q H locs E K w hA hnt hk hX hQ hl
  have E : bq_E p m c cX7_valves 2 s av9 RX7 := E
  have hx := E.1
  have hb := E.2.1
  have hl : lv_has ls 2 [(0, .ref a_t), (1, .int x1)] := hl
  unfold tX7_valves at hm
  refine lv_iload_n hx hb dX7_valves_0 rfl (lv_at hl 1 rfl) ?_
  refine (bq_tc_el hm).elim (fun hC => ?_) (fun hm => ?_)
  · exact bq_TS (As := [.int x1]) (rest := []) E K w hA hX hnt hk ⟨rfl, rfl⟩ (tkX7_checkMethod hlf D cI cJ x1 _ hC) cd_X7_checkMethod ml_X7_131 in_X7 st_X7_checkMethod hs_X7_checkMethod ⟨Nat.le_of_ble_eq_true rfl, Nat.le_of_ble_eq_true rfl⟩ ⟨Nat.le_of_ble_eq_true rfl, Nat.le_of_ble_eq_true rfl⟩ ⟨[], [0, 1, 2, 3, 4], [0, 1, 2, 3, 4], rfl, rfl, rfl, rfl, rfl, rfl, rfl, rfl, rfl⟩ rfl hl.1 rfl (Nat.le_of_ble_eq_true rfl) dX7_valves_1 hQ
  obtain ⟨⟨⟩, hC, hm⟩ := bq_bd_el hm
  refine bq_S0 (As := [.int x1]) (rest := []) (st1 := []) E K w hA (kX7_checkMethod l D cI cJ x1 hC) cd_X7_checkMethod ml_X7_131 in_X7 st_X7_checkMethod hs_X7_checkMethod ⟨Nat.le_of_ble_eq_true rfl, Nat.le_of_ble_eq_true rfl⟩ ⟨Nat.le_of_ble_eq_true rfl, Nat.le_of_ble_eq_true rfl⟩ rfl hl.1 rfl (Nat.le_of_ble_eq_true rfl) rfl dX7_valves_1 (fun H locs w => bq_z ⟨rfl, rfl⟩ ?_)
  clear hC
  refine lv_aload_n hx hb dX7_valves_4 rfl (lv_at hl 0 rfl) ?_
  refine (bq_tc_el hm).elim (fun hC => ?_) (fun hm => ?_)
  · exact bq_TV (As := []) (rest := []) E K w hA hX hnt hk ⟨rfl, rfl⟩ (tkX7_checkSequence hlf D cI cJ a_t a_t_rig a_t_rig_sequence u_t_reader u_t_trial u_t_snapshot u_t_spare u_t_rig_circuit u_t_rig_log u_t_rig_score u_t_rig_strokes u_t_rig_positions u_t_rig_timers u_t_rig_faults a_t_rig_sequence_plus a_t_rig_sequence_minus u_t_rig_sequence_pauses u_t_rig_sequence_outBefore u_t_rig_sequence_cuts u_t_rig_sequence_groupOfStep t t_rig t_rig_sequence _ hC) (bq_gV ml_X7_110 im_X7_checkSequence sl_X7_checkSequence in_X7 cd_X7_checkSequence) hd_X7_checkSequence ⟨Nat.le_of_ble_eq_true rfl, Nat.le_of_ble_eq_true rfl⟩ ⟨Nat.le_of_ble_eq_true rfl, Nat.le_of_ble_eq_true rfl⟩ ⟨[0, 1, 2], [3, 4], [2, 3, 4, 0, 1], rfl, rfl, rfl, rfl, rfl, rfl, rfl, rfl, rfl⟩ 0 rfl rfl rfl hl.1 rfl (Nat.le_of_ble_eq_true rfl) dX7_valves_5 hQ
  obtain ⟨⟨⟩, hC, hm⟩ := bq_bd_el hm
  refine bq_V (As := []) (rest := []) (st1 := []) (ws' := wdX7_valves cI a_t a_t_rig a_t_rig_sequence a_t_rig_sequence_minus a_t_rig_sequence_plus u_t_reader u_t_trial u_t_snapshot u_t_spare u_t_rig_circuit u_t_rig_log u_t_rig_score u_t_rig_strokes u_t_rig_positions u_t_rig_timers u_t_rig_faults u_t_rig_sequence_pauses u_t_rig_sequence_outBefore u_t_rig_sequence_cuts u_t_rig_sequence_groupOfStep t t_rig t_rig_sequence t_rig_sequence_minus t_rig_sequence_plus) E K w hA (kX7_checkSequence l D cI cJ a_t a_t_rig a_t_rig_sequence u_t_reader u_t_trial u_t_snapshot u_t_spare u_t_rig_circuit u_t_rig_log u_t_rig_score u_t_rig_strokes u_t_rig_positions u_t_rig_timers u_t_rig_faults a_t_rig_sequence_plus a_t_rig_sequence_minus u_t_rig_sequence_pauses u_t_rig_sequence_outBefore u_t_rig_sequence_cuts u_t_rig_sequence_groupOfStep t t_rig t_rig_sequence hC) (bq_gV ml_X7_110 im_X7_checkSequence sl_X7_checkSequence in_X7 cd_X7_checkSequence) hd_X7_checkSequence ⟨Nat.le_of_ble_eq_true rfl, Nat.le_of_ble_eq_true rfl⟩ ⟨Nat.le_of_ble_eq_true rfl, Nat.le_of_ble_eq_true rfl⟩ ⟨[0, 1, 2], [3, 4], [2, 3, 4, 0, 1], rfl, rfl, rfl, rfl, rfl, rfl, rfl, rfl, rfl⟩ 0 rfl rfl rfl hl.1 rfl (Nat.le_of_ble_eq_true rfl) rfl dX7_valves_5 (fun H locs w => bq_z ⟨rfl, rfl⟩ ?_)
  clear hC
  cases hm
