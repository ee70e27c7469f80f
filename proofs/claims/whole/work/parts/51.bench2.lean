abbrev wdX7_setMethod (cI : ClassId) (a_t a_t_rig a_t_rig_circuit a_t_rig_log a_t_rig_positions a_t_rig_score a_t_rig_sequence a_t_rig_sequence_minus a_t_rig_sequence_plus a_t_rig_timers u_t_reader u_t_trial u_t_snapshot u_t_spare u_t_rig_strokes u_t_rig_faults u_t_rig_log_times u_t_rig_log_moves u_t_rig_sequence_pauses u_t_rig_sequence_outBefore u_t_rig_sequence_cuts u_t_rig_sequence_groupOfStep : Nat) (t : Nat → Int32) (t_rig : Nat → Int32) (t_rig_circuit : Nat → Int32) (t_rig_log : Nat → Int32) (t_rig_positions : Nat → Int32) (t_rig_score : Nat → Int32) (t_rig_sequence : Nat → Int32) (t_rig_sequence_minus : Nat → Int32) (t_rig_sequence_plus : Nat → Int32) (t_rig_timers : Nat → Int32) : va_W := [(a_t, oX7 u_t_reader a_t_rig u_t_trial u_t_snapshot u_t_spare t), (a_t_rig, oX3 a_t_rig_sequence a_t_rig_circuit a_t_rig_log a_t_rig_score u_t_rig_strokes a_t_rig_positions a_t_rig_timers u_t_rig_faults t_rig), (a_t_rig_circuit, oX0 t_rig_circuit), (a_t_rig_log, oX1 u_t_rig_log_times u_t_rig_log_moves t_rig_log), (a_t_rig_positions, oA cI 6 t_rig_positions), (a_t_rig_score, oX4 t_rig_score), (a_t_rig_sequence, oX5 a_t_rig_sequence_plus a_t_rig_sequence_minus u_t_rig_sequence_pauses u_t_rig_sequence_outBefore u_t_rig_sequence_cuts u_t_rig_sequence_groupOfStep t_rig_sequence), (a_t_rig_sequence_minus, oA cI 16 t_rig_sequence_minus), (a_t_rig_sequence_plus, oA cI 16 t_rig_sequence_plus), (a_t_rig_timers, oA cI 16 t_rig_timers)]
abbrev rmX7_setMethod : Room := { frames := 3, cells := 0, slots := 0, locals := 64 }
theorem hd_X7_setMethod : yX7_setMethod.cls = RX7 ∧ yX7_setMethod.cls ≠ "java/lang/invoke/MethodHandle" ∧ yX7_setMethod.cls ≠ "java/lang/invoke/VarHandle" ∧ (parseMethodDescriptor yX7_setMethod.desc).map (fun d => d.parameters.length) = some 1 := by decide +kernel
set_option maxHeartbeats 4000000 in
set_option maxRecDepth 100000 in
theorem kX7_setMethod (l : Launch) (D : va_G) (cI cJ : ClassId) (a_t a_t_rig a_t_rig_circuit a_t_rig_log a_t_rig_positions a_t_rig_score a_t_rig_sequence a_t_rig_sequence_minus a_t_rig_sequence_plus a_t_rig_timers u_t_reader u_t_trial u_t_snapshot u_t_spare u_t_rig_strokes u_t_rig_faults u_t_rig_log_times u_t_rig_log_moves u_t_rig_sequence_pauses u_t_rig_sequence_outBefore u_t_rig_sequence_cuts u_t_rig_sequence_groupOfStep : Nat) (t t_rig t_rig_circuit t_rig_log t_rig_positions t_rig_score t_rig_sequence t_rig_sequence_minus t_rig_sequence_plus t_rig_timers : Nat → Int32) (x1 : Int32) (r : Int32) (t_rig_o : Nat → Int32) (t_rig_circuit_o : Nat → Int32) (t_rig_log_o : Nat → Int32) (t_rig_positions_o : Nat → Int32) (t_rig_score_o : Nat → Int32) (t_rig_timers_o : Nat → Int32) (hm : mX7_setMethod t_rig t_rig_circuit t_rig_log t_rig_positions t_rig_score t_rig_sequence t_rig_sequence_minus t_rig_sequence_plus t_rig_timers x1 = some (r, t_rig_o, t_rig_circuit_o, t_rig_log_o, t_rig_positions_o, t_rig_score_o, t_rig_timers_o)) : bq_M l D cI cJ yX7_setMethod cX7_setMethod 3 (some .int) rmX7_setMethod [.ref a_t, .int x1] (wdX7_setMethod cI a_t a_t_rig a_t_rig_circuit a_t_rig_log a_t_rig_positions a_t_rig_score a_t_rig_sequence a_t_rig_sequence_minus a_t_rig_sequence_plus a_t_rig_timers u_t_reader u_t_trial u_t_snapshot u_t_spare u_t_rig_strokes u_t_rig_faults u_t_rig_log_times u_t_rig_log_moves u_t_rig_sequence_pauses u_t_rig_sequence_outBefore u_t_rig_sequence_cuts u_t_rig_sequence_groupOfStep t t_rig t_rig_circuit t_rig_log t_rig_positions t_rig_score t_rig_sequence t_rig_sequence_minus t_rig_sequence_plus t_rig_timers) (wdX7_setMethod cI a_t a_t_rig a_t_rig_circuit a_t_rig_log a_t_rig_positions a_t_rig_score a_t_rig_sequence a_t_rig_sequence_minus a_t_rig_sequence_plus a_t_rig_timers u_t_reader u_t_trial u_t_snapshot u_t_spare u_t_rig_strokes u_t_rig_faults u_t_rig_log_times u_t_rig_log_moves u_t_rig_sequence_pauses u_t_rig_sequence_outBefore u_t_rig_sequence_cuts u_t_rig_sequence_groupOfStep t t_rig_o t_rig_circuit_o t_rig_log_o t_rig_positions_o t_rig_score_o t_rig_sequence t_rig_sequence_minus t_rig_sequence_plus t_rig_timers_o) (some (.int r)) := by
  refine bq_start (by decide) (Nat.le_of_ble_eq_true rfl) ?_
  intro p e s m av9 below meth c A ls Q H locs E K w hA hr hk hn hQ hl
  have E : bq_E p m c cX7_setMethod 3 s av9 RX7 := E
  have hx := E.1
  have hb := E.2.1
  have hl : lv_has ls 3 [(0, .ref a_t), (1, .int x1)] := hl
  unfold mX7_setMethod at hm
  refine lv_iload_n hx hb dX7_setMethod_0 rfl (lv_at hl 1 rfl) ?_
  obtain ⟨⟨⟩, hC, hm⟩ := bq_bd_el hm
  refine bq_S0 (As := [.int x1]) (rest := []) (st1 := []) E K w hA (kX7_checkMethod l D cI cJ x1 hC) cd_X7_checkMethod ml_X7_131 in_X7 st_X7_checkMethod hs_X7_checkMethod ⟨Nat.le_of_ble_eq_true rfl, Nat.le_of_ble_eq_true rfl⟩ ⟨Nat.le_of_ble_eq_true rfl, Nat.le_of_ble_eq_true rfl⟩ rfl hl.1 rfl (Nat.le_of_ble_eq_true rfl) rfl dX7_setMethod_1 (fun H locs w => bq_z ⟨rfl, rfl⟩ ?_)
  clear hC
  refine lv_aload_n hx hb dX7_setMethod_4 rfl (lv_at hl 0 rfl) ?_
  refine gt_X7_24 E K w 0 rfl rfl dX7_setMethod_5 ?_
  refine gt_X7_137 E K w 1 rfl rfl dX7_setMethod_8 ?_
  refine gt_X7_141 E K w 2 rfl rfl dX7_setMethod_11 ?_
  obtain ⟨v1, e9, hm⟩ := bq_let_el hm
  refine bq_nmi e9 ?_
  clear e9
  refine lv_istore_n (lv' := [(2, .int v1), (0, .ref a_t), (1, .int x1)]) hx hb dX7_setMethod_14 rfl hl (by decide) rfl (fun ls hl => ?_)
  refine lv_aload_n hx hb dX7_setMethod_15 rfl (lv_at hl 1 rfl) ?_
  refine gt_X7_24 E K w 0 rfl rfl dX7_setMethod_16 ?_
  refine gt_X7_137 E K w 1 rfl rfl dX7_setMethod_19 ?_
  refine lv_iload_n hx hb dX7_setMethod_22 rfl (lv_at hl 2 rfl) ?_
  obtain ⟨t_rig_circuit_2, e9, hm⟩ := bq_let_el hm
  refine pt_X7_141 E K w 2 rfl (Nat.le_of_ble_eq_true rfl) dX7_setMethod_23 (fun H locs w => ?_)
  replace w : bq_w D A s.heap (wdX7_setMethod cI a_t a_t_rig a_t_rig_circuit a_t_rig_log a_t_rig_positions a_t_rig_score a_t_rig_sequence a_t_rig_sequence_minus a_t_rig_sequence_plus a_t_rig_timers u_t_reader u_t_trial u_t_snapshot u_t_spare u_t_rig_strokes u_t_rig_faults u_t_rig_log_times u_t_rig_log_moves u_t_rig_sequence_pauses u_t_rig_sequence_outBefore u_t_rig_sequence_cuts u_t_rig_sequence_groupOfStep t t_rig t_rig_circuit_2 t_rig_log t_rig_positions t_rig_score t_rig_sequence t_rig_sequence_minus t_rig_sequence_plus t_rig_timers) H locs := by rw [e9]; exact w
  clear e9
  refine lv_aload_n hx hb dX7_setMethod_26 rfl (lv_at hl 1 rfl) ?_
  refine gt_X7_24 E K w 0 rfl rfl dX7_setMethod_27 ?_
  obtain ⟨t_rig_3, t_rig_circuit_4, t_rig_log_5, t_rig_positions_6, t_rig_score_7, t_rig_timers_8, hC, hm⟩ := bq_b6_el hm
  refine bq_V (As := []) (rest := []) (st1 := []) (ws' := wdX7_setMethod cI a_t a_t_rig a_t_rig_circuit a_t_rig_log a_t_rig_positions a_t_rig_score a_t_rig_sequence a_t_rig_sequence_minus a_t_rig_sequence_plus a_t_rig_timers u_t_reader u_t_trial u_t_snapshot u_t_spare u_t_rig_strokes u_t_rig_faults u_t_rig_log_times u_t_rig_log_moves u_t_rig_sequence_pauses u_t_rig_sequence_outBefore u_t_rig_sequence_cuts u_t_rig_sequence_groupOfStep t t_rig_3 t_rig_circuit_4 t_rig_log_5 t_rig_positions_6 t_rig_score_7 t_rig_sequence t_rig_sequence_minus t_rig_sequence_plus t_rig_timers_8) E K w hA (kX3_bringToRest l D cI cJ a_t_rig a_t_rig_circuit a_t_rig_log a_t_rig_positions a_t_rig_score a_t_rig_sequence a_t_rig_sequence_minus a_t_rig_sequence_plus a_t_rig_timers u_t_rig_strokes u_t_rig_faults u_t_rig_log_times u_t_rig_log_moves u_t_rig_sequence_pauses u_t_rig_sequence_outBefore u_t_rig_sequence_cuts u_t_rig_sequence_groupOfStep t_rig t_rig_circuit_2 t_rig_log t_rig_positions t_rig_score t_rig_sequence t_rig_sequence_minus t_rig_sequence_plus t_rig_timers t_rig_3 t_rig_circuit_4 t_rig_log_5 t_rig_positions_6 t_rig_score_7 t_rig_timers_8 hC) (bq_gV ml_X7_80 im_X3_bringToRest sl_X3_bringToRest in_X3 cd_X3_bringToRest) hd_X3_bringToRest ⟨Nat.le_of_ble_eq_true rfl, Nat.le_of_ble_eq_true rfl⟩ ⟨Nat.le_of_ble_eq_true rfl, Nat.le_of_ble_eq_true rfl⟩ ⟨[1, 2, 3, 4, 5, 6, 7, 8, 9], [0], [0, 1, 2, 3, 4, 5, 6, 7, 8, 9], rfl, rfl, rfl, rfl, rfl, rfl, rfl, rfl, rfl⟩ 1 rfl rfl rfl hl.1 rfl (Nat.le_of_ble_eq_true rfl) rfl dX7_setMethod_30 (fun H locs w => bq_z ⟨rfl, rfl⟩ ?_)
  clear hC
  refine lv_iload_n hx hb dX7_setMethod_33 rfl (lv_at hl 0 rfl) ?_
  obtain ⟨rfl, rfl, rfl, rfl, rfl, rfl, rfl⟩ := bq_in7 (Option.some.inj hm)
  exact bq_iret E w hr hk dX7_setMethod_34 hQ
abbrev rmTX7_setMethod : Room := { frames := 7, cells := 1, slots := 6, locals := 120 }
set_option maxHeartbeats 4000000 in
set_option maxRecDepth 100000 in
theorem tkX7_setMethod {l : Launch} (hlf : l.stackTraces = false) (D : va_G) (cI cJ : ClassId) (a_t a_t_rig a_t_rig_circuit a_t_rig_log a_t_rig_positions a_t_rig_score a_t_rig_sequence a_t_rig_sequence_minus a_t_rig_sequence_plus a_t_rig_timers u_t_reader u_t_trial u_t_snapshot u_t_spare u_t_rig_strokes u_t_rig_faults u_t_rig_log_times u_t_rig_log_moves u_t_rig_sequence_pauses u_t_rig_sequence_outBefore u_t_rig_sequence_cuts u_t_rig_sequence_groupOfStep : Nat) (t t_rig t_rig_circuit t_rig_log t_rig_positions t_rig_score t_rig_sequence t_rig_sequence_minus t_rig_sequence_plus t_rig_timers : Nat → Int32) (x1 : Int32) (r : Nat) (hm : tX7_setMethod t_rig t_rig_circuit t_rig_log t_rig_positions t_rig_score t_rig_sequence t_rig_sequence_minus t_rig_sequence_plus t_rig_timers x1 = some r) : bq_MT l D cI cJ yX7_setMethod cX7_setMethod 3 (some .int) rmTX7_setMethod [.ref a_t, .int x1] (wdX7_setMethod cI a_t a_t_rig a_t_rig_circuit a_t_rig_log a_t_rig_positions a_t_rig_score a_t_rig_sequence a_t_rig_sequence_minus a_t_rig_sequence_plus a_t_rig_timers u_t_reader u_t_trial u_t_snapshot u_t_spare u_t_rig_strokes u_t_rig_faults u_t_rig_log_times u_t_rig_log_moves u_t_rig_sequence_pauses u_t_rig_sequence_outBefore u_t_rig_sequence_cuts u_t_rig_sequence_groupOfStep t t_rig t_rig_circuit t_rig_log t_rig_positions t_rig_score t_rig_sequence t_rig_sequence_minus t_rig_sequence_plus t_rig_timers) (bq_cls r) := by
  refine bq_startT (by decide) (Nat.le_of_ble_eq_true rfl) ?_
  intro p e s m av9 below meth c A ls Q H locs E K w hA hnt hk hX hQ hl
  have E : bq_E p m c cX7_setMethod 3 s av9 RX7 := E
  have hx := E.1
  have hb := E.2.1
  have hl : lv_has ls 3 [(0, .ref a_t), (1, .int x1)] := hl
  unfold tX7_setMethod at hm
  refine lv_iload_n hx hb dX7_setMethod_0 rfl (lv_at hl 1 rfl) ?_
  refine (bq_tc_el hm).elim (fun hC => ?_) (fun hm => ?_)
  · exact bq_TS (As := [.int x1]) (rest := []) E K w hA hX hnt hk ⟨rfl, rfl⟩ (tkX7_checkMethod hlf D cI cJ x1 _ hC) cd_X7_checkMethod ml_X7_131 in_X7 st_X7_checkMethod hs_X7_checkMethod ⟨Nat.le_of_ble_eq_true rfl, Nat.le_of_ble_eq_true rfl⟩ ⟨Nat.le_of_ble_eq_true rfl, Nat.le_of_ble_eq_true rfl⟩ ⟨[], [0, 1, 2, 3, 4, 5, 6, 7, 8, 9], [0, 1, 2, 3, 4, 5, 6, 7, 8, 9], rfl, rfl, rfl, rfl, rfl, rfl, rfl, rfl, rfl⟩ rfl hl.1 rfl (Nat.le_of_ble_eq_true rfl) dX7_setMethod_1 hQ
  obtain ⟨⟨⟩, hC, hm⟩ := bq_bd_el hm
  refine bq_S0 (As := [.int x1]) (rest := []) (st1 := []) E K w hA (kX7_checkMethod l D cI cJ x1 hC) cd_X7_checkMethod ml_X7_131 in_X7 st_X7_checkMethod hs_X7_checkMethod ⟨Nat.le_of_ble_eq_true rfl, Nat.le_of_ble_eq_true rfl⟩ ⟨Nat.le_of_ble_eq_true rfl, Nat.le_of_ble_eq_true rfl⟩ rfl hl.1 rfl (Nat.le_of_ble_eq_true rfl) rfl dX7_setMethod_1 (fun H locs w => bq_z ⟨rfl, rfl⟩ ?_)
  clear hC
  cases hm
abbrev wdX7_setStroke (cI : ClassId) (a_t a_t_rig a_t_rig_circuit a_t_rig_log a_t_rig_positions a_t_rig_score a_t_rig_sequence a_t_rig_sequence_minus a_t_rig_sequence_plus a_t_rig_strokes a_t_rig_timers u_t_reader u_t_trial u_t_snapshot u_t_spare u_t_rig_faults u_t_rig_log_times u_t_rig_log_moves u_t_rig_sequence_pauses u_t_rig_sequence_outBefore u_t_rig_sequence_cuts u_t_rig_sequence_groupOfStep : Nat) (t : Nat → Int32) (t_rig : Nat → Int32) (t_rig_circuit : Nat → Int32) (t_rig_log : Nat → Int32) (t_rig_positions : Nat → Int32) (t_rig_score : Nat → Int32) (t_rig_sequence : Nat → Int32) (t_rig_sequence_minus : Nat → Int32) (t_rig_sequence_plus : Nat → Int32) (t_rig_strokes : Nat → Int32) (t_rig_timers : Nat → Int32) : va_W := [(a_t, oX7 u_t_reader a_t_rig u_t_trial u_t_snapshot u_t_spare t), (a_t_rig, oX3 a_t_rig_sequence a_t_rig_circuit a_t_rig_log a_t_rig_score a_t_rig_strokes a_t_rig_positions a_t_rig_timers u_t_rig_faults t_rig), (a_t_rig_circuit, oX0 t_rig_circuit), (a_t_rig_log, oX1 u_t_rig_log_times u_t_rig_log_moves t_rig_log), (a_t_rig_positions, oA cI 6 t_rig_positions), (a_t_rig_score, oX4 t_rig_score), (a_t_rig_sequence, oX5 a_t_rig_sequence_plus a_t_rig_sequence_minus u_t_rig_sequence_pauses u_t_rig_sequence_outBefore u_t_rig_sequence_cuts u_t_rig_sequence_groupOfStep t_rig_sequence), (a_t_rig_sequence_minus, oA cI 16 t_rig_sequence_minus), (a_t_rig_sequence_plus, oA cI 16 t_rig_sequence_plus), (a_t_rig_strokes, oA cI 6 t_rig_strokes), (a_t_rig_timers, oA cI 16 t_rig_timers)]
abbrev rmX7_setStroke : Room := { frames := 3, cells := 0, slots := 0, locals := 64 }
theorem hd_X7_setStroke : yX7_setStroke.cls = RX7 ∧ yX7_setStroke.cls ≠ "java/lang/invoke/MethodHandle" ∧ yX7_setStroke.cls ≠ "java/lang/invoke/VarHandle" ∧ (parseMethodDescriptor yX7_setStroke.desc).map (fun d => d.parameters.length) = some 2 := by decide +kernel
set_option maxHeartbeats 4000000 in
set_option maxRecDepth 100000 in
theorem kX7_setStroke (l : Launch) (D : va_G) (cI cJ : ClassId) (a_t a_t_rig a_t_rig_circuit a_t_rig_log a_t_rig_positions a_t_rig_score a_t_rig_sequence a_t_rig_sequence_minus a_t_rig_sequence_plus a_t_rig_strokes a_t_rig_timers u_t_reader u_t_trial u_t_snapshot u_t_spare u_t_rig_faults u_t_rig_log_times u_t_rig_log_moves u_t_rig_sequence_pauses u_t_rig_sequence_outBefore u_t_rig_sequence_cuts u_t_rig_sequence_groupOfStep : Nat) (t t_rig t_rig_circuit t_rig_log t_rig_positions t_rig_score t_rig_sequence t_rig_sequence_minus t_rig_sequence_plus t_rig_strokes t_rig_timers : Nat → Int32) (x1 : Int32) (x2 : Int32) (r : Int32) (t_rig_o : Nat → Int32) (t_rig_circuit_o : Nat → Int32) (t_rig_log_o : Nat → Int32) (t_rig_positions_o : Nat → Int32) (t_rig_score_o : Nat → Int32) (t_rig_strokes_o : Nat → Int32) (t_rig_timers_o : Nat → Int32) (hm : mX7_setStroke t_rig t_rig_circuit t_rig_log t_rig_positions t_rig_score t_rig_sequence t_rig_sequence_minus t_rig_sequence_plus t_rig_strokes t_rig_timers x1 x2 = some (r, t_rig_o, t_rig_circuit_o, t_rig_log_o, t_rig_positions_o, t_rig_score_o, t_rig_strokes_o, t_rig_timers_o)) : bq_M l D cI cJ yX7_setStroke cX7_setStroke 4 (some .int) rmX7_setStroke [.ref a_t, .int x1, .int x2] (wdX7_setStroke cI a_t a_t_rig a_t_rig_circuit a_t_rig_log a_t_rig_positions a_t_rig_score a_t_rig_sequence a_t_rig_sequence_minus a_t_rig_sequence_plus a_t_rig_strokes a_t_rig_timers u_t_reader u_t_trial u_t_snapshot u_t_spare u_t_rig_faults u_t_rig_log_times u_t_rig_log_moves u_t_rig_sequence_pauses u_t_rig_sequence_outBefore u_t_rig_sequence_cuts u_t_rig_sequence_groupOfStep t t_rig t_rig_circuit t_rig_log t_rig_positions t_rig_score t_rig_sequence t_rig_sequence_minus t_rig_sequence_plus t_rig_strokes t_rig_timers) (wdX7_setStroke cI a_t a_t_rig a_t_rig_circuit a_t_rig_log a_t_rig_positions a_t_rig_score a_t_rig_sequence a_t_rig_sequence_minus a_t_rig_sequence_plus a_t_rig_strokes a_t_rig_timers u_t_reader u_t_trial u_t_snapshot u_t_spare u_t_rig_faults u_t_rig_log_times u_t_rig_log_moves u_t_rig_sequence_pauses u_t_rig_sequence_outBefore u_t_rig_sequence_cuts u_t_rig_sequence_groupOfStep t t_rig_o t_rig_circuit_o t_rig_log_o t_rig_positions_o t_rig_score_o t_rig_sequence t_rig_sequence_minus t_rig_sequence_plus t_rig_strokes_o t_rig_timers_o) (some (.int r)) := by
  refine bq_start (by decide) (Nat.le_of_ble_eq_true rfl) ?_
  intro p e s m av9 below meth c A ls Q H locs E K w hA hr hk hn hQ hl
  have E : bq_E p m c cX7_setStroke 4 s av9 RX7 := E
  have hx := E.1
  have hb := E.2.1
  have hl : lv_has ls 4 [(0, .ref a_t), (1, .int x1), (2, .int x2)] := hl
  unfold mX7_setStroke at hm
  refine lv_iload_n hx hb dX7_setStroke_0 rfl (lv_at hl 1 rfl) ?_
  obtain ⟨⟨⟩, hC, hm⟩ := bq_bd_el hm
  refine bq_S0 (As := [.int x1]) (rest := []) (st1 := []) E K w hA (kX7_checkCylinder l D cI cJ x1 hC) cd_X7_checkCylinder ml_X7_93 in_X7 st_X7_checkCylinder hs_X7_checkCylinder ⟨Nat.le_of_ble_eq_true rfl, Nat.le_of_ble_eq_true rfl⟩ ⟨Nat.le_of_ble_eq_true rfl, Nat.le_of_ble_eq_true rfl⟩ rfl hl.1 rfl (Nat.le_of_ble_eq_true rfl) rfl dX7_setStroke_1 (fun H locs w => bq_z ⟨rfl, rfl⟩ ?_)
  clear hC
  refine lv_iload_n hx hb dX7_setStroke_4 rfl (lv_at hl 2 rfl) ?_
  refine lv_iconst (v := 1) hx hb dX7_setStroke_5 (by decide) ?_
  refine lv_icmp_lt (tgt := 15) hx hb dX7_setStroke_6 (by decide) (fun hc => ?_) (fun hc => ?_)
  · replace hm := bq_t hc hm
    clear hc
    cases hm
  · replace hm := bq_f hc hm
    clear hc
    refine lv_iload_n hx hb dX7_setStroke_9 rfl (lv_at hl 2 rfl) ?_
    refine lv_bipush (v := 20) hx hb dX7_setStroke_10 (by decide) ?_
    refine lv_icmp_le (tgt := 25) hx hb dX7_setStroke_12 (by decide) (fun hc => ?_) (fun hc => ?_)
    · replace hm := bq_t hc hm
      clear hc
      refine lv_aload_n hx hb dX7_setStroke_25 rfl (lv_at hl 0 rfl) ?_
      refine gt_X7_24 E K w 0 rfl rfl dX7_setStroke_26 ?_
      refine gt_X7_148 E K w 1 rfl rfl dX7_setStroke_29 ?_
      refine lv_iload_n hx hb dX7_setStroke_32 rfl (lv_at hl 1 rfl) ?_
      obtain ⟨hI, hm⟩ := bq_ci_el hm
      refine bq_ald E K w 9 rfl hI dX7_setStroke_33 ?_
      obtain ⟨v1, e9, hm⟩ := bq_let_el hm
      refine bq_nmi e9 ?_
      clear e9
      refine lv_istore_n (lv' := [(3, .int v1), (0, .ref a_t), (1, .int x1), (2, .int x2)]) hx hb dX7_setStroke_34 rfl hl (by decide) rfl (fun ls hl => ?_)
      refine lv_aload_n hx hb dX7_setStroke_35 rfl (lv_at hl 1 rfl) ?_
      refine gt_X7_24 E K w 0 rfl rfl dX7_setStroke_36 ?_
      refine gt_X7_148 E K w 1 rfl rfl dX7_setStroke_39 ?_
      refine lv_iload_n hx hb dX7_setStroke_42 rfl (lv_at hl 2 rfl) ?_
      refine lv_iload_n hx hb dX7_setStroke_43 rfl (lv_at hl 3 rfl) ?_
      obtain ⟨hI, hm⟩ := bq_ci_el hm
      obtain ⟨t_rig_strokes_2, e9, hm⟩ := bq_let_el hm
      refine bq_ast E K w 9 rfl hI dX7_setStroke_44 (fun H locs w => ?_)
      replace w : bq_w D A s.heap (wdX7_setStroke cI a_t a_t_rig a_t_rig_circuit a_t_rig_log a_t_rig_positions a_t_rig_score a_t_rig_sequence a_t_rig_sequence_minus a_t_rig_sequence_plus a_t_rig_strokes a_t_rig_timers u_t_reader u_t_trial u_t_snapshot u_t_spare u_t_rig_faults u_t_rig_log_times u_t_rig_log_moves u_t_rig_sequence_pauses u_t_rig_sequence_outBefore u_t_rig_sequence_cuts u_t_rig_sequence_groupOfStep t t_rig t_rig_circuit t_rig_log t_rig_positions t_rig_score t_rig_sequence t_rig_sequence_minus t_rig_sequence_plus t_rig_strokes_2 t_rig_timers) H locs := by rw [e9]; exact w
      clear e9
      refine lv_aload_n hx hb dX7_setStroke_45 rfl (lv_at hl 1 rfl) ?_
      refine gt_X7_24 E K w 0 rfl rfl dX7_setStroke_46 ?_
      obtain ⟨t_rig_3, t_rig_circuit_4, t_rig_log_5, t_rig_positions_6, t_rig_score_7, t_rig_timers_8, hC, hm⟩ := bq_b6_el hm
      refine bq_V (As := []) (rest := []) (st1 := []) (ws' := wdX7_setStroke cI a_t a_t_rig a_t_rig_circuit a_t_rig_log a_t_rig_positions a_t_rig_score a_t_rig_sequence a_t_rig_sequence_minus a_t_rig_sequence_plus a_t_rig_strokes a_t_rig_timers u_t_reader u_t_trial u_t_snapshot u_t_spare u_t_rig_faults u_t_rig_log_times u_t_rig_log_moves u_t_rig_sequence_pauses u_t_rig_sequence_outBefore u_t_rig_sequence_cuts u_t_rig_sequence_groupOfStep t t_rig_3 t_rig_circuit_4 t_rig_log_5 t_rig_positions_6 t_rig_score_7 t_rig_sequence t_rig_sequence_minus t_rig_sequence_plus t_rig_strokes_2 t_rig_timers_8) E K w hA (kX3_bringToRest l D cI cJ a_t_rig a_t_rig_circuit a_t_rig_log a_t_rig_positions a_t_rig_score a_t_rig_sequence a_t_rig_sequence_minus a_t_rig_sequence_plus a_t_rig_timers a_t_rig_strokes u_t_rig_faults u_t_rig_log_times u_t_rig_log_moves u_t_rig_sequence_pauses u_t_rig_sequence_outBefore u_t_rig_sequence_cuts u_t_rig_sequence_groupOfStep t_rig t_rig_circuit t_rig_log t_rig_positions t_rig_score t_rig_sequence t_rig_sequence_minus t_rig_sequence_plus t_rig_timers t_rig_3 t_rig_circuit_4 t_rig_log_5 t_rig_positions_6 t_rig_score_7 t_rig_timers_8 hC) (bq_gV ml_X7_80 im_X3_bringToRest sl_X3_bringToRest in_X3 cd_X3_bringToRest) hd_X3_bringToRest ⟨Nat.le_of_ble_eq_true rfl, Nat.le_of_ble_eq_true rfl⟩ ⟨Nat.le_of_ble_eq_true rfl, Nat.le_of_ble_eq_true rfl⟩ ⟨[1, 2, 3, 4, 5, 6, 7, 8, 10], [0, 9], [0, 2, 3, 4, 5, 6, 7, 8, 9, 1, 10], rfl, rfl, rfl, rfl, rfl, rfl, rfl, rfl, rfl⟩ 1 rfl rfl rfl hl.1 rfl (Nat.le_of_ble_eq_true rfl) rfl dX7_setStroke_49 (fun H locs w => bq_z ⟨rfl, rfl⟩ ?_)
      clear hC
      refine lv_iload_n hx hb dX7_setStroke_52 rfl (lv_at hl 0 rfl) ?_
      obtain ⟨rfl, rfl, rfl, rfl, rfl, rfl, rfl, rfl⟩ := bq_in8 (Option.some.inj hm)
      exact bq_iret E w hr hk dX7_setStroke_53 hQ
    · replace hm := bq_f hc hm
      clear hc
      cases hm
abbrev rmTX7_setStroke : Room := { frames := 7, cells := 1, slots := 6, locals := 120 }
set_option maxHeartbeats 4000000 in
set_option maxRecDepth 100000 in
theorem tkX7_setStroke {l : Launch} (hlf : l.stackTraces = false) (D : va_G) (cI cJ : ClassId) (a_t a_t_rig a_t_rig_circuit a_t_rig_log a_t_rig_positions a_t_rig_score a_t_rig_sequence a_t_rig_sequence_minus a_t_rig_sequence_plus a_t_rig_strokes a_t_rig_timers u_t_reader u_t_trial u_t_snapshot u_t_spare u_t_rig_faults u_t_rig_log_times u_t_rig_log_moves u_t_rig_sequence_pauses u_t_rig_sequence_outBefore u_t_rig_sequence_cuts u_t_rig_sequence_groupOfStep : Nat) (t t_rig t_rig_circuit t_rig_log t_rig_positions t_rig_score t_rig_sequence t_rig_sequence_minus t_rig_sequence_plus t_rig_strokes t_rig_timers : Nat → Int32) (x1 : Int32) (x2 : Int32) (r : Nat) (hm : tX7_setStroke t_rig t_rig_circuit t_rig_log t_rig_positions t_rig_score t_rig_sequence t_rig_sequence_minus t_rig_sequence_plus t_rig_strokes t_rig_timers x1 x2 = some r) : bq_MT l D cI cJ yX7_setStroke cX7_setStroke 4 (some .int) rmTX7_setStroke [.ref a_t, .int x1, .int x2] (wdX7_setStroke cI a_t a_t_rig a_t_rig_circuit a_t_rig_log a_t_rig_positions a_t_rig_score a_t_rig_sequence a_t_rig_sequence_minus a_t_rig_sequence_plus a_t_rig_strokes a_t_rig_timers u_t_reader u_t_trial u_t_snapshot u_t_spare u_t_rig_faults u_t_rig_log_times u_t_rig_log_moves u_t_rig_sequence_pauses u_t_rig_sequence_outBefore u_t_rig_sequence_cuts u_t_rig_sequence_groupOfStep t t_rig t_rig_circuit t_rig_log t_rig_positions t_rig_score t_rig_sequence t_rig_sequence_minus t_rig_sequence_plus t_rig_strokes t_rig_timers) (bq_cls r) := by
  refine bq_startT (by decide) (Nat.le_of_ble_eq_true rfl) ?_
  intro p e s m av9 below meth c A ls Q H locs E K w hA hnt hk hX hQ hl
  have E : bq_E p m c cX7_setStroke 4 s av9 RX7 := E
  have hx := E.1
  have hb := E.2.1
  have hl : lv_has ls 4 [(0, .ref a_t), (1, .int x1), (2, .int x2)] := hl
  unfold tX7_setStroke at hm
  refine lv_iload_n hx hb dX7_setStroke_0 rfl (lv_at hl 1 rfl) ?_
  refine (bq_tc_el hm).elim (fun hC => ?_) (fun hm => ?_)
  · exact bq_TS (As := [.int x1]) (rest := []) E K w hA hX hnt hk ⟨rfl, rfl⟩ (tkX7_checkCylinder hlf D cI cJ x1 _ hC) cd_X7_checkCylinder ml_X7_93 in_X7 st_X7_checkCylinder hs_X7_checkCylinder ⟨Nat.le_of_ble_eq_true rfl, Nat.le_of_ble_eq_true rfl⟩ ⟨Nat.le_of_ble_eq_true rfl, Nat.le_of_ble_eq_true rfl⟩ ⟨[], [0, 1, 2, 3, 4, 5, 6, 7, 8, 9, 10], [0, 1, 2, 3, 4, 5, 6, 7, 8, 9, 10], rfl, rfl, rfl, rfl, rfl, rfl, rfl, rfl, rfl⟩ rfl hl.1 rfl (Nat.le_of_ble_eq_true rfl) dX7_setStroke_1 hQ
  obtain ⟨⟨⟩, hC, hm⟩ := bq_bd_el hm
  refine bq_S0 (As := [.int x1]) (rest := []) (st1 := []) E K w hA (kX7_checkCylinder l D cI cJ x1 hC) cd_X7_checkCylinder ml_X7_93 in_X7 st_X7_checkCylinder hs_X7_checkCylinder ⟨Nat.le_of_ble_eq_true rfl, Nat.le_of_ble_eq_true rfl⟩ ⟨Nat.le_of_ble_eq_true rfl, Nat.le_of_ble_eq_true rfl⟩ rfl hl.1 rfl (Nat.le_of_ble_eq_true rfl) rfl dX7_setStroke_1 (fun H locs w => bq_z ⟨rfl, rfl⟩ ?_)
  clear hC
  refine lv_iload_n hx hb dX7_setStroke_4 rfl (lv_at hl 2 rfl) ?_
  refine lv_iconst (v := 1) hx hb dX7_setStroke_5 (by decide) ?_
  refine lv_icmp_lt (tgt := 15) hx hb dX7_setStroke_6 (by decide) (fun hc => ?_) (fun hc => ?_)
  · replace hm := bq_t hc hm
    clear hc
    obtain rfl := Option.some.inj hm
    exact bq_throw (cls := "java/lang/IllegalArgumentException") hlf E K w hX hnt hk hQ (by decide +kernel) bq_upf cl_X7_46 in_IllegalArgumentException sr_X7_146 xa_X7_50 xb_X7_50 xg_X7_46_50 hl.1 dX7_setStroke_15 dX7_setStroke_18 dX7_setStroke_19 dX7_setStroke_21 dX7_setStroke_24 (Nat.le_of_ble_eq_true rfl) (Nat.le_of_ble_eq_true rfl) (Nat.le_of_ble_eq_true rfl) (Nat.le_of_ble_eq_true rfl)
  · replace hm := bq_f hc hm
    clear hc
    refine lv_iload_n hx hb dX7_setStroke_9 rfl (lv_at hl 2 rfl) ?_
    refine lv_bipush (v := 20) hx hb dX7_setStroke_10 (by decide) ?_
    refine lv_icmp_le (tgt := 25) hx hb dX7_setStroke_12 (by decide) (fun hc => ?_) (fun hc => ?_)
    · replace hm := bq_t hc hm
      clear hc
      cases hm
    · replace hm := bq_f hc hm
      clear hc
      obtain rfl := Option.some.inj hm
      exact bq_throw (cls := "java/lang/IllegalArgumentException") hlf E K w hX hnt hk hQ (by decide +kernel) bq_upf cl_X7_46 in_IllegalArgumentException sr_X7_146 xa_X7_50 xb_X7_50 xg_X7_46_50 hl.1 dX7_setStroke_15 dX7_setStroke_18 dX7_setStroke_19 dX7_setStroke_21 dX7_setStroke_24 (Nat.le_of_ble_eq_true rfl) (Nat.le_of_ble_eq_true rfl) (Nat.le_of_ble_eq_true rfl) (Nat.le_of_ble_eq_true rfl)
abbrev wdX7_setStart (cI : ClassId) (a_t a_t_rig u_t_reader u_t_trial u_t_snapshot u_t_spare u_t_rig_sequence u_t_rig_circuit u_t_rig_log u_t_rig_score u_t_rig_strokes u_t_rig_positions u_t_rig_timers u_t_rig_faults : Nat) (t : Nat → Int32) (t_rig : Nat → Int32) : va_W := [(a_t, oX7 u_t_reader a_t_rig u_t_trial u_t_snapshot u_t_spare t), (a_t_rig, oX3 u_t_rig_sequence u_t_rig_circuit u_t_rig_log u_t_rig_score u_t_rig_strokes u_t_rig_positions u_t_rig_timers u_t_rig_faults t_rig)]
abbrev rmX7_setStart : Room := { frames := 0, cells := 0, slots := 0, locals := 0 }
theorem hd_X7_setStart : yX7_setStart.cls = RX7 ∧ yX7_setStart.cls ≠ "java/lang/invoke/MethodHandle" ∧ yX7_setStart.cls ≠ "java/lang/invoke/VarHandle" ∧ (parseMethodDescriptor yX7_setStart.desc).map (fun d => d.parameters.length) = some 1 := by decide +kernel
set_option maxHeartbeats 4000000 in
set_option maxRecDepth 100000 in
theorem kX7_setStart (l : Launch) (D : va_G) (cI cJ : ClassId) (a_t a_t_rig u_t_reader u_t_trial u_t_snapshot u_t_spare u_t_rig_sequence u_t_rig_circuit u_t_rig_log u_t_rig_score u_t_rig_strokes u_t_rig_positions u_t_rig_timers u_t_rig_faults : Nat) (t t_rig : Nat → Int32) (x1 : Int32) (r : Int32) (t_rig_o : Nat → Int32) (hm : mX7_setStart t_rig x1 = some (r, t_rig_o)) : bq_M l D cI cJ yX7_setStart cX7_setStart 3 (some .boolean) rmX7_setStart [.ref a_t, .int x1] (wdX7_setStart cI a_t a_t_rig u_t_reader u_t_trial u_t_snapshot u_t_spare u_t_rig_sequence u_t_rig_circuit u_t_rig_log u_t_rig_score u_t_rig_strokes u_t_rig_positions u_t_rig_timers u_t_rig_faults t t_rig) (wdX7_setStart cI a_t a_t_rig u_t_reader u_t_trial u_t_snapshot u_t_spare u_t_rig_sequence u_t_rig_circuit u_t_rig_log u_t_rig_score u_t_rig_strokes u_t_rig_positions u_t_rig_timers u_t_rig_faults t t_rig_o) (some (.int r)) := by
  refine bq_start (by decide) (Nat.le_of_ble_eq_true rfl) ?_
  intro p e s m av9 below meth c A ls Q H locs E K w hA hr hk hn hQ hl
  have E : bq_E p m c cX7_setStart 3 s av9 RX7 := E
  have hx := E.1
  have hb := E.2.1
  have hl : lv_has ls 3 [(0, .ref a_t), (1, .int x1)] := hl
  unfold mX7_setStart at hm
  refine lv_aload_n hx hb dX7_setStart_0 rfl (lv_at hl 0 rfl) ?_
  refine gt_X7_24 E K w 0 rfl rfl dX7_setStart_1 ?_
  refine gt_X7_151 E K w 1 rfl rfl dX7_setStart_4 ?_
  obtain ⟨v1, e9, hm⟩ := bq_let_el hm
  refine bq_nmi e9 ?_
  clear e9
  refine lv_istore_n (lv' := [(2, .int v1), (0, .ref a_t), (1, .int x1)]) hx hb dX7_setStart_7 rfl hl (by decide) rfl (fun ls hl => ?_)
  refine lv_aload_n hx hb dX7_setStart_8 rfl (lv_at hl 1 rfl) ?_
  refine gt_X7_24 E K w 0 rfl rfl dX7_setStart_9 ?_
  refine lv_iload_n hx hb dX7_setStart_12 rfl (lv_at hl 2 rfl) ?_
  obtain ⟨hB, hm⟩ := bq_cb_el hm
  obtain ⟨t_rig_2, e9, hm⟩ := bq_let_el hm
  refine pt_X7_151 E K w 1 rfl (Nat.le_of_ble_eq_true rfl) hB dX7_setStart_13 (fun H locs w => ?_)
  replace w : bq_w D A s.heap (wdX7_setStart cI a_t a_t_rig u_t_reader u_t_trial u_t_snapshot u_t_spare u_t_rig_sequence u_t_rig_circuit u_t_rig_log u_t_rig_score u_t_rig_strokes u_t_rig_positions u_t_rig_timers u_t_rig_faults t t_rig_2) H locs := by rw [e9]; exact w
  clear e9
  refine lv_iload_n hx hb dX7_setStart_16 rfl (lv_at hl 0 rfl) ?_
  obtain ⟨hB, hm⟩ := bq_cb_el hm
  obtain ⟨rfl, rfl⟩ := bq_in2 (Option.some.inj hm)
  exact bq_zret E w hr hk hB dX7_setStart_17 hQ
abbrev wdX7_setFault (cI : ClassId) (a_t a_t_rig a_t_rig_faults u_t_reader u_t_trial u_t_snapshot u_t_spare u_t_rig_sequence u_t_rig_circuit u_t_rig_log u_t_rig_score u_t_rig_strokes u_t_rig_positions u_t_rig_timers : Nat) (t : Nat → Int32) (t_rig : Nat → Int32) (t_rig_faults : Nat → Int32) : va_W := [(a_t, oX7 u_t_reader a_t_rig u_t_trial u_t_snapshot u_t_spare t), (a_t_rig, oX3 u_t_rig_sequence u_t_rig_circuit u_t_rig_log u_t_rig_score u_t_rig_strokes u_t_rig_positions u_t_rig_timers a_t_rig_faults t_rig), (a_t_rig_faults, oA cI 5 t_rig_faults)]
abbrev rmX7_setFault : Room := { frames := 1, cells := 0, slots := 0, locals := 23 }
theorem hd_X7_setFault : yX7_setFault.cls = RX7 ∧ yX7_setFault.cls ≠ "java/lang/invoke/MethodHandle" ∧ yX7_setFault.cls ≠ "java/lang/invoke/VarHandle" ∧ (parseMethodDescriptor yX7_setFault.desc).map (fun d => d.parameters.length) = some 3 := by decide +kernel
set_option maxHeartbeats 4000000 in
set_option maxRecDepth 100000 in
theorem kX7_setFault (l : Launch) (D : va_G) (cI cJ : ClassId) (a_t a_t_rig a_t_rig_faults u_t_reader u_t_trial u_t_snapshot u_t_spare u_t_rig_sequence u_t_rig_circuit u_t_rig_log u_t_rig_score u_t_rig_strokes u_t_rig_positions u_t_rig_timers : Nat) (t t_rig t_rig_faults : Nat → Int32) (x1 : Int32) (x2 : Int32) (x3 : Int32) (r : Int32) (t_rig_faults_o : Nat → Int32) (hm : mX7_setFault t_rig_faults x1 x2 x3 = some (r, t_rig_faults_o)) : bq_M l D cI cJ yX7_setFault cX7_setFault 5 (some .boolean) rmX7_setFault [.ref a_t, .int x1, .int x2, .int x3] (wdX7_setFault cI a_t a_t_rig a_t_rig_faults u_t_reader u_t_trial u_t_snapshot u_t_spare u_t_rig_sequence u_t_rig_circuit u_t_rig_log u_t_rig_score u_t_rig_strokes u_t_rig_positions u_t_rig_timers t t_rig t_rig_faults) (wdX7_setFault cI a_t a_t_rig a_t_rig_faults u_t_reader u_t_trial u_t_snapshot u_t_spare u_t_rig_sequence u_t_rig_circuit u_t_rig_log u_t_rig_score u_t_rig_strokes u_t_rig_positions u_t_rig_timers t t_rig t_rig_faults_o) (some (.int r)) := by
  refine bq_start (by decide) (Nat.le_of_ble_eq_true rfl) ?_
  intro p e s m av9 below meth c A ls Q H locs E K w hA hr hk hn hQ hl
  have E : bq_E p m c cX7_setFault 5 s av9 RX7 := E
  have hx := E.1
  have hb := E.2.1
  have hl : lv_has ls 5 [(0, .ref a_t), (1, .int x1), (2, .int x2), (3, .int x3)] := hl
  unfold mX7_setFault at hm
  refine lv_iload_n hx hb dX7_setFault_0 rfl (lv_at hl 1 rfl) ?_
  obtain ⟨⟨⟩, hC, hm⟩ := bq_bd_el hm
  refine bq_S0 (As := [.int x1]) (rest := []) (st1 := []) E K w hA (kX7_checkCylinder l D cI cJ x1 hC) cd_X7_checkCylinder ml_X7_93 in_X7 st_X7_checkCylinder hs_X7_checkCylinder ⟨Nat.le_of_ble_eq_true rfl, Nat.le_of_ble_eq_true rfl⟩ ⟨Nat.le_of_ble_eq_true rfl, Nat.le_of_ble_eq_true rfl⟩ rfl hl.1 rfl (Nat.le_of_ble_eq_true rfl) rfl dX7_setFault_1 (fun H locs w => bq_z ⟨rfl, rfl⟩ ?_)
  clear hC
  refine lv_iload_n hx hb dX7_setFault_4 rfl (lv_at hl 2 rfl) ?_
  obtain ⟨⟨⟩, hC, hm⟩ := bq_bd_el hm
  refine bq_S0 (As := [.int x2]) (rest := []) (st1 := []) E K w hA (kX7_checkFaultKind l D cI cJ x2 hC) cd_X7_checkFaultKind ml_X7_155 in_X7 st_X7_checkFaultKind hs_X7_checkFaultKind ⟨Nat.le_of_ble_eq_true rfl, Nat.le_of_ble_eq_true rfl⟩ ⟨Nat.le_of_ble_eq_true rfl, Nat.le_of_ble_eq_true rfl⟩ rfl hl.1 rfl (Nat.le_of_ble_eq_true rfl) rfl dX7_setFault_5 (fun H locs w => bq_z ⟨rfl, rfl⟩ ?_)
  clear hC
  refine lv_aload_n hx hb dX7_setFault_8 rfl (lv_at hl 0 rfl) ?_
  refine gt_X7_24 E K w 0 rfl rfl dX7_setFault_9 ?_
  refine gt_X7_158 E K w 1 rfl rfl dX7_setFault_12 ?_
  refine lv_iload_n hx hb dX7_setFault_15 rfl (lv_at hl 2 rfl) ?_
  obtain ⟨hI, hm⟩ := bq_ci_el hm
  refine bq_ald E K w 2 rfl hI dX7_setFault_16 ?_
  refine lv_iload_n hx hb dX7_setFault_17 rfl (lv_at hl 1 rfl) ?_
  obtain ⟨v1, hC, hm⟩ := bq_bd_el hm
  refine bq_S0 (As := [.int (t_rig_faults (x2 : Int32).toNatClampNeg), .int x1]) (rest := []) (st1 := [.int v1]) E K w hA (kX7_holds l D cI cJ (t_rig_faults (x2 : Int32).toNatClampNeg) x1 v1 hC) cd_X7_holds ml_X7_100 in_X7 st_X7_holds hs_X7_holds ⟨Nat.le_of_ble_eq_true rfl, Nat.le_of_ble_eq_true rfl⟩ ⟨Nat.le_of_ble_eq_true rfl, Nat.le_of_ble_eq_true rfl⟩ rfl hl.1 rfl (Nat.le_of_ble_eq_true rfl) rfl dX7_setFault_18 (fun H locs w => bq_z ⟨rfl, rfl⟩ ?_)
  clear hC
  refine lv_istore (lv' := [(4, .int v1), (0, .ref a_t), (1, .int x1), (2, .int x2), (3, .int x3)]) hx hb dX7_setFault_21 hl (by decide) rfl (fun ls hl => ?_)
  refine lv_aload_n hx hb dX7_setFault_23 rfl (lv_at hl 1 rfl) ?_
  refine gt_X7_24 E K w 0 rfl rfl dX7_setFault_24 ?_
  refine lv_iload_n hx hb dX7_setFault_27 rfl (lv_at hl 2 rfl) ?_
  refine lv_iload_n hx hb dX7_setFault_28 rfl (lv_at hl 3 rfl) ?_
  refine lv_iload_n hx hb dX7_setFault_29 rfl (lv_at hl 4 rfl) ?_
  obtain ⟨t_rig_faults_2, hC, hm⟩ := bq_bd_el hm
  refine bq_V (As := [.int x1, .int x2, .int x3]) (rest := []) (st1 := []) (ws' := wdX7_setFault cI a_t a_t_rig a_t_rig_faults u_t_reader u_t_trial u_t_snapshot u_t_spare u_t_rig_sequence u_t_rig_circuit u_t_rig_log u_t_rig_score u_t_rig_strokes u_t_rig_positions u_t_rig_timers t t_rig t_rig_faults_2) E K w hA (kX3_putFault l D cI cJ a_t_rig a_t_rig_faults u_t_rig_sequence u_t_rig_circuit u_t_rig_log u_t_rig_score u_t_rig_strokes u_t_rig_positions u_t_rig_timers t_rig t_rig_faults x1 x2 x3 t_rig_faults_2 hC) (bq_gV ml_X7_161 im_X3_putFault sl_X3_putFault in_X3 cd_X3_putFault) hd_X3_putFault ⟨Nat.le_of_ble_eq_true rfl, Nat.le_of_ble_eq_true rfl⟩ ⟨Nat.le_of_ble_eq_true rfl, Nat.le_of_ble_eq_true rfl⟩ ⟨[1, 2], [0], [0, 1, 2], rfl, rfl, rfl, rfl, rfl, rfl, rfl, rfl, rfl⟩ 1 rfl rfl rfl hl.1 rfl (Nat.le_of_ble_eq_true rfl) rfl dX7_setFault_30 (fun H locs w => bq_z ⟨rfl, rfl⟩ ?_)
  clear hC
  refine lv_iload hx hb dX7_setFault_33 (lv_at hl 0 rfl) ?_
  obtain ⟨hB, hm⟩ := bq_cb_el hm
  obtain ⟨rfl, rfl⟩ := bq_in2 (Option.some.inj hm)
  exact bq_zret E w hr hk hB dX7_setFault_35 hQ
abbrev rmTX7_setFault : Room := { frames := 7, cells := 1, slots := 6, locals := 120 }
set_option maxHeartbeats 4000000 in
set_option maxRecDepth 100000 in
theorem tkX7_setFault {l : Launch} (hlf : l.stackTraces = false) (D : va_G) (cI cJ : ClassId) (a_t a_t_rig a_t_rig_faults u_t_reader u_t_trial u_t_snapshot u_t_spare u_t_rig_sequence u_t_rig_circuit u_t_rig_log u_t_rig_score u_t_rig_strokes u_t_rig_positions u_t_rig_timers : Nat) (t t_rig t_rig_faults : Nat → Int32) (x1 : Int32) (x2 : Int32) (x3 : Int32) (r : Nat) (hm : tX7_setFault t_rig_faults x1 x2 x3 = some r) : bq_MT l D cI cJ yX7_setFault cX7_setFault 5 (some .boolean) rmTX7_setFault [.ref a_t, .int x1, .int x2, .int x3] (wdX7_setFault cI a_t a_t_rig a_t_rig_faults u_t_reader u_t_trial u_t_snapshot u_t_spare u_t_rig_sequence u_t_rig_circuit u_t_rig_log u_t_rig_score u_t_rig_strokes u_t_rig_positions u_t_rig_timers t t_rig t_rig_faults) (bq_cls r) := by
  refine bq_startT (by decide) (Nat.le_of_ble_eq_true rfl) ?_
  intro p e s m av9 below meth c A ls Q H locs E K w hA hnt hk hX hQ hl
  have E : bq_E p m c cX7_setFault 5 s av9 RX7 := E
  have hx := E.1
  have hb := E.2.1
  have hl : lv_has ls 5 [(0, .ref a_t), (1, .int x1), (2, .int x2), (3, .int x3)] := hl
  unfold tX7_setFault at hm
  refine lv_iload_n hx hb dX7_setFault_0 rfl (lv_at hl 1 rfl) ?_
  refine (bq_tc_el hm).elim (fun hC => ?_) (fun hm => ?_)
  · exact bq_TS (As := [.int x1]) (rest := []) E K w hA hX hnt hk ⟨rfl, rfl⟩ (tkX7_checkCylinder hlf D cI cJ x1 _ hC) cd_X7_checkCylinder ml_X7_93 in_X7 st_X7_checkCylinder hs_X7_checkCylinder ⟨Nat.le_of_ble_eq_true rfl, Nat.le_of_ble_eq_true rfl⟩ ⟨Nat.le_of_ble_eq_true rfl, Nat.le_of_ble_eq_true rfl⟩ ⟨[], [0, 1, 2], [0, 1, 2], rfl, rfl, rfl, rfl, rfl, rfl, rfl, rfl, rfl⟩ rfl hl.1 rfl (Nat.le_of_ble_eq_true rfl) dX7_setFault_1 hQ
  obtain ⟨⟨⟩, hC, hm⟩ := bq_bd_el hm
  refine bq_S0 (As := [.int x1]) (rest := []) (st1 := []) E K w hA (kX7_checkCylinder l D cI cJ x1 hC) cd_X7_checkCylinder ml_X7_93 in_X7 st_X7_checkCylinder hs_X7_checkCylinder ⟨Nat.le_of_ble_eq_true rfl, Nat.le_of_ble_eq_true rfl⟩ ⟨Nat.le_of_ble_eq_true rfl, Nat.le_of_ble_eq_true rfl⟩ rfl hl.1 rfl (Nat.le_of_ble_eq_true rfl) rfl dX7_setFault_1 (fun H locs w => bq_z ⟨rfl, rfl⟩ ?_)
  clear hC
  refine lv_iload_n hx hb dX7_setFault_4 rfl (lv_at hl 2 rfl) ?_
  refine (bq_tc_el hm).elim (fun hC => ?_) (fun hm => ?_)
  · exact bq_TS (As := [.int x2]) (rest := []) E K w hA hX hnt hk ⟨rfl, rfl⟩ (tkX7_checkFaultKind hlf D cI cJ x2 _ hC) cd_X7_checkFaultKind ml_X7_155 in_X7 st_X7_checkFaultKind hs_X7_checkFaultKind ⟨Nat.le_of_ble_eq_true rfl, Nat.le_of_ble_eq_true rfl⟩ ⟨Nat.le_of_ble_eq_true rfl, Nat.le_of_ble_eq_true rfl⟩ ⟨[], [0, 1, 2], [0, 1, 2], rfl, rfl, rfl, rfl, rfl, rfl, rfl, rfl, rfl⟩ rfl hl.1 rfl (Nat.le_of_ble_eq_true rfl) dX7_setFault_5 hQ
  obtain ⟨⟨⟩, hC, hm⟩ := bq_bd_el hm
  refine bq_S0 (As := [.int x2]) (rest := []) (st1 := []) E K w hA (kX7_checkFaultKind l D cI cJ x2 hC) cd_X7_checkFaultKind ml_X7_155 in_X7 st_X7_checkFaultKind hs_X7_checkFaultKind ⟨Nat.le_of_ble_eq_true rfl, Nat.le_of_ble_eq_true rfl⟩ ⟨Nat.le_of_ble_eq_true rfl, Nat.le_of_ble_eq_true rfl⟩ rfl hl.1 rfl (Nat.le_of_ble_eq_true rfl) rfl dX7_setFault_5 (fun H locs w => bq_z ⟨rfl, rfl⟩ ?_)
  clear hC
  cases hm
abbrev wdX7_rest (cI : ClassId) (a_t a_t_rig a_t_rig_circuit a_t_rig_log a_t_rig_positions a_t_rig_score a_t_rig_sequence a_t_rig_sequence_minus a_t_rig_sequence_plus a_t_rig_timers u_t_reader u_t_trial u_t_snapshot u_t_spare u_t_rig_strokes u_t_rig_faults u_t_rig_log_times u_t_rig_log_moves u_t_rig_sequence_pauses u_t_rig_sequence_outBefore u_t_rig_sequence_cuts u_t_rig_sequence_groupOfStep : Nat) (t : Nat → Int32) (t_rig : Nat → Int32) (t_rig_circuit : Nat → Int32) (t_rig_log : Nat → Int32) (t_rig_positions : Nat → Int32) (t_rig_score : Nat → Int32) (t_rig_sequence : Nat → Int32) (t_rig_sequence_minus : Nat → Int32) (t_rig_sequence_plus : Nat → Int32) (t_rig_timers : Nat → Int32) : va_W := [(a_t, oX7 u_t_reader a_t_rig u_t_trial u_t_snapshot u_t_spare t), (a_t_rig, oX3 a_t_rig_sequence a_t_rig_circuit a_t_rig_log a_t_rig_score u_t_rig_strokes a_t_rig_positions a_t_rig_timers u_t_rig_faults t_rig), (a_t_rig_circuit, oX0 t_rig_circuit), (a_t_rig_log, oX1 u_t_rig_log_times u_t_rig_log_moves t_rig_log), (a_t_rig_positions, oA cI 6 t_rig_positions), (a_t_rig_score, oX4 t_rig_score), (a_t_rig_sequence, oX5 a_t_rig_sequence_plus a_t_rig_sequence_minus u_t_rig_sequence_pauses u_t_rig_sequence_outBefore u_t_rig_sequence_cuts u_t_rig_sequence_groupOfStep t_rig_sequence), (a_t_rig_sequence_minus, oA cI 16 t_rig_sequence_minus), (a_t_rig_sequence_plus, oA cI 16 t_rig_sequence_plus), (a_t_rig_timers, oA cI 16 t_rig_timers)]
abbrev rmX7_rest : Room := { frames := 3, cells := 0, slots := 0, locals := 64 }
theorem hd_X7_rest : yX7_rest.cls = RX7 ∧ yX7_rest.cls ≠ "java/lang/invoke/MethodHandle" ∧ yX7_rest.cls ≠ "java/lang/invoke/VarHandle" ∧ (parseMethodDescriptor yX7_rest.desc).map (fun d => d.parameters.length) = some 0 := by decide +kernel
set_option maxHeartbeats 4000000 in
set_option maxRecDepth 100000 in
theorem kX7_rest (l : Launch) (D : va_G) (cI cJ : ClassId) (a_t a_t_rig a_t_rig_circuit a_t_rig_log a_t_rig_positions a_t_rig_score a_t_rig_sequence a_t_rig_sequence_minus a_t_rig_sequence_plus a_t_rig_timers u_t_reader u_t_trial u_t_snapshot u_t_spare u_t_rig_strokes u_t_rig_faults u_t_rig_log_times u_t_rig_log_moves u_t_rig_sequence_pauses u_t_rig_sequence_outBefore u_t_rig_sequence_cuts u_t_rig_sequence_groupOfStep : Nat) (t t_rig t_rig_circuit t_rig_log t_rig_positions t_rig_score t_rig_sequence t_rig_sequence_minus t_rig_sequence_plus t_rig_timers : Nat → Int32) (r : Int32) (t_rig_o : Nat → Int32) (t_rig_circuit_o : Nat → Int32) (t_rig_log_o : Nat → Int32) (t_rig_positions_o : Nat → Int32) (t_rig_score_o : Nat → Int32) (t_rig_timers_o : Nat → Int32) (hm : mX7_rest t_rig t_rig_circuit t_rig_log t_rig_positions t_rig_score t_rig_sequence t_rig_sequence_minus t_rig_sequence_plus t_rig_timers = some (r, t_rig_o, t_rig_circuit_o, t_rig_log_o, t_rig_positions_o, t_rig_score_o, t_rig_timers_o)) : bq_M l D cI cJ yX7_rest cX7_rest 2 (some .int) rmX7_rest [.ref a_t] (wdX7_rest cI a_t a_t_rig a_t_rig_circuit a_t_rig_log a_t_rig_positions a_t_rig_score a_t_rig_sequence a_t_rig_sequence_minus a_t_rig_sequence_plus a_t_rig_timers u_t_reader u_t_trial u_t_snapshot u_t_spare u_t_rig_strokes u_t_rig_faults u_t_rig_log_times u_t_rig_log_moves u_t_rig_sequence_pauses u_t_rig_sequence_outBefore u_t_rig_sequence_cuts u_t_rig_sequence_groupOfStep t t_rig t_rig_circuit t_rig_log t_rig_positions t_rig_score t_rig_sequence t_rig_sequence_minus t_rig_sequence_plus t_rig_timers) (wdX7_rest cI a_t a_t_rig a_t_rig_circuit a_t_rig_log a_t_rig_positions a_t_rig_score a_t_rig_sequence a_t_rig_sequence_minus a_t_rig_sequence_plus a_t_rig_timers u_t_reader u_t_trial u_t_snapshot u_t_spare u_t_rig_strokes u_t_rig_faults u_t_rig_log_times u_t_rig_log_moves u_t_rig_sequence_pauses u_t_rig_sequence_outBefore u_t_rig_sequence_cuts u_t_rig_sequence_groupOfStep t t_rig_o t_rig_circuit_o t_rig_log_o t_rig_positions_o t_rig_score_o t_rig_sequence t_rig_sequence_minus t_rig_sequence_plus t_rig_timers_o) (some (.int r)) := by
  refine bq_start (by decide) (Nat.le_of_ble_eq_true rfl) ?_
  intro p e s m av9 below meth c A ls Q H locs E K w hA hr hk hn hQ hl
  have E : bq_E p m c cX7_rest 2 s av9 RX7 := E
  have hx := E.1
  have hb := E.2.1
  have hl : lv_has ls 2 [(0, .ref a_t)] := hl
  unfold mX7_rest at hm
  refine lv_aload_n hx hb dX7_rest_0 rfl (lv_at hl 0 rfl) ?_
  refine gt_X7_24 E K w 0 rfl rfl dX7_rest_1 ?_
  refine gt_X7_165 E K w 1 rfl rfl dX7_rest_4 ?_
  obtain ⟨v1, e9, hm⟩ := bq_let_el hm
  refine bq_nmi e9 ?_
  clear e9
  refine lv_istore_n (lv' := [(1, .int v1), (0, .ref a_t)]) hx hb dX7_rest_7 rfl hl (by decide) rfl (fun ls hl => ?_)
  refine lv_aload_n hx hb dX7_rest_8 rfl (lv_at hl 1 rfl) ?_
  refine gt_X7_24 E K w 0 rfl rfl dX7_rest_9 ?_
  obtain ⟨t_rig_2, t_rig_circuit_3, t_rig_log_4, t_rig_positions_5, t_rig_score_6, t_rig_timers_7, hC, hm⟩ := bq_b6_el hm
  refine bq_V (As := []) (rest := []) (st1 := []) (ws' := wdX7_rest cI a_t a_t_rig a_t_rig_circuit a_t_rig_log a_t_rig_positions a_t_rig_score a_t_rig_sequence a_t_rig_sequence_minus a_t_rig_sequence_plus a_t_rig_timers u_t_reader u_t_trial u_t_snapshot u_t_spare u_t_rig_strokes u_t_rig_faults u_t_rig_log_times u_t_rig_log_moves u_t_rig_sequence_pauses u_t_rig_sequence_outBefore u_t_rig_sequence_cuts u_t_rig_sequence_groupOfStep t t_rig_2 t_rig_circuit_3 t_rig_log_4 t_rig_positions_5 t_rig_score_6 t_rig_sequence t_rig_sequence_minus t_rig_sequence_plus t_rig_timers_7) E K w hA (kX3_bringToRest l D cI cJ a_t_rig a_t_rig_circuit a_t_rig_log a_t_rig_positions a_t_rig_score a_t_rig_sequence a_t_rig_sequence_minus a_t_rig_sequence_plus a_t_rig_timers u_t_rig_strokes u_t_rig_faults u_t_rig_log_times u_t_rig_log_moves u_t_rig_sequence_pauses u_t_rig_sequence_outBefore u_t_rig_sequence_cuts u_t_rig_sequence_groupOfStep t_rig t_rig_circuit t_rig_log t_rig_positions t_rig_score t_rig_sequence t_rig_sequence_minus t_rig_sequence_plus t_rig_timers t_rig_2 t_rig_circuit_3 t_rig_log_4 t_rig_positions_5 t_rig_score_6 t_rig_timers_7 hC) (bq_gV ml_X7_80 im_X3_bringToRest sl_X3_bringToRest in_X3 cd_X3_bringToRest) hd_X3_bringToRest ⟨Nat.le_of_ble_eq_true rfl, Nat.le_of_ble_eq_true rfl⟩ ⟨Nat.le_of_ble_eq_true rfl, Nat.le_of_ble_eq_true rfl⟩ ⟨[1, 2, 3, 4, 5, 6, 7, 8, 9], [0], [0, 1, 2, 3, 4, 5, 6, 7, 8, 9], rfl, rfl, rfl, rfl, rfl, rfl, rfl, rfl, rfl⟩ 1 rfl rfl rfl hl.1 rfl (Nat.le_of_ble_eq_true rfl) rfl dX7_rest_12 (fun H locs w => bq_z ⟨rfl, rfl⟩ ?_)
  clear hC
  refine lv_iload_n hx hb dX7_rest_15 rfl (lv_at hl 0 rfl) ?_
  obtain ⟨rfl, rfl, rfl, rfl, rfl, rfl, rfl⟩ := bq_in7 (Option.some.inj hm)
  exact bq_iret E w hr hk dX7_rest_16 hQ
abbrev wdX7_ticks (cI : ClassId) (a_t a_t_rig a_t_rig_circuit a_t_rig_faults a_t_rig_log a_t_rig_log_moves a_t_rig_log_times a_t_rig_positions a_t_rig_score a_t_rig_sequence a_t_rig_sequence_cuts a_t_rig_sequence_groupOfStep a_t_rig_sequence_minus a_t_rig_sequence_pauses a_t_rig_sequence_plus a_t_rig_strokes a_t_rig_timers u_t_reader u_t_trial u_t_snapshot u_t_spare u_t_rig_sequence_outBefore : Nat) (t : Nat → Int32) (t_rig : Nat → Int32) (t_rig_circuit : Nat → Int32) (t_rig_faults : Nat → Int32) (t_rig_log : Nat → Int32) (t_rig_log_moves : Nat → Int32) (t_rig_log_times : Nat → Int32) (t_rig_positions : Nat → Int32) (t_rig_score : Nat → Int32) (t_rig_sequence : Nat → Int32) (t_rig_sequence_cuts : Nat → Int32) (t_rig_sequence_groupOfStep : Nat → Int32) (t_rig_sequence_minus : Nat → Int32) (t_rig_sequence_pauses : Nat → Int32) (t_rig_sequence_plus : Nat → Int32) (t_rig_strokes : Nat → Int32) (t_rig_timers : Nat → Int32) : va_W := [(a_t, oX7 u_t_reader a_t_rig u_t_trial u_t_snapshot u_t_spare t), (a_t_rig, oX3 a_t_rig_sequence a_t_rig_circuit a_t_rig_log a_t_rig_score a_t_rig_strokes a_t_rig_positions a_t_rig_timers a_t_rig_faults t_rig), (a_t_rig_circuit, oX0 t_rig_circuit), (a_t_rig_faults, oA cI 5 t_rig_faults), (a_t_rig_log, oX1 a_t_rig_log_times a_t_rig_log_moves t_rig_log), (a_t_rig_log_moves, oA cI 40 t_rig_log_moves), (a_t_rig_log_times, oA cI 40 t_rig_log_times), (a_t_rig_positions, oA cI 6 t_rig_positions), (a_t_rig_score, oX4 t_rig_score), (a_t_rig_sequence, oX5 a_t_rig_sequence_plus a_t_rig_sequence_minus a_t_rig_sequence_pauses u_t_rig_sequence_outBefore a_t_rig_sequence_cuts a_t_rig_sequence_groupOfStep t_rig_sequence), (a_t_rig_sequence_cuts, oA cI 16 t_rig_sequence_cuts), (a_t_rig_sequence_groupOfStep, oA cI 16 t_rig_sequence_groupOfStep), (a_t_rig_sequence_minus, oA cI 16 t_rig_sequence_minus), (a_t_rig_sequence_pauses, oA cI 16 t_rig_sequence_pauses), (a_t_rig_sequence_plus, oA cI 16 t_rig_sequence_plus), (a_t_rig_strokes, oA cI 6 t_rig_strokes), (a_t_rig_timers, oA cI 16 t_rig_timers)]
abbrev rmX7_ticks : Room := { frames := 5, cells := 0, slots := 0, locals := 117 }
theorem hd_X7_ticks : yX7_ticks.cls = RX7 ∧ yX7_ticks.cls ≠ "java/lang/invoke/MethodHandle" ∧ yX7_ticks.cls ≠ "java/lang/invoke/VarHandle" ∧ (parseMethodDescriptor yX7_ticks.desc).map (fun d => d.parameters.length) = some 1 := by decide +kernel
set_option maxHeartbeats 4000000 in
set_option maxRecDepth 100000 in
theorem kX7_ticks (l : Launch) (D : va_G) (cI cJ : ClassId) (a_t a_t_rig a_t_rig_circuit a_t_rig_faults a_t_rig_log a_t_rig_log_moves a_t_rig_log_times a_t_rig_positions a_t_rig_score a_t_rig_sequence a_t_rig_sequence_cuts a_t_rig_sequence_groupOfStep a_t_rig_sequence_minus a_t_rig_sequence_pauses a_t_rig_sequence_plus a_t_rig_strokes a_t_rig_timers u_t_reader u_t_trial u_t_snapshot u_t_spare u_t_rig_sequence_outBefore : Nat) (t t_rig t_rig_circuit t_rig_faults t_rig_log t_rig_log_moves t_rig_log_times t_rig_positions t_rig_score t_rig_sequence t_rig_sequence_cuts t_rig_sequence_groupOfStep t_rig_sequence_minus t_rig_sequence_pauses t_rig_sequence_plus t_rig_strokes t_rig_timers : Nat → Int32) (x1 : Int32) (r : Int32) (t_rig_o : Nat → Int32) (t_rig_circuit_o : Nat → Int32) (t_rig_log_o : Nat → Int32) (t_rig_log_moves_o : Nat → Int32) (t_rig_log_times_o : Nat → Int32) (t_rig_positions_o : Nat → Int32) (t_rig_score_o : Nat → Int32) (t_rig_timers_o : Nat → Int32) (hm : mX7_ticks t_rig t_rig_circuit t_rig_faults t_rig_log t_rig_log_moves t_rig_log_times t_rig_positions t_rig_score t_rig_sequence t_rig_sequence_cuts t_rig_sequence_groupOfStep t_rig_sequence_minus t_rig_sequence_pauses t_rig_sequence_plus t_rig_strokes t_rig_timers x1 = some (r, t_rig_o, t_rig_circuit_o, t_rig_log_o, t_rig_log_moves_o, t_rig_log_times_o, t_rig_positions_o, t_rig_score_o, t_rig_timers_o)) : bq_M l D cI cJ yX7_ticks cX7_ticks 3 (some .int) rmX7_ticks [.ref a_t, .int x1] (wdX7_ticks cI a_t a_t_rig a_t_rig_circuit a_t_rig_faults a_t_rig_log a_t_rig_log_moves a_t_rig_log_times a_t_rig_positions a_t_rig_score a_t_rig_sequence a_t_rig_sequence_cuts a_t_rig_sequence_groupOfStep a_t_rig_sequence_minus a_t_rig_sequence_pauses a_t_rig_sequence_plus a_t_rig_strokes a_t_rig_timers u_t_reader u_t_trial u_t_snapshot u_t_spare u_t_rig_sequence_outBefore t t_rig t_rig_circuit t_rig_faults t_rig_log t_rig_log_moves t_rig_log_times t_rig_positions t_rig_score t_rig_sequence t_rig_sequence_cuts t_rig_sequence_groupOfStep t_rig_sequence_minus t_rig_sequence_pauses t_rig_sequence_plus t_rig_strokes t_rig_timers) (wdX7_ticks cI a_t a_t_rig a_t_rig_circuit a_t_rig_faults a_t_rig_log a_t_rig_log_moves a_t_rig_log_times a_t_rig_positions a_t_rig_score a_t_rig_sequence a_t_rig_sequence_cuts a_t_rig_sequence_groupOfStep a_t_rig_sequence_minus a_t_rig_sequence_pauses a_t_rig_sequence_plus a_t_rig_strokes a_t_rig_timers u_t_reader u_t_trial u_t_snapshot u_t_spare u_t_rig_sequence_outBefore t t_rig_o t_rig_circuit_o t_rig_faults t_rig_log_o t_rig_log_moves_o t_rig_log_times_o t_rig_positions_o t_rig_score_o t_rig_sequence t_rig_sequence_cuts t_rig_sequence_groupOfStep t_rig_sequence_minus t_rig_sequence_pauses t_rig_sequence_plus t_rig_strokes t_rig_timers_o) (some (.int r)) := by
  refine bq_start (by decide) (Nat.le_of_ble_eq_true rfl) ?_
  intro p e s m av9 below meth c A ls Q H locs E K w hA hr hk hn hQ hl
  have E : bq_E p m c cX7_ticks 3 s av9 RX7 := E
  have hx := E.1
  have hb := E.2.1
  have hl : lv_has ls 3 [(0, .ref a_t), (1, .int x1)] := hl
  unfold mX7_ticks at hm
  refine lv_iload_n hx hb dX7_ticks_0 rfl (lv_at hl 1 rfl) ?_
  refine lv_if_lt (tgt := 11) hx hb dX7_ticks_1 (by decide) (fun hc => ?_) (fun hc => ?_)
  · replace hm := bq_t hc hm
    clear hc
    cases hm
  · replace hm := bq_f hc hm
    clear hc
    refine lv_iload_n hx hb dX7_ticks_4 rfl (lv_at hl 1 rfl) ?_
    refine lv_sipush (v := 5000) hx hb dX7_ticks_5 (by decide) ?_
    refine lv_icmp_le (tgt := 21) hx hb dX7_ticks_8 (by decide) (fun hc => ?_) (fun hc => ?_)
    · replace hm := bq_t hc hm
      clear hc
      refine lv_aload_n hx hb dX7_ticks_21 rfl (lv_at hl 0 rfl) ?_
      obtain ⟨⟨⟩, hC, hm⟩ := bq_bd_el hm
      refine bq_V (As := []) (rest := []) (st1 := []) (ws' := wdX7_ticks cI a_t a_t_rig a_t_rig_circuit a_t_rig_faults a_t_rig_log a_t_rig_log_moves a_t_rig_log_times a_t_rig_positions a_t_rig_score a_t_rig_sequence a_t_rig_sequence_cuts a_t_rig_sequence_groupOfStep a_t_rig_sequence_minus a_t_rig_sequence_pauses a_t_rig_sequence_plus a_t_rig_strokes a_t_rig_timers u_t_reader u_t_trial u_t_snapshot u_t_spare u_t_rig_sequence_outBefore t t_rig t_rig_circuit t_rig_faults t_rig_log t_rig_log_moves t_rig_log_times t_rig_positions t_rig_score t_rig_sequence t_rig_sequence_cuts t_rig_sequence_groupOfStep t_rig_sequence_minus t_rig_sequence_pauses t_rig_sequence_plus t_rig_strokes t_rig_timers) E K w hA (kX7_checkSequence l D cI cJ a_t a_t_rig a_t_rig_sequence u_t_reader u_t_trial u_t_snapshot u_t_spare a_t_rig_circuit a_t_rig_log a_t_rig_score a_t_rig_strokes a_t_rig_positions a_t_rig_timers a_t_rig_faults a_t_rig_sequence_plus a_t_rig_sequence_minus a_t_rig_sequence_pauses u_t_rig_sequence_outBefore a_t_rig_sequence_cuts a_t_rig_sequence_groupOfStep t t_rig t_rig_sequence hC) (bq_gV ml_X7_110 im_X7_checkSequence sl_X7_checkSequence in_X7 cd_X7_checkSequence) hd_X7_checkSequence ⟨Nat.le_of_ble_eq_true rfl, Nat.le_of_ble_eq_true rfl⟩ ⟨Nat.le_of_ble_eq_true rfl, Nat.le_of_ble_eq_true rfl⟩ ⟨[0, 1, 9], [2, 3, 4, 5, 6, 7, 8, 10, 11, 12, 13, 14, 15, 16], [14, 15, 0, 1, 2, 3, 4, 5, 6, 16, 7, 8, 9, 10, 11, 12, 13], rfl, rfl, rfl, rfl, rfl, rfl, rfl, rfl, rfl⟩ 0 rfl rfl rfl hl.1 rfl (Nat.le_of_ble_eq_true rfl) rfl dX7_ticks_22 (fun H locs w => bq_z ⟨rfl, rfl⟩ ?_)
      clear hC
      refine lv_aload_n hx hb dX7_ticks_25 rfl (lv_at hl 0 rfl) ?_
      refine gt_X7_24 E K w 0 rfl rfl dX7_ticks_26 ?_
      refine gt_X7_170 E K w 1 rfl rfl dX7_ticks_29 ?_
      refine gt_X7_174 E K w 4 rfl rfl dX7_ticks_32 ?_
      obtain ⟨v1, e9, hm⟩ := bq_let_el hm
      refine bq_nmi e9 ?_
      clear e9
      refine lv_istore_n (lv' := [(2, .int v1), (0, .ref a_t), (1, .int x1)]) hx hb dX7_ticks_35 rfl hl (by decide) rfl (fun ls hl => ?_)
      refine lv_aload_n hx hb dX7_ticks_36 rfl (lv_at hl 1 rfl) ?_
      refine gt_X7_24 E K w 0 rfl rfl dX7_ticks_37 ?_
      refine lv_iload_n hx hb dX7_ticks_40 rfl (lv_at hl 2 rfl) ?_
      obtain ⟨t_rig_2, t_rig_circuit_3, t_rig_log_4, t_rig_log_moves_5, t_rig_log_times_6, t_rig_positions_7, t_rig_score_8, t_rig_timers_9, hC, hm⟩ := bq_b8_el hm
      refine bq_V (As := [.int x1]) (rest := []) (st1 := []) (ws' := wdX7_ticks cI a_t a_t_rig a_t_rig_circuit a_t_rig_faults a_t_rig_log a_t_rig_log_moves a_t_rig_log_times a_t_rig_positions a_t_rig_score a_t_rig_sequence a_t_rig_sequence_cuts a_t_rig_sequence_groupOfStep a_t_rig_sequence_minus a_t_rig_sequence_pauses a_t_rig_sequence_plus a_t_rig_strokes a_t_rig_timers u_t_reader u_t_trial u_t_snapshot u_t_spare u_t_rig_sequence_outBefore t t_rig_2 t_rig_circuit_3 t_rig_faults t_rig_log_4 t_rig_log_moves_5 t_rig_log_times_6 t_rig_positions_7 t_rig_score_8 t_rig_sequence t_rig_sequence_cuts t_rig_sequence_groupOfStep t_rig_sequence_minus t_rig_sequence_pauses t_rig_sequence_plus t_rig_strokes t_rig_timers_9) E K w hA (kX3_run l D cI cJ a_t_rig a_t_rig_circuit a_t_rig_faults a_t_rig_log a_t_rig_log_moves a_t_rig_log_times a_t_rig_positions a_t_rig_score a_t_rig_sequence a_t_rig_sequence_cuts a_t_rig_sequence_groupOfStep a_t_rig_sequence_minus a_t_rig_sequence_pauses a_t_rig_sequence_plus a_t_rig_strokes a_t_rig_timers u_t_rig_sequence_outBefore t_rig t_rig_circuit t_rig_faults t_rig_log t_rig_log_moves t_rig_log_times t_rig_positions t_rig_score t_rig_sequence t_rig_sequence_cuts t_rig_sequence_groupOfStep t_rig_sequence_minus t_rig_sequence_pauses t_rig_sequence_plus t_rig_strokes t_rig_timers x1 t_rig_2 t_rig_circuit_3 t_rig_log_4 t_rig_log_moves_5 t_rig_log_times_6 t_rig_positions_7 t_rig_score_8 t_rig_timers_9 hC) (bq_gV ml_X7_177 im_X3_run sl_X3_run in_X3 cd_X3_run) hd_X3_run ⟨Nat.le_of_ble_eq_true rfl, Nat.le_of_ble_eq_true rfl⟩ ⟨Nat.le_of_ble_eq_true rfl, Nat.le_of_ble_eq_true rfl⟩ ⟨[1, 2, 3, 4, 5, 6, 7, 8, 9, 10, 11, 12, 13, 14, 15, 16], [0], [0, 1, 2, 3, 4, 5, 6, 7, 8, 9, 10, 11, 12, 13, 14, 15, 16], rfl, rfl, rfl, rfl, rfl, rfl, rfl, rfl, rfl⟩ 1 rfl rfl rfl hl.1 rfl (Nat.le_of_ble_eq_true rfl) rfl dX7_ticks_41 (fun H locs w => bq_z ⟨rfl, rfl⟩ ?_)
      clear hC
      refine lv_aload_n hx hb dX7_ticks_44 rfl (lv_at hl 1 rfl) ?_
      refine gt_X7_24 E K w 0 rfl rfl dX7_ticks_45 ?_
      refine gt_X7_170 E K w 1 rfl rfl dX7_ticks_48 ?_
      refine gt_X7_174 E K w 4 rfl rfl dX7_ticks_51 ?_
      refine lv_iload_n hx hb dX7_ticks_54 rfl (lv_at hl 0 rfl) ?_
      refine lv_isub hx hb dX7_ticks_55 ?_
      obtain ⟨rfl, rfl, rfl, rfl, rfl, rfl, rfl, rfl, rfl⟩ := bq_in9 (Option.some.inj hm)
      exact bq_iret E w hr hk dX7_ticks_56 hQ
    · replace hm := bq_f hc hm
      clear hc
      cases hm
abbrev rmTX7_ticks : Room := { frames := 7, cells := 1, slots := 6, locals := 120 }
set_option maxHeartbeats 4000000 in
set_option maxRecDepth 100000 in
theorem tkX7_ticks {l : Launch} (hlf : l.stackTraces = false) (D : va_G) (cI cJ : ClassId) (a_t a_t_rig a_t_rig_circuit a_t_rig_faults a_t_rig_log a_t_rig_log_moves a_t_rig_log_times a_t_rig_positions a_t_rig_score a_t_rig_sequence a_t_rig_sequence_cuts a_t_rig_sequence_groupOfStep a_t_rig_sequence_minus a_t_rig_sequence_pauses a_t_rig_sequence_plus a_t_rig_strokes a_t_rig_timers u_t_reader u_t_trial u_t_snapshot u_t_spare u_t_rig_sequence_outBefore : Nat) (t t_rig t_rig_circuit t_rig_faults t_rig_log t_rig_log_moves t_rig_log_times t_rig_positions t_rig_score t_rig_sequence t_rig_sequence_cuts t_rig_sequence_groupOfStep t_rig_sequence_minus t_rig_sequence_pauses t_rig_sequence_plus t_rig_strokes t_rig_timers : Nat → Int32) (x1 : Int32) (r : Nat) (hm : tX7_ticks t_rig t_rig_circuit t_rig_faults t_rig_log t_rig_log_moves t_rig_log_times t_rig_positions t_rig_score t_rig_sequence t_rig_sequence_cuts t_rig_sequence_groupOfStep t_rig_sequence_minus t_rig_sequence_pauses t_rig_sequence_plus t_rig_strokes t_rig_timers x1 = some r) : bq_MT l D cI cJ yX7_ticks cX7_ticks 3 (some .int) rmTX7_ticks [.ref a_t, .int x1] (wdX7_ticks cI a_t a_t_rig a_t_rig_circuit a_t_rig_faults a_t_rig_log a_t_rig_log_moves a_t_rig_log_times a_t_rig_positions a_t_rig_score a_t_rig_sequence a_t_rig_sequence_cuts a_t_rig_sequence_groupOfStep a_t_rig_sequence_minus a_t_rig_sequence_pauses a_t_rig_sequence_plus a_t_rig_strokes a_t_rig_timers u_t_reader u_t_trial u_t_snapshot u_t_spare u_t_rig_sequence_outBefore t t_rig t_rig_circuit t_rig_faults t_rig_log t_rig_log_moves t_rig_log_times t_rig_positions t_rig_score t_rig_sequence t_rig_sequence_cuts t_rig_sequence_groupOfStep t_rig_sequence_minus t_rig_sequence_pauses t_rig_sequence_plus t_rig_strokes t_rig_timers) (bq_cls r) := by
  refine bq_startT (by decide) (Nat.le_of_ble_eq_true rfl) ?_
  intro p e s m av9 below meth c A ls Q H locs E K w hA hnt hk hX hQ hl
  have E : bq_E p m c cX7_ticks 3 s av9 RX7 := E
  have hx := E.1
  have hb := E.2.1
  have hl : lv_has ls 3 [(0, .ref a_t), (1, .int x1)] := hl
  unfold tX7_ticks at hm
  refine lv_iload_n hx hb dX7_ticks_0 rfl (lv_at hl 1 rfl) ?_
  refine lv_if_lt (tgt := 11) hx hb dX7_ticks_1 (by decide) (fun hc => ?_) (fun hc => ?_)
  · replace hm := bq_t hc hm
    clear hc
    obtain rfl := Option.some.inj hm
    exact bq_throw (cls := "java/lang/IllegalArgumentException") hlf E K w hX hnt hk hQ (by decide +kernel) bq_upf cl_X7_46 in_IllegalArgumentException sr_X7_168 xa_X7_50 xb_X7_50 xg_X7_46_50 hl.1 dX7_ticks_11 dX7_ticks_14 dX7_ticks_15 dX7_ticks_17 dX7_ticks_20 (Nat.le_of_ble_eq_true rfl) (Nat.le_of_ble_eq_true rfl) (Nat.le_of_ble_eq_true rfl) (Nat.le_of_ble_eq_true rfl)
  · replace hm := bq_f hc hm
    clear hc
    refine lv_iload_n hx hb dX7_ticks_4 rfl (lv_at hl 1 rfl) ?_
    refine lv_sipush (v := 5000) hx hb dX7_ticks_5 (by decide) ?_
    refine lv_icmp_le (tgt := 21) hx hb dX7_ticks_8 (by decide) (fun hc => ?_) (fun hc => ?_)
    · replace hm := bq_t hc hm
      clear hc
      refine lv_aload_n hx hb dX7_ticks_21 rfl (lv_at hl 0 rfl) ?_
      refine (bq_tc_el hm).elim (fun hC => ?_) (fun hm => ?_)
      · exact bq_TV (As := []) (rest := []) E K w hA hX hnt hk ⟨rfl, rfl⟩ (tkX7_checkSequence hlf D cI cJ a_t a_t_rig a_t_rig_sequence u_t_reader u_t_trial u_t_snapshot u_t_spare a_t_rig_circuit a_t_rig_log a_t_rig_score a_t_rig_strokes a_t_rig_positions a_t_rig_timers a_t_rig_faults a_t_rig_sequence_plus a_t_rig_sequence_minus a_t_rig_sequence_pauses u_t_rig_sequence_outBefore a_t_rig_sequence_cuts a_t_rig_sequence_groupOfStep t t_rig t_rig_sequence _ hC) (bq_gV ml_X7_110 im_X7_checkSequence sl_X7_checkSequence in_X7 cd_X7_checkSequence) hd_X7_checkSequence ⟨Nat.le_of_ble_eq_true rfl, Nat.le_of_ble_eq_true rfl⟩ ⟨Nat.le_of_ble_eq_true rfl, Nat.le_of_ble_eq_true rfl⟩ ⟨[0, 1, 9], [2, 3, 4, 5, 6, 7, 8, 10, 11, 12, 13, 14, 15, 16], [14, 15, 0, 1, 2, 3, 4, 5, 6, 16, 7, 8, 9, 10, 11, 12, 13], rfl, rfl, rfl, rfl, rfl, rfl, rfl, rfl, rfl⟩ 0 rfl rfl rfl hl.1 rfl (Nat.le_of_ble_eq_true rfl) dX7_ticks_22 hQ
      obtain ⟨⟨⟩, hC, hm⟩ := bq_bd_el hm
      refine bq_V (As := []) (rest := []) (st1 := []) (ws' := wdX7_ticks cI a_t a_t_rig a_t_rig_circuit a_t_rig_faults a_t_rig_log a_t_rig_log_moves a_t_rig_log_times a_t_rig_positions a_t_rig_score a_t_rig_sequence a_t_rig_sequence_cuts a_t_rig_sequence_groupOfStep a_t_rig_sequence_minus a_t_rig_sequence_pauses a_t_rig_sequence_plus a_t_rig_strokes a_t_rig_timers u_t_reader u_t_trial u_t_snapshot u_t_spare u_t_rig_sequence_outBefore t t_rig t_rig_circuit t_rig_faults t_rig_log t_rig_log_moves t_rig_log_times t_rig_positions t_rig_score t_rig_sequence t_rig_sequence_cuts t_rig_sequence_groupOfStep t_rig_sequence_minus t_rig_sequence_pauses t_rig_sequence_plus t_rig_strokes t_rig_timers) E K w hA (kX7_checkSequence l D cI cJ a_t a_t_rig a_t_rig_sequence u_t_reader u_t_trial u_t_snapshot u_t_spare a_t_rig_circuit a_t_rig_log a_t_rig_score a_t_rig_strokes a_t_rig_positions a_t_rig_timers a_t_rig_faults a_t_rig_sequence_plus a_t_rig_sequence_minus a_t_rig_sequence_pauses u_t_rig_sequence_outBefore a_t_rig_sequence_cuts a_t_rig_sequence_groupOfStep t t_rig t_rig_sequence hC) (bq_gV ml_X7_110 im_X7_checkSequence sl_X7_checkSequence in_X7 cd_X7_checkSequence) hd_X7_checkSequence ⟨Nat.le_of_ble_eq_true rfl, Nat.le_of_ble_eq_true rfl⟩ ⟨Nat.le_of_ble_eq_true rfl, Nat.le_of_ble_eq_true rfl⟩ ⟨[0, 1, 9], [2, 3, 4, 5, 6, 7, 8, 10, 11, 12, 13, 14, 15, 16], [14, 15, 0, 1, 2, 3, 4, 5, 6, 16, 7, 8, 9, 10, 11, 12, 13], rfl, rfl, rfl, rfl, rfl, rfl, rfl, rfl, rfl⟩ 0 rfl rfl rfl hl.1 rfl (Nat.le_of_ble_eq_true rfl) rfl dX7_ticks_22 (fun H locs w => bq_z ⟨rfl, rfl⟩ ?_)
      clear hC
      cases hm
    · replace hm := bq_f hc hm
      clear hc
      obtain rfl := Option.some.inj hm
      exact bq_throw (cls := "java/lang/IllegalArgumentException") hlf E K w hX hnt hk hQ (by decide +kernel) bq_upf cl_X7_46 in_IllegalArgumentException sr_X7_168 xa_X7_50 xb_X7_50 xg_X7_46_50 hl.1 dX7_ticks_11 dX7_ticks_14 dX7_ticks_15 dX7_ticks_17 dX7_ticks_20 (Nat.le_of_ble_eq_true rfl) (Nat.le_of_ble_eq_true rfl) (Nat.le_of_ble_eq_true rfl) (Nat.le_of_ble_eq_true rfl)
abbrev wdX7_time (cI : ClassId) (a_t a_t_rig u_t_reader u_t_trial u_t_snapshot u_t_spare u_t_rig_sequence u_t_rig_circuit u_t_rig_log u_t_rig_score u_t_rig_strokes u_t_rig_positions u_t_rig_timers u_t_rig_faults : Nat) (t : Nat → Int32) (t_rig : Nat → Int32) : va_W := [(a_t, oX7 u_t_reader a_t_rig u_t_trial u_t_snapshot u_t_spare t), (a_t_rig, oX3 u_t_rig_sequence u_t_rig_circuit u_t_rig_log u_t_rig_score u_t_rig_strokes u_t_rig_positions u_t_rig_timers u_t_rig_faults t_rig)]
abbrev rmX7_time : Room := { frames := 0, cells := 0, slots := 0, locals := 0 }
theorem hd_X7_time : yX7_time.cls = RX7 ∧ yX7_time.cls ≠ "java/lang/invoke/MethodHandle" ∧ yX7_time.cls ≠ "java/lang/invoke/VarHandle" ∧ (parseMethodDescriptor yX7_time.desc).map (fun d => d.parameters.length) = some 0 := by decide +kernel
set_option maxHeartbeats 4000000 in
set_option maxRecDepth 100000 in
theorem kX7_time (l : Launch) (D : va_G) (cI cJ : ClassId) (a_t a_t_rig u_t_reader u_t_trial u_t_snapshot u_t_spare u_t_rig_sequence u_t_rig_circuit u_t_rig_log u_t_rig_score u_t_rig_strokes u_t_rig_positions u_t_rig_timers u_t_rig_faults : Nat) (t t_rig : Nat → Int32) (r : Int32) (hm : mX7_time t_rig = some r) : bq_M l D cI cJ yX7_time cX7_time 1 (some .int) rmX7_time [.ref a_t] (wdX7_time cI a_t a_t_rig u_t_reader u_t_trial u_t_snapshot u_t_spare u_t_rig_sequence u_t_rig_circuit u_t_rig_log u_t_rig_score u_t_rig_strokes u_t_rig_positions u_t_rig_timers u_t_rig_faults t t_rig) (wdX7_time cI a_t a_t_rig u_t_reader u_t_trial u_t_snapshot u_t_spare u_t_rig_sequence u_t_rig_circuit u_t_rig_log u_t_rig_score u_t_rig_strokes u_t_rig_positions u_t_rig_timers u_t_rig_faults t t_rig) (some (.int r)) := by
  refine bq_start (by decide) (Nat.le_of_ble_eq_true rfl) ?_
  intro p e s m av9 below meth c A ls Q H locs E K w hA hr hk hn hQ hl
  have E : bq_E p m c cX7_time 1 s av9 RX7 := E
  have hx := E.1
  have hb := E.2.1
  have hl : lv_has ls 1 [(0, .ref a_t)] := hl
  unfold mX7_time at hm
  refine lv_aload_n hx hb dX7_time_0 rfl (lv_at hl 0 rfl) ?_
  refine gt_X7_24 E K w 0 rfl rfl dX7_time_1 ?_
  refine gt_X7_165 E K w 1 rfl rfl dX7_time_4 ?_
  obtain rfl := Option.some.inj hm
  exact bq_iret E w hr hk dX7_time_7 hQ
abbrev wdX7_position (cI : ClassId) (a_t a_t_rig a_t_rig_positions u_t_reader u_t_trial u_t_snapshot u_t_spare u_t_rig_sequence u_t_rig_circuit u_t_rig_log u_t_rig_score u_t_rig_strokes u_t_rig_timers u_t_rig_faults : Nat) (t : Nat → Int32) (t_rig : Nat → Int32) (t_rig_positions : Nat → Int32) : va_W := [(a_t, oX7 u_t_reader a_t_rig u_t_trial u_t_snapshot u_t_spare t), (a_t_rig, oX3 u_t_rig_sequence u_t_rig_circuit u_t_rig_log u_t_rig_score u_t_rig_strokes a_t_rig_positions u_t_rig_timers u_t_rig_faults t_rig), (a_t_rig_positions, oA cI 6 t_rig_positions)]
abbrev rmX7_position : Room := { frames := 1, cells := 0, slots := 0, locals := 20 }
theorem hd_X7_position : yX7_position.cls = RX7 ∧ yX7_position.cls ≠ "java/lang/invoke/MethodHandle" ∧ yX7_position.cls ≠ "java/lang/invoke/VarHandle" ∧ (parseMethodDescriptor yX7_position.desc).map (fun d => d.parameters.length) = some 1 := by decide +kernel
set_option maxHeartbeats 4000000 in
set_option maxRecDepth 100000 in
theorem kX7_position (l : Launch) (D : va_G) (cI cJ : ClassId) (a_t a_t_rig a_t_rig_positions u_t_reader u_t_trial u_t_snapshot u_t_spare u_t_rig_sequence u_t_rig_circuit u_t_rig_log u_t_rig_score u_t_rig_strokes u_t_rig_timers u_t_rig_faults : Nat) (t t_rig t_rig_positions : Nat → Int32) (x1 : Int32) (r : Int32) (hm : mX7_position t_rig_positions x1 = some r) : bq_M l D cI cJ yX7_position cX7_position 2 (some .int) rmX7_position [.ref a_t, .int x1] (wdX7_position cI a_t a_t_rig a_t_rig_positions u_t_reader u_t_trial u_t_snapshot u_t_spare u_t_rig_sequence u_t_rig_circuit u_t_rig_log u_t_rig_score u_t_rig_strokes u_t_rig_timers u_t_rig_faults t t_rig t_rig_positions) (wdX7_position cI a_t a_t_rig a_t_rig_positions u_t_reader u_t_trial u_t_snapshot u_t_spare u_t_rig_sequence u_t_rig_circuit u_t_rig_log u_t_rig_score u_t_rig_strokes u_t_rig_timers u_t_rig_faults t t_rig t_rig_positions) (some (.int r)) := by
  refine bq_start (by decide) (Nat.le_of_ble_eq_true rfl) ?_
  intro p e s m av9 below meth c A ls Q H locs E K w hA hr hk hn hQ hl
  have E : bq_E p m c cX7_position 2 s av9 RX7 := E
  have hx := E.1
  have hb := E.2.1
  have hl : lv_has ls 2 [(0, .ref a_t), (1, .int x1)] := hl
  unfold mX7_position at hm
  refine lv_iload_n hx hb dX7_position_0 rfl (lv_at hl 1 rfl) ?_
  obtain ⟨⟨⟩, hC, hm⟩ := bq_bd_el hm
  refine bq_S0 (As := [.int x1]) (rest := []) (st1 := []) E K w hA (kX7_checkCylinder l D cI cJ x1 hC) cd_X7_checkCylinder ml_X7_93 in_X7 st_X7_checkCylinder hs_X7_checkCylinder ⟨Nat.le_of_ble_eq_true rfl, Nat.le_of_ble_eq_true rfl⟩ ⟨Nat.le_of_ble_eq_true rfl, Nat.le_of_ble_eq_true rfl⟩ rfl hl.1 rfl (Nat.le_of_ble_eq_true rfl) rfl dX7_position_1 (fun H locs w => bq_z ⟨rfl, rfl⟩ ?_)
  clear hC
  refine lv_aload_n hx hb dX7_position_4 rfl (lv_at hl 0 rfl) ?_
  refine gt_X7_24 E K w 0 rfl rfl dX7_position_5 ?_
  refine gt_X7_180 E K w 1 rfl rfl dX7_position_8 ?_
  refine lv_iload_n hx hb dX7_position_11 rfl (lv_at hl 1 rfl) ?_
  obtain ⟨hI, hm⟩ := bq_ci_el hm
  refine bq_ald E K w 2 rfl hI dX7_position_12 ?_
  obtain rfl := Option.some.inj hm
  exact bq_iret E w hr hk dX7_position_13 hQ
abbrev rmTX7_position : Room := { frames := 7, cells := 1, slots := 6, locals := 120 }
set_option maxHeartbeats 4000000 in
set_option maxRecDepth 100000 in
theorem tkX7_position {l : Launch} (hlf : l.stackTraces = false) (D : va_G) (cI cJ : ClassId) (a_t a_t_rig a_t_rig_positions u_t_reader u_t_trial u_t_snapshot u_t_spare u_t_rig_sequence u_t_rig_circuit u_t_rig_log u_t_rig_score u_t_rig_strokes u_t_rig_timers u_t_rig_faults : Nat) (t t_rig t_rig_positions : Nat → Int32) (x1 : Int32) (r : Nat) (hm : tX7_position t_rig_positions x1 = some r) : bq_MT l D cI cJ yX7_position cX7_position 2 (some .int) rmTX7_position [.ref a_t, .int x1] (wdX7_position cI a_t a_t_rig a_t_rig_positions u_t_reader u_t_trial u_t_snapshot u_t_spare u_t_rig_sequence u_t_rig_circuit u_t_rig_log u_t_rig_score u_t_rig_strokes u_t_rig_timers u_t_rig_faults t t_rig t_rig_positions) (bq_cls r) := by
  refine bq_startT (by decide) (Nat.le_of_ble_eq_true rfl) ?_
  intro p e s m av9 below meth c A ls Q H locs E K w hA hnt hk hX hQ hl
  have E : bq_E p m c cX7_position 2 s av9 RX7 := E
  have hx := E.1
  have hb := E.2.1
  have hl : lv_has ls 2 [(0, .ref a_t), (1, .int x1)] := hl
  unfold tX7_position at hm
  refine lv_iload_n hx hb dX7_position_0 rfl (lv_at hl 1 rfl) ?_
  refine (bq_tc_el hm).elim (fun hC => ?_) (fun hm => ?_)
  · exact bq_TS (As := [.int x1]) (rest := []) E K w hA hX hnt hk ⟨rfl, rfl⟩ (tkX7_checkCylinder hlf D cI cJ x1 _ hC) cd_X7_checkCylinder ml_X7_93 in_X7 st_X7_checkCylinder hs_X7_checkCylinder ⟨Nat.le_of_ble_eq_true rfl, Nat.le_of_ble_eq_true rfl⟩ ⟨Nat.le_of_ble_eq_true rfl, Nat.le_of_ble_eq_true rfl⟩ ⟨[], [0, 1, 2], [0, 1, 2], rfl, rfl, rfl, rfl, rfl, rfl, rfl, rfl, rfl⟩ rfl hl.1 rfl (Nat.le_of_ble_eq_true rfl) dX7_position_1 hQ
  obtain ⟨⟨⟩, hC, hm⟩ := bq_bd_el hm
  refine bq_S0 (As := [.int x1]) (rest := []) (st1 := []) E K w hA (kX7_checkCylinder l D cI cJ x1 hC) cd_X7_checkCylinder ml_X7_93 in_X7 st_X7_checkCylinder hs_X7_checkCylinder ⟨Nat.le_of_ble_eq_true rfl, Nat.le_of_ble_eq_true rfl⟩ ⟨Nat.le_of_ble_eq_true rfl, Nat.le_of_ble_eq_true rfl⟩ rfl hl.1 rfl (Nat.le_of_ble_eq_true rfl) rfl dX7_position_1 (fun H locs w => bq_z ⟨rfl, rfl⟩ ?_)
  clear hC
  cases hm
abbrev wdX7_isOut (cI : ClassId) (a_t a_t_rig u_t_reader u_t_trial u_t_snapshot u_t_spare u_t_rig_sequence u_t_rig_circuit u_t_rig_log u_t_rig_score u_t_rig_strokes u_t_rig_positions u_t_rig_timers u_t_rig_faults : Nat) (t : Nat → Int32) (t_rig : Nat → Int32) : va_W := [(a_t, oX7 u_t_reader a_t_rig u_t_trial u_t_snapshot u_t_spare t), (a_t_rig, oX3 u_t_rig_sequence u_t_rig_circuit u_t_rig_log u_t_rig_score u_t_rig_strokes u_t_rig_positions u_t_rig_timers u_t_rig_faults t_rig)]
abbrev rmX7_isOut : Room := { frames := 1, cells := 0, slots := 0, locals := 21 }
theorem hd_X7_isOut : yX7_isOut.cls = RX7 ∧ yX7_isOut.cls ≠ "java/lang/invoke/MethodHandle" ∧ yX7_isOut.cls ≠ "java/lang/invoke/VarHandle" ∧ (parseMethodDescriptor yX7_isOut.desc).map (fun d => d.parameters.length) = some 1 := by decide +kernel
set_option maxHeartbeats 4000000 in
set_option maxRecDepth 100000 in
theorem kX7_isOut (l : Launch) (D : va_G) (cI cJ : ClassId) (a_t a_t_rig u_t_reader u_t_trial u_t_snapshot u_t_spare u_t_rig_sequence u_t_rig_circuit u_t_rig_log u_t_rig_score u_t_rig_strokes u_t_rig_positions u_t_rig_timers u_t_rig_faults : Nat) (t t_rig : Nat → Int32) (x1 : Int32) (r : Int32) (hm : mX7_isOut t_rig x1 = some r) : bq_M l D cI cJ yX7_isOut cX7_isOut 2 (some .boolean) rmX7_isOut [.ref a_t, .int x1] (wdX7_isOut cI a_t a_t_rig u_t_reader u_t_trial u_t_snapshot u_t_spare u_t_rig_sequence u_t_rig_circuit u_t_rig_log u_t_rig_score u_t_rig_strokes u_t_rig_positions u_t_rig_timers u_t_rig_faults t t_rig) (wdX7_isOut cI a_t a_t_rig u_t_reader u_t_trial u_t_snapshot u_t_spare u_t_rig_sequence u_t_rig_circuit u_t_rig_log u_t_rig_score u_t_rig_strokes u_t_rig_positions u_t_rig_timers u_t_rig_faults t t_rig) (some (.int r)) := by
  refine bq_start (by decide) (Nat.le_of_ble_eq_true rfl) ?_
  intro p e s m av9 below meth c A ls Q H locs E K w hA hr hk hn hQ hl
  have E : bq_E p m c cX7_isOut 2 s av9 RX7 := E
  have hx := E.1
  have hb := E.2.1
  have hl : lv_has ls 2 [(0, .ref a_t), (1, .int x1)] := hl
  unfold mX7_isOut at hm
  refine lv_iload_n hx hb dX7_isOut_0 rfl (lv_at hl 1 rfl) ?_
  obtain ⟨⟨⟩, hC, hm⟩ := bq_bd_el hm
  refine bq_S0 (As := [.int x1]) (rest := []) (st1 := []) E K w hA (kX7_checkCylinder l D cI cJ x1 hC) cd_X7_checkCylinder ml_X7_93 in_X7 st_X7_checkCylinder hs_X7_checkCylinder ⟨Nat.le_of_ble_eq_true rfl, Nat.le_of_ble_eq_true rfl⟩ ⟨Nat.le_of_ble_eq_true rfl, Nat.le_of_ble_eq_true rfl⟩ rfl hl.1 rfl (Nat.le_of_ble_eq_true rfl) rfl dX7_isOut_1 (fun H locs w => bq_z ⟨rfl, rfl⟩ ?_)
  clear hC
  refine lv_aload_n hx hb dX7_isOut_4 rfl (lv_at hl 0 rfl) ?_
  refine gt_X7_24 E K w 0 rfl rfl dX7_isOut_5 ?_
  refine gt_X7_183 E K w 1 rfl rfl dX7_isOut_8 ?_
  refine lv_iload_n hx hb dX7_isOut_11 rfl (lv_at hl 1 rfl) ?_
  obtain ⟨v1, hC, hm⟩ := bq_bd_el hm
  refine bq_S0 (As := [.int (t_rig 9), .int x1]) (rest := []) (st1 := [.int v1]) E K w hA (kX7_holds l D cI cJ (t_rig 9) x1 v1 hC) cd_X7_holds ml_X7_100 in_X7 st_X7_holds hs_X7_holds ⟨Nat.le_of_ble_eq_true rfl, Nat.le_of_ble_eq_true rfl⟩ ⟨Nat.le_of_ble_eq_true rfl, Nat.le_of_ble_eq_true rfl⟩ rfl hl.1 rfl (Nat.le_of_ble_eq_true rfl) rfl dX7_isOut_12 (fun H locs w => bq_z ⟨rfl, rfl⟩ ?_)
  clear hC
  obtain ⟨hB, hm⟩ := bq_cb_el hm
  obtain rfl := Option.some.inj hm
  exact bq_zret E w hr hk hB dX7_isOut_15 hQ
abbrev rmTX7_isOut : Room := { frames := 7, cells := 1, slots := 6, locals := 120 }
set_option maxHeartbeats 4000000 in
set_option maxRecDepth 100000 in
theorem tkX7_isOut {l : Launch} (hlf : l.stackTraces = false) (D : va_G) (cI cJ : ClassId) (a_t a_t_rig u_t_reader u_t_trial u_t_snapshot u_t_spare u_t_rig_sequence u_t_rig_circuit u_t_rig_log u_t_rig_score u_t_rig_strokes u_t_rig_positions u_t_rig_timers u_t_rig_faults : Nat) (t t_rig : Nat → Int32) (x1 : Int32) (r : Nat) (hm : tX7_isOut t_rig x1 = some r) : bq_MT l D cI cJ yX7_isOut cX7_isOut 2 (some .boolean) rmTX7_isOut [.ref a_t, .int x1] (wdX7_isOut cI a_t a_t_rig u_t_reader u_t_trial u_t_snapshot u_t_spare u_t_rig_sequence u_t_rig_circuit u_t_rig_log u_t_rig_score u_t_rig_strokes u_t_rig_positions u_t_rig_timers u_t_rig_faults t t_rig) (bq_cls r) := by
  refine bq_startT (by decide) (Nat.le_of_ble_eq_true rfl) ?_
  intro p e s m av9 below meth c A ls Q H locs E K w hA hnt hk hX hQ hl
  have E : bq_E p m c cX7_isOut 2 s av9 RX7 := E
  have hx := E.1
  have hb := E.2.1
  have hl : lv_has ls 2 [(0, .ref a_t), (1, .int x1)] := hl
  unfold tX7_isOut at hm
  refine lv_iload_n hx hb dX7_isOut_0 rfl (lv_at hl 1 rfl) ?_
  refine (bq_tc_el hm).elim (fun hC => ?_) (fun hm => ?_)
  · exact bq_TS (As := [.int x1]) (rest := []) E K w hA hX hnt hk ⟨rfl, rfl⟩ (tkX7_checkCylinder hlf D cI cJ x1 _ hC) cd_X7_checkCylinder ml_X7_93 in_X7 st_X7_checkCylinder hs_X7_checkCylinder ⟨Nat.le_of_ble_eq_true rfl, Nat.le_of_ble_eq_true rfl⟩ ⟨Nat.le_of_ble_eq_true rfl, Nat.le_of_ble_eq_true rfl⟩ ⟨[], [0, 1], [0, 1], rfl, rfl, rfl, rfl, rfl, rfl, rfl, rfl, rfl⟩ rfl hl.1 rfl (Nat.le_of_ble_eq_true rfl) dX7_isOut_1 hQ
  obtain ⟨⟨⟩, hC, hm⟩ := bq_bd_el hm
  refine bq_S0 (As := [.int x1]) (rest := []) (st1 := []) E K w hA (kX7_checkCylinder l D cI cJ x1 hC) cd_X7_checkCylinder ml_X7_93 in_X7 st_X7_checkCylinder hs_X7_checkCylinder ⟨Nat.le_of_ble_eq_true rfl, Nat.le_of_ble_eq_true rfl⟩ ⟨Nat.le_of_ble_eq_true rfl, Nat.le_of_ble_eq_true rfl⟩ rfl hl.1 rfl (Nat.le_of_ble_eq_true rfl) rfl dX7_isOut_1 (fun H locs w => bq_z ⟨rfl, rfl⟩ ?_)
  clear hC
  cases hm
abbrev wdX7_sensor (cI : ClassId) (a_t a_t_rig a_t_rig_faults a_t_rig_positions a_t_rig_strokes u_t_reader u_t_trial u_t_snapshot u_t_spare u_t_rig_sequence u_t_rig_circuit u_t_rig_log u_t_rig_score u_t_rig_timers : Nat) (t : Nat → Int32) (t_rig : Nat → Int32) (t_rig_faults : Nat → Int32) (t_rig_positions : Nat → Int32) (t_rig_strokes : Nat → Int32) : va_W := [(a_t, oX7 u_t_reader a_t_rig u_t_trial u_t_snapshot u_t_spare t), (a_t_rig, oX3 u_t_rig_sequence u_t_rig_circuit u_t_rig_log u_t_rig_score a_t_rig_strokes a_t_rig_positions u_t_rig_timers a_t_rig_faults t_rig), (a_t_rig_faults, oA cI 5 t_rig_faults), (a_t_rig_positions, oA cI 6 t_rig_positions), (a_t_rig_strokes, oA cI 6 t_rig_strokes)]
abbrev rmX7_sensor : Room := { frames := 1, cells := 0, slots := 0, locals := 22 }
theorem hd_X7_sensor : yX7_sensor.cls = RX7 ∧ yX7_sensor.cls ≠ "java/lang/invoke/MethodHandle" ∧ yX7_sensor.cls ≠ "java/lang/invoke/VarHandle" ∧ (parseMethodDescriptor yX7_sensor.desc).map (fun d => d.parameters.length) = some 2 := by decide +kernel
set_option maxHeartbeats 4000000 in
set_option maxRecDepth 100000 in
theorem kX7_sensor (l : Launch) (D : va_G) (cI cJ : ClassId) (a_t a_t_rig a_t_rig_faults a_t_rig_positions a_t_rig_strokes u_t_reader u_t_trial u_t_snapshot u_t_spare u_t_rig_sequence u_t_rig_circuit u_t_rig_log u_t_rig_score u_t_rig_timers : Nat) (t t_rig t_rig_faults t_rig_positions t_rig_strokes : Nat → Int32) (x1 : Int32) (x2 : Int32) (r : Int32) (hm : mX7_sensor t_rig_faults t_rig_positions t_rig_strokes x1 x2 = some r) : bq_M l D cI cJ yX7_sensor cX7_sensor 3 (some .boolean) rmX7_sensor [.ref a_t, .int x1, .int x2] (wdX7_sensor cI a_t a_t_rig a_t_rig_faults a_t_rig_positions a_t_rig_strokes u_t_reader u_t_trial u_t_snapshot u_t_spare u_t_rig_sequence u_t_rig_circuit u_t_rig_log u_t_rig_score u_t_rig_timers t t_rig t_rig_faults t_rig_positions t_rig_strokes) (wdX7_sensor cI a_t a_t_rig a_t_rig_faults a_t_rig_positions a_t_rig_strokes u_t_reader u_t_trial u_t_snapshot u_t_spare u_t_rig_sequence u_t_rig_circuit u_t_rig_log u_t_rig_score u_t_rig_timers t t_rig t_rig_faults t_rig_positions t_rig_strokes) (some (.int r)) := by
  refine bq_start (by decide) (Nat.le_of_ble_eq_true rfl) ?_
  intro p e s m av9 below meth c A ls Q H locs E K w hA hr hk hn hQ hl
  have E : bq_E p m c cX7_sensor 3 s av9 RX7 := E
  have hx := E.1
  have hb := E.2.1
  have hl : lv_has ls 3 [(0, .ref a_t), (1, .int x1), (2, .int x2)] := hl
  unfold mX7_sensor at hm
  refine lv_iload_n hx hb dX7_sensor_0 rfl (lv_at hl 1 rfl) ?_
  obtain ⟨⟨⟩, hC, hm⟩ := bq_bd_el hm
  refine bq_S0 (As := [.int x1]) (rest := []) (st1 := []) E K w hA (kX7_checkCylinder l D cI cJ x1 hC) cd_X7_checkCylinder ml_X7_93 in_X7 st_X7_checkCylinder hs_X7_checkCylinder ⟨Nat.le_of_ble_eq_true rfl, Nat.le_of_ble_eq_true rfl⟩ ⟨Nat.le_of_ble_eq_true rfl, Nat.le_of_ble_eq_true rfl⟩ rfl hl.1 rfl (Nat.le_of_ble_eq_true rfl) rfl dX7_sensor_1 (fun H locs w => bq_z ⟨rfl, rfl⟩ ?_)
  clear hC
  refine lv_iload_n hx hb dX7_sensor_4 rfl (lv_at hl 2 rfl) ?_
  refine lv_if_lt (tgt := 13) hx hb dX7_sensor_5 (by decide) (fun hc => ?_) (fun hc => ?_)
  · replace hm := bq_t hc hm
    clear hc
    cases hm
  · replace hm := bq_f hc hm
    clear hc
    refine lv_iload_n hx hb dX7_sensor_8 rfl (lv_at hl 2 rfl) ?_
    refine lv_iconst (v := 1) hx hb dX7_sensor_9 (by decide) ?_
    refine lv_icmp_le (tgt := 23) hx hb dX7_sensor_10 (by decide) (fun hc => ?_) (fun hc => ?_)
    · replace hm := bq_t hc hm
      clear hc
      refine lv_iload_n hx hb dX7_sensor_23 rfl (lv_at hl 2 rfl) ?_
      obtain ⟨v1, hT44, hm⟩ := bq_bd_el hm
      have K44 : ∀ (H : Heap) (locs : List Loc) (ls : Array Slot), bq_w D A s.heap (wdX7_sensor cI a_t a_t_rig a_t_rig_faults a_t_rig_positions a_t_rig_strokes u_t_reader u_t_trial u_t_snapshot u_t_spare u_t_rig_sequence u_t_rig_circuit u_t_rig_log u_t_rig_score u_t_rig_timers t t_rig t_rig_faults t_rig_positions t_rig_strokes) H locs → lv_has ls 3 [(1, .int x1)] → W p l e rmX7_sensor s m av9 below meth c H locs 0 0 Q (F0 m 44 ls [.int v1]) := by
        intro H locs ls w hl
        refine lv_iload_n hx hb dX7_sensor_44 rfl (lv_at hl 0 rfl) ?_
        obtain ⟨v4, hC, hm⟩ := bq_bd_el hm
        refine bq_S0 (As := [.int v1, .int x1]) (rest := []) (st1 := [.int v4]) E K w hA (kX7_holds l D cI cJ v1 x1 v4 hC) cd_X7_holds ml_X7_100 in_X7 st_X7_holds hs_X7_holds ⟨Nat.le_of_ble_eq_true rfl, Nat.le_of_ble_eq_true rfl⟩ ⟨Nat.le_of_ble_eq_true rfl, Nat.le_of_ble_eq_true rfl⟩ rfl hl.1 rfl (Nat.le_of_ble_eq_true rfl) rfl dX7_sensor_45 (fun H locs w => bq_z ⟨rfl, rfl⟩ ?_)
        clear hC
        obtain ⟨hB, hm⟩ := bq_cb_el hm
        obtain rfl := Option.some.inj hm
        exact bq_zret E w hr hk hB dX7_sensor_48 hQ
      clear hm
      refine lv_if_ne (tgt := 37) hx hb dX7_sensor_24 (by decide) (fun hc => ?_) (fun hc => ?_)
      · replace hT44 := bq_f hc hT44
        clear hc
        refine lv_aload_n hx hb dX7_sensor_37 rfl (lv_at hl 0 rfl) ?_
        refine gt_X7_24 E K w 0 rfl rfl dX7_sensor_38 ?_
        obtain ⟨v2, hC, hT44⟩ := bq_bd_el hT44
        refine bq_V (As := []) (rest := []) (st1 := [.int v2]) (ws' := wdX7_sensor cI a_t a_t_rig a_t_rig_faults a_t_rig_positions a_t_rig_strokes u_t_reader u_t_trial u_t_snapshot u_t_spare u_t_rig_sequence u_t_rig_circuit u_t_rig_log u_t_rig_score u_t_rig_timers t t_rig t_rig_faults t_rig_positions t_rig_strokes) E K w hA (kX3_sensedExtended l D cI cJ a_t_rig a_t_rig_faults a_t_rig_positions a_t_rig_strokes u_t_rig_sequence u_t_rig_circuit u_t_rig_log u_t_rig_score u_t_rig_timers t_rig t_rig_faults t_rig_positions t_rig_strokes v2 hC) (bq_gV ml_X7_192 im_X3_sensedExtended sl_X3_sensedExtended in_X3 cd_X3_sensedExtended) hd_X3_sensedExtended ⟨Nat.le_of_ble_eq_true rfl, Nat.le_of_ble_eq_true rfl⟩ ⟨Nat.le_of_ble_eq_true rfl, Nat.le_of_ble_eq_true rfl⟩ ⟨[1, 2, 3, 4], [0], [0, 1, 2, 3, 4], rfl, rfl, rfl, rfl, rfl, rfl, rfl, rfl, rfl⟩ 1 rfl rfl rfl hl.1 rfl (Nat.le_of_ble_eq_true rfl) rfl dX7_sensor_41 (fun H locs w => bq_z ⟨rfl, rfl⟩ ?_)
        clear hC
        obtain rfl := Option.some.inj hT44
        exact K44 H locs ls w (lv_sub hl [1] rfl)
      · replace hT44 := bq_t hc hT44
        clear hc
        refine lv_aload_n hx hb dX7_sensor_27 rfl (lv_at hl 0 rfl) ?_
        refine gt_X7_24 E K w 0 rfl rfl dX7_sensor_28 ?_
        obtain ⟨v3, hC, hT44⟩ := bq_bd_el hT44
        refine bq_V (As := []) (rest := []) (st1 := [.int v3]) (ws' := wdX7_sensor cI a_t a_t_rig a_t_rig_faults a_t_rig_positions a_t_rig_strokes u_t_reader u_t_trial u_t_snapshot u_t_spare u_t_rig_sequence u_t_rig_circuit u_t_rig_log u_t_rig_score u_t_rig_timers t t_rig t_rig_faults t_rig_positions t_rig_strokes) E K w hA (kX3_sensedRetracted l D cI cJ a_t_rig a_t_rig_faults a_t_rig_positions u_t_rig_sequence u_t_rig_circuit u_t_rig_log u_t_rig_score a_t_rig_strokes u_t_rig_timers t_rig t_rig_faults t_rig_positions v3 hC) (bq_gV ml_X7_188 im_X3_sensedRetracted sl_X3_sensedRetracted in_X3 cd_X3_sensedRetracted) hd_X3_sensedRetracted ⟨Nat.le_of_ble_eq_true rfl, Nat.le_of_ble_eq_true rfl⟩ ⟨Nat.le_of_ble_eq_true rfl, Nat.le_of_ble_eq_true rfl⟩ ⟨[1, 2, 3], [0, 4], [0, 2, 3, 4, 1], rfl, rfl, rfl, rfl, rfl, rfl, rfl, rfl, rfl⟩ 1 rfl rfl rfl hl.1 rfl (Nat.le_of_ble_eq_true rfl) rfl dX7_sensor_31 (fun H locs w => bq_z ⟨rfl, rfl⟩ ?_)
        clear hC
        refine lv_goto (tgt := 44) hx hb dX7_sensor_34 (by decide) ?_
        obtain rfl := Option.some.inj hT44
        exact K44 H locs ls w (lv_sub hl [1] rfl)
    · replace hm := bq_f hc hm
      clear hc
      cases hm
abbrev rmTX7_sensor : Room := { frames := 7, cells := 1, slots := 6, locals := 120 }
set_option maxHeartbeats 4000000 in
set_option maxRecDepth 100000 in
theorem tkX7_sensor {l : Launch} (hlf : l.stackTraces = false) (D : va_G) (cI cJ : ClassId) (a_t a_t_rig a_t_rig_faults a_t_rig_positions a_t_rig_strokes u_t_reader u_t_trial u_t_snapshot u_t_spare u_t_rig_sequence u_t_rig_circuit u_t_rig_log u_t_rig_score u_t_rig_timers : Nat) (t t_rig t_rig_faults t_rig_positions t_rig_strokes : Nat → Int32) (x1 : Int32) (x2 : Int32) (r : Nat) (hm : tX7_sensor t_rig_faults t_rig_positions t_rig_strokes x1 x2 = some r) : bq_MT l D cI cJ yX7_sensor cX7_sensor 3 (some .boolean) rmTX7_sensor [.ref a_t, .int x1, .int x2] (wdX7_sensor cI a_t a_t_rig a_t_rig_faults a_t_rig_positions a_t_rig_strokes u_t_reader u_t_trial u_t_snapshot u_t_spare u_t_rig_sequence u_t_rig_circuit u_t_rig_log u_t_rig_score u_t_rig_timers t t_rig t_rig_faults t_rig_positions t_rig_strokes) (bq_cls r) := by
  refine bq_startT (by decide) (Nat.le_of_ble_eq_true rfl) ?_
  intro p e s m av9 below meth c A ls Q H locs E K w hA hnt hk hX hQ hl
  have E : bq_E p m c cX7_sensor 3 s av9 RX7 := E
  have hx := E.1
  have hb := E.2.1
  have hl : lv_has ls 3 [(0, .ref a_t), (1, .int x1), (2, .int x2)] := hl
  unfold tX7_sensor at hm
  refine lv_iload_n hx hb dX7_sensor_0 rfl (lv_at hl 1 rfl) ?_
  refine (bq_tc_el hm).elim (fun hC => ?_) (fun hm => ?_)
  · exact bq_TS (As := [.int x1]) (rest := []) E K w hA hX hnt hk ⟨rfl, rfl⟩ (tkX7_checkCylinder hlf D cI cJ x1 _ hC) cd_X7_checkCylinder ml_X7_93 in_X7 st_X7_checkCylinder hs_X7_checkCylinder ⟨Nat.le_of_ble_eq_true rfl, Nat.le_of_ble_eq_true rfl⟩ ⟨Nat.le_of_ble_eq_true rfl, Nat.le_of_ble_eq_true rfl⟩ ⟨[], [0, 1, 2, 3, 4], [0, 1, 2, 3, 4], rfl, rfl, rfl, rfl, rfl, rfl, rfl, rfl, rfl⟩ rfl hl.1 rfl (Nat.le_of_ble_eq_true rfl) dX7_sensor_1 hQ
  obtain ⟨⟨⟩, hC, hm⟩ := bq_bd_el hm
  refine bq_S0 (As := [.int x1]) (rest := []) (st1 := []) E K w hA (kX7_checkCylinder l D cI cJ x1 hC) cd_X7_checkCylinder ml_X7_93 in_X7 st_X7_checkCylinder hs_X7_checkCylinder ⟨Nat.le_of_ble_eq_true rfl, Nat.le_of_ble_eq_true rfl⟩ ⟨Nat.le_of_ble_eq_true rfl, Nat.le_of_ble_eq_true rfl⟩ rfl hl.1 rfl (Nat.le_of_ble_eq_true rfl) rfl dX7_sensor_1 (fun H locs w => bq_z ⟨rfl, rfl⟩ ?_)
  clear hC
  refine lv_iload_n hx hb dX7_sensor_4 rfl (lv_at hl 2 rfl) ?_
  refine lv_if_lt (tgt := 13) hx hb dX7_sensor_5 (by decide) (fun hc => ?_) (fun hc => ?_)
  · replace hm := bq_t hc hm
    clear hc
    obtain rfl := Option.some.inj hm
    exact bq_throw (cls := "java/lang/IndexOutOfBoundsException") hlf E K w hX hnt hk hQ (by decide +kernel) bq_upf cl_X7_120 in_IndexOutOfBoundsException sr_X7_186 xa_X7_124 xb_X7_124 xg_X7_120_124 hl.1 dX7_sensor_13 dX7_sensor_16 dX7_sensor_17 dX7_sensor_19 dX7_sensor_22 (Nat.le_of_ble_eq_true rfl) (Nat.le_of_ble_eq_true rfl) (Nat.le_of_ble_eq_true rfl) (Nat.le_of_ble_eq_true rfl)
  · replace hm := bq_f hc hm
    clear hc
    refine lv_iload_n hx hb dX7_sensor_8 rfl (lv_at hl 2 rfl) ?_
    refine lv_iconst (v := 1) hx hb dX7_sensor_9 (by decide) ?_
    refine lv_icmp_le (tgt := 23) hx hb dX7_sensor_10 (by decide) (fun hc => ?_) (fun hc => ?_)
    · replace hm := bq_t hc hm
      clear hc
      cases hm
    · replace hm := bq_f hc hm
      clear hc
      obtain rfl := Option.some.inj hm
      exact bq_throw (cls := "java/lang/IndexOutOfBoundsException") hlf E K w hX hnt hk hQ (by decide +kernel) bq_upf cl_X7_120 in_IndexOutOfBoundsException sr_X7_186 xa_X7_124 xb_X7_124 xg_X7_120_124 hl.1 dX7_sensor_13 dX7_sensor_16 dX7_sensor_17 dX7_sensor_19 dX7_sensor_22 (Nat.le_of_ble_eq_true rfl) (Nat.le_of_ble_eq_true rfl) (Nat.le_of_ble_eq_true rfl) (Nat.le_of_ble_eq_true rfl)
abbrev wdX7_timer (cI : ClassId) (a_t a_t_rig a_t_rig_sequence a_t_rig_timers u_t_reader u_t_trial u_t_snapshot u_t_spare u_t_rig_circuit u_t_rig_log u_t_rig_score u_t_rig_strokes u_t_rig_positions u_t_rig_faults u_t_rig_sequence_plus u_t_rig_sequence_minus u_t_rig_sequence_pauses u_t_rig_sequence_outBefore u_t_rig_sequence_cuts u_t_rig_sequence_groupOfStep : Nat) (t : Nat → Int32) (t_rig : Nat → Int32) (t_rig_sequence : Nat → Int32) (t_rig_timers : Nat → Int32) : va_W := [(a_t, oX7 u_t_reader a_t_rig u_t_trial u_t_snapshot u_t_spare t), (a_t_rig, oX3 a_t_rig_sequence u_t_rig_circuit u_t_rig_log u_t_rig_score u_t_rig_strokes u_t_rig_positions a_t_rig_timers u_t_rig_faults t_rig), (a_t_rig_sequence, oX5 u_t_rig_sequence_plus u_t_rig_sequence_minus u_t_rig_sequence_pauses u_t_rig_sequence_outBefore u_t_rig_sequence_cuts u_t_rig_sequence_groupOfStep t_rig_sequence), (a_t_rig_timers, oA cI 16 t_rig_timers)]
abbrev rmX7_timer : Room := { frames := 1, cells := 0, slots := 0, locals := 21 }
theorem hd_X7_timer : yX7_timer.cls = RX7 ∧ yX7_timer.cls ≠ "java/lang/invoke/MethodHandle" ∧ yX7_timer.cls ≠ "java/lang/invoke/VarHandle" ∧ (parseMethodDescriptor yX7_timer.desc).map (fun d => d.parameters.length) = some 1 := by decide +kernel
set_option maxHeartbeats 4000000 in
set_option maxRecDepth 100000 in
theorem kX7_timer (l : Launch) (D : va_G) (cI cJ : ClassId) (a_t a_t_rig a_t_rig_sequence a_t_rig_timers u_t_reader u_t_trial u_t_snapshot u_t_spare u_t_rig_circuit u_t_rig_log u_t_rig_score u_t_rig_strokes u_t_rig_positions u_t_rig_faults u_t_rig_sequence_plus u_t_rig_sequence_minus u_t_rig_sequence_pauses u_t_rig_sequence_outBefore u_t_rig_sequence_cuts u_t_rig_sequence_groupOfStep : Nat) (t t_rig t_rig_sequence t_rig_timers : Nat → Int32) (x1 : Int32) (r : Int32) (hm : mX7_timer t_rig_sequence t_rig_timers x1 = some r) : bq_M l D cI cJ yX7_timer cX7_timer 2 (some .int) rmX7_timer [.ref a_t, .int x1] (wdX7_timer cI a_t a_t_rig a_t_rig_sequence a_t_rig_timers u_t_reader u_t_trial u_t_snapshot u_t_spare u_t_rig_circuit u_t_rig_log u_t_rig_score u_t_rig_strokes u_t_rig_positions u_t_rig_faults u_t_rig_sequence_plus u_t_rig_sequence_minus u_t_rig_sequence_pauses u_t_rig_sequence_outBefore u_t_rig_sequence_cuts u_t_rig_sequence_groupOfStep t t_rig t_rig_sequence t_rig_timers) (wdX7_timer cI a_t a_t_rig a_t_rig_sequence a_t_rig_timers u_t_reader u_t_trial u_t_snapshot u_t_spare u_t_rig_circuit u_t_rig_log u_t_rig_score u_t_rig_strokes u_t_rig_positions u_t_rig_faults u_t_rig_sequence_plus u_t_rig_sequence_minus u_t_rig_sequence_pauses u_t_rig_sequence_outBefore u_t_rig_sequence_cuts u_t_rig_sequence_groupOfStep t t_rig t_rig_sequence t_rig_timers) (some (.int r)) := by
  refine bq_start (by decide) (Nat.le_of_ble_eq_true rfl) ?_
  intro p e s m av9 below meth c A ls Q H locs E K w hA hr hk hn hQ hl
  have E : bq_E p m c cX7_timer 2 s av9 RX7 := E
  have hx := E.1
  have hb := E.2.1
  have hl : lv_has ls 2 [(0, .ref a_t), (1, .int x1)] := hl
  unfold mX7_timer at hm
  refine lv_aload_n hx hb dX7_timer_0 rfl (lv_at hl 0 rfl) ?_
  refine lv_iload_n hx hb dX7_timer_1 rfl (lv_at hl 1 rfl) ?_
  obtain ⟨⟨⟩, hC, hm⟩ := bq_bd_el hm
  refine bq_V (As := [.int x1]) (rest := []) (st1 := []) (ws' := wdX7_timer cI a_t a_t_rig a_t_rig_sequence a_t_rig_timers u_t_reader u_t_trial u_t_snapshot u_t_spare u_t_rig_circuit u_t_rig_log u_t_rig_score u_t_rig_strokes u_t_rig_positions u_t_rig_faults u_t_rig_sequence_plus u_t_rig_sequence_minus u_t_rig_sequence_pauses u_t_rig_sequence_outBefore u_t_rig_sequence_cuts u_t_rig_sequence_groupOfStep t t_rig t_rig_sequence t_rig_timers) E K w hA (kX7_checkStep l D cI cJ a_t a_t_rig a_t_rig_sequence u_t_reader u_t_trial u_t_snapshot u_t_spare u_t_rig_circuit u_t_rig_log u_t_rig_score u_t_rig_strokes u_t_rig_positions a_t_rig_timers u_t_rig_faults u_t_rig_sequence_plus u_t_rig_sequence_minus u_t_rig_sequence_pauses u_t_rig_sequence_outBefore u_t_rig_sequence_cuts u_t_rig_sequence_groupOfStep t t_rig t_rig_sequence x1 hC) (bq_gV ml_X7_86 im_X7_checkStep sl_X7_checkStep in_X7 cd_X7_checkStep) hd_X7_checkStep ⟨Nat.le_of_ble_eq_true rfl, Nat.le_of_ble_eq_true rfl⟩ ⟨Nat.le_of_ble_eq_true rfl, Nat.le_of_ble_eq_true rfl⟩ ⟨[0, 1, 2], [3], [1, 2, 3, 0], rfl, rfl, rfl, rfl, rfl, rfl, rfl, rfl, rfl⟩ 0 rfl rfl rfl hl.1 rfl (Nat.le_of_ble_eq_true rfl) rfl dX7_timer_2 (fun H locs w => bq_z ⟨rfl, rfl⟩ ?_)
  clear hC
  refine lv_aload_n hx hb dX7_timer_5 rfl (lv_at hl 0 rfl) ?_
  refine gt_X7_24 E K w 0 rfl rfl dX7_timer_6 ?_
  refine gt_X7_195 E K w 1 rfl rfl dX7_timer_9 ?_
  refine lv_iload_n hx hb dX7_timer_12 rfl (lv_at hl 1 rfl) ?_
  obtain ⟨hI, hm⟩ := bq_ci_el hm
  refine bq_ald E K w 3 rfl hI dX7_timer_13 ?_
  obtain rfl := Option.some.inj hm
  exact bq_iret E w hr hk dX7_timer_14 hQ
abbrev rmTX7_timer : Room := { frames := 7, cells := 1, slots := 6, locals := 121 }
set_option maxHeartbeats 4000000 in
set_option maxRecDepth 100000 in
theorem tkX7_timer {l : Launch} (hlf : l.stackTraces = false) (D : va_G) (cI cJ : ClassId) (a_t a_t_rig a_t_rig_sequence a_t_rig_timers u_t_reader u_t_trial u_t_snapshot u_t_spare u_t_rig_circuit u_t_rig_log u_t_rig_score u_t_rig_strokes u_t_rig_positions u_t_rig_faults u_t_rig_sequence_plus u_t_rig_sequence_minus u_t_rig_sequence_pauses u_t_rig_sequence_outBefore u_t_rig_sequence_cuts u_t_rig_sequence_groupOfStep : Nat) (t t_rig t_rig_sequence t_rig_timers : Nat → Int32) (x1 : Int32) (r : Nat) (hm : tX7_timer t_rig_sequence t_rig_timers x1 = some r) : bq_MT l D cI cJ yX7_timer cX7_timer 2 (some .int) rmTX7_timer [.ref a_t, .int x1] (wdX7_timer cI a_t a_t_rig a_t_rig_sequence a_t_rig_timers u_t_reader u_t_trial u_t_snapshot u_t_spare u_t_rig_circuit u_t_rig_log u_t_rig_score u_t_rig_strokes u_t_rig_positions u_t_rig_faults u_t_rig_sequence_plus u_t_rig_sequence_minus u_t_rig_sequence_pauses u_t_rig_sequence_outBefore u_t_rig_sequence_cuts u_t_rig_sequence_groupOfStep t t_rig t_rig_sequence t_rig_timers) (bq_cls r) := by
  refine bq_startT (by decide) (Nat.le_of_ble_eq_true rfl) ?_
  intro p e s m av9 below meth c A ls Q H locs E K w hA hnt hk hX hQ hl
  have E : bq_E p m c cX7_timer 2 s av9 RX7 := E
  have hx := E.1
  have hb := E.2.1
  have hl : lv_has ls 2 [(0, .ref a_t), (1, .int x1)] := hl
  unfold tX7_timer at hm
  refine lv_aload_n hx hb dX7_timer_0 rfl (lv_at hl 0 rfl) ?_
  refine lv_iload_n hx hb dX7_timer_1 rfl (lv_at hl 1 rfl) ?_
  refine (bq_tc_el hm).elim (fun hC => ?_) (fun hm => ?_)
  · exact bq_TV (As := [.int x1]) (rest := []) E K w hA hX hnt hk ⟨rfl, rfl⟩ (tkX7_checkStep hlf D cI cJ a_t a_t_rig a_t_rig_sequence u_t_reader u_t_trial u_t_snapshot u_t_spare u_t_rig_circuit u_t_rig_log u_t_rig_score u_t_rig_strokes u_t_rig_positions a_t_rig_timers u_t_rig_faults u_t_rig_sequence_plus u_t_rig_sequence_minus u_t_rig_sequence_pauses u_t_rig_sequence_outBefore u_t_rig_sequence_cuts u_t_rig_sequence_groupOfStep t t_rig t_rig_sequence x1 _ hC) (bq_gV ml_X7_86 im_X7_checkStep sl_X7_checkStep in_X7 cd_X7_checkStep) hd_X7_checkStep ⟨Nat.le_of_ble_eq_true rfl, Nat.le_of_ble_eq_true rfl⟩ ⟨Nat.le_of_ble_eq_true rfl, Nat.le_of_ble_eq_true rfl⟩ ⟨[0, 1, 2], [3], [1, 2, 3, 0], rfl, rfl, rfl, rfl, rfl, rfl, rfl, rfl, rfl⟩ 0 rfl rfl rfl hl.1 rfl (Nat.le_of_ble_eq_true rfl) dX7_timer_2 hQ
  obtain ⟨⟨⟩, hC, hm⟩ := bq_bd_el hm
  refine bq_V (As := [.int x1]) (rest := []) (st1 := []) (ws' := wdX7_timer cI a_t a_t_rig a_t_rig_sequence a_t_rig_timers u_t_reader u_t_trial u_t_snapshot u_t_spare u_t_rig_circuit u_t_rig_log u_t_rig_score u_t_rig_strokes u_t_rig_positions u_t_rig_faults u_t_rig_sequence_plus u_t_rig_sequence_minus u_t_rig_sequence_pauses u_t_rig_sequence_outBefore u_t_rig_sequence_cuts u_t_rig_sequence_groupOfStep t t_rig t_rig_sequence t_rig_timers) E K w hA (kX7_checkStep l D cI cJ a_t a_t_rig a_t_rig_sequence u_t_reader u_t_trial u_t_snapshot u_t_spare u_t_rig_circuit u_t_rig_log u_t_rig_score u_t_rig_strokes u_t_rig_positions a_t_rig_timers u_t_rig_faults u_t_rig_sequence_plus u_t_rig_sequence_minus u_t_rig_sequence_pauses u_t_rig_sequence_outBefore u_t_rig_sequence_cuts u_t_rig_sequence_groupOfStep t t_rig t_rig_sequence x1 hC) (bq_gV ml_X7_86 im_X7_checkStep sl_X7_checkStep in_X7 cd_X7_checkStep) hd_X7_checkStep ⟨Nat.le_of_ble_eq_true rfl, Nat.le_of_ble_eq_true rfl⟩ ⟨Nat.le_of_ble_eq_true rfl, Nat.le_of_ble_eq_true rfl⟩ ⟨[0, 1, 2], [3], [1, 2, 3, 0], rfl, rfl, rfl, rfl, rfl, rfl, rfl, rfl, rfl⟩ 0 rfl rfl rfl hl.1 rfl (Nat.le_of_ble_eq_true rfl) rfl dX7_timer_2 (fun H locs w => bq_z ⟨rfl, rfl⟩ ?_)
  clear hC
  cases hm
abbrev wdX7_active (cI : ClassId) (a_t a_t_rig a_t_rig_circuit u_t_reader u_t_trial u_t_snapshot u_t_spare u_t_rig_sequence u_t_rig_log u_t_rig_score u_t_rig_strokes u_t_rig_positions u_t_rig_timers u_t_rig_faults : Nat) (t : Nat → Int32) (t_rig : Nat → Int32) (t_rig_circuit : Nat → Int32) : va_W := [(a_t, oX7 u_t_reader a_t_rig u_t_trial u_t_snapshot u_t_spare t), (a_t_rig, oX3 u_t_rig_sequence a_t_rig_circuit u_t_rig_log u_t_rig_score u_t_rig_strokes u_t_rig_positions u_t_rig_timers u_t_rig_faults t_rig), (a_t_rig_circuit, oX0 t_rig_circuit)]
abbrev rmX7_active : Room := { frames := 0, cells := 0, slots := 0, locals := 0 }
theorem hd_X7_active : yX7_active.cls = RX7 ∧ yX7_active.cls ≠ "java/lang/invoke/MethodHandle" ∧ yX7_active.cls ≠ "java/lang/invoke/VarHandle" ∧ (parseMethodDescriptor yX7_active.desc).map (fun d => d.parameters.length) = some 0 := by decide +kernel
set_option maxHeartbeats 4000000 in
set_option maxRecDepth 100000 in
theorem kX7_active (l : Launch) (D : va_G) (cI cJ : ClassId) (a_t a_t_rig a_t_rig_circuit u_t_reader u_t_trial u_t_snapshot u_t_spare u_t_rig_sequence u_t_rig_log u_t_rig_score u_t_rig_strokes u_t_rig_positions u_t_rig_timers u_t_rig_faults : Nat) (t t_rig t_rig_circuit : Nat → Int32) (r : Int32) (hm : mX7_active t_rig_circuit = some r) : bq_M l D cI cJ yX7_active cX7_active 1 (some .int) rmX7_active [.ref a_t] (wdX7_active cI a_t a_t_rig a_t_rig_circuit u_t_reader u_t_trial u_t_snapshot u_t_spare u_t_rig_sequence u_t_rig_log u_t_rig_score u_t_rig_strokes u_t_rig_positions u_t_rig_timers u_t_rig_faults t t_rig t_rig_circuit) (wdX7_active cI a_t a_t_rig a_t_rig_circuit u_t_reader u_t_trial u_t_snapshot u_t_spare u_t_rig_sequence u_t_rig_log u_t_rig_score u_t_rig_strokes u_t_rig_positions u_t_rig_timers u_t_rig_faults t t_rig t_rig_circuit) (some (.int r)) := by
  refine bq_start (by decide) (Nat.le_of_ble_eq_true rfl) ?_
  intro p e s m av9 below meth c A ls Q H locs E K w hA hr hk hn hQ hl
  have E : bq_E p m c cX7_active 1 s av9 RX7 := E
  have hx := E.1
  have hb := E.2.1
  have hl : lv_has ls 1 [(0, .ref a_t)] := hl
  unfold mX7_active at hm
  refine lv_aload_n hx hb dX7_active_0 rfl (lv_at hl 0 rfl) ?_
  refine gt_X7_24 E K w 0 rfl rfl dX7_active_1 ?_
  refine gt_X7_137 E K w 1 rfl rfl dX7_active_4 ?_
  refine gt_X7_198 E K w 2 rfl rfl dX7_active_7 ?_
  obtain rfl := Option.some.inj hm
  exact bq_iret E w hr hk dX7_active_10 hQ
abbrev wdX7_commands (cI : ClassId) (a_t a_t_rig a_t_rig_circuit u_t_reader u_t_trial u_t_snapshot u_t_spare u_t_rig_sequence u_t_rig_log u_t_rig_score u_t_rig_strokes u_t_rig_positions u_t_rig_timers u_t_rig_faults : Nat) (t : Nat → Int32) (t_rig : Nat → Int32) (t_rig_circuit : Nat → Int32) : va_W := [(a_t, oX7 u_t_reader a_t_rig u_t_trial u_t_snapshot u_t_spare t), (a_t_rig, oX3 u_t_rig_sequence a_t_rig_circuit u_t_rig_log u_t_rig_score u_t_rig_strokes u_t_rig_positions u_t_rig_timers u_t_rig_faults t_rig), (a_t_rig_circuit, oX0 t_rig_circuit)]
abbrev rmX7_commands : Room := { frames := 2, cells := 0, slots := 0, locals := 42 }
theorem hd_X7_commands : yX7_commands.cls = RX7 ∧ yX7_commands.cls ≠ "java/lang/invoke/MethodHandle" ∧ yX7_commands.cls ≠ "java/lang/invoke/VarHandle" ∧ (parseMethodDescriptor yX7_commands.desc).map (fun d => d.parameters.length) = some 1 := by decide +kernel
set_option maxHeartbeats 4000000 in
set_option maxRecDepth 100000 in
theorem kX7_commands (l : Launch) (D : va_G) (cI cJ : ClassId) (a_t a_t_rig a_t_rig_circuit u_t_reader u_t_trial u_t_snapshot u_t_spare u_t_rig_sequence u_t_rig_log u_t_rig_score u_t_rig_strokes u_t_rig_positions u_t_rig_timers u_t_rig_faults : Nat) (t t_rig t_rig_circuit : Nat → Int32) (x1 : Int32) (r : Int32) (hm : mX7_commands t_rig_circuit x1 = some r) : bq_M l D cI cJ yX7_commands cX7_commands 2 (some .int) rmX7_commands [.ref a_t, .int x1] (wdX7_commands cI a_t a_t_rig a_t_rig_circuit u_t_reader u_t_trial u_t_snapshot u_t_spare u_t_rig_sequence u_t_rig_log u_t_rig_score u_t_rig_strokes u_t_rig_positions u_t_rig_timers u_t_rig_faults t t_rig t_rig_circuit) (wdX7_commands cI a_t a_t_rig a_t_rig_circuit u_t_reader u_t_trial u_t_snapshot u_t_spare u_t_rig_sequence u_t_rig_log u_t_rig_score u_t_rig_strokes u_t_rig_positions u_t_rig_timers u_t_rig_faults t t_rig t_rig_circuit) (some (.int r)) := by
  refine bq_start (by decide) (Nat.le_of_ble_eq_true rfl) ?_
  intro p e s m av9 below meth c A ls Q H locs E K w hA hr hk hn hQ hl
  have E : bq_E p m c cX7_commands 2 s av9 RX7 := E
  have hx := E.1
  have hb := E.2.1
  have hl : lv_has ls 2 [(0, .ref a_t), (1, .int x1)] := hl
  unfold mX7_commands at hm
  refine lv_iload_n hx hb dX7_commands_0 rfl (lv_at hl 1 rfl) ?_
  obtain ⟨⟨⟩, hC, hm⟩ := bq_bd_el hm
  refine bq_S0 (As := [.int x1]) (rest := []) (st1 := []) E K w hA (kX7_checkCylinder l D cI cJ x1 hC) cd_X7_checkCylinder ml_X7_93 in_X7 st_X7_checkCylinder hs_X7_checkCylinder ⟨Nat.le_of_ble_eq_true rfl, Nat.le_of_ble_eq_true rfl⟩ ⟨Nat.le_of_ble_eq_true rfl, Nat.le_of_ble_eq_true rfl⟩ rfl hl.1 rfl (Nat.le_of_ble_eq_true rfl) rfl dX7_commands_1 (fun H locs w => bq_z ⟨rfl, rfl⟩ ?_)
  clear hC
  refine lv_aload_n hx hb dX7_commands_4 rfl (lv_at hl 0 rfl) ?_
  refine gt_X7_24 E K w 0 rfl rfl dX7_commands_5 ?_
  refine gt_X7_137 E K w 1 rfl rfl dX7_commands_8 ?_
  refine lv_iload_n hx hb dX7_commands_11 rfl (lv_at hl 1 rfl) ?_
  obtain ⟨v1, hC, hm⟩ := bq_bd_el hm
  refine bq_V (As := [.int x1]) (rest := []) (st1 := [.int v1]) (ws' := wdX7_commands cI a_t a_t_rig a_t_rig_circuit u_t_reader u_t_trial u_t_snapshot u_t_spare u_t_rig_sequence u_t_rig_log u_t_rig_score u_t_rig_strokes u_t_rig_positions u_t_rig_timers u_t_rig_faults t t_rig t_rig_circuit) E K w hA (kX0_commandsOf l D cI cJ a_t_rig_circuit t_rig_circuit x1 v1 hC) (bq_gV ml_X7_201 im_X0_commandsOf sl_X0_commandsOf in_X0 cd_X0_commandsOf) hd_X0_commandsOf ⟨Nat.le_of_ble_eq_true rfl, Nat.le_of_ble_eq_true rfl⟩ ⟨Nat.le_of_ble_eq_true rfl, Nat.le_of_ble_eq_true rfl⟩ ⟨[2], [0, 1], [0, 1, 2], rfl, rfl, rfl, rfl, rfl, rfl, rfl, rfl, rfl⟩ 2 rfl rfl rfl hl.1 rfl (Nat.le_of_ble_eq_true rfl) rfl dX7_commands_12 (fun H locs w => bq_z ⟨rfl, rfl⟩ ?_)
  clear hC
  obtain rfl := Option.some.inj hm
  exact bq_iret E w hr hk dX7_commands_15 hQ
abbrev rmTX7_commands : Room := { frames := 7, cells := 1, slots := 6, locals := 120 }
set_option maxHeartbeats 4000000 in
set_option maxRecDepth 100000 in
theorem tkX7_commands {l : Launch} (hlf : l.stackTraces = false) (D : va_G) (cI cJ : ClassId) (a_t a_t_rig a_t_rig_circuit u_t_reader u_t_trial u_t_snapshot u_t_spare u_t_rig_sequence u_t_rig_log u_t_rig_score u_t_rig_strokes u_t_rig_positions u_t_rig_timers u_t_rig_faults : Nat) (t t_rig t_rig_circuit : Nat → Int32) (x1 : Int32) (r : Nat) (hm : tX7_commands t_rig_circuit x1 = some r) : bq_MT l D cI cJ yX7_commands cX7_commands 2 (some .int) rmTX7_commands [.ref a_t, .int x1] (wdX7_commands cI a_t a_t_rig a_t_rig_circuit u_t_reader u_t_trial u_t_snapshot u_t_spare u_t_rig_sequence u_t_rig_log u_t_rig_score u_t_rig_strokes u_t_rig_positions u_t_rig_timers u_t_rig_faults t t_rig t_rig_circuit) (bq_cls r) := by
  refine bq_startT (by decide) (Nat.le_of_ble_eq_true rfl) ?_
  intro p e s m av9 below meth c A ls Q H locs E K w hA hnt hk hX hQ hl
  have E : bq_E p m c cX7_commands 2 s av9 RX7 := E
  have hx := E.1
  have hb := E.2.1
  have hl : lv_has ls 2 [(0, .ref a_t), (1, .int x1)] := hl
  unfold tX7_commands at hm
  refine lv_iload_n hx hb dX7_commands_0 rfl (lv_at hl 1 rfl) ?_
  refine (bq_tc_el hm).elim (fun hC => ?_) (fun hm => ?_)
  · exact bq_TS (As := [.int x1]) (rest := []) E K w hA hX hnt hk ⟨rfl, rfl⟩ (tkX7_checkCylinder hlf D cI cJ x1 _ hC) cd_X7_checkCylinder ml_X7_93 in_X7 st_X7_checkCylinder hs_X7_checkCylinder ⟨Nat.le_of_ble_eq_true rfl, Nat.le_of_ble_eq_true rfl⟩ ⟨Nat.le_of_ble_eq_true rfl, Nat.le_of_ble_eq_true rfl⟩ ⟨[], [0, 1, 2], [0, 1, 2], rfl, rfl, rfl, rfl, rfl, rfl, rfl, rfl, rfl⟩ rfl hl.1 rfl (Nat.le_of_ble_eq_true rfl) dX7_commands_1 hQ
  obtain ⟨⟨⟩, hC, hm⟩ := bq_bd_el hm
  refine bq_S0 (As := [.int x1]) (rest := []) (st1 := []) E K w hA (kX7_checkCylinder l D cI cJ x1 hC) cd_X7_checkCylinder ml_X7_93 in_X7 st_X7_checkCylinder hs_X7_checkCylinder ⟨Nat.le_of_ble_eq_true rfl, Nat.le_of_ble_eq_true rfl⟩ ⟨Nat.le_of_ble_eq_true rfl, Nat.le_of_ble_eq_true rfl⟩ rfl hl.1 rfl (Nat.le_of_ble_eq_true rfl) rfl dX7_commands_1 (fun H locs w => bq_z ⟨rfl, rfl⟩ ?_)
  clear hC
  cases hm
abbrev wdX7_events (cI : ClassId) (a_t a_t_rig a_t_rig_log u_t_reader u_t_trial u_t_snapshot u_t_spare u_t_rig_sequence u_t_rig_circuit u_t_rig_score u_t_rig_strokes u_t_rig_positions u_t_rig_timers u_t_rig_faults u_t_rig_log_times u_t_rig_log_moves : Nat) (t : Nat → Int32) (t_rig : Nat → Int32) (t_rig_log : Nat → Int32) : va_W := [(a_t, oX7 u_t_reader a_t_rig u_t_trial u_t_snapshot u_t_spare t), (a_t_rig, oX3 u_t_rig_sequence u_t_rig_circuit a_t_rig_log u_t_rig_score u_t_rig_strokes u_t_rig_positions u_t_rig_timers u_t_rig_faults t_rig), (a_t_rig_log, oX1 u_t_rig_log_times u_t_rig_log_moves t_rig_log)]
abbrev rmX7_events : Room := { frames := 0, cells := 0, slots := 0, locals := 0 }
theorem hd_X7_events : yX7_events.cls = RX7 ∧ yX7_events.cls ≠ "java/lang/invoke/MethodHandle" ∧ yX7_events.cls ≠ "java/lang/invoke/VarHandle" ∧ (parseMethodDescriptor yX7_events.desc).map (fun d => d.parameters.length) = some 0 := by decide +kernel
set_option maxHeartbeats 4000000 in
set_option maxRecDepth 100000 in
theorem kX7_events (l : Launch) (D : va_G) (cI cJ : ClassId) (a_t a_t_rig a_t_rig_log u_t_reader u_t_trial u_t_snapshot u_t_spare u_t_rig_sequence u_t_rig_circuit u_t_rig_score u_t_rig_strokes u_t_rig_positions u_t_rig_timers u_t_rig_faults u_t_rig_log_times u_t_rig_log_moves : Nat) (t t_rig t_rig_log : Nat → Int32) (r : Int32) (hm : mX7_events t_rig_log = some r) : bq_M l D cI cJ yX7_events cX7_events 1 (some .int) rmX7_events [.ref a_t] (wdX7_events cI a_t a_t_rig a_t_rig_log u_t_reader u_t_trial u_t_snapshot u_t_spare u_t_rig_sequence u_t_rig_circuit u_t_rig_score u_t_rig_strokes u_t_rig_positions u_t_rig_timers u_t_rig_faults u_t_rig_log_times u_t_rig_log_moves t t_rig t_rig_log) (wdX7_events cI a_t a_t_rig a_t_rig_log u_t_reader u_t_trial u_t_snapshot u_t_spare u_t_rig_sequence u_t_rig_circuit u_t_rig_score u_t_rig_strokes u_t_rig_positions u_t_rig_timers u_t_rig_faults u_t_rig_log_times u_t_rig_log_moves t t_rig t_rig_log) (some (.int r)) := by
  refine bq_start (by decide) (Nat.le_of_ble_eq_true rfl) ?_
  intro p e s m av9 below meth c A ls Q H locs E K w hA hr hk hn hQ hl
  have E : bq_E p m c cX7_events 1 s av9 RX7 := E
  have hx := E.1
  have hb := E.2.1
  have hl : lv_has ls 1 [(0, .ref a_t)] := hl
  unfold mX7_events at hm
  refine lv_aload_n hx hb dX7_events_0 rfl (lv_at hl 0 rfl) ?_
  refine gt_X7_24 E K w 0 rfl rfl dX7_events_1 ?_
  refine gt_X7_170 E K w 1 rfl rfl dX7_events_4 ?_
  refine gt_X7_174 E K w 2 rfl rfl dX7_events_7 ?_
  obtain rfl := Option.some.inj hm
  exact bq_iret E w hr hk dX7_events_10 hQ
abbrev wdX7_eventTime (cI : ClassId) (a_t a_t_rig a_t_rig_log a_t_rig_log_times u_t_reader u_t_trial u_t_snapshot u_t_spare u_t_rig_sequence u_t_rig_circuit u_t_rig_score u_t_rig_strokes u_t_rig_positions u_t_rig_timers u_t_rig_faults u_t_rig_log_moves : Nat) (t : Nat → Int32) (t_rig : Nat → Int32) (t_rig_log : Nat → Int32) (t_rig_log_times : Nat → Int32) : va_W := [(a_t, oX7 u_t_reader a_t_rig u_t_trial u_t_snapshot u_t_spare t), (a_t_rig, oX3 u_t_rig_sequence u_t_rig_circuit a_t_rig_log u_t_rig_score u_t_rig_strokes u_t_rig_positions u_t_rig_timers u_t_rig_faults t_rig), (a_t_rig_log, oX1 a_t_rig_log_times u_t_rig_log_moves t_rig_log), (a_t_rig_log_times, oA cI 40 t_rig_log_times)]
abbrev rmX7_eventTime : Room := { frames := 1, cells := 0, slots := 0, locals := 21 }
theorem hd_X7_eventTime : yX7_eventTime.cls = RX7 ∧ yX7_eventTime.cls ≠ "java/lang/invoke/MethodHandle" ∧ yX7_eventTime.cls ≠ "java/lang/invoke/VarHandle" ∧ (parseMethodDescriptor yX7_eventTime.desc).map (fun d => d.parameters.length) = some 1 := by decide +kernel
set_option maxHeartbeats 4000000 in
set_option maxRecDepth 100000 in
theorem kX7_eventTime (l : Launch) (D : va_G) (cI cJ : ClassId) (a_t a_t_rig a_t_rig_log a_t_rig_log_times u_t_reader u_t_trial u_t_snapshot u_t_spare u_t_rig_sequence u_t_rig_circuit u_t_rig_score u_t_rig_strokes u_t_rig_positions u_t_rig_timers u_t_rig_faults u_t_rig_log_moves : Nat) (t t_rig t_rig_log t_rig_log_times : Nat → Int32) (x1 : Int32) (r : Int32) (hm : mX7_eventTime t_rig_log t_rig_log_times x1 = some r) : bq_M l D cI cJ yX7_eventTime cX7_eventTime 3 (some .int) rmX7_eventTime [.ref a_t, .int x1] (wdX7_eventTime cI a_t a_t_rig a_t_rig_log a_t_rig_log_times u_t_reader u_t_trial u_t_snapshot u_t_spare u_t_rig_sequence u_t_rig_circuit u_t_rig_score u_t_rig_strokes u_t_rig_positions u_t_rig_timers u_t_rig_faults u_t_rig_log_moves t t_rig t_rig_log t_rig_log_times) (wdX7_eventTime cI a_t a_t_rig a_t_rig_log a_t_rig_log_times u_t_reader u_t_trial u_t_snapshot u_t_spare u_t_rig_sequence u_t_rig_circuit u_t_rig_score u_t_rig_strokes u_t_rig_positions u_t_rig_timers u_t_rig_faults u_t_rig_log_moves t t_rig t_rig_log t_rig_log_times) (some (.int r)) := by
  refine bq_start (by decide) (Nat.le_of_ble_eq_true rfl) ?_
  intro p e s m av9 below meth c A ls Q H locs E K w hA hr hk hn hQ hl
  have E : bq_E p m c cX7_eventTime 3 s av9 RX7 := E
  have hx := E.1
  have hb := E.2.1
  have hl : lv_has ls 3 [(0, .ref a_t), (1, .int x1)] := hl
  unfold mX7_eventTime at hm
  refine lv_iload_n hx hb dX7_eventTime_0 rfl (lv_at hl 1 rfl) ?_
  obtain ⟨⟨⟩, hC, hm⟩ := bq_bd_el hm
  refine bq_S0 (As := [.int x1]) (rest := []) (st1 := []) E K w hA (kX7_checkEvent l D cI cJ x1 hC) cd_X7_checkEvent ml_X7_204 in_X7 st_X7_checkEvent hs_X7_checkEvent ⟨Nat.le_of_ble_eq_true rfl, Nat.le_of_ble_eq_true rfl⟩ ⟨Nat.le_of_ble_eq_true rfl, Nat.le_of_ble_eq_true rfl⟩ rfl hl.1 rfl (Nat.le_of_ble_eq_true rfl) rfl dX7_eventTime_1 (fun H locs w => bq_z ⟨rfl, rfl⟩ ?_)
  clear hC
  refine lv_aload_n hx hb dX7_eventTime_4 rfl (lv_at hl 0 rfl) ?_
  refine gt_X7_24 E K w 0 rfl rfl dX7_eventTime_5 ?_
  refine gt_X7_170 E K w 1 rfl rfl dX7_eventTime_8 ?_
  refine lv_iload_n hx hb dX7_eventTime_11 rfl (lv_at hl 1 rfl) ?_
  obtain ⟨v1, hC, hm⟩ := bq_bd_el hm
  refine bq_V (As := [.int x1]) (rest := []) (st1 := [.int v1]) (ws' := wdX7_eventTime cI a_t a_t_rig a_t_rig_log a_t_rig_log_times u_t_reader u_t_trial u_t_snapshot u_t_spare u_t_rig_sequence u_t_rig_circuit u_t_rig_score u_t_rig_strokes u_t_rig_positions u_t_rig_timers u_t_rig_faults u_t_rig_log_moves t t_rig t_rig_log t_rig_log_times) E K w hA (kX1_slotOf l D cI cJ a_t_rig_log a_t_rig_log_times u_t_rig_log_moves t_rig_log x1 v1 hC) (bq_gV ml_X7_207 im_X1_slotOf sl_X1_slotOf in_X1 cd_X1_slotOf) hd_X1_slotOf ⟨Nat.le_of_ble_eq_true rfl, Nat.le_of_ble_eq_true rfl⟩ ⟨Nat.le_of_ble_eq_true rfl, Nat.le_of_ble_eq_true rfl⟩ ⟨[2], [0, 1, 3], [0, 1, 3, 2], rfl, rfl, rfl, rfl, rfl, rfl, rfl, rfl, rfl⟩ 2 rfl rfl rfl hl.1 rfl (Nat.le_of_ble_eq_true rfl) rfl dX7_eventTime_12 (fun H locs w => bq_z ⟨rfl, rfl⟩ ?_)
  clear hC
  refine lv_istore_n (lv' := [(2, .int v1), (0, .ref a_t), (1, .int x1)]) hx hb dX7_eventTime_15 rfl hl (by decide) rfl (fun ls hl => ?_)
  refine lv_iload_n hx hb dX7_eventTime_16 rfl (lv_at hl 0 rfl) ?_
  obtain ⟨v2, hT36, hm⟩ := bq_bd_el hm
  have K36 : ∀ (H : Heap) (locs : List Loc) (ls : Array Slot), bq_w D A s.heap (wdX7_eventTime cI a_t a_t_rig a_t_rig_log a_t_rig_log_times u_t_reader u_t_trial u_t_snapshot u_t_spare u_t_rig_sequence u_t_rig_circuit u_t_rig_score u_t_rig_strokes u_t_rig_positions u_t_rig_timers u_t_rig_faults u_t_rig_log_moves t t_rig t_rig_log t_rig_log_times) H locs → lv_has ls 3 [] → W p l e rmX7_eventTime s m av9 below meth c H locs 0 0 Q (F0 m 36 ls [.int v2]) := by
    intro H locs ls w hl
    obtain rfl := Option.some.inj hm
    exact bq_iret E w hr hk dX7_eventTime_36 hQ
  clear hm
  refine lv_if_ge (tgt := 24) hx hb dX7_eventTime_17 (by decide) (fun hc => ?_) (fun hc => ?_)
  · replace hT36 := bq_t hc hT36
    clear hc
    refine lv_aload_n hx hb dX7_eventTime_24 rfl (lv_at hl 1 rfl) ?_
    refine gt_X7_24 E K w 0 rfl rfl dX7_eventTime_25 ?_
    refine gt_X7_170 E K w 1 rfl rfl dX7_eventTime_28 ?_
    refine gt_X7_210 E K w 2 rfl rfl dX7_eventTime_31 ?_
    refine lv_iload_n hx hb dX7_eventTime_34 rfl (lv_at hl 0 rfl) ?_
    obtain ⟨hI, hT36⟩ := bq_ci_el hT36
    refine bq_ald E K w 3 rfl hI dX7_eventTime_35 ?_
    obtain rfl := Option.some.inj hT36
    exact K36 H locs ls w (lv_sub hl [] rfl)
  · replace hT36 := bq_f hc hT36
    clear hc
    refine lv_iconst (v := (-1)) hx hb dX7_eventTime_20 (by decide) ?_
    refine lv_goto (tgt := 36) hx hb dX7_eventTime_21 (by decide) ?_
    obtain rfl := Option.some.inj hT36
    exact K36 H locs ls w (lv_sub hl [] rfl)
abbrev rmTX7_eventTime : Room := { frames := 7, cells := 1, slots := 6, locals := 120 }
set_option maxHeartbeats 4000000 in
set_option maxRecDepth 100000 in
theorem tkX7_eventTime {l : Launch} (hlf : l.stackTraces = false) (D : va_G) (cI cJ : ClassId) (a_t a_t_rig a_t_rig_log a_t_rig_log_times u_t_reader u_t_trial u_t_snapshot u_t_spare u_t_rig_sequence u_t_rig_circuit u_t_rig_score u_t_rig_strokes u_t_rig_positions u_t_rig_timers u_t_rig_faults u_t_rig_log_moves : Nat) (t t_rig t_rig_log t_rig_log_times : Nat → Int32) (x1 : Int32) (r : Nat) (hm : tX7_eventTime t_rig_log t_rig_log_times x1 = some r) : bq_MT l D cI cJ yX7_eventTime cX7_eventTime 3 (some .int) rmTX7_eventTime [.ref a_t, .int x1] (wdX7_eventTime cI a_t a_t_rig a_t_rig_log a_t_rig_log_times u_t_reader u_t_trial u_t_snapshot u_t_spare u_t_rig_sequence u_t_rig_circuit u_t_rig_score u_t_rig_strokes u_t_rig_positions u_t_rig_timers u_t_rig_faults u_t_rig_log_moves t t_rig t_rig_log t_rig_log_times) (bq_cls r) := by
  refine bq_startT (by decide) (Nat.le_of_ble_eq_true rfl) ?_
  intro p e s m av9 below meth c A ls Q H locs E K w hA hnt hk hX hQ hl
  have E : bq_E p m c cX7_eventTime 3 s av9 RX7 := E
  have hx := E.1
  have hb := E.2.1
  have hl : lv_has ls 3 [(0, .ref a_t), (1, .int x1)] := hl
  unfold tX7_eventTime at hm
  refine lv_iload_n hx hb dX7_eventTime_0 rfl (lv_at hl 1 rfl) ?_
  refine (bq_tc_el hm).elim (fun hC => ?_) (fun hm => ?_)
  · exact bq_TS (As := [.int x1]) (rest := []) E K w hA hX hnt hk ⟨rfl, rfl⟩ (tkX7_checkEvent hlf D cI cJ x1 _ hC) cd_X7_checkEvent ml_X7_204 in_X7 st_X7_checkEvent hs_X7_checkEvent ⟨Nat.le_of_ble_eq_true rfl, Nat.le_of_ble_eq_true rfl⟩ ⟨Nat.le_of_ble_eq_true rfl, Nat.le_of_ble_eq_true rfl⟩ ⟨[], [0, 1, 2, 3], [0, 1, 2, 3], rfl, rfl, rfl, rfl, rfl, rfl, rfl, rfl, rfl⟩ rfl hl.1 rfl (Nat.le_of_ble_eq_true rfl) dX7_eventTime_1 hQ
  obtain ⟨⟨⟩, hC, hm⟩ := bq_bd_el hm
  refine bq_S0 (As := [.int x1]) (rest := []) (st1 := []) E K w hA (kX7_checkEvent l D cI cJ x1 hC) cd_X7_checkEvent ml_X7_204 in_X7 st_X7_checkEvent hs_X7_checkEvent ⟨Nat.le_of_ble_eq_true rfl, Nat.le_of_ble_eq_true rfl⟩ ⟨Nat.le_of_ble_eq_true rfl, Nat.le_of_ble_eq_true rfl⟩ rfl hl.1 rfl (Nat.le_of_ble_eq_true rfl) rfl dX7_eventTime_1 (fun H locs w => bq_z ⟨rfl, rfl⟩ ?_)
  clear hC
  cases hm
abbrev wdX7_eventMove (cI : ClassId) (a_t a_t_rig a_t_rig_log a_t_rig_log_moves u_t_reader u_t_trial u_t_snapshot u_t_spare u_t_rig_sequence u_t_rig_circuit u_t_rig_score u_t_rig_strokes u_t_rig_positions u_t_rig_timers u_t_rig_faults u_t_rig_log_times : Nat) (t : Nat → Int32) (t_rig : Nat → Int32) (t_rig_log : Nat → Int32) (t_rig_log_moves : Nat → Int32) : va_W := [(a_t, oX7 u_t_reader a_t_rig u_t_trial u_t_snapshot u_t_spare t), (a_t_rig, oX3 u_t_rig_sequence u_t_rig_circuit a_t_rig_log u_t_rig_score u_t_rig_strokes u_t_rig_positions u_t_rig_timers u_t_rig_faults t_rig), (a_t_rig_log, oX1 u_t_rig_log_times a_t_rig_log_moves t_rig_log), (a_t_rig_log_moves, oA cI 40 t_rig_log_moves)]
abbrev rmX7_eventMove : Room := { frames := 1, cells := 0, slots := 0, locals := 21 }
theorem hd_X7_eventMove : yX7_eventMove.cls = RX7 ∧ yX7_eventMove.cls ≠ "java/lang/invoke/MethodHandle" ∧ yX7_eventMove.cls ≠ "java/lang/invoke/VarHandle" ∧ (parseMethodDescriptor yX7_eventMove.desc).map (fun d => d.parameters.length) = some 1 := by decide +kernel
set_option maxHeartbeats 4000000 in
set_option maxRecDepth 100000 in
theorem kX7_eventMove (l : Launch) (D : va_G) (cI cJ : ClassId) (a_t a_t_rig a_t_rig_log a_t_rig_log_moves u_t_reader u_t_trial u_t_snapshot u_t_spare u_t_rig_sequence u_t_rig_circuit u_t_rig_score u_t_rig_strokes u_t_rig_positions u_t_rig_timers u_t_rig_faults u_t_rig_log_times : Nat) (t t_rig t_rig_log t_rig_log_moves : Nat → Int32) (x1 : Int32) (r : Int32) (hm : mX7_eventMove t_rig_log t_rig_log_moves x1 = some r) : bq_M l D cI cJ yX7_eventMove cX7_eventMove 3 (some .int) rmX7_eventMove [.ref a_t, .int x1] (wdX7_eventMove cI a_t a_t_rig a_t_rig_log a_t_rig_log_moves u_t_reader u_t_trial u_t_snapshot u_t_spare u_t_rig_sequence u_t_rig_circuit u_t_rig_score u_t_rig_strokes u_t_rig_positions u_t_rig_timers u_t_rig_faults u_t_rig_log_times t t_rig t_rig_log t_rig_log_moves) (wdX7_eventMove cI a_t a_t_rig a_t_rig_log a_t_rig_log_moves u_t_reader u_t_trial u_t_snapshot u_t_spare u_t_rig_sequence u_t_rig_circuit u_t_rig_score u_t_rig_strokes u_t_rig_positions u_t_rig_timers u_t_rig_faults u_t_rig_log_times t t_rig t_rig_log t_rig_log_moves) (some (.int r)) := by
  refine bq_start (by decide) (Nat.le_of_ble_eq_true rfl) ?_
  intro p e s m av9 below meth c A ls Q H locs E K w hA hr hk hn hQ hl
  have E : bq_E p m c cX7_eventMove 3 s av9 RX7 := E
  have hx := E.1
  have hb := E.2.1
  have hl : lv_has ls 3 [(0, .ref a_t), (1, .int x1)] := hl
  unfold mX7_eventMove at hm
  refine lv_iload_n hx hb dX7_eventMove_0 rfl (lv_at hl 1 rfl) ?_
  obtain ⟨⟨⟩, hC, hm⟩ := bq_bd_el hm
  refine bq_S0 (As := [.int x1]) (rest := []) (st1 := []) E K w hA (kX7_checkEvent l D cI cJ x1 hC) cd_X7_checkEvent ml_X7_204 in_X7 st_X7_checkEvent hs_X7_checkEvent ⟨Nat.le_of_ble_eq_true rfl, Nat.le_of_ble_eq_true rfl⟩ ⟨Nat.le_of_ble_eq_true rfl, Nat.le_of_ble_eq_true rfl⟩ rfl hl.1 rfl (Nat.le_of_ble_eq_true rfl) rfl dX7_eventMove_1 (fun H locs w => bq_z ⟨rfl, rfl⟩ ?_)
  clear hC
  refine lv_aload_n hx hb dX7_eventMove_4 rfl (lv_at hl 0 rfl) ?_
  refine gt_X7_24 E K w 0 rfl rfl dX7_eventMove_5 ?_
  refine gt_X7_170 E K w 1 rfl rfl dX7_eventMove_8 ?_
  refine lv_iload_n hx hb dX7_eventMove_11 rfl (lv_at hl 1 rfl) ?_
  obtain ⟨v1, hC, hm⟩ := bq_bd_el hm
  refine bq_V (As := [.int x1]) (rest := []) (st1 := [.int v1]) (ws' := wdX7_eventMove cI a_t a_t_rig a_t_rig_log a_t_rig_log_moves u_t_reader u_t_trial u_t_snapshot u_t_spare u_t_rig_sequence u_t_rig_circuit u_t_rig_score u_t_rig_strokes u_t_rig_positions u_t_rig_timers u_t_rig_faults u_t_rig_log_times t t_rig t_rig_log t_rig_log_moves) E K w hA (kX1_slotOf l D cI cJ a_t_rig_log u_t_rig_log_times a_t_rig_log_moves t_rig_log x1 v1 hC) (bq_gV ml_X7_207 im_X1_slotOf sl_X1_slotOf in_X1 cd_X1_slotOf) hd_X1_slotOf ⟨Nat.le_of_ble_eq_true rfl, Nat.le_of_ble_eq_true rfl⟩ ⟨Nat.le_of_ble_eq_true rfl, Nat.le_of_ble_eq_true rfl⟩ ⟨[2], [0, 1, 3], [0, 1, 3, 2], rfl, rfl, rfl, rfl, rfl, rfl, rfl, rfl, rfl⟩ 2 rfl rfl rfl hl.1 rfl (Nat.le_of_ble_eq_true rfl) rfl dX7_eventMove_12 (fun H locs w => bq_z ⟨rfl, rfl⟩ ?_)
  clear hC
  refine lv_istore_n (lv' := [(2, .int v1), (0, .ref a_t), (1, .int x1)]) hx hb dX7_eventMove_15 rfl hl (by decide) rfl (fun ls hl => ?_)
  refine lv_iload_n hx hb dX7_eventMove_16 rfl (lv_at hl 0 rfl) ?_
  obtain ⟨v2, hT36, hm⟩ := bq_bd_el hm
  have K36 : ∀ (H : Heap) (locs : List Loc) (ls : Array Slot), bq_w D A s.heap (wdX7_eventMove cI a_t a_t_rig a_t_rig_log a_t_rig_log_moves u_t_reader u_t_trial u_t_snapshot u_t_spare u_t_rig_sequence u_t_rig_circuit u_t_rig_score u_t_rig_strokes u_t_rig_positions u_t_rig_timers u_t_rig_faults u_t_rig_log_times t t_rig t_rig_log t_rig_log_moves) H locs → lv_has ls 3 [] → W p l e rmX7_eventMove s m av9 below meth c H locs 0 0 Q (F0 m 36 ls [.int v2]) := by
    intro H locs ls w hl
    obtain rfl := Option.some.inj hm
    exact bq_iret E w hr hk dX7_eventMove_36 hQ
  clear hm
  refine lv_if_ge (tgt := 24) hx hb dX7_eventMove_17 (by decide) (fun hc => ?_) (fun hc => ?_)
  · replace hT36 := bq_t hc hT36
    clear hc
    refine lv_aload_n hx hb dX7_eventMove_24 rfl (lv_at hl 1 rfl) ?_
    refine gt_X7_24 E K w 0 rfl rfl dX7_eventMove_25 ?_
    refine gt_X7_170 E K w 1 rfl rfl dX7_eventMove_28 ?_
    refine gt_X7_213 E K w 2 rfl rfl dX7_eventMove_31 ?_
    refine lv_iload_n hx hb dX7_eventMove_34 rfl (lv_at hl 0 rfl) ?_
    obtain ⟨hI, hT36⟩ := bq_ci_el hT36
    refine bq_ald E K w 3 rfl hI dX7_eventMove_35 ?_
    obtain rfl := Option.some.inj hT36
    exact K36 H locs ls w (lv_sub hl [] rfl)
  · replace hT36 := bq_f hc hT36
    clear hc
    refine lv_iconst (v := (-1)) hx hb dX7_eventMove_20 (by decide) ?_
    refine lv_goto (tgt := 36) hx hb dX7_eventMove_21 (by decide) ?_
    obtain rfl := Option.some.inj hT36
    exact K36 H locs ls w (lv_sub hl [] rfl)
abbrev rmTX7_eventMove : Room := { frames := 7, cells := 1, slots := 6, locals := 120 }
set_option maxHeartbeats 4000000 in
set_option maxRecDepth 100000 in
theorem tkX7_eventMove {l : Launch} (hlf : l.stackTraces = false) (D : va_G) (cI cJ : ClassId) (a_t a_t_rig a_t_rig_log a_t_rig_log_moves u_t_reader u_t_trial u_t_snapshot u_t_spare u_t_rig_sequence u_t_rig_circuit u_t_rig_score u_t_rig_strokes u_t_rig_positions u_t_rig_timers u_t_rig_faults u_t_rig_log_times : Nat) (t t_rig t_rig_log t_rig_log_moves : Nat → Int32) (x1 : Int32) (r : Nat) (hm : tX7_eventMove t_rig_log t_rig_log_moves x1 = some r) : bq_MT l D cI cJ yX7_eventMove cX7_eventMove 3 (some .int) rmTX7_eventMove [.ref a_t, .int x1] (wdX7_eventMove cI a_t a_t_rig a_t_rig_log a_t_rig_log_moves u_t_reader u_t_trial u_t_snapshot u_t_spare u_t_rig_sequence u_t_rig_circuit u_t_rig_score u_t_rig_strokes u_t_rig_positions u_t_rig_timers u_t_rig_faults u_t_rig_log_times t t_rig t_rig_log t_rig_log_moves) (bq_cls r) := by
  refine bq_startT (by decide) (Nat.le_of_ble_eq_true rfl) ?_
  intro p e s m av9 below meth c A ls Q H locs E K w hA hnt hk hX hQ hl
  have E : bq_E p m c cX7_eventMove 3 s av9 RX7 := E
  have hx := E.1
  have hb := E.2.1
  have hl : lv_has ls 3 [(0, .ref a_t), (1, .int x1)] := hl
  unfold tX7_eventMove at hm
  refine lv_iload_n hx hb dX7_eventMove_0 rfl (lv_at hl 1 rfl) ?_
  refine (bq_tc_el hm).elim (fun hC => ?_) (fun hm => ?_)
  · exact bq_TS (As := [.int x1]) (rest := []) E K w hA hX hnt hk ⟨rfl, rfl⟩ (tkX7_checkEvent hlf D cI cJ x1 _ hC) cd_X7_checkEvent ml_X7_204 in_X7 st_X7_checkEvent hs_X7_checkEvent ⟨Nat.le_of_ble_eq_true rfl, Nat.le_of_ble_eq_true rfl⟩ ⟨Nat.le_of_ble_eq_true rfl, Nat.le_of_ble_eq_true rfl⟩ ⟨[], [0, 1, 2, 3], [0, 1, 2, 3], rfl, rfl, rfl, rfl, rfl, rfl, rfl, rfl, rfl⟩ rfl hl.1 rfl (Nat.le_of_ble_eq_true rfl) dX7_eventMove_1 hQ
  obtain ⟨⟨⟩, hC, hm⟩ := bq_bd_el hm
  refine bq_S0 (As := [.int x1]) (rest := []) (st1 := []) E K w hA (kX7_checkEvent l D cI cJ x1 hC) cd_X7_checkEvent ml_X7_204 in_X7 st_X7_checkEvent hs_X7_checkEvent ⟨Nat.le_of_ble_eq_true rfl, Nat.le_of_ble_eq_true rfl⟩ ⟨Nat.le_of_ble_eq_true rfl, Nat.le_of_ble_eq_true rfl⟩ rfl hl.1 rfl (Nat.le_of_ble_eq_true rfl) rfl dX7_eventMove_1 (fun H locs w => bq_z ⟨rfl, rfl⟩ ?_)
  clear hC
  cases hm
abbrev wdX7_rightEvents (cI : ClassId) (a_t a_t_rig a_t_rig_score u_t_reader u_t_trial u_t_snapshot u_t_spare u_t_rig_sequence u_t_rig_circuit u_t_rig_log u_t_rig_strokes u_t_rig_positions u_t_rig_timers u_t_rig_faults : Nat) (t : Nat → Int32) (t_rig : Nat → Int32) (t_rig_score : Nat → Int32) : va_W := [(a_t, oX7 u_t_reader a_t_rig u_t_trial u_t_snapshot u_t_spare t), (a_t_rig, oX3 u_t_rig_sequence u_t_rig_circuit u_t_rig_log a_t_rig_score u_t_rig_strokes u_t_rig_positions u_t_rig_timers u_t_rig_faults t_rig), (a_t_rig_score, oX4 t_rig_score)]
abbrev rmX7_rightEvents : Room := { frames := 0, cells := 0, slots := 0, locals := 0 }
theorem hd_X7_rightEvents : yX7_rightEvents.cls = RX7 ∧ yX7_rightEvents.cls ≠ "java/lang/invoke/MethodHandle" ∧ yX7_rightEvents.cls ≠ "java/lang/invoke/VarHandle" ∧ (parseMethodDescriptor yX7_rightEvents.desc).map (fun d => d.parameters.length) = some 0 := by decide +kernel
set_option maxHeartbeats 4000000 in
set_option maxRecDepth 100000 in
theorem kX7_rightEvents (l : Launch) (D : va_G) (cI cJ : ClassId) (a_t a_t_rig a_t_rig_score u_t_reader u_t_trial u_t_snapshot u_t_spare u_t_rig_sequence u_t_rig_circuit u_t_rig_log u_t_rig_strokes u_t_rig_positions u_t_rig_timers u_t_rig_faults : Nat) (t t_rig t_rig_score : Nat → Int32) (r : Int32) (hm : mX7_rightEvents t_rig_score = some r) : bq_M l D cI cJ yX7_rightEvents cX7_rightEvents 1 (some .int) rmX7_rightEvents [.ref a_t] (wdX7_rightEvents cI a_t a_t_rig a_t_rig_score u_t_reader u_t_trial u_t_snapshot u_t_spare u_t_rig_sequence u_t_rig_circuit u_t_rig_log u_t_rig_strokes u_t_rig_positions u_t_rig_timers u_t_rig_faults t t_rig t_rig_score) (wdX7_rightEvents cI a_t a_t_rig a_t_rig_score u_t_reader u_t_trial u_t_snapshot u_t_spare u_t_rig_sequence u_t_rig_circuit u_t_rig_log u_t_rig_strokes u_t_rig_positions u_t_rig_timers u_t_rig_faults t t_rig t_rig_score) (some (.int r)) := by
  refine bq_start (by decide) (Nat.le_of_ble_eq_true rfl) ?_
  intro p e s m av9 below meth c A ls Q H locs E K w hA hr hk hn hQ hl
  have E : bq_E p m c cX7_rightEvents 1 s av9 RX7 := E
  have hx := E.1
  have hb := E.2.1
  have hl : lv_has ls 1 [(0, .ref a_t)] := hl
  unfold mX7_rightEvents at hm
  refine lv_aload_n hx hb dX7_rightEvents_0 rfl (lv_at hl 0 rfl) ?_
  refine gt_X7_24 E K w 0 rfl rfl dX7_rightEvents_1 ?_
  refine gt_X7_216 E K w 1 rfl rfl dX7_rightEvents_4 ?_
  refine gt_X7_220 E K w 2 rfl rfl dX7_rightEvents_7 ?_
  obtain rfl := Option.some.inj hm
  exact bq_iret E w hr hk dX7_rightEvents_10 hQ
abbrev wdX7_cycles (cI : ClassId) (a_t a_t_rig a_t_rig_score u_t_reader u_t_trial u_t_snapshot u_t_spare u_t_rig_sequence u_t_rig_circuit u_t_rig_log u_t_rig_strokes u_t_rig_positions u_t_rig_timers u_t_rig_faults : Nat) (t : Nat → Int32) (t_rig : Nat → Int32) (t_rig_score : Nat → Int32) : va_W := [(a_t, oX7 u_t_reader a_t_rig u_t_trial u_t_snapshot u_t_spare t), (a_t_rig, oX3 u_t_rig_sequence u_t_rig_circuit u_t_rig_log a_t_rig_score u_t_rig_strokes u_t_rig_positions u_t_rig_timers u_t_rig_faults t_rig), (a_t_rig_score, oX4 t_rig_score)]
abbrev rmX7_cycles : Room := { frames := 0, cells := 0, slots := 0, locals := 0 }
theorem hd_X7_cycles : yX7_cycles.cls = RX7 ∧ yX7_cycles.cls ≠ "java/lang/invoke/MethodHandle" ∧ yX7_cycles.cls ≠ "java/lang/invoke/VarHandle" ∧ (parseMethodDescriptor yX7_cycles.desc).map (fun d => d.parameters.length) = some 0 := by decide +kernel
set_option maxHeartbeats 4000000 in
set_option maxRecDepth 100000 in
theorem kX7_cycles (l : Launch) (D : va_G) (cI cJ : ClassId) (a_t a_t_rig a_t_rig_score u_t_reader u_t_trial u_t_snapshot u_t_spare u_t_rig_sequence u_t_rig_circuit u_t_rig_log u_t_rig_strokes u_t_rig_positions u_t_rig_timers u_t_rig_faults : Nat) (t t_rig t_rig_score : Nat → Int32) (r : Int32) (hm : mX7_cycles t_rig_score = some r) : bq_M l D cI cJ yX7_cycles cX7_cycles 1 (some .int) rmX7_cycles [.ref a_t] (wdX7_cycles cI a_t a_t_rig a_t_rig_score u_t_reader u_t_trial u_t_snapshot u_t_spare u_t_rig_sequence u_t_rig_circuit u_t_rig_log u_t_rig_strokes u_t_rig_positions u_t_rig_timers u_t_rig_faults t t_rig t_rig_score) (wdX7_cycles cI a_t a_t_rig a_t_rig_score u_t_reader u_t_trial u_t_snapshot u_t_spare u_t_rig_sequence u_t_rig_circuit u_t_rig_log u_t_rig_strokes u_t_rig_positions u_t_rig_timers u_t_rig_faults t t_rig t_rig_score) (some (.int r)) := by
  refine bq_start (by decide) (Nat.le_of_ble_eq_true rfl) ?_
  intro p e s m av9 below meth c A ls Q H locs E K w hA hr hk hn hQ hl
  have E : bq_E p m c cX7_cycles 1 s av9 RX7 := E
  have hx := E.1
  have hb := E.2.1
  have hl : lv_has ls 1 [(0, .ref a_t)] := hl
  unfold mX7_cycles at hm
  refine lv_aload_n hx hb dX7_cycles_0 rfl (lv_at hl 0 rfl) ?_
  refine gt_X7_24 E K w 0 rfl rfl dX7_cycles_1 ?_
  refine gt_X7_216 E K w 1 rfl rfl dX7_cycles_4 ?_
  refine gt_X7_225 E K w 2 rfl rfl dX7_cycles_7 ?_
  obtain rfl := Option.some.inj hm
  exact bq_iret E w hr hk dX7_cycles_10 hQ
abbrev wdX7_quiet (cI : ClassId) (a_t a_t_rig u_t_reader u_t_trial u_t_snapshot u_t_spare u_t_rig_sequence u_t_rig_circuit u_t_rig_log u_t_rig_score u_t_rig_strokes u_t_rig_positions u_t_rig_timers u_t_rig_faults : Nat) (t : Nat → Int32) (t_rig : Nat → Int32) : va_W := [(a_t, oX7 u_t_reader a_t_rig u_t_trial u_t_snapshot u_t_spare t), (a_t_rig, oX3 u_t_rig_sequence u_t_rig_circuit u_t_rig_log u_t_rig_score u_t_rig_strokes u_t_rig_positions u_t_rig_timers u_t_rig_faults t_rig)]
abbrev rmX7_quiet : Room := { frames := 0, cells := 0, slots := 0, locals := 0 }
theorem hd_X7_quiet : yX7_quiet.cls = RX7 ∧ yX7_quiet.cls ≠ "java/lang/invoke/MethodHandle" ∧ yX7_quiet.cls ≠ "java/lang/invoke/VarHandle" ∧ (parseMethodDescriptor yX7_quiet.desc).map (fun d => d.parameters.length) = some 0 := by decide +kernel
set_option maxHeartbeats 4000000 in
set_option maxRecDepth 100000 in
theorem kX7_quiet (l : Launch) (D : va_G) (cI cJ : ClassId) (a_t a_t_rig u_t_reader u_t_trial u_t_snapshot u_t_spare u_t_rig_sequence u_t_rig_circuit u_t_rig_log u_t_rig_score u_t_rig_strokes u_t_rig_positions u_t_rig_timers u_t_rig_faults : Nat) (t t_rig : Nat → Int32) (r : Int32) (hm : mX7_quiet t_rig = some r) : bq_M l D cI cJ yX7_quiet cX7_quiet 1 (some .int) rmX7_quiet [.ref a_t] (wdX7_quiet cI a_t a_t_rig u_t_reader u_t_trial u_t_snapshot u_t_spare u_t_rig_sequence u_t_rig_circuit u_t_rig_log u_t_rig_score u_t_rig_strokes u_t_rig_positions u_t_rig_timers u_t_rig_faults t t_rig) (wdX7_quiet cI a_t a_t_rig u_t_reader u_t_trial u_t_snapshot u_t_spare u_t_rig_sequence u_t_rig_circuit u_t_rig_log u_t_rig_score u_t_rig_strokes u_t_rig_positions u_t_rig_timers u_t_rig_faults t t_rig) (some (.int r)) := by
  refine bq_start (by decide) (Nat.le_of_ble_eq_true rfl) ?_
  intro p e s m av9 below meth c A ls Q H locs E K w hA hr hk hn hQ hl
  have E : bq_E p m c cX7_quiet 1 s av9 RX7 := E
  have hx := E.1
  have hb := E.2.1
  have hl : lv_has ls 1 [(0, .ref a_t)] := hl
  unfold mX7_quiet at hm
  refine lv_aload_n hx hb dX7_quiet_0 rfl (lv_at hl 0 rfl) ?_
  refine gt_X7_24 E K w 0 rfl rfl dX7_quiet_1 ?_
  refine gt_X7_165 E K w 1 rfl rfl dX7_quiet_4 ?_
  refine lv_aload_n hx hb dX7_quiet_7 rfl (lv_at hl 0 rfl) ?_
  refine gt_X7_24 E K w 0 rfl rfl dX7_quiet_8 ?_
  refine gt_X7_228 E K w 1 rfl rfl dX7_quiet_11 ?_
  refine lv_isub hx hb dX7_quiet_14 ?_
  obtain rfl := Option.some.inj hm
  exact bq_iret E w hr hk dX7_quiet_15 hQ
abbrev wdX7_fingerprint (cI : ClassId) (a_t a_t_rig a_t_rig_circuit a_t_rig_log a_t_rig_positions a_t_rig_score a_t_rig_sequence a_t_rig_timers u_t_reader u_t_trial u_t_snapshot u_t_spare u_t_rig_strokes u_t_rig_faults u_t_rig_log_times u_t_rig_log_moves u_t_rig_sequence_plus u_t_rig_sequence_minus u_t_rig_sequence_pauses u_t_rig_sequence_outBefore u_t_rig_sequence_cuts u_t_rig_sequence_groupOfStep : Nat) (t : Nat → Int32) (t_rig : Nat → Int32) (t_rig_circuit : Nat → Int32) (t_rig_log : Nat → Int32) (t_rig_positions : Nat → Int32) (t_rig_score : Nat → Int32) (t_rig_sequence : Nat → Int32) (t_rig_timers : Nat → Int32) : va_W := [(a_t, oX7 u_t_reader a_t_rig u_t_trial u_t_snapshot u_t_spare t), (a_t_rig, oX3 a_t_rig_sequence a_t_rig_circuit a_t_rig_log a_t_rig_score u_t_rig_strokes a_t_rig_positions a_t_rig_timers u_t_rig_faults t_rig), (a_t_rig_circuit, oX0 t_rig_circuit), (a_t_rig_log, oX1 u_t_rig_log_times u_t_rig_log_moves t_rig_log), (a_t_rig_positions, oA cI 6 t_rig_positions), (a_t_rig_score, oX4 t_rig_score), (a_t_rig_sequence, oX5 u_t_rig_sequence_plus u_t_rig_sequence_minus u_t_rig_sequence_pauses u_t_rig_sequence_outBefore u_t_rig_sequence_cuts u_t_rig_sequence_groupOfStep t_rig_sequence), (a_t_rig_timers, oA cI 16 t_rig_timers)]
abbrev rmX7_fingerprint : Room := { frames := 2, cells := 0, slots := 0, locals := 42 }
theorem hd_X7_fingerprint : yX7_fingerprint.cls = RX7 ∧ yX7_fingerprint.cls ≠ "java/lang/invoke/MethodHandle" ∧ yX7_fingerprint.cls ≠ "java/lang/invoke/VarHandle" ∧ (parseMethodDescriptor yX7_fingerprint.desc).map (fun d => d.parameters.length) = some 0 := by decide +kernel
set_option maxHeartbeats 4000000 in
set_option maxRecDepth 100000 in
theorem kX7_fingerprint (l : Launch) (D : va_G) (cI cJ : ClassId) (a_t a_t_rig a_t_rig_circuit a_t_rig_log a_t_rig_positions a_t_rig_score a_t_rig_sequence a_t_rig_timers u_t_reader u_t_trial u_t_snapshot u_t_spare u_t_rig_strokes u_t_rig_faults u_t_rig_log_times u_t_rig_log_moves u_t_rig_sequence_plus u_t_rig_sequence_minus u_t_rig_sequence_pauses u_t_rig_sequence_outBefore u_t_rig_sequence_cuts u_t_rig_sequence_groupOfStep : Nat) (t t_rig t_rig_circuit t_rig_log t_rig_positions t_rig_score t_rig_sequence t_rig_timers : Nat → Int32) (r : Int64) (hm : mX7_fingerprint t_rig t_rig_circuit t_rig_log t_rig_positions t_rig_score t_rig_sequence t_rig_timers = some r) : bq_M l D cI cJ yX7_fingerprint cX7_fingerprint 4 (some .long) rmX7_fingerprint [.ref a_t] (wdX7_fingerprint cI a_t a_t_rig a_t_rig_circuit a_t_rig_log a_t_rig_positions a_t_rig_score a_t_rig_sequence a_t_rig_timers u_t_reader u_t_trial u_t_snapshot u_t_spare u_t_rig_strokes u_t_rig_faults u_t_rig_log_times u_t_rig_log_moves u_t_rig_sequence_plus u_t_rig_sequence_minus u_t_rig_sequence_pauses u_t_rig_sequence_outBefore u_t_rig_sequence_cuts u_t_rig_sequence_groupOfStep t t_rig t_rig_circuit t_rig_log t_rig_positions t_rig_score t_rig_sequence t_rig_timers) (wdX7_fingerprint cI a_t a_t_rig a_t_rig_circuit a_t_rig_log a_t_rig_positions a_t_rig_score a_t_rig_sequence a_t_rig_timers u_t_reader u_t_trial u_t_snapshot u_t_spare u_t_rig_strokes u_t_rig_faults u_t_rig_log_times u_t_rig_log_moves u_t_rig_sequence_plus u_t_rig_sequence_minus u_t_rig_sequence_pauses u_t_rig_sequence_outBefore u_t_rig_sequence_cuts u_t_rig_sequence_groupOfStep t t_rig t_rig_circuit t_rig_log t_rig_positions t_rig_score t_rig_sequence t_rig_timers) (some (.long r)) := by
  refine bq_start (by decide) (Nat.le_of_ble_eq_true rfl) ?_
  intro p e s m av9 below meth c A ls Q H locs E K w hA hr hk hn hQ hl
  have E : bq_E p m c cX7_fingerprint 4 s av9 RX7 := E
  have hx := E.1
  have hb := E.2.1
  have hl : lv_has ls 4 [(0, .ref a_t)] := hl
  unfold mX7_fingerprint at hm
  refine lv_ldc2 (v := 19) hx hb E.2.2.2.1 (E.2.2.2.2 _ ct_X7_245) dX7_fingerprint_0 ?_
  refine lv_lstore_n (lv' := [(1, .long 19), (0, .ref a_t)]) hx hb dX7_fingerprint_3 rfl hl (by decide) rfl (fun ls hl => ?_)
  refine lv_ldc2 (v := 31) hx hb E.2.2.2.1 (E.2.2.2.2 _ ct_X7_247) dX7_fingerprint_4 ?_
  refine lv_lload_n hx hb dX7_fingerprint_7 rfl (lv_at hl 0 rfl) ?_
  refine lv_lmul hx hb dX7_fingerprint_8 ?_
  refine lv_aload_n hx hb dX7_fingerprint_9 rfl (lv_at hl 1 rfl) ?_
  refine gt_X7_24 E K w 0 rfl rfl dX7_fingerprint_10 ?_
  refine gt_X7_165 E K w 1 rfl rfl dX7_fingerprint_13 ?_
  refine lv_i2l hx hb dX7_fingerprint_16 rfl ?_
  refine lv_ladd hx hb dX7_fingerprint_17 ?_
  obtain ⟨v1, e9, hm⟩ := bq_let_el hm
  refine bq_nml e9 ?_
  clear e9
  refine lv_lstore_n (lv' := [(1, .long v1), (0, .ref a_t)]) hx hb dX7_fingerprint_18 rfl hl (by decide) rfl (fun ls hl => ?_)
  refine lv_ldc2 (v := 31) hx hb E.2.2.2.1 (E.2.2.2.2 _ ct_X7_247) dX7_fingerprint_19 ?_
  refine lv_lload_n hx hb dX7_fingerprint_22 rfl (lv_at hl 0 rfl) ?_
  refine lv_lmul hx hb dX7_fingerprint_23 ?_
  refine lv_aload_n hx hb dX7_fingerprint_24 rfl (lv_at hl 1 rfl) ?_
  refine gt_X7_24 E K w 0 rfl rfl dX7_fingerprint_25 ?_
  refine gt_X7_137 E K w 1 rfl rfl dX7_fingerprint_28 ?_
  refine gt_X7_198 E K w 2 rfl rfl dX7_fingerprint_31 ?_
  refine lv_i2l hx hb dX7_fingerprint_34 rfl ?_
  refine lv_ladd hx hb dX7_fingerprint_35 ?_
  obtain ⟨v2, e9, hm⟩ := bq_let_el hm
  refine bq_nml e9 ?_
  clear e9
  refine lv_lstore_n (lv' := [(1, .long v2), (0, .ref a_t)]) hx hb dX7_fingerprint_36 rfl hl (by decide) rfl (fun ls hl => ?_)
  refine lv_ldc2 (v := 31) hx hb E.2.2.2.1 (E.2.2.2.2 _ ct_X7_247) dX7_fingerprint_37 ?_
  refine lv_lload_n hx hb dX7_fingerprint_40 rfl (lv_at hl 0 rfl) ?_
  refine lv_lmul hx hb dX7_fingerprint_41 ?_
  refine lv_aload_n hx hb dX7_fingerprint_42 rfl (lv_at hl 1 rfl) ?_
  refine gt_X7_24 E K w 0 rfl rfl dX7_fingerprint_43 ?_
  refine gt_X7_170 E K w 1 rfl rfl dX7_fingerprint_46 ?_
  refine gt_X7_174 E K w 3 rfl rfl dX7_fingerprint_49 ?_
  refine lv_i2l hx hb dX7_fingerprint_52 rfl ?_
  refine lv_ladd hx hb dX7_fingerprint_53 ?_
  obtain ⟨v3, e9, hm⟩ := bq_let_el hm
  refine bq_nml e9 ?_
  clear e9
  refine lv_lstore_n (lv' := [(1, .long v3), (0, .ref a_t)]) hx hb dX7_fingerprint_54 rfl hl (by decide) rfl (fun ls hl => ?_)
  refine lv_ldc2 (v := 31) hx hb E.2.2.2.1 (E.2.2.2.2 _ ct_X7_247) dX7_fingerprint_55 ?_
  refine lv_lload_n hx hb dX7_fingerprint_58 rfl (lv_at hl 0 rfl) ?_
  refine lv_lmul hx hb dX7_fingerprint_59 ?_
  refine lv_aload_n hx hb dX7_fingerprint_60 rfl (lv_at hl 1 rfl) ?_
  refine gt_X7_24 E K w 0 rfl rfl dX7_fingerprint_61 ?_
  refine gt_X7_216 E K w 1 rfl rfl dX7_fingerprint_64 ?_
  refine gt_X7_220 E K w 5 rfl rfl dX7_fingerprint_67 ?_
  refine lv_i2l hx hb dX7_fingerprint_70 rfl ?_
  refine lv_ladd hx hb dX7_fingerprint_71 ?_
  obtain ⟨v4, e9, hm⟩ := bq_let_el hm
  refine bq_nml e9 ?_
  clear e9
  refine lv_lstore_n (lv' := [(1, .long v4), (0, .ref a_t)]) hx hb dX7_fingerprint_72 rfl hl (by decide) rfl (fun ls hl => ?_)
  refine lv_ldc2 (v := 31) hx hb E.2.2.2.1 (E.2.2.2.2 _ ct_X7_247) dX7_fingerprint_73 ?_
  refine lv_lload_n hx hb dX7_fingerprint_76 rfl (lv_at hl 0 rfl) ?_
  refine lv_lmul hx hb dX7_fingerprint_77 ?_
  refine lv_aload_n hx hb dX7_fingerprint_78 rfl (lv_at hl 1 rfl) ?_
  refine gt_X7_24 E K w 0 rfl rfl dX7_fingerprint_79 ?_
  refine gt_X7_216 E K w 1 rfl rfl dX7_fingerprint_82 ?_
  refine gt_X7_225 E K w 5 rfl rfl dX7_fingerprint_85 ?_
  refine lv_i2l hx hb dX7_fingerprint_88 rfl ?_
  refine lv_ladd hx hb dX7_fingerprint_89 ?_
  obtain ⟨v5, e9, hm⟩ := bq_let_el hm
  refine bq_nml e9 ?_
  clear e9
  refine lv_lstore_n (lv' := [(1, .long v5), (0, .ref a_t)]) hx hb dX7_fingerprint_90 rfl hl (by decide) rfl (fun ls hl => ?_)
  refine lv_ldc2 (v := 31) hx hb E.2.2.2.1 (E.2.2.2.2 _ ct_X7_247) dX7_fingerprint_91 ?_
  refine lv_lload_n hx hb dX7_fingerprint_94 rfl (lv_at hl 0 rfl) ?_
  refine lv_lmul hx hb dX7_fingerprint_95 ?_
  refine lv_aload_n hx hb dX7_fingerprint_96 rfl (lv_at hl 1 rfl) ?_
  obtain ⟨v6, hC, hm⟩ := bq_bd_el hm
  refine bq_V (As := []) (rest := [.long (31 * v5)]) (st1 := [.int v6, .long (31 * v5)]) (ws' := wdX7_fingerprint cI a_t a_t_rig a_t_rig_circuit a_t_rig_log a_t_rig_positions a_t_rig_score a_t_rig_sequence a_t_rig_timers u_t_reader u_t_trial u_t_snapshot u_t_spare u_t_rig_strokes u_t_rig_faults u_t_rig_log_times u_t_rig_log_moves u_t_rig_sequence_plus u_t_rig_sequence_minus u_t_rig_sequence_pauses u_t_rig_sequence_outBefore u_t_rig_sequence_cuts u_t_rig_sequence_groupOfStep t t_rig t_rig_circuit t_rig_log t_rig_positions t_rig_score t_rig_sequence t_rig_timers) E K w hA (kX7_quiet l D cI cJ a_t a_t_rig u_t_reader u_t_trial u_t_snapshot u_t_spare a_t_rig_sequence a_t_rig_circuit a_t_rig_log a_t_rig_score u_t_rig_strokes a_t_rig_positions a_t_rig_timers u_t_rig_faults t t_rig v6 hC) (bq_gV ml_X7_249 im_X7_quiet sl_X7_quiet in_X7 cd_X7_quiet) hd_X7_quiet ⟨Nat.le_of_ble_eq_true rfl, Nat.le_of_ble_eq_true rfl⟩ ⟨Nat.le_of_ble_eq_true rfl, Nat.le_of_ble_eq_true rfl⟩ ⟨[0, 1], [2, 3, 4, 5, 6, 7], [6, 7, 0, 1, 2, 3, 4, 5], rfl, rfl, rfl, rfl, rfl, rfl, rfl, rfl, rfl⟩ 0 rfl rfl rfl hl.1 rfl (Nat.le_of_ble_eq_true rfl) rfl dX7_fingerprint_97 (fun H locs w => bq_z ⟨rfl, rfl⟩ ?_)
  clear hC
  refine lv_i2l hx hb dX7_fingerprint_100 rfl ?_
  refine lv_ladd hx hb dX7_fingerprint_101 ?_
  obtain ⟨v7, e9, hm⟩ := bq_let_el hm
  refine bq_nml e9 ?_
  clear e9
  refine lv_lstore_n (lv' := [(1, .long v7), (0, .ref a_t)]) hx hb dX7_fingerprint_102 rfl hl (by decide) rfl (fun ls hl => ?_)
  refine lv_iconst (v := 0) hx hb dX7_fingerprint_103 (by decide) ?_
  refine lv_istore_n (lv' := [(3, .int 0), (1, .long v7), (0, .ref a_t)]) hx hb dX7_fingerprint_104 rfl hl (by decide) rfl (fun ls hl => ?_)
  obtain ⟨v10, hL, hm⟩ := bq_bd_el hm
  obtain ⟨B, eB, nn, hL⟩ := bq_loop_B hL
  have X180 : ∀ (H : Heap) (locs : List Loc) (ls : Array Slot), bq_w D A s.heap (wdX7_fingerprint cI a_t a_t_rig a_t_rig_circuit a_t_rig_log a_t_rig_positions a_t_rig_score a_t_rig_sequence a_t_rig_timers u_t_reader u_t_trial u_t_snapshot u_t_spare u_t_rig_strokes u_t_rig_faults u_t_rig_log_times u_t_rig_log_moves u_t_rig_sequence_plus u_t_rig_sequence_minus u_t_rig_sequence_pauses u_t_rig_sequence_outBefore u_t_rig_sequence_cuts u_t_rig_sequence_groupOfStep t t_rig t_rig_circuit t_rig_log t_rig_positions t_rig_score t_rig_sequence t_rig_timers) H locs → lv_has ls 4 [(0, .ref a_t), (1, .long v10)] → W p l e rmX7_fingerprint s m av9 below meth c H locs 0 0 Q (F0 m 180 ls []) := by
    intro H locs ls w hl
    refine lv_iconst (v := 0) hx hb dX7_fingerprint_180 (by decide) ?_
    refine lv_istore_n (lv' := [(3, .int 0), (0, .ref a_t), (1, .long v10)]) hx hb dX7_fingerprint_181 rfl hl (by decide) rfl (fun ls hl => ?_)
    obtain ⟨v13, hL, hm⟩ := bq_bd_el hm
    obtain ⟨B, eB, nn, hL⟩ := bq_loop_B hL
    have X219 : ∀ (H : Heap) (locs : List Loc) (ls : Array Slot), bq_w D A s.heap (wdX7_fingerprint cI a_t a_t_rig a_t_rig_circuit a_t_rig_log a_t_rig_positions a_t_rig_score a_t_rig_sequence a_t_rig_timers u_t_reader u_t_trial u_t_snapshot u_t_spare u_t_rig_strokes u_t_rig_faults u_t_rig_log_times u_t_rig_log_moves u_t_rig_sequence_plus u_t_rig_sequence_minus u_t_rig_sequence_pauses u_t_rig_sequence_outBefore u_t_rig_sequence_cuts u_t_rig_sequence_groupOfStep t t_rig t_rig_circuit t_rig_log t_rig_positions t_rig_score t_rig_sequence t_rig_timers) H locs → lv_has ls 4 [(1, .long v13)] → W p l e rmX7_fingerprint s m av9 below meth c H locs 0 0 Q (F0 m 219 ls []) := by
      intro H locs ls w hl
      refine lv_lload_n hx hb dX7_fingerprint_219 rfl (lv_at hl 0 rfl) ?_
      obtain rfl := Option.some.inj hm
      exact bq_lret E w hr hk dX7_fingerprint_220 hQ
    clear hm
    have L182 : ∀ (nn : Nat) (i11 : Int32) (i12 : Int64) (H : Heap) (locs : List Loc) (ls : Array Slot), bq_lp B nn (i11, i12) = some v13 → bq_w D A s.heap (wdX7_fingerprint cI a_t a_t_rig a_t_rig_circuit a_t_rig_log a_t_rig_positions a_t_rig_score a_t_rig_sequence a_t_rig_timers u_t_reader u_t_trial u_t_snapshot u_t_spare u_t_rig_strokes u_t_rig_faults u_t_rig_log_times u_t_rig_log_moves u_t_rig_sequence_plus u_t_rig_sequence_minus u_t_rig_sequence_pauses u_t_rig_sequence_outBefore u_t_rig_sequence_cuts u_t_rig_sequence_groupOfStep t t_rig t_rig_circuit t_rig_log t_rig_positions t_rig_score t_rig_sequence t_rig_timers) H locs → lv_has ls 4 [(0, .ref a_t), (1, .long i12), (3, .int i11)] → W p l e rmX7_fingerprint s m av9 below meth c H locs 0 0 Q (F0 m 182 ls []) := by
      intro nn
      induction nn with
      | zero =>
        intro i11 i12 H locs ls hL w hl
        exact bq_lp_0 hL
      | succ nn ih =>
        intro i11 i12 H locs ls hL w hl
        obtain ⟨oo182, hT182, hR182⟩ := bq_lp_el hL
        clear hL
        replace hT182 := bq_u2_el eB hT182
        unfold bX7_fingerprint_182 at hT182
        refine lv_iload_n hx hb dX7_fingerprint_182 rfl (lv_at hl 2 rfl) ?_
        refine lv_aload_n hx hb dX7_fingerprint_183 rfl (lv_at hl 0 rfl) ?_
        refine gt_X7_24 E K w 0 rfl rfl dX7_fingerprint_184 ?_
        refine gt_X7_77 E K w 1 rfl rfl dX7_fingerprint_187 ?_
        refine gt_X7_83 E K w 6 rfl rfl dX7_fingerprint_190 ?_
        refine lv_icmp_ge (tgt := 219) hx hb dX7_fingerprint_193 (by decide) (fun hc => ?_) (fun hc => ?_)
        · replace hT182 := bq_t hc hT182
          clear hc
          obtain rfl := Option.some.inj hT182
          replace hR182 := bq_lk_r hR182
          subst hR182
          exact X219 H locs ls w (lv_sub hl [1] rfl)
        · replace hT182 := bq_f hc hT182
          clear hc
          refine lv_ldc2 (v := 31) hx hb E.2.2.2.1 (E.2.2.2.2 _ ct_X7_247) dX7_fingerprint_196 ?_
          refine lv_lload_n hx hb dX7_fingerprint_199 rfl (lv_at hl 1 rfl) ?_
          refine lv_lmul hx hb dX7_fingerprint_200 ?_
          refine lv_aload_n hx hb dX7_fingerprint_201 rfl (lv_at hl 0 rfl) ?_
          refine gt_X7_24 E K w 0 rfl rfl dX7_fingerprint_202 ?_
          refine gt_X7_195 E K w 1 rfl rfl dX7_fingerprint_205 ?_
          refine lv_iload_n hx hb dX7_fingerprint_208 rfl (lv_at hl 2 rfl) ?_
          obtain ⟨hI, hT182⟩ := bq_ci_el hT182
          refine bq_ald E K w 7 rfl hI dX7_fingerprint_209 ?_
          refine lv_i2l hx hb dX7_fingerprint_210 rfl ?_
          refine lv_ladd hx hb dX7_fingerprint_211 ?_
          obtain ⟨v14, e9, hT182⟩ := bq_let_el hT182
          refine bq_nml e9 ?_
          clear e9
          refine lv_lstore_n (lv' := [(1, .long v14), (0, .ref a_t), (3, .int i11)]) hx hb dX7_fingerprint_212 rfl hl (by decide) rfl (fun ls hl => ?_)
          obtain ⟨v15, e9, hT182⟩ := bq_let_el hT182
          refine lv_iinc (v := v15) (lv' := [(3, .int v15), (1, .long v14), (0, .ref a_t)]) hx hb dX7_fingerprint_213 hl (k := 2) rfl (by rw [e9]; rfl) (by decide) rfl (fun ls hl => ?_)
          clear e9
          refine lv_goto (tgt := 182) hx hb dX7_fingerprint_216 (by decide) ?_
          obtain rfl := Option.some.inj hT182
          exact ih v15 v14 H locs ls hR182 w (lv_sub hl [2, 1, 0] rfl)
    exact L182 nn 0 v10 H locs ls hL w (lv_sub hl [1, 2, 0] rfl)
  clear hm
  have L105 : ∀ (nn : Nat) (i8 : Int32) (i9 : Int64) (H : Heap) (locs : List Loc) (ls : Array Slot), bq_lp B nn (i8, i9) = some v10 → bq_w D A s.heap (wdX7_fingerprint cI a_t a_t_rig a_t_rig_circuit a_t_rig_log a_t_rig_positions a_t_rig_score a_t_rig_sequence a_t_rig_timers u_t_reader u_t_trial u_t_snapshot u_t_spare u_t_rig_strokes u_t_rig_faults u_t_rig_log_times u_t_rig_log_moves u_t_rig_sequence_plus u_t_rig_sequence_minus u_t_rig_sequence_pauses u_t_rig_sequence_outBefore u_t_rig_sequence_cuts u_t_rig_sequence_groupOfStep t t_rig t_rig_circuit t_rig_log t_rig_positions t_rig_score t_rig_sequence t_rig_timers) H locs → lv_has ls 4 [(0, .ref a_t), (1, .long i9), (3, .int i8)] → W p l e rmX7_fingerprint s m av9 below meth c H locs 0 0 Q (F0 m 105 ls []) := by
    intro nn
    induction nn with
    | zero =>
      intro i8 i9 H locs ls hL w hl
      exact bq_lp_0 hL
    | succ nn ih =>
      intro i8 i9 H locs ls hL w hl
      obtain ⟨oo105, hT105, hR105⟩ := bq_lp_el hL
      clear hL
      replace hT105 := bq_u2_el eB hT105
      unfold bX7_fingerprint_105 at hT105
      refine lv_iload_n hx hb dX7_fingerprint_105 rfl (lv_at hl 2 rfl) ?_
      refine lv_bipush (v := 6) hx hb dX7_fingerprint_106 (by decide) ?_
      refine lv_icmp_ge (tgt := 180) hx hb dX7_fingerprint_108 (by decide) (fun hc => ?_) (fun hc => ?_)
      · replace hT105 := bq_t hc hT105
        clear hc
        obtain rfl := Option.some.inj hT105
        replace hR105 := bq_lk_r hR105
        subst hR105
        exact X180 H locs ls w (lv_sub hl [0, 1] rfl)
      · replace hT105 := bq_f hc hT105
        clear hc
        refine lv_ldc2 (v := 31) hx hb E.2.2.2.1 (E.2.2.2.2 _ ct_X7_247) dX7_fingerprint_111 ?_
        refine lv_lload_n hx hb dX7_fingerprint_114 rfl (lv_at hl 1 rfl) ?_
        refine lv_lmul hx hb dX7_fingerprint_115 ?_
        refine lv_aload_n hx hb dX7_fingerprint_116 rfl (lv_at hl 0 rfl) ?_
        refine gt_X7_24 E K w 0 rfl rfl dX7_fingerprint_117 ?_
        refine gt_X7_180 E K w 1 rfl rfl dX7_fingerprint_120 ?_
        refine lv_iload_n hx hb dX7_fingerprint_123 rfl (lv_at hl 2 rfl) ?_
        obtain ⟨hI, hT105⟩ := bq_ci_el hT105
        refine bq_ald E K w 4 rfl hI dX7_fingerprint_124 ?_
        refine lv_i2l hx hb dX7_fingerprint_125 rfl ?_
        refine lv_ladd hx hb dX7_fingerprint_126 ?_
        obtain ⟨v16, e9, hT105⟩ := bq_let_el hT105
        refine bq_nml e9 ?_
        clear e9
        refine lv_lstore_n (lv' := [(1, .long v16), (0, .ref a_t), (3, .int i8)]) hx hb dX7_fingerprint_127 rfl hl (by decide) rfl (fun ls hl => ?_)
        refine lv_ldc2 (v := 31) hx hb E.2.2.2.1 (E.2.2.2.2 _ ct_X7_247) dX7_fingerprint_128 ?_
        refine lv_lload_n hx hb dX7_fingerprint_131 rfl (lv_at hl 0 rfl) ?_
        refine lv_lmul hx hb dX7_fingerprint_132 ?_
        refine lv_aload_n hx hb dX7_fingerprint_133 rfl (lv_at hl 1 rfl) ?_
        refine gt_X7_24 E K w 0 rfl rfl dX7_fingerprint_134 ?_
        refine gt_X7_183 E K w 1 rfl rfl dX7_fingerprint_137 ?_
        refine lv_iload_n hx hb dX7_fingerprint_140 rfl (lv_at hl 2 rfl) ?_
        obtain ⟨v17, hC, hT105⟩ := bq_bd_el hT105
        refine bq_S0 (As := [.int (t_rig 9), .int i8]) (rest := [.long (31 * v16)]) (st1 := [.int v17, .long (31 * v16)]) E K w hA (kX7_holds l D cI cJ (t_rig 9) i8 v17 hC) cd_X7_holds ml_X7_100 in_X7 st_X7_holds hs_X7_holds ⟨Nat.le_of_ble_eq_true rfl, Nat.le_of_ble_eq_true rfl⟩ ⟨Nat.le_of_ble_eq_true rfl, Nat.le_of_ble_eq_true rfl⟩ rfl hl.1 rfl (Nat.le_of_ble_eq_true rfl) rfl dX7_fingerprint_141 (fun H locs w => bq_z ⟨rfl, rfl⟩ ?_)
        clear hC
        obtain ⟨v18, hT152, hT105⟩ := bq_let_el hT105
        have K152 : ∀ (H : Heap) (locs : List Loc) (ls : Array Slot), bq_w D A s.heap (wdX7_fingerprint cI a_t a_t_rig a_t_rig_circuit a_t_rig_log a_t_rig_positions a_t_rig_score a_t_rig_sequence a_t_rig_timers u_t_reader u_t_trial u_t_snapshot u_t_spare u_t_rig_strokes u_t_rig_faults u_t_rig_log_times u_t_rig_log_moves u_t_rig_sequence_plus u_t_rig_sequence_minus u_t_rig_sequence_pauses u_t_rig_sequence_outBefore u_t_rig_sequence_cuts u_t_rig_sequence_groupOfStep t t_rig t_rig_circuit t_rig_log t_rig_positions t_rig_score t_rig_sequence t_rig_timers) H locs → lv_has ls 4 [(0, .ref a_t), (3, .int i8)] → W p l e rmX7_fingerprint s m av9 below meth c H locs 0 0 Q (F0 m 152 ls [.int v18, .long (31 * v16)]) := by
          intro H locs ls w hl
          refine lv_i2l hx hb dX7_fingerprint_152 rfl ?_
          refine lv_ladd hx hb dX7_fingerprint_153 ?_
          obtain ⟨v19, e9, hT105⟩ := bq_let_el hT105
          refine bq_nml e9 ?_
          clear e9
          refine lv_lstore_n (lv' := [(1, .long v19), (0, .ref a_t), (3, .int i8)]) hx hb dX7_fingerprint_154 rfl hl (by decide) rfl (fun ls hl => ?_)
          refine lv_ldc2 (v := 31) hx hb E.2.2.2.1 (E.2.2.2.2 _ ct_X7_247) dX7_fingerprint_155 ?_
          refine lv_lload_n hx hb dX7_fingerprint_158 rfl (lv_at hl 0 rfl) ?_
          refine lv_lmul hx hb dX7_fingerprint_159 ?_
          refine lv_aload_n hx hb dX7_fingerprint_160 rfl (lv_at hl 1 rfl) ?_
          refine gt_X7_24 E K w 0 rfl rfl dX7_fingerprint_161 ?_
          refine gt_X7_137 E K w 1 rfl rfl dX7_fingerprint_164 ?_
          refine lv_iload_n hx hb dX7_fingerprint_167 rfl (lv_at hl 2 rfl) ?_
          obtain ⟨v20, hC, hT105⟩ := bq_bd_el hT105
          refine bq_V (As := [.int i8]) (rest := [.long (31 * v19)]) (st1 := [.int v20, .long (31 * v19)]) (ws' := wdX7_fingerprint cI a_t a_t_rig a_t_rig_circuit a_t_rig_log a_t_rig_positions a_t_rig_score a_t_rig_sequence a_t_rig_timers u_t_reader u_t_trial u_t_snapshot u_t_spare u_t_rig_strokes u_t_rig_faults u_t_rig_log_times u_t_rig_log_moves u_t_rig_sequence_plus u_t_rig_sequence_minus u_t_rig_sequence_pauses u_t_rig_sequence_outBefore u_t_rig_sequence_cuts u_t_rig_sequence_groupOfStep t t_rig t_rig_circuit t_rig_log t_rig_positions t_rig_score t_rig_sequence t_rig_timers) E K w hA (kX0_commandsOf l D cI cJ a_t_rig_circuit t_rig_circuit i8 v20 hC) (bq_gV ml_X7_201 im_X0_commandsOf sl_X0_commandsOf in_X0 cd_X0_commandsOf) hd_X0_commandsOf ⟨Nat.le_of_ble_eq_true rfl, Nat.le_of_ble_eq_true rfl⟩ ⟨Nat.le_of_ble_eq_true rfl, Nat.le_of_ble_eq_true rfl⟩ ⟨[2], [0, 1, 3, 4, 5, 6, 7], [0, 1, 7, 2, 3, 4, 5, 6], rfl, rfl, rfl, rfl, rfl, rfl, rfl, rfl, rfl⟩ 2 rfl rfl rfl hl.1 rfl (Nat.le_of_ble_eq_true rfl) rfl dX7_fingerprint_168 (fun H locs w => bq_z ⟨rfl, rfl⟩ ?_)
          clear hC
          refine lv_i2l hx hb dX7_fingerprint_171 rfl ?_
          refine lv_ladd hx hb dX7_fingerprint_172 ?_
          obtain ⟨v21, e9, hT105⟩ := bq_let_el hT105
          refine bq_nml e9 ?_
          clear e9
          refine lv_lstore_n (lv' := [(1, .long v21), (0, .ref a_t), (3, .int i8)]) hx hb dX7_fingerprint_173 rfl hl (by decide) rfl (fun ls hl => ?_)
          obtain ⟨v22, e9, hT105⟩ := bq_let_el hT105
          refine lv_iinc (v := v22) (lv' := [(3, .int v22), (1, .long v21), (0, .ref a_t)]) hx hb dX7_fingerprint_174 hl (k := 2) rfl (by rw [e9]; rfl) (by decide) rfl (fun ls hl => ?_)
          clear e9
          refine lv_goto (tgt := 105) hx hb dX7_fingerprint_177 (by decide) ?_
          obtain rfl := Option.some.inj hT105
          exact ih v22 v21 H locs ls hR105 w (lv_sub hl [2, 1, 0] rfl)
        clear hT105
        refine lv_if_eq (tgt := 151) hx hb dX7_fingerprint_144 (by decide) (fun hc => ?_) (fun hc => ?_)
        · replace hT152 := bq_et hc hT152
          clear hc
          refine lv_iconst (v := 0) hx hb dX7_fingerprint_151 (by decide) ?_
          subst hT152
          exact K152 H locs ls w (lv_sub hl [1, 2] rfl)
        · replace hT152 := bq_ef hc hT152
          clear hc
          refine lv_iconst (v := 1) hx hb dX7_fingerprint_147 (by decide) ?_
          refine lv_goto (tgt := 152) hx hb dX7_fingerprint_148 (by decide) ?_
          subst hT152
          exact K152 H locs ls w (lv_sub hl [1, 2] rfl)
  exact L105 nn 0 v7 H locs ls hL w (lv_sub hl [2, 1, 0] rfl)
