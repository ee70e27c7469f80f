abbrev wdX3_becomeCopyOf (cI : ClassId) (a_t a_t_circuit a_t_faults a_t_log a_t_positions a_t_score a_t_strokes a_t_timers a_p1 a_p1_sequence a_p1_sequence_minus a_p1_sequence_plus a_p1_strokes u_t_log_times u_t_log_moves u_p1_circuit u_p1_log u_p1_score u_p1_positions u_p1_timers u_p1_faults u_p1_sequence_pauses u_p1_sequence_outBefore u_p1_sequence_cuts u_p1_sequence_groupOfStep m_0 : Nat) (t t_circuit t_faults t_log t_positions t_score t_strokes t_timers p1 p1_sequence p1_sequence_minus p1_sequence_plus p1_strokes : Nat → Int32) : va_W := [(a_t, oX3 m_0 a_t_circuit a_t_log a_t_score a_t_strokes a_t_positions a_t_timers a_t_faults t), (a_t_circuit, oX0 t_circuit), (a_t_faults, oA cI 5 t_faults), (a_t_log, oX1 u_t_log_times u_t_log_moves t_log), (a_t_positions, oA cI 6 t_positions), (a_t_score, oX4 t_score), (a_t_strokes, oA cI 6 t_strokes), (a_t_timers, oA cI 16 t_timers), (a_p1, oX3 a_p1_sequence u_p1_circuit u_p1_log u_p1_score a_p1_strokes u_p1_positions u_p1_timers u_p1_faults p1), (a_p1_sequence, oX5 a_p1_sequence_plus a_p1_sequence_minus u_p1_sequence_pauses u_p1_sequence_outBefore u_p1_sequence_cuts u_p1_sequence_groupOfStep p1_sequence), (a_p1_sequence_minus, oA cI 16 p1_sequence_minus), (a_p1_sequence_plus, oA cI 16 p1_sequence_plus), (a_p1_strokes, oA cI 6 p1_strokes)]
abbrev rmX3_becomeCopyOf : Room := { frames := 3, cells := 0, slots := 0, locals := 64 }
theorem hd_X3_becomeCopyOf : yX3_becomeCopyOf.cls = RX3 ∧ yX3_becomeCopyOf.cls ≠ "java/lang/invoke/MethodHandle" ∧ yX3_becomeCopyOf.cls ≠ "java/lang/invoke/VarHandle" ∧ (parseMethodDescriptor yX3_becomeCopyOf.desc).map (fun d => d.parameters.length) = some 2 := by decide +kernel
set_option maxHeartbeats 4000000 in
set_option maxRecDepth 100000 in
theorem kX3_becomeCopyOf (l : Launch) (D : va_G) (cI cJ : ClassId) (a_t a_t_circuit a_t_faults a_t_log a_t_positions a_t_score a_t_strokes a_t_timers a_p1 a_p1_sequence a_p1_sequence_minus a_p1_sequence_plus a_p1_strokes u_t_log_times u_t_log_moves u_p1_circuit u_p1_log u_p1_score u_p1_positions u_p1_timers u_p1_faults u_p1_sequence_pauses u_p1_sequence_outBefore u_p1_sequence_cuts u_p1_sequence_groupOfStep r_t_sequence : Nat) (t t_circuit t_faults t_log t_positions t_score t_strokes t_timers p1 p1_sequence p1_sequence_minus p1_sequence_plus p1_strokes : Nat → Int32) (x2 : Int32) (t_o : Nat → Int32) (t_circuit_o : Nat → Int32) (t_faults_o : Nat → Int32) (t_log_o : Nat → Int32) (t_positions_o : Nat → Int32) (t_score_o : Nat → Int32) (t_strokes_o : Nat → Int32) (t_timers_o : Nat → Int32) (hm : mX3_becomeCopyOf t t_circuit t_faults t_log t_positions t_score t_strokes t_timers p1_sequence p1_sequence_minus p1_sequence_plus p1_strokes x2 = some (t_o, t_circuit_o, t_faults_o, t_log_o, t_positions_o, t_score_o, t_strokes_o, t_timers_o)) : bq_M l D cI cJ yX3_becomeCopyOf cX3_becomeCopyOf 3 none rmX3_becomeCopyOf [.ref a_t, .ref a_p1, .int x2] (wdX3_becomeCopyOf cI a_t a_t_circuit a_t_faults a_t_log a_t_positions a_t_score a_t_strokes a_t_timers a_p1 a_p1_sequence a_p1_sequence_minus a_p1_sequence_plus a_p1_strokes u_t_log_times u_t_log_moves u_p1_circuit u_p1_log u_p1_score u_p1_positions u_p1_timers u_p1_faults u_p1_sequence_pauses u_p1_sequence_outBefore u_p1_sequence_cuts u_p1_sequence_groupOfStep r_t_sequence t t_circuit t_faults t_log t_positions t_score t_strokes t_timers p1 p1_sequence p1_sequence_minus p1_sequence_plus p1_strokes) (wdX3_becomeCopyOf cI a_t a_t_circuit a_t_faults a_t_log a_t_positions a_t_score a_t_strokes a_t_timers a_p1 a_p1_sequence a_p1_sequence_minus a_p1_sequence_plus a_p1_strokes u_t_log_times u_t_log_moves u_p1_circuit u_p1_log u_p1_score u_p1_positions u_p1_timers u_p1_faults u_p1_sequence_pauses u_p1_sequence_outBefore u_p1_sequence_cuts u_p1_sequence_groupOfStep a_p1_sequence t_o t_circuit_o t_faults_o t_log_o t_positions_o t_score_o t_strokes_o t_timers_o p1 p1_sequence p1_sequence_minus p1_sequence_plus p1_strokes) none := by
  refine bq_start (by decide) (Nat.le_of_ble_eq_true rfl) ?_
  intro p e s m av9 below meth c A ls Q H locs E K w hA hr hk hn hQ hl
  have E : bq_E p m c cX3_becomeCopyOf 3 s av9 RX3 := E
  have hx := E.1
  have hb := E.2.1
  have hl : lv_has ls 3 [(0, .ref a_t), (1, .ref a_p1), (2, .int x2)] := hl
  unfold mX3_becomeCopyOf at hm
  refine lv_aload_n hx hb dX3_becomeCopyOf_0 rfl (lv_at hl 0 rfl) ?_
  refine lv_aload_n hx hb dX3_becomeCopyOf_1 rfl (lv_at hl 1 rfl) ?_
  refine gt_X3_49 E K w 8 rfl rfl dX3_becomeCopyOf_2 ?_
  refine pt_X3_49 E K w 0 rfl (Nat.le_of_ble_eq_true rfl) dX3_becomeCopyOf_5 (fun H locs w => ?_)
  replace w : bq_w D A s.heap (wdX3_becomeCopyOf cI a_t a_t_circuit a_t_faults a_t_log a_t_positions a_t_score a_t_strokes a_t_timers a_p1 a_p1_sequence a_p1_sequence_minus a_p1_sequence_plus a_p1_strokes u_t_log_times u_t_log_moves u_p1_circuit u_p1_log u_p1_score u_p1_positions u_p1_timers u_p1_faults u_p1_sequence_pauses u_p1_sequence_outBefore u_p1_sequence_cuts u_p1_sequence_groupOfStep a_p1_sequence t t_circuit t_faults t_log t_positions t_score t_strokes t_timers p1 p1_sequence p1_sequence_minus p1_sequence_plus p1_strokes) H locs := w
  refine lv_aload_n hx hb dX3_becomeCopyOf_8 rfl (lv_at hl 1 rfl) ?_
  refine gt_X3_32 E K w 8 rfl rfl dX3_becomeCopyOf_9 ?_
  refine lv_iconst (v := 0) hx hb dX3_becomeCopyOf_12 (by decide) ?_
  refine lv_aload_n hx hb dX3_becomeCopyOf_13 rfl (lv_at hl 0 rfl) ?_
  refine gt_X3_32 E K w 0 rfl rfl dX3_becomeCopyOf_14 ?_
  refine lv_iconst (v := 0) hx hb dX3_becomeCopyOf_17 (by decide) ?_
  refine lv_bipush (v := 6) hx hb dX3_becomeCopyOf_18 (by decide) ?_
  obtain ⟨t_strokes_1, e9, hm⟩ := bq_let_el hm
  refine bq_copy (sk := 0) (dk := 0) (nk := 6) E K w ml_X3_79 12 6 rfl rfl (by decide) (by decide) (by decide) (by decide) (by decide) (by decide) (by decide) (by decide) (by decide) (by decide) hl.1 dX3_becomeCopyOf_20 (fun H locs w => ?_)
  replace w : bq_w D A s.heap (wdX3_becomeCopyOf cI a_t a_t_circuit a_t_faults a_t_log a_t_positions a_t_score a_t_strokes a_t_timers a_p1 a_p1_sequence a_p1_sequence_minus a_p1_sequence_plus a_p1_strokes u_t_log_times u_t_log_moves u_p1_circuit u_p1_log u_p1_score u_p1_positions u_p1_timers u_p1_faults u_p1_sequence_pauses u_p1_sequence_outBefore u_p1_sequence_cuts u_p1_sequence_groupOfStep a_p1_sequence t t_circuit t_faults t_log t_positions t_score t_strokes_1 t_timers p1 p1_sequence p1_sequence_minus p1_sequence_plus p1_strokes) H locs := by rw [e9]; exact w
  clear e9
  refine lv_aload_n hx hb dX3_becomeCopyOf_23 rfl (lv_at hl 0 rfl) ?_
  refine gt_X3_42 E K w 0 rfl rfl dX3_becomeCopyOf_24 ?_
  refine lv_iconst (v := 0) hx hb dX3_becomeCopyOf_27 (by decide) ?_
  obtain ⟨t_faults_2, hC, hm⟩ := bq_bd_el hm
  refine bq_S (As := [.ref a_t_faults, .int 0]) (rest := []) (st1 := []) (ws' := wdX3_becomeCopyOf cI a_t a_t_circuit a_t_faults a_t_log a_t_positions a_t_score a_t_strokes a_t_timers a_p1 a_p1_sequence a_p1_sequence_minus a_p1_sequence_plus a_p1_strokes u_t_log_times u_t_log_moves u_p1_circuit u_p1_log u_p1_score u_p1_positions u_p1_timers u_p1_faults u_p1_sequence_pauses u_p1_sequence_outBefore u_p1_sequence_cuts u_p1_sequence_groupOfStep a_p1_sequence t t_circuit t_faults_2 t_log t_positions t_score t_strokes_1 t_timers p1 p1_sequence p1_sequence_minus p1_sequence_plus p1_strokes) E K w hA (kJ7_fill_53178 l D cI cJ a_t_faults 5 t_faults 0 t_faults_2 hC) cd_J7_fill_53178 ml_X3_53 in_J7 st_J7_fill_53178 hs_J7_fill_53178 ⟨Nat.le_of_ble_eq_true rfl, Nat.le_of_ble_eq_true rfl⟩ ⟨Nat.le_of_ble_eq_true rfl, Nat.le_of_ble_eq_true rfl⟩ ⟨[2], [0, 1, 3, 4, 5, 6, 7, 8, 9, 10, 11, 12], [0, 1, 12, 2, 3, 4, 5, 6, 7, 8, 9, 10, 11], rfl, rfl, rfl, rfl, rfl, rfl, rfl, rfl, rfl⟩ rfl hl.1 rfl (Nat.le_of_ble_eq_true rfl) rfl dX3_becomeCopyOf_28 (fun H locs w => bq_z ⟨rfl, rfl⟩ ?_)
  clear hC
  refine lv_aload_n hx hb dX3_becomeCopyOf_31 rfl (lv_at hl 0 rfl) ?_
  refine gt_X3_12 E K w 0 rfl rfl dX3_becomeCopyOf_32 ?_
  refine lv_iload_n hx hb dX3_becomeCopyOf_35 rfl (lv_at hl 2 rfl) ?_
  obtain ⟨t_circuit_3, e9, hm⟩ := bq_let_el hm
  refine pt_X3_85 E K w 1 rfl (Nat.le_of_ble_eq_true rfl) dX3_becomeCopyOf_36 (fun H locs w => ?_)
  replace w : bq_w D A s.heap (wdX3_becomeCopyOf cI a_t a_t_circuit a_t_faults a_t_log a_t_positions a_t_score a_t_strokes a_t_timers a_p1 a_p1_sequence a_p1_sequence_minus a_p1_sequence_plus a_p1_strokes u_t_log_times u_t_log_moves u_p1_circuit u_p1_log u_p1_score u_p1_positions u_p1_timers u_p1_faults u_p1_sequence_pauses u_p1_sequence_outBefore u_p1_sequence_cuts u_p1_sequence_groupOfStep a_p1_sequence t t_circuit_3 t_faults_2 t_log t_positions t_score t_strokes_1 t_timers p1 p1_sequence p1_sequence_minus p1_sequence_plus p1_strokes) H locs := by rw [e9]; exact w
  clear e9
  refine lv_aload_n hx hb dX3_becomeCopyOf_39 rfl (lv_at hl 0 rfl) ?_
  obtain ⟨t_4, t_circuit_5, t_log_6, t_positions_7, t_score_8, t_timers_9, hC, hm⟩ := bq_b6_el hm
  refine bq_V (As := []) (rest := []) (st1 := []) (ws' := wdX3_becomeCopyOf cI a_t a_t_circuit a_t_faults a_t_log a_t_positions a_t_score a_t_strokes a_t_timers a_p1 a_p1_sequence a_p1_sequence_minus a_p1_sequence_plus a_p1_strokes u_t_log_times u_t_log_moves u_p1_circuit u_p1_log u_p1_score u_p1_positions u_p1_timers u_p1_faults u_p1_sequence_pauses u_p1_sequence_outBefore u_p1_sequence_cuts u_p1_sequence_groupOfStep a_p1_sequence t_4 t_circuit_5 t_faults_2 t_log_6 t_positions_7 t_score_8 t_strokes_1 t_timers_9 p1 p1_sequence p1_sequence_minus p1_sequence_plus p1_strokes) E K w hA (kX3_bringToRest l D cI cJ a_t a_t_circuit a_t_log a_t_positions a_t_score a_p1_sequence a_p1_sequence_minus a_p1_sequence_plus a_t_timers a_t_strokes a_t_faults u_t_log_times u_t_log_moves u_p1_sequence_pauses u_p1_sequence_outBefore u_p1_sequence_cuts u_p1_sequence_groupOfStep t t_circuit_3 t_log t_positions t_score p1_sequence p1_sequence_minus p1_sequence_plus t_timers t_4 t_circuit_5 t_log_6 t_positions_7 t_score_8 t_timers_9 hC) (bq_gV ml_X3_88 im_X3_bringToRest sl_X3_bringToRest in_X3 cd_X3_bringToRest) hd_X3_bringToRest ⟨Nat.le_of_ble_eq_true rfl, Nat.le_of_ble_eq_true rfl⟩ ⟨Nat.le_of_ble_eq_true rfl, Nat.le_of_ble_eq_true rfl⟩ ⟨[0, 1, 3, 4, 5, 9, 10, 11, 7], [2, 6, 8, 12], [4, 5, 0, 6, 7, 8, 1, 12, 2, 9, 10, 11, 3], rfl, rfl, rfl, rfl, rfl, rfl, rfl, rfl, rfl⟩ 0 rfl rfl rfl hl.1 rfl (Nat.le_of_ble_eq_true rfl) rfl dX3_becomeCopyOf_40 (fun H locs w => bq_z ⟨rfl, rfl⟩ ?_)
  clear hC
  obtain ⟨rfl, rfl, rfl, rfl, rfl, rfl, rfl, rfl⟩ := bq_in8 (Option.some.inj hm)
  exact bq_vret E w hr hk dX3_becomeCopyOf_43 hQ
abbrev wdX7_measureCycle (cI : ClassId) (a_t a_t_rig a_t_rig_sequence a_t_rig_sequence_cuts a_t_rig_sequence_groupOfStep a_t_rig_sequence_minus a_t_rig_sequence_pauses a_t_rig_sequence_plus a_t_rig_strokes a_t_trial a_t_trial_circuit a_t_trial_faults a_t_trial_log a_t_trial_log_moves a_t_trial_log_times a_t_trial_positions a_t_trial_score a_t_trial_strokes a_t_trial_timers u_t_reader u_t_snapshot u_t_spare u_t_rig_circuit u_t_rig_log u_t_rig_score u_t_rig_positions u_t_rig_timers u_t_rig_faults u_t_rig_sequence_outBefore m_0 : Nat) (t t_rig t_rig_sequence t_rig_sequence_cuts t_rig_sequence_groupOfStep t_rig_sequence_minus t_rig_sequence_pauses t_rig_sequence_plus t_rig_strokes t_trial t_trial_circuit t_trial_faults t_trial_log t_trial_log_moves t_trial_log_times t_trial_positions t_trial_score t_trial_strokes t_trial_timers : Nat → Int32) : va_W := [(a_t, oX7 u_t_reader a_t_rig a_t_trial u_t_snapshot u_t_spare t), (a_t_rig, oX3 a_t_rig_sequence u_t_rig_circuit u_t_rig_log u_t_rig_score a_t_rig_strokes u_t_rig_positions u_t_rig_timers u_t_rig_faults t_rig), (a_t_rig_sequence, oX5 a_t_rig_sequence_plus a_t_rig_sequence_minus a_t_rig_sequence_pauses u_t_rig_sequence_outBefore a_t_rig_sequence_cuts a_t_rig_sequence_groupOfStep t_rig_sequence), (a_t_rig_sequence_cuts, oA cI 16 t_rig_sequence_cuts), (a_t_rig_sequence_groupOfStep, oA cI 16 t_rig_sequence_groupOfStep), (a_t_rig_sequence_minus, oA cI 16 t_rig_sequence_minus), (a_t_rig_sequence_pauses, oA cI 16 t_rig_sequence_pauses), (a_t_rig_sequence_plus, oA cI 16 t_rig_sequence_plus), (a_t_rig_strokes, oA cI 6 t_rig_strokes), (a_t_trial, oX3 m_0 a_t_trial_circuit a_t_trial_log a_t_trial_score a_t_trial_strokes a_t_trial_positions a_t_trial_timers a_t_trial_faults t_trial), (a_t_trial_circuit, oX0 t_trial_circuit), (a_t_trial_faults, oA cI 5 t_trial_faults), (a_t_trial_log, oX1 a_t_trial_log_times a_t_trial_log_moves t_trial_log), (a_t_trial_log_moves, oA cI 40 t_trial_log_moves), (a_t_trial_log_times, oA cI 40 t_trial_log_times), (a_t_trial_positions, oA cI 6 t_trial_positions), (a_t_trial_score, oX4 t_trial_score), (a_t_trial_strokes, oA cI 6 t_trial_strokes), (a_t_trial_timers, oA cI 16 t_trial_timers)]
abbrev rmX7_measureCycle : Room := { frames := 4, cells := 0, slots := 0, locals := 95 }
theorem hd_X7_measureCycle : yX7_measureCycle.cls = RX7 ∧ yX7_measureCycle.cls ≠ "java/lang/invoke/MethodHandle" ∧ yX7_measureCycle.cls ≠ "java/lang/invoke/VarHandle" ∧ (parseMethodDescriptor yX7_measureCycle.desc).map (fun d => d.parameters.length) = some 1 := by decide +kernel
set_option maxHeartbeats 4000000 in
set_option maxRecDepth 100000 in
theorem kX7_measureCycle (l : Launch) (D : va_G) (cI cJ : ClassId) (a_t a_t_rig a_t_rig_sequence a_t_rig_sequence_cuts a_t_rig_sequence_groupOfStep a_t_rig_sequence_minus a_t_rig_sequence_pauses a_t_rig_sequence_plus a_t_rig_strokes a_t_trial a_t_trial_circuit a_t_trial_faults a_t_trial_log a_t_trial_log_moves a_t_trial_log_times a_t_trial_positions a_t_trial_score a_t_trial_strokes a_t_trial_timers u_t_reader u_t_snapshot u_t_spare u_t_rig_circuit u_t_rig_log u_t_rig_score u_t_rig_positions u_t_rig_timers u_t_rig_faults u_t_rig_sequence_outBefore r_t_trial_sequence : Nat) (t t_rig t_rig_sequence t_rig_sequence_cuts t_rig_sequence_groupOfStep t_rig_sequence_minus t_rig_sequence_pauses t_rig_sequence_plus t_rig_strokes t_trial t_trial_circuit t_trial_faults t_trial_log t_trial_log_moves t_trial_log_times t_trial_positions t_trial_score t_trial_strokes t_trial_timers : Nat → Int32) (x1 : Int32) (r : Int32) (t_trial_o : Nat → Int32) (t_trial_circuit_o : Nat → Int32) (t_trial_faults_o : Nat → Int32) (t_trial_log_o : Nat → Int32) (t_trial_log_moves_o : Nat → Int32) (t_trial_log_times_o : Nat → Int32) (t_trial_positions_o : Nat → Int32) (t_trial_score_o : Nat → Int32) (t_trial_strokes_o : Nat → Int32) (t_trial_timers_o : Nat → Int32) (hm : mX7_measureCycle t_rig_sequence t_rig_sequence_cuts t_rig_sequence_groupOfStep t_rig_sequence_minus t_rig_sequence_pauses t_rig_sequence_plus t_rig_strokes t_trial t_trial_circuit t_trial_faults t_trial_log t_trial_log_moves t_trial_log_times t_trial_positions t_trial_score t_trial_strokes t_trial_timers x1 = some (r, t_trial_o, t_trial_circuit_o, t_trial_faults_o, t_trial_log_o, t_trial_log_moves_o, t_trial_log_times_o, t_trial_positions_o, t_trial_score_o, t_trial_strokes_o, t_trial_timers_o)) : bq_M l D cI cJ yX7_measureCycle cX7_measureCycle 4 (some .int) rmX7_measureCycle [.ref a_t, .int x1] (wdX7_measureCycle cI a_t a_t_rig a_t_rig_sequence a_t_rig_sequence_cuts a_t_rig_sequence_groupOfStep a_t_rig_sequence_minus a_t_rig_sequence_pauses a_t_rig_sequence_plus a_t_rig_strokes a_t_trial a_t_trial_circuit a_t_trial_faults a_t_trial_log a_t_trial_log_moves a_t_trial_log_times a_t_trial_positions a_t_trial_score a_t_trial_strokes a_t_trial_timers u_t_reader u_t_snapshot u_t_spare u_t_rig_circuit u_t_rig_log u_t_rig_score u_t_rig_positions u_t_rig_timers u_t_rig_faults u_t_rig_sequence_outBefore r_t_trial_sequence t t_rig t_rig_sequence t_rig_sequence_cuts t_rig_sequence_groupOfStep t_rig_sequence_minus t_rig_sequence_pauses t_rig_sequence_plus t_rig_strokes t_trial t_trial_circuit t_trial_faults t_trial_log t_trial_log_moves t_trial_log_times t_trial_positions t_trial_score t_trial_strokes t_trial_timers) (wdX7_measureCycle cI a_t a_t_rig a_t_rig_sequence a_t_rig_sequence_cuts a_t_rig_sequence_groupOfStep a_t_rig_sequence_minus a_t_rig_sequence_pauses a_t_rig_sequence_plus a_t_rig_strokes a_t_trial a_t_trial_circuit a_t_trial_faults a_t_trial_log a_t_trial_log_moves a_t_trial_log_times a_t_trial_positions a_t_trial_score a_t_trial_strokes a_t_trial_timers u_t_reader u_t_snapshot u_t_spare u_t_rig_circuit u_t_rig_log u_t_rig_score u_t_rig_positions u_t_rig_timers u_t_rig_faults u_t_rig_sequence_outBefore a_t_rig_sequence t t_rig t_rig_sequence t_rig_sequence_cuts t_rig_sequence_groupOfStep t_rig_sequence_minus t_rig_sequence_pauses t_rig_sequence_plus t_rig_strokes t_trial_o t_trial_circuit_o t_trial_faults_o t_trial_log_o t_trial_log_moves_o t_trial_log_times_o t_trial_positions_o t_trial_score_o t_trial_strokes_o t_trial_timers_o) (some (.int r)) := by
  refine bq_start (by decide) (Nat.le_of_ble_eq_true rfl) ?_
  intro p e s m av9 below meth c A ls Q H locs E K w hA hr hk hn hQ hl
  have E : bq_E p m c cX7_measureCycle 4 s av9 RX7 := E
  have hx := E.1
  have hb := E.2.1
  have hl : lv_has ls 4 [(0, .ref a_t), (1, .int x1)] := hl
  unfold mX7_measureCycle at hm
  refine lv_aload_n hx hb dX7_measureCycle_0 rfl (lv_at hl 0 rfl) ?_
  refine gt_X7_28 E K w 0 rfl rfl dX7_measureCycle_1 ?_
  refine lv_aload_n hx hb dX7_measureCycle_4 rfl (lv_at hl 0 rfl) ?_
  refine gt_X7_24 E K w 0 rfl rfl dX7_measureCycle_5 ?_
  refine lv_iload_n hx hb dX7_measureCycle_8 rfl (lv_at hl 1 rfl) ?_
  obtain ⟨t_trial_1, t_trial_circuit_2, t_trial_faults_3, t_trial_log_4, t_trial_positions_5, t_trial_score_6, t_trial_strokes_7, t_trial_timers_8, hC, hm⟩ := bq_b8_el hm
  refine bq_V (As := [.ref a_t_rig, .int x1]) (rest := []) (st1 := []) (ws' := wdX7_measureCycle cI a_t a_t_rig a_t_rig_sequence a_t_rig_sequence_cuts a_t_rig_sequence_groupOfStep a_t_rig_sequence_minus a_t_rig_sequence_pauses a_t_rig_sequence_plus a_t_rig_strokes a_t_trial a_t_trial_circuit a_t_trial_faults a_t_trial_log a_t_trial_log_moves a_t_trial_log_times a_t_trial_positions a_t_trial_score a_t_trial_strokes a_t_trial_timers u_t_reader u_t_snapshot u_t_spare u_t_rig_circuit u_t_rig_log u_t_rig_score u_t_rig_positions u_t_rig_timers u_t_rig_faults u_t_rig_sequence_outBefore a_t_rig_sequence t t_rig t_rig_sequence t_rig_sequence_cuts t_rig_sequence_groupOfStep t_rig_sequence_minus t_rig_sequence_pauses t_rig_sequence_plus t_rig_strokes t_trial_1 t_trial_circuit_2 t_trial_faults_3 t_trial_log_4 t_trial_log_moves t_trial_log_times t_trial_positions_5 t_trial_score_6 t_trial_strokes_7 t_trial_timers_8) E K w hA (kX3_becomeCopyOf l D cI cJ a_t_trial a_t_trial_circuit a_t_trial_faults a_t_trial_log a_t_trial_positions a_t_trial_score a_t_trial_strokes a_t_trial_timers a_t_rig a_t_rig_sequence a_t_rig_sequence_minus a_t_rig_sequence_plus a_t_rig_strokes a_t_trial_log_times a_t_trial_log_moves u_t_rig_circuit u_t_rig_log u_t_rig_score u_t_rig_positions u_t_rig_timers u_t_rig_faults a_t_rig_sequence_pauses u_t_rig_sequence_outBefore a_t_rig_sequence_cuts a_t_rig_sequence_groupOfStep r_t_trial_sequence t_trial t_trial_circuit t_trial_faults t_trial_log t_trial_positions t_trial_score t_trial_strokes t_trial_timers t_rig t_rig_sequence t_rig_sequence_minus t_rig_sequence_plus t_rig_strokes x1 t_trial_1 t_trial_circuit_2 t_trial_faults_3 t_trial_log_4 t_trial_positions_5 t_trial_score_6 t_trial_strokes_7 t_trial_timers_8 hC) (bq_gV ml_X7_236 im_X3_becomeCopyOf sl_X3_becomeCopyOf in_X3 cd_X3_becomeCopyOf) hd_X3_becomeCopyOf ⟨Nat.le_of_ble_eq_true rfl, Nat.le_of_ble_eq_true rfl⟩ ⟨Nat.le_of_ble_eq_true rfl, Nat.le_of_ble_eq_true rfl⟩ ⟨[9, 10, 11, 12, 15, 16, 17, 18, 1, 2, 5, 7, 8], [0, 3, 4, 6, 13, 14], [0, 14, 15, 1, 2, 16, 3, 17, 18, 6, 7, 8, 9, 4, 5, 10, 11, 12, 13], rfl, rfl, rfl, rfl, rfl, rfl, rfl, rfl, rfl⟩ 9 rfl rfl rfl hl.1 rfl (Nat.le_of_ble_eq_true rfl) rfl dX7_measureCycle_9 (fun H locs w => bq_z ⟨rfl, rfl⟩ ?_)
  clear hC
  refine lv_iconst (v := (-1)) hx hb dX7_measureCycle_12 (by decide) ?_
  refine lv_istore_n (lv' := [(2, .int (-1)), (0, .ref a_t), (1, .int x1)]) hx hb dX7_measureCycle_13 rfl hl (by decide) rfl (fun ls hl => ?_)
  refine lv_iconst (v := 0) hx hb dX7_measureCycle_14 (by decide) ?_
  refine lv_istore_n (lv' := [(3, .int 0), (2, .int (-1)), (0, .ref a_t), (1, .int x1)]) hx hb dX7_measureCycle_15 rfl hl (by decide) rfl (fun ls hl => ?_)
  obtain ⟨rr16, hL, hm⟩ := bq_bd_el hm
  obtain ⟨B, eB, nn, hL⟩ := bq_loop_B hL
  have X111 : ∀ (t_trial_19 : Nat → Int32) (t_trial_circuit_20 : Nat → Int32) (t_trial_log_21 : Nat → Int32) (t_trial_log_moves_22 : Nat → Int32) (t_trial_log_times_23 : Nat → Int32) (t_trial_positions_24 : Nat → Int32) (t_trial_score_25 : Nat → Int32) (t_trial_timers_26 : Nat → Int32) (hE : rr16 = .inl (t_trial_19, t_trial_circuit_20, t_trial_log_21, t_trial_log_moves_22, t_trial_log_times_23, t_trial_positions_24, t_trial_score_25, t_trial_timers_26)) (H : Heap) (locs : List Loc) (ls : Array Slot), bq_w D A s.heap (wdX7_measureCycle cI a_t a_t_rig a_t_rig_sequence a_t_rig_sequence_cuts a_t_rig_sequence_groupOfStep a_t_rig_sequence_minus a_t_rig_sequence_pauses a_t_rig_sequence_plus a_t_rig_strokes a_t_trial a_t_trial_circuit a_t_trial_faults a_t_trial_log a_t_trial_log_moves a_t_trial_log_times a_t_trial_positions a_t_trial_score a_t_trial_strokes a_t_trial_timers u_t_reader u_t_snapshot u_t_spare u_t_rig_circuit u_t_rig_log u_t_rig_score u_t_rig_positions u_t_rig_timers u_t_rig_faults u_t_rig_sequence_outBefore a_t_rig_sequence t t_rig t_rig_sequence t_rig_sequence_cuts t_rig_sequence_groupOfStep t_rig_sequence_minus t_rig_sequence_pauses t_rig_sequence_plus t_rig_strokes t_trial_19 t_trial_circuit_20 t_trial_faults_3 t_trial_log_21 t_trial_log_moves_22 t_trial_log_times_23 t_trial_positions_24 t_trial_score_25 t_trial_strokes_7 t_trial_timers_26) H locs → lv_has ls 4 [] → W p l e rmX7_measureCycle s m av9 below meth c H locs 0 0 Q (F0 m 111 ls []) := by
    intro t_trial_19 t_trial_circuit_20 t_trial_log_21 t_trial_log_moves_22 t_trial_log_times_23 t_trial_positions_24 t_trial_score_25 t_trial_timers_26 hE H locs ls w hl
    subst hE
    replace hm := bq_or8_l hm
    refine lv_iconst (v := (-1)) hx hb dX7_measureCycle_111 (by decide) ?_
    obtain ⟨rfl, rfl, rfl, rfl, rfl, rfl, rfl, rfl, rfl, rfl, rfl⟩ := bq_in11 (Option.some.inj hm)
    exact bq_iret E w hr hk dX7_measureCycle_112 hQ
  have L16 : ∀ (nn : Nat) (i9 : Int32) (i10 : Int32) (t_trial_11 : Nat → Int32) (t_trial_circuit_12 : Nat → Int32) (t_trial_log_13 : Nat → Int32) (t_trial_log_moves_14 : Nat → Int32) (t_trial_log_times_15 : Nat → Int32) (t_trial_positions_16 : Nat → Int32) (t_trial_score_17 : Nat → Int32) (t_trial_timers_18 : Nat → Int32) (H : Heap) (locs : List Loc) (ls : Array Slot), bq_lp B nn (i9, i10, t_trial_11, t_trial_circuit_12, t_trial_log_13, t_trial_log_moves_14, t_trial_log_times_15, t_trial_positions_16, t_trial_score_17, t_trial_timers_18) = some rr16 → bq_w D A s.heap (wdX7_measureCycle cI a_t a_t_rig a_t_rig_sequence a_t_rig_sequence_cuts a_t_rig_sequence_groupOfStep a_t_rig_sequence_minus a_t_rig_sequence_pauses a_t_rig_sequence_plus a_t_rig_strokes a_t_trial a_t_trial_circuit a_t_trial_faults a_t_trial_log a_t_trial_log_moves a_t_trial_log_times a_t_trial_positions a_t_trial_score a_t_trial_strokes a_t_trial_timers u_t_reader u_t_snapshot u_t_spare u_t_rig_circuit u_t_rig_log u_t_rig_score u_t_rig_positions u_t_rig_timers u_t_rig_faults u_t_rig_sequence_outBefore a_t_rig_sequence t t_rig t_rig_sequence t_rig_sequence_cuts t_rig_sequence_groupOfStep t_rig_sequence_minus t_rig_sequence_pauses t_rig_sequence_plus t_rig_strokes t_trial_11 t_trial_circuit_12 t_trial_faults_3 t_trial_log_13 t_trial_log_moves_14 t_trial_log_times_15 t_trial_positions_16 t_trial_score_17 t_trial_strokes_7 t_trial_timers_18) H locs → lv_has ls 4 [(0, .ref a_t), (2, .int i10), (3, .int i9)] → W p l e rmX7_measureCycle s m av9 below meth c H locs 0 0 Q (F0 m 16 ls []) := by
    intro nn
    induction nn with
    | zero =>
      intro i9 i10 t_trial_11 t_trial_circuit_12 t_trial_log_13 t_trial_log_moves_14 t_trial_log_times_15 t_trial_positions_16 t_trial_score_17 t_trial_timers_18 H locs ls hL w hl
      exact bq_lp_0 hL
    | succ nn ih =>
      intro i9 i10 t_trial_11 t_trial_circuit_12 t_trial_log_13 t_trial_log_moves_14 t_trial_log_times_15 t_trial_positions_16 t_trial_score_17 t_trial_timers_18 H locs ls hL w hl
      obtain ⟨oo16, hT16, hR16⟩ := bq_lp_el hL
      clear hL
      replace hT16 := bq_u10_el eB hT16
      unfold bX7_measureCycle_16 at hT16
      refine lv_iload_n hx hb dX7_measureCycle_16 rfl (lv_at hl 2 rfl) ?_
      refine lv_sipush (v := 4000) hx hb dX7_measureCycle_17 (by decide) ?_
      refine lv_icmp_ge (tgt := 111) hx hb dX7_measureCycle_20 (by decide) (fun hc => ?_) (fun hc => ?_)
      · replace hT16 := bq_t hc hT16
        clear hc
        obtain rfl := Option.some.inj hT16
        replace hR16 := bq_lk_r hR16
        exact X111 t_trial_11 t_trial_circuit_12 t_trial_log_13 t_trial_log_moves_14 t_trial_log_times_15 t_trial_positions_16 t_trial_score_17 t_trial_timers_18 hR16.symm H locs ls w (lv_sub hl [] rfl)
      · replace hT16 := bq_f hc hT16
        clear hc
        refine lv_aload_n hx hb dX7_measureCycle_23 rfl (lv_at hl 0 rfl) ?_
        refine gt_X7_28 E K w 0 rfl rfl dX7_measureCycle_24 ?_
        obtain ⟨t_trial_27, t_trial_circuit_28, t_trial_log_29, t_trial_log_moves_30, t_trial_log_times_31, t_trial_positions_32, t_trial_score_33, t_trial_timers_34, hC, hT16⟩ := bq_b8_el hT16
        refine bq_V (As := []) (rest := []) (st1 := []) (ws' := wdX7_measureCycle cI a_t a_t_rig a_t_rig_sequence a_t_rig_sequence_cuts a_t_rig_sequence_groupOfStep a_t_rig_sequence_minus a_t_rig_sequence_pauses a_t_rig_sequence_plus a_t_rig_strokes a_t_trial a_t_trial_circuit a_t_trial_faults a_t_trial_log a_t_trial_log_moves a_t_trial_log_times a_t_trial_positions a_t_trial_score a_t_trial_strokes a_t_trial_timers u_t_reader u_t_snapshot u_t_spare u_t_rig_circuit u_t_rig_log u_t_rig_score u_t_rig_positions u_t_rig_timers u_t_rig_faults u_t_rig_sequence_outBefore a_t_rig_sequence t t_rig t_rig_sequence t_rig_sequence_cuts t_rig_sequence_groupOfStep t_rig_sequence_minus t_rig_sequence_pauses t_rig_sequence_plus t_rig_strokes t_trial_27 t_trial_circuit_28 t_trial_faults_3 t_trial_log_29 t_trial_log_moves_30 t_trial_log_times_31 t_trial_positions_32 t_trial_score_33 t_trial_strokes_7 t_trial_timers_34) E K w hA (kX3_makeTick l D cI cJ a_t_trial a_t_trial_circuit a_t_trial_faults a_t_trial_log a_t_trial_log_moves a_t_trial_log_times a_t_trial_positions a_t_trial_score a_t_rig_sequence a_t_rig_sequence_cuts a_t_rig_sequence_groupOfStep a_t_rig_sequence_minus a_t_rig_sequence_pauses a_t_rig_sequence_plus a_t_trial_strokes a_t_trial_timers u_t_rig_sequence_outBefore t_trial_11 t_trial_circuit_12 t_trial_faults_3 t_trial_log_13 t_trial_log_moves_14 t_trial_log_times_15 t_trial_positions_16 t_trial_score_17 t_rig_sequence t_rig_sequence_cuts t_rig_sequence_groupOfStep t_rig_sequence_minus t_rig_sequence_pauses t_rig_sequence_plus t_trial_strokes_7 t_trial_timers_18 t_trial_27 t_trial_circuit_28 t_trial_log_29 t_trial_log_moves_30 t_trial_log_times_31 t_trial_positions_32 t_trial_score_33 t_trial_timers_34 hC) (bq_gV ml_X7_272 im_X3_makeTick sl_X3_makeTick in_X3 cd_X3_makeTick) hd_X3_makeTick ⟨Nat.le_of_ble_eq_true rfl, Nat.le_of_ble_eq_true rfl⟩ ⟨Nat.le_of_ble_eq_true rfl, Nat.le_of_ble_eq_true rfl⟩ ⟨[9, 10, 11, 12, 13, 14, 15, 16, 2, 3, 4, 5, 6, 7, 17, 18], [0, 1, 8], [0, 1, 11, 12, 13, 14, 15, 16, 2, 3, 4, 5, 6, 7, 8, 9, 10, 17, 18], rfl, rfl, rfl, rfl, rfl, rfl, rfl, rfl, rfl⟩ 9 rfl rfl rfl hl.1 rfl (Nat.le_of_ble_eq_true rfl) rfl dX7_measureCycle_27 (fun H locs w => bq_z ⟨rfl, rfl⟩ ?_)
        clear hC
        refine lv_aload_n hx hb dX7_measureCycle_30 rfl (lv_at hl 0 rfl) ?_
        refine gt_X7_28 E K w 0 rfl rfl dX7_measureCycle_31 ?_
        refine gt_X7_216 E K w 9 rfl rfl dX7_measureCycle_34 ?_
        refine gt_X7_225 E K w 16 rfl rfl dX7_measureCycle_37 ?_
        refine lv_iconst (v := 2) hx hb dX7_measureCycle_40 (by decide) ?_
        refine lv_icmp_lt (tgt := 54) hx hb dX7_measureCycle_41 (by decide) (fun hc => ?_) (fun hc => ?_)
        · replace hT16 := bq_t hc hT16
          clear hc
          refine lv_aload_n hx hb dX7_measureCycle_54 rfl (lv_at hl 0 rfl) ?_
          refine gt_X7_28 E K w 0 rfl rfl dX7_measureCycle_55 ?_
          refine gt_X7_216 E K w 9 rfl rfl dX7_measureCycle_58 ?_
          refine gt_X7_225 E K w 16 rfl rfl dX7_measureCycle_61 ?_
          refine lv_iconst (v := 1) hx hb dX7_measureCycle_64 (by decide) ?_
          obtain ⟨v35, hT80, hT16⟩ := bq_let_el hT16
          have K80 : ∀ (H : Heap) (locs : List Loc) (ls : Array Slot), bq_w D A s.heap (wdX7_measureCycle cI a_t a_t_rig a_t_rig_sequence a_t_rig_sequence_cuts a_t_rig_sequence_groupOfStep a_t_rig_sequence_minus a_t_rig_sequence_pauses a_t_rig_sequence_plus a_t_rig_strokes a_t_trial a_t_trial_circuit a_t_trial_faults a_t_trial_log a_t_trial_log_moves a_t_trial_log_times a_t_trial_positions a_t_trial_score a_t_trial_strokes a_t_trial_timers u_t_reader u_t_snapshot u_t_spare u_t_rig_circuit u_t_rig_log u_t_rig_score u_t_rig_positions u_t_rig_timers u_t_rig_faults u_t_rig_sequence_outBefore a_t_rig_sequence t t_rig t_rig_sequence t_rig_sequence_cuts t_rig_sequence_groupOfStep t_rig_sequence_minus t_rig_sequence_pauses t_rig_sequence_plus t_rig_strokes t_trial_27 t_trial_circuit_28 t_trial_faults_3 t_trial_log_29 t_trial_log_moves_30 t_trial_log_times_31 t_trial_positions_32 t_trial_score_33 t_trial_strokes_7 t_trial_timers_34) H locs → lv_has ls 4 [(0, .ref a_t), (2, .int v35), (3, .int i9)] → W p l e rmX7_measureCycle s m av9 below meth c H locs 0 0 Q (F0 m 80 ls []) := by
            intro H locs ls w hl
            refine lv_aload_n hx hb dX7_measureCycle_80 rfl (lv_at hl 0 rfl) ?_
            refine gt_X7_28 E K w 0 rfl rfl dX7_measureCycle_81 ?_
            refine gt_X7_275 E K w 9 rfl rfl dX7_measureCycle_84 ?_
            refine lv_if_ne (tgt := 103) hx hb dX7_measureCycle_87 (by decide) (fun hc => ?_) (fun hc => ?_)
            · replace hT16 := bq_f hc hT16
              clear hc
              refine lv_iconst (v := (-1)) hx hb dX7_measureCycle_103 (by decide) ?_
              obtain rfl := Option.some.inj hT16
              replace hR16 := bq_lk_r hR16
              subst hR16
              replace hm := bq_or8_r hm
              obtain ⟨rfl, rfl, rfl, rfl, rfl, rfl, rfl, rfl, rfl, rfl, rfl⟩ := bq_in11 (Option.some.inj hm)
              exact bq_iret E w hr hk dX7_measureCycle_104 hQ
            · replace hT16 := bq_t hc hT16
              clear hc
              refine lv_aload_n hx hb dX7_measureCycle_90 rfl (lv_at hl 0 rfl) ?_
              refine gt_X7_28 E K w 0 rfl rfl dX7_measureCycle_91 ?_
              refine gt_X7_216 E K w 9 rfl rfl dX7_measureCycle_94 ?_
              refine gt_X7_278 E K w 16 rfl rfl dX7_measureCycle_97 ?_
              refine lv_if_eq (tgt := 105) hx hb dX7_measureCycle_100 (by decide) (fun hc => ?_) (fun hc => ?_)
              · replace hT16 := bq_t hc hT16
                clear hc
                obtain ⟨v36, e9, hT16⟩ := bq_let_el hT16
                refine lv_iinc (v := v36) (lv' := [(3, .int v36), (0, .ref a_t), (2, .int v35)]) hx hb dX7_measureCycle_105 hl (k := 2) rfl (by rw [e9]; rfl) (by decide) rfl (fun ls hl => ?_)
                clear e9
                refine lv_goto (tgt := 16) hx hb dX7_measureCycle_108 (by decide) ?_
                obtain rfl := Option.some.inj hT16
                exact ih v36 v35 t_trial_27 t_trial_circuit_28 t_trial_log_29 t_trial_log_moves_30 t_trial_log_times_31 t_trial_positions_32 t_trial_score_33 t_trial_timers_34 H locs ls hR16 w (lv_sub hl [1, 2, 0] rfl)
              · replace hT16 := bq_f hc hT16
                clear hc
                refine lv_iconst (v := (-1)) hx hb dX7_measureCycle_103 (by decide) ?_
                obtain rfl := Option.some.inj hT16
                replace hR16 := bq_lk_r hR16
                subst hR16
                replace hm := bq_or8_r hm
                obtain ⟨rfl, rfl, rfl, rfl, rfl, rfl, rfl, rfl, rfl, rfl, rfl⟩ := bq_in11 (Option.some.inj hm)
                exact bq_iret E w hr hk dX7_measureCycle_104 hQ
          clear hT16
          refine lv_icmp_ne (tgt := 80) hx hb dX7_measureCycle_65 (by decide) (fun hc => ?_) (fun hc => ?_)
          · replace hT80 := bq_ef hc hT80
            clear hc
            subst hT80
            exact K80 H locs ls w (lv_sub hl [0, 1, 2] rfl)
          · replace hT80 := bq_et hc hT80
            clear hc
            refine lv_iload_n hx hb dX7_measureCycle_68 rfl (lv_at hl 1 rfl) ?_
            refine lv_if_ge (tgt := 80) hx hb dX7_measureCycle_69 (by decide) (fun hc => ?_) (fun hc => ?_)
            · replace hT80 := bq_et hc hT80
              clear hc
              subst hT80
              exact K80 H locs ls w (lv_sub hl [0, 1, 2] rfl)
            · replace hT80 := bq_ef hc hT80
              clear hc
              refine lv_aload_n hx hb dX7_measureCycle_72 rfl (lv_at hl 0 rfl) ?_
              refine gt_X7_28 E K w 0 rfl rfl dX7_measureCycle_73 ?_
              refine gt_X7_165 E K w 9 rfl rfl dX7_measureCycle_76 ?_
              refine lv_istore_n (lv' := [(2, .int (t_trial_27 10)), (0, .ref a_t), (3, .int i9)]) hx hb dX7_measureCycle_79 rfl hl (by decide) rfl (fun ls hl => ?_)
              subst hT80
              exact K80 H locs ls w (lv_sub hl [1, 0, 2] rfl)
        · replace hT16 := bq_f hc hT16
          clear hc
          refine lv_aload_n hx hb dX7_measureCycle_44 rfl (lv_at hl 0 rfl) ?_
          refine gt_X7_28 E K w 0 rfl rfl dX7_measureCycle_45 ?_
          refine gt_X7_165 E K w 9 rfl rfl dX7_measureCycle_48 ?_
          refine lv_iload_n hx hb dX7_measureCycle_51 rfl (lv_at hl 1 rfl) ?_
          refine lv_isub hx hb dX7_measureCycle_52 ?_
          obtain rfl := Option.some.inj hT16
          replace hR16 := bq_lk_r hR16
          subst hR16
          replace hm := bq_or8_r hm
          obtain ⟨rfl, rfl, rfl, rfl, rfl, rfl, rfl, rfl, rfl, rfl, rfl⟩ := bq_in11 (Option.some.inj hm)
          exact bq_iret E w hr hk dX7_measureCycle_53 hQ
  exact L16 nn 0 (-1) t_trial_1 t_trial_circuit_2 t_trial_log_4 t_trial_log_moves t_trial_log_times t_trial_positions_5 t_trial_score_6 t_trial_timers_8 H locs ls hL w (lv_sub hl [2, 1, 0] rfl)
abbrev wdX7_works (cI : ClassId) (a_t a_t_rig a_t_rig_sequence a_t_rig_sequence_cuts a_t_rig_sequence_groupOfStep a_t_rig_sequence_minus a_t_rig_sequence_pauses a_t_rig_sequence_plus a_t_rig_strokes a_t_trial a_t_trial_circuit a_t_trial_faults a_t_trial_log a_t_trial_log_moves a_t_trial_log_times a_t_trial_positions a_t_trial_score a_t_trial_strokes a_t_trial_timers u_t_reader u_t_snapshot u_t_spare u_t_rig_circuit u_t_rig_log u_t_rig_score u_t_rig_positions u_t_rig_timers u_t_rig_faults u_t_rig_sequence_outBefore m_0 : Nat) (t t_rig t_rig_sequence t_rig_sequence_cuts t_rig_sequence_groupOfStep t_rig_sequence_minus t_rig_sequence_pauses t_rig_sequence_plus t_rig_strokes t_trial t_trial_circuit t_trial_faults t_trial_log t_trial_log_moves t_trial_log_times t_trial_positions t_trial_score t_trial_strokes t_trial_timers : Nat → Int32) : va_W := [(a_t, oX7 u_t_reader a_t_rig a_t_trial u_t_snapshot u_t_spare t), (a_t_rig, oX3 a_t_rig_sequence u_t_rig_circuit u_t_rig_log u_t_rig_score a_t_rig_strokes u_t_rig_positions u_t_rig_timers u_t_rig_faults t_rig), (a_t_rig_sequence, oX5 a_t_rig_sequence_plus a_t_rig_sequence_minus a_t_rig_sequence_pauses u_t_rig_sequence_outBefore a_t_rig_sequence_cuts a_t_rig_sequence_groupOfStep t_rig_sequence), (a_t_rig_sequence_cuts, oA cI 16 t_rig_sequence_cuts), (a_t_rig_sequence_groupOfStep, oA cI 16 t_rig_sequence_groupOfStep), (a_t_rig_sequence_minus, oA cI 16 t_rig_sequence_minus), (a_t_rig_sequence_pauses, oA cI 16 t_rig_sequence_pauses), (a_t_rig_sequence_plus, oA cI 16 t_rig_sequence_plus), (a_t_rig_strokes, oA cI 6 t_rig_strokes), (a_t_trial, oX3 m_0 a_t_trial_circuit a_t_trial_log a_t_trial_score a_t_trial_strokes a_t_trial_positions a_t_trial_timers a_t_trial_faults t_trial), (a_t_trial_circuit, oX0 t_trial_circuit), (a_t_trial_faults, oA cI 5 t_trial_faults), (a_t_trial_log, oX1 a_t_trial_log_times a_t_trial_log_moves t_trial_log), (a_t_trial_log_moves, oA cI 40 t_trial_log_moves), (a_t_trial_log_times, oA cI 40 t_trial_log_times), (a_t_trial_positions, oA cI 6 t_trial_positions), (a_t_trial_score, oX4 t_trial_score), (a_t_trial_strokes, oA cI 6 t_trial_strokes), (a_t_trial_timers, oA cI 16 t_trial_timers)]
abbrev rmX7_works : Room := { frames := 5, cells := 0, slots := 0, locals := 118 }
theorem hd_X7_works : yX7_works.cls = RX7 ∧ yX7_works.cls ≠ "java/lang/invoke/MethodHandle" ∧ yX7_works.cls ≠ "java/lang/invoke/VarHandle" ∧ (parseMethodDescriptor yX7_works.desc).map (fun d => d.parameters.length) = some 1 := by decide +kernel
set_option maxHeartbeats 4000000 in
set_option maxRecDepth 100000 in
theorem kX7_works (l : Launch) (D : va_G) (cI cJ : ClassId) (a_t a_t_rig a_t_rig_sequence a_t_rig_sequence_cuts a_t_rig_sequence_groupOfStep a_t_rig_sequence_minus a_t_rig_sequence_pauses a_t_rig_sequence_plus a_t_rig_strokes a_t_trial a_t_trial_circuit a_t_trial_faults a_t_trial_log a_t_trial_log_moves a_t_trial_log_times a_t_trial_positions a_t_trial_score a_t_trial_strokes a_t_trial_timers u_t_reader u_t_snapshot u_t_spare u_t_rig_circuit u_t_rig_log u_t_rig_score u_t_rig_positions u_t_rig_timers u_t_rig_faults u_t_rig_sequence_outBefore r_t_trial_sequence : Nat) (t t_rig t_rig_sequence t_rig_sequence_cuts t_rig_sequence_groupOfStep t_rig_sequence_minus t_rig_sequence_pauses t_rig_sequence_plus t_rig_strokes t_trial t_trial_circuit t_trial_faults t_trial_log t_trial_log_moves t_trial_log_times t_trial_positions t_trial_score t_trial_strokes t_trial_timers : Nat → Int32) (x1 : Int32) (r : Int32) (t_trial_o : Nat → Int32) (t_trial_circuit_o : Nat → Int32) (t_trial_faults_o : Nat → Int32) (t_trial_log_o : Nat → Int32) (t_trial_log_moves_o : Nat → Int32) (t_trial_log_times_o : Nat → Int32) (t_trial_positions_o : Nat → Int32) (t_trial_score_o : Nat → Int32) (t_trial_strokes_o : Nat → Int32) (t_trial_timers_o : Nat → Int32) (hm : mX7_works t_rig_sequence t_rig_sequence_cuts t_rig_sequence_groupOfStep t_rig_sequence_minus t_rig_sequence_pauses t_rig_sequence_plus t_rig_strokes t_trial t_trial_circuit t_trial_faults t_trial_log t_trial_log_moves t_trial_log_times t_trial_positions t_trial_score t_trial_strokes t_trial_timers x1 = some (r, t_trial_o, t_trial_circuit_o, t_trial_faults_o, t_trial_log_o, t_trial_log_moves_o, t_trial_log_times_o, t_trial_positions_o, t_trial_score_o, t_trial_strokes_o, t_trial_timers_o)) : bq_M l D cI cJ yX7_works cX7_works 2 (some .boolean) rmX7_works [.ref a_t, .int x1] (wdX7_works cI a_t a_t_rig a_t_rig_sequence a_t_rig_sequence_cuts a_t_rig_sequence_groupOfStep a_t_rig_sequence_minus a_t_rig_sequence_pauses a_t_rig_sequence_plus a_t_rig_strokes a_t_trial a_t_trial_circuit a_t_trial_faults a_t_trial_log a_t_trial_log_moves a_t_trial_log_times a_t_trial_positions a_t_trial_score a_t_trial_strokes a_t_trial_timers u_t_reader u_t_snapshot u_t_spare u_t_rig_circuit u_t_rig_log u_t_rig_score u_t_rig_positions u_t_rig_timers u_t_rig_faults u_t_rig_sequence_outBefore r_t_trial_sequence t t_rig t_rig_sequence t_rig_sequence_cuts t_rig_sequence_groupOfStep t_rig_sequence_minus t_rig_sequence_pauses t_rig_sequence_plus t_rig_strokes t_trial t_trial_circuit t_trial_faults t_trial_log t_trial_log_moves t_trial_log_times t_trial_positions t_trial_score t_trial_strokes t_trial_timers) (wdX7_works cI a_t a_t_rig a_t_rig_sequence a_t_rig_sequence_cuts a_t_rig_sequence_groupOfStep a_t_rig_sequence_minus a_t_rig_sequence_pauses a_t_rig_sequence_plus a_t_rig_strokes a_t_trial a_t_trial_circuit a_t_trial_faults a_t_trial_log a_t_trial_log_moves a_t_trial_log_times a_t_trial_positions a_t_trial_score a_t_trial_strokes a_t_trial_timers u_t_reader u_t_snapshot u_t_spare u_t_rig_circuit u_t_rig_log u_t_rig_score u_t_rig_positions u_t_rig_timers u_t_rig_faults u_t_rig_sequence_outBefore a_t_rig_sequence t t_rig t_rig_sequence t_rig_sequence_cuts t_rig_sequence_groupOfStep t_rig_sequence_minus t_rig_sequence_pauses t_rig_sequence_plus t_rig_strokes t_trial_o t_trial_circuit_o t_trial_faults_o t_trial_log_o t_trial_log_moves_o t_trial_log_times_o t_trial_positions_o t_trial_score_o t_trial_strokes_o t_trial_timers_o) (some (.int r)) := by
  refine bq_start (by decide) (Nat.le_of_ble_eq_true rfl) ?_
  intro p e s m av9 below meth c A ls Q H locs E K w hA hr hk hn hQ hl
  have E : bq_E p m c cX7_works 2 s av9 RX7 := E
  have hx := E.1
  have hb := E.2.1
  have hl : lv_has ls 2 [(0, .ref a_t), (1, .int x1)] := hl
  unfold mX7_works at hm
  refine lv_iload_n hx hb dX7_works_0 rfl (lv_at hl 1 rfl) ?_
  obtain ⟨⟨⟩, hC, hm⟩ := bq_bd_el hm
  refine bq_S0 (As := [.int x1]) (rest := []) (st1 := []) E K w hA (kX7_checkMethod l D cI cJ x1 hC) cd_X7_checkMethod ml_X7_131 in_X7 st_X7_checkMethod hs_X7_checkMethod ⟨Nat.le_of_ble_eq_true rfl, Nat.le_of_ble_eq_true rfl⟩ ⟨Nat.le_of_ble_eq_true rfl, Nat.le_of_ble_eq_true rfl⟩ rfl hl.1 rfl (Nat.le_of_ble_eq_true rfl) rfl dX7_works_1 (fun H locs w => bq_z ⟨rfl, rfl⟩ ?_)
  clear hC
  refine lv_aload_n hx hb dX7_works_4 rfl (lv_at hl 0 rfl) ?_
  obtain ⟨⟨⟩, hC, hm⟩ := bq_bd_el hm
  refine bq_V (As := []) (rest := []) (st1 := []) (ws' := wdX7_works cI a_t a_t_rig a_t_rig_sequence a_t_rig_sequence_cuts a_t_rig_sequence_groupOfStep a_t_rig_sequence_minus a_t_rig_sequence_pauses a_t_rig_sequence_plus a_t_rig_strokes a_t_trial a_t_trial_circuit a_t_trial_faults a_t_trial_log a_t_trial_log_moves a_t_trial_log_times a_t_trial_positions a_t_trial_score a_t_trial_strokes a_t_trial_timers u_t_reader u_t_snapshot u_t_spare u_t_rig_circuit u_t_rig_log u_t_rig_score u_t_rig_positions u_t_rig_timers u_t_rig_faults u_t_rig_sequence_outBefore r_t_trial_sequence t t_rig t_rig_sequence t_rig_sequence_cuts t_rig_sequence_groupOfStep t_rig_sequence_minus t_rig_sequence_pauses t_rig_sequence_plus t_rig_strokes t_trial t_trial_circuit t_trial_faults t_trial_log t_trial_log_moves t_trial_log_times t_trial_positions t_trial_score t_trial_strokes t_trial_timers) E K w hA (kX7_checkSequence l D cI cJ a_t a_t_rig a_t_rig_sequence u_t_reader a_t_trial u_t_snapshot u_t_spare u_t_rig_circuit u_t_rig_log u_t_rig_score a_t_rig_strokes u_t_rig_positions u_t_rig_timers u_t_rig_faults a_t_rig_sequence_plus a_t_rig_sequence_minus a_t_rig_sequence_pauses u_t_rig_sequence_outBefore a_t_rig_sequence_cuts a_t_rig_sequence_groupOfStep t t_rig t_rig_sequence hC) (bq_gV ml_X7_110 im_X7_checkSequence sl_X7_checkSequence in_X7 cd_X7_checkSequence) hd_X7_checkSequence ⟨Nat.le_of_ble_eq_true rfl, Nat.le_of_ble_eq_true rfl⟩ ⟨Nat.le_of_ble_eq_true rfl, Nat.le_of_ble_eq_true rfl⟩ ⟨[0, 1, 2], [3, 4, 5, 6, 7, 8, 9, 10, 11, 12, 13, 14, 15, 16, 17, 18], [16, 17, 18, 0, 1, 2, 3, 4, 5, 6, 7, 8, 9, 10, 11, 12, 13, 14, 15], rfl, rfl, rfl, rfl, rfl, rfl, rfl, rfl, rfl⟩ 0 rfl rfl rfl hl.1 rfl (Nat.le_of_ble_eq_true rfl) rfl dX7_works_5 (fun H locs w => bq_z ⟨rfl, rfl⟩ ?_)
  clear hC
  refine lv_aload_n hx hb dX7_works_8 rfl (lv_at hl 0 rfl) ?_
  refine lv_iload_n hx hb dX7_works_9 rfl (lv_at hl 1 rfl) ?_
  obtain ⟨v1, t_trial_2, t_trial_circuit_3, t_trial_faults_4, t_trial_log_5, t_trial_log_moves_6, t_trial_log_times_7, t_trial_positions_8, t_trial_score_9, t_trial_strokes_10, t_trial_timers_11, hC, hm⟩ := bq_b11_el hm
  refine bq_V (As := [.int x1]) (rest := []) (st1 := [.int v1]) (ws' := wdX7_works cI a_t a_t_rig a_t_rig_sequence a_t_rig_sequence_cuts a_t_rig_sequence_groupOfStep a_t_rig_sequence_minus a_t_rig_sequence_pauses a_t_rig_sequence_plus a_t_rig_strokes a_t_trial a_t_trial_circuit a_t_trial_faults a_t_trial_log a_t_trial_log_moves a_t_trial_log_times a_t_trial_positions a_t_trial_score a_t_trial_strokes a_t_trial_timers u_t_reader u_t_snapshot u_t_spare u_t_rig_circuit u_t_rig_log u_t_rig_score u_t_rig_positions u_t_rig_timers u_t_rig_faults u_t_rig_sequence_outBefore a_t_rig_sequence t t_rig t_rig_sequence t_rig_sequence_cuts t_rig_sequence_groupOfStep t_rig_sequence_minus t_rig_sequence_pauses t_rig_sequence_plus t_rig_strokes t_trial_2 t_trial_circuit_3 t_trial_faults_4 t_trial_log_5 t_trial_log_moves_6 t_trial_log_times_7 t_trial_positions_8 t_trial_score_9 t_trial_strokes_10 t_trial_timers_11) E K w hA (kX7_measureCycle l D cI cJ a_t a_t_rig a_t_rig_sequence a_t_rig_sequence_cuts a_t_rig_sequence_groupOfStep a_t_rig_sequence_minus a_t_rig_sequence_pauses a_t_rig_sequence_plus a_t_rig_strokes a_t_trial a_t_trial_circuit a_t_trial_faults a_t_trial_log a_t_trial_log_moves a_t_trial_log_times a_t_trial_positions a_t_trial_score a_t_trial_strokes a_t_trial_timers u_t_reader u_t_snapshot u_t_spare u_t_rig_circuit u_t_rig_log u_t_rig_score u_t_rig_positions u_t_rig_timers u_t_rig_faults u_t_rig_sequence_outBefore r_t_trial_sequence t t_rig t_rig_sequence t_rig_sequence_cuts t_rig_sequence_groupOfStep t_rig_sequence_minus t_rig_sequence_pauses t_rig_sequence_plus t_rig_strokes t_trial t_trial_circuit t_trial_faults t_trial_log t_trial_log_moves t_trial_log_times t_trial_positions t_trial_score t_trial_strokes t_trial_timers x1 v1 t_trial_2 t_trial_circuit_3 t_trial_faults_4 t_trial_log_5 t_trial_log_moves_6 t_trial_log_times_7 t_trial_positions_8 t_trial_score_9 t_trial_strokes_10 t_trial_timers_11 hC) (bq_gV ml_X7_231 im_X7_measureCycle sl_X7_measureCycle in_X7 cd_X7_measureCycle) hd_X7_measureCycle ⟨Nat.le_of_ble_eq_true rfl, Nat.le_of_ble_eq_true rfl⟩ ⟨Nat.le_of_ble_eq_true rfl, Nat.le_of_ble_eq_true rfl⟩ ⟨[0, 1, 2, 3, 4, 5, 6, 7, 8, 9, 10, 11, 12, 13, 14, 15, 16, 17, 18], [], [0, 1, 2, 3, 4, 5, 6, 7, 8, 9, 10, 11, 12, 13, 14, 15, 16, 17, 18], rfl, rfl, rfl, rfl, rfl, rfl, rfl, rfl, rfl⟩ 0 rfl rfl rfl hl.1 rfl (Nat.le_of_ble_eq_true rfl) rfl dX7_works_10 (fun H locs w => bq_z ⟨rfl, rfl⟩ ?_)
  clear hC
  obtain ⟨v12, hT21, hm⟩ := bq_let_el hm
  have K21 : ∀ (H : Heap) (locs : List Loc) (ls : Array Slot), bq_w D A s.heap (wdX7_works cI a_t a_t_rig a_t_rig_sequence a_t_rig_sequence_cuts a_t_rig_sequence_groupOfStep a_t_rig_sequence_minus a_t_rig_sequence_pauses a_t_rig_sequence_plus a_t_rig_strokes a_t_trial a_t_trial_circuit a_t_trial_faults a_t_trial_log a_t_trial_log_moves a_t_trial_log_times a_t_trial_positions a_t_trial_score a_t_trial_strokes a_t_trial_timers u_t_reader u_t_snapshot u_t_spare u_t_rig_circuit u_t_rig_log u_t_rig_score u_t_rig_positions u_t_rig_timers u_t_rig_faults u_t_rig_sequence_outBefore a_t_rig_sequence t t_rig t_rig_sequence t_rig_sequence_cuts t_rig_sequence_groupOfStep t_rig_sequence_minus t_rig_sequence_pauses t_rig_sequence_plus t_rig_strokes t_trial_2 t_trial_circuit_3 t_trial_faults_4 t_trial_log_5 t_trial_log_moves_6 t_trial_log_times_7 t_trial_positions_8 t_trial_score_9 t_trial_strokes_10 t_trial_timers_11) H locs → lv_has ls 2 [] → W p l e rmX7_works s m av9 below meth c H locs 0 0 Q (F0 m 21 ls [.int v12]) := by
    intro H locs ls w hl
    obtain ⟨hB, hm⟩ := bq_cb_el hm
    obtain ⟨rfl, rfl, rfl, rfl, rfl, rfl, rfl, rfl, rfl, rfl, rfl⟩ := bq_in11 (Option.some.inj hm)
    exact bq_zret E w hr hk hB dX7_works_21 hQ
  clear hm
  refine lv_if_lt (tgt := 20) hx hb dX7_works_13 (by decide) (fun hc => ?_) (fun hc => ?_)
  · replace hT21 := bq_et hc hT21
    clear hc
    refine lv_iconst (v := 0) hx hb dX7_works_20 (by decide) ?_
    subst hT21
    exact K21 H locs ls w (lv_sub hl [] rfl)
  · replace hT21 := bq_ef hc hT21
    clear hc
    refine lv_iconst (v := 1) hx hb dX7_works_16 (by decide) ?_
    refine lv_goto (tgt := 21) hx hb dX7_works_17 (by decide) ?_
    subst hT21
    exact K21 H locs ls w (lv_sub hl [] rfl)
abbrev rmTX7_works : Room := { frames := 7, cells := 1, slots := 6, locals := 120 }
set_option maxHeartbeats 4000000 in
set_option maxRecDepth 100000 in
theorem tkX7_works {l : Launch} (hlf : l.stackTraces = false) (D : va_G) (cI cJ : ClassId) (a_t a_t_rig a_t_rig_sequence a_t_rig_sequence_cuts a_t_rig_sequence_groupOfStep a_t_rig_sequence_minus a_t_rig_sequence_pauses a_t_rig_sequence_plus a_t_rig_strokes a_t_trial a_t_trial_circuit a_t_trial_faults a_t_trial_log a_t_trial_log_moves a_t_trial_log_times a_t_trial_positions a_t_trial_score a_t_trial_strokes a_t_trial_timers u_t_reader u_t_snapshot u_t_spare u_t_rig_circuit u_t_rig_log u_t_rig_score u_t_rig_positions u_t_rig_timers u_t_rig_faults u_t_rig_sequence_outBefore r_t_trial_sequence : Nat) (t t_rig t_rig_sequence t_rig_sequence_cuts t_rig_sequence_groupOfStep t_rig_sequence_minus t_rig_sequence_pauses t_rig_sequence_plus t_rig_strokes t_trial t_trial_circuit t_trial_faults t_trial_log t_trial_log_moves t_trial_log_times t_trial_positions t_trial_score t_trial_strokes t_trial_timers : Nat → Int32) (x1 : Int32) (r : Nat) (hm : tX7_works t_rig_sequence t_rig_sequence_cuts t_rig_sequence_groupOfStep t_rig_sequence_minus t_rig_sequence_pauses t_rig_sequence_plus t_rig_strokes t_trial t_trial_circuit t_trial_faults t_trial_log t_trial_log_moves t_trial_log_times t_trial_positions t_trial_score t_trial_strokes t_trial_timers x1 = some r) : bq_MT l D cI cJ yX7_works cX7_works 2 (some .boolean) rmTX7_works [.ref a_t, .int x1] (wdX7_works cI a_t a_t_rig a_t_rig_sequence a_t_rig_sequence_cuts a_t_rig_sequence_groupOfStep a_t_rig_sequence_minus a_t_rig_sequence_pauses a_t_rig_sequence_plus a_t_rig_strokes a_t_trial a_t_trial_circuit a_t_trial_faults a_t_trial_log a_t_trial_log_moves a_t_trial_log_times a_t_trial_positions a_t_trial_score a_t_trial_strokes a_t_trial_timers u_t_reader u_t_snapshot u_t_spare u_t_rig_circuit u_t_rig_log u_t_rig_score u_t_rig_positions u_t_rig_timers u_t_rig_faults u_t_rig_sequence_outBefore r_t_trial_sequence t t_rig t_rig_sequence t_rig_sequence_cuts t_rig_sequence_groupOfStep t_rig_sequence_minus t_rig_sequence_pauses t_rig_sequence_plus t_rig_strokes t_trial t_trial_circuit t_trial_faults t_trial_log t_trial_log_moves t_trial_log_times t_trial_positions t_trial_score t_trial_strokes t_trial_timers) (bq_cls r) := by
  refine bq_startT (by decide) (Nat.le_of_ble_eq_true rfl) ?_
  intro p e s m av9 below meth c A ls Q H locs E K w hA hnt hk hX hQ hl
  have E : bq_E p m c cX7_works 2 s av9 RX7 := E
  have hx := E.1
  have hb := E.2.1
  have hl : lv_has ls 2 [(0, .ref a_t), (1, .int x1)] := hl
  unfold tX7_works at hm
  refine lv_iload_n hx hb dX7_works_0 rfl (lv_at hl 1 rfl) ?_
  refine (bq_tc_el hm).elim (fun hC => ?_) (fun hm => ?_)
  · exact bq_TS (As := [.int x1]) (rest := []) E K w hA hX hnt hk ⟨rfl, rfl⟩ (tkX7_checkMethod hlf D cI cJ x1 _ hC) cd_X7_checkMethod ml_X7_131 in_X7 st_X7_checkMethod hs_X7_checkMethod ⟨Nat.le_of_ble_eq_true rfl, Nat.le_of_ble_eq_true rfl⟩ ⟨Nat.le_of_ble_eq_true rfl, Nat.le_of_ble_eq_true rfl⟩ ⟨[], [0, 1, 2, 3, 4, 5, 6, 7, 8, 9, 10, 11, 12, 13, 14, 15, 16, 17, 18], [0, 1, 2, 3, 4, 5, 6, 7, 8, 9, 10, 11, 12, 13, 14, 15, 16, 17, 18], rfl, rfl, rfl, rfl, rfl, rfl, rfl, rfl, rfl⟩ rfl hl.1 rfl (Nat.le_of_ble_eq_true rfl) dX7_works_1 hQ
  obtain ⟨⟨⟩, hC, hm⟩ := bq_bd_el hm
  refine bq_S0 (As := [.int x1]) (rest := []) (st1 := []) E K w hA (kX7_checkMethod l D cI cJ x1 hC) cd_X7_checkMethod ml_X7_131 in_X7 st_X7_checkMethod hs_X7_checkMethod ⟨Nat.le_of_ble_eq_true rfl, Nat.le_of_ble_eq_true rfl⟩ ⟨Nat.le_of_ble_eq_true rfl, Nat.le_of_ble_eq_true rfl⟩ rfl hl.1 rfl (Nat.le_of_ble_eq_true rfl) rfl dX7_works_1 (fun H locs w => bq_z ⟨rfl, rfl⟩ ?_)
  clear hC
  refine lv_aload_n hx hb dX7_works_4 rfl (lv_at hl 0 rfl) ?_
  refine (bq_tc_el hm).elim (fun hC => ?_) (fun hm => ?_)
  · exact bq_TV (As := []) (rest := []) E K w hA hX hnt hk ⟨rfl, rfl⟩ (tkX7_checkSequence hlf D cI cJ a_t a_t_rig a_t_rig_sequence u_t_reader a_t_trial u_t_snapshot u_t_spare u_t_rig_circuit u_t_rig_log u_t_rig_score a_t_rig_strokes u_t_rig_positions u_t_rig_timers u_t_rig_faults a_t_rig_sequence_plus a_t_rig_sequence_minus a_t_rig_sequence_pauses u_t_rig_sequence_outBefore a_t_rig_sequence_cuts a_t_rig_sequence_groupOfStep t t_rig t_rig_sequence _ hC) (bq_gV ml_X7_110 im_X7_checkSequence sl_X7_checkSequence in_X7 cd_X7_checkSequence) hd_X7_checkSequence ⟨Nat.le_of_ble_eq_true rfl, Nat.le_of_ble_eq_true rfl⟩ ⟨Nat.le_of_ble_eq_true rfl, Nat.le_of_ble_eq_true rfl⟩ ⟨[0, 1, 2], [3, 4, 5, 6, 7, 8, 9, 10, 11, 12, 13, 14, 15, 16, 17, 18], [16, 17, 18, 0, 1, 2, 3, 4, 5, 6, 7, 8, 9, 10, 11, 12, 13, 14, 15], rfl, rfl, rfl, rfl, rfl, rfl, rfl, rfl, rfl⟩ 0 rfl rfl rfl hl.1 rfl (Nat.le_of_ble_eq_true rfl) dX7_works_5 hQ
  obtain ⟨⟨⟩, hC, hm⟩ := bq_bd_el hm
  refine bq_V (As := []) (rest := []) (st1 := []) (ws' := wdX7_works cI a_t a_t_rig a_t_rig_sequence a_t_rig_sequence_cuts a_t_rig_sequence_groupOfStep a_t_rig_sequence_minus a_t_rig_sequence_pauses a_t_rig_sequence_plus a_t_rig_strokes a_t_trial a_t_trial_circuit a_t_trial_faults a_t_trial_log a_t_trial_log_moves a_t_trial_log_times a_t_trial_positions a_t_trial_score a_t_trial_strokes a_t_trial_timers u_t_reader u_t_snapshot u_t_spare u_t_rig_circuit u_t_rig_log u_t_rig_score u_t_rig_positions u_t_rig_timers u_t_rig_faults u_t_rig_sequence_outBefore r_t_trial_sequence t t_rig t_rig_sequence t_rig_sequence_cuts t_rig_sequence_groupOfStep t_rig_sequence_minus t_rig_sequence_pauses t_rig_sequence_plus t_rig_strokes t_trial t_trial_circuit t_trial_faults t_trial_log t_trial_log_moves t_trial_log_times t_trial_positions t_trial_score t_trial_strokes t_trial_timers) E K w hA (kX7_checkSequence l D cI cJ a_t a_t_rig a_t_rig_sequence u_t_reader a_t_trial u_t_snapshot u_t_spare u_t_rig_circuit u_t_rig_log u_t_rig_score a_t_rig_strokes u_t_rig_positions u_t_rig_timers u_t_rig_faults a_t_rig_sequence_plus a_t_rig_sequence_minus a_t_rig_sequence_pauses u_t_rig_sequence_outBefore a_t_rig_sequence_cuts a_t_rig_sequence_groupOfStep t t_rig t_rig_sequence hC) (bq_gV ml_X7_110 im_X7_checkSequence sl_X7_checkSequence in_X7 cd_X7_checkSequence) hd_X7_checkSequence ⟨Nat.le_of_ble_eq_true rfl, Nat.le_of_ble_eq_true rfl⟩ ⟨Nat.le_of_ble_eq_true rfl, Nat.le_of_ble_eq_true rfl⟩ ⟨[0, 1, 2], [3, 4, 5, 6, 7, 8, 9, 10, 11, 12, 13, 14, 15, 16, 17, 18], [16, 17, 18, 0, 1, 2, 3, 4, 5, 6, 7, 8, 9, 10, 11, 12, 13, 14, 15], rfl, rfl, rfl, rfl, rfl, rfl, rfl, rfl, rfl⟩ 0 rfl rfl rfl hl.1 rfl (Nat.le_of_ble_eq_true rfl) rfl dX7_works_5 (fun H locs w => bq_z ⟨rfl, rfl⟩ ?_)
  clear hC
  cases hm
abbrev wdX7_cycleTime (cI : ClassId) (a_t a_t_rig a_t_rig_sequence a_t_rig_sequence_cuts a_t_rig_sequence_groupOfStep a_t_rig_sequence_minus a_t_rig_sequence_pauses a_t_rig_sequence_plus a_t_rig_strokes a_t_trial a_t_trial_circuit a_t_trial_faults a_t_trial_log a_t_trial_log_moves a_t_trial_log_times a_t_trial_positions a_t_trial_score a_t_trial_strokes a_t_trial_timers u_t_reader u_t_snapshot u_t_spare u_t_rig_circuit u_t_rig_log u_t_rig_score u_t_rig_positions u_t_rig_timers u_t_rig_faults u_t_rig_sequence_outBefore m_0 : Nat) (t t_rig t_rig_sequence t_rig_sequence_cuts t_rig_sequence_groupOfStep t_rig_sequence_minus t_rig_sequence_pauses t_rig_sequence_plus t_rig_strokes t_trial t_trial_circuit t_trial_faults t_trial_log t_trial_log_moves t_trial_log_times t_trial_positions t_trial_score t_trial_strokes t_trial_timers : Nat → Int32) : va_W := [(a_t, oX7 u_t_reader a_t_rig a_t_trial u_t_snapshot u_t_spare t), (a_t_rig, oX3 a_t_rig_sequence u_t_rig_circuit u_t_rig_log u_t_rig_score a_t_rig_strokes u_t_rig_positions u_t_rig_timers u_t_rig_faults t_rig), (a_t_rig_sequence, oX5 a_t_rig_sequence_plus a_t_rig_sequence_minus a_t_rig_sequence_pauses u_t_rig_sequence_outBefore a_t_rig_sequence_cuts a_t_rig_sequence_groupOfStep t_rig_sequence), (a_t_rig_sequence_cuts, oA cI 16 t_rig_sequence_cuts), (a_t_rig_sequence_groupOfStep, oA cI 16 t_rig_sequence_groupOfStep), (a_t_rig_sequence_minus, oA cI 16 t_rig_sequence_minus), (a_t_rig_sequence_pauses, oA cI 16 t_rig_sequence_pauses), (a_t_rig_sequence_plus, oA cI 16 t_rig_sequence_plus), (a_t_rig_strokes, oA cI 6 t_rig_strokes), (a_t_trial, oX3 m_0 a_t_trial_circuit a_t_trial_log a_t_trial_score a_t_trial_strokes a_t_trial_positions a_t_trial_timers a_t_trial_faults t_trial), (a_t_trial_circuit, oX0 t_trial_circuit), (a_t_trial_faults, oA cI 5 t_trial_faults), (a_t_trial_log, oX1 a_t_trial_log_times a_t_trial_log_moves t_trial_log), (a_t_trial_log_moves, oA cI 40 t_trial_log_moves), (a_t_trial_log_times, oA cI 40 t_trial_log_times), (a_t_trial_positions, oA cI 6 t_trial_positions), (a_t_trial_score, oX4 t_trial_score), (a_t_trial_strokes, oA cI 6 t_trial_strokes), (a_t_trial_timers, oA cI 16 t_trial_timers)]
abbrev rmX7_cycleTime : Room := { frames := 5, cells := 0, slots := 0, locals := 118 }
theorem hd_X7_cycleTime : yX7_cycleTime.cls = RX7 ∧ yX7_cycleTime.cls ≠ "java/lang/invoke/MethodHandle" ∧ yX7_cycleTime.cls ≠ "java/lang/invoke/VarHandle" ∧ (parseMethodDescriptor yX7_cycleTime.desc).map (fun d => d.parameters.length) = some 1 := by decide +kernel
set_option maxHeartbeats 4000000 in
set_option maxRecDepth 100000 in
theorem kX7_cycleTime (l : Launch) (D : va_G) (cI cJ : ClassId) (a_t a_t_rig a_t_rig_sequence a_t_rig_sequence_cuts a_t_rig_sequence_groupOfStep a_t_rig_sequence_minus a_t_rig_sequence_pauses a_t_rig_sequence_plus a_t_rig_strokes a_t_trial a_t_trial_circuit a_t_trial_faults a_t_trial_log a_t_trial_log_moves a_t_trial_log_times a_t_trial_positions a_t_trial_score a_t_trial_strokes a_t_trial_timers u_t_reader u_t_snapshot u_t_spare u_t_rig_circuit u_t_rig_log u_t_rig_score u_t_rig_positions u_t_rig_timers u_t_rig_faults u_t_rig_sequence_outBefore r_t_trial_sequence : Nat) (t t_rig t_rig_sequence t_rig_sequence_cuts t_rig_sequence_groupOfStep t_rig_sequence_minus t_rig_sequence_pauses t_rig_sequence_plus t_rig_strokes t_trial t_trial_circuit t_trial_faults t_trial_log t_trial_log_moves t_trial_log_times t_trial_positions t_trial_score t_trial_strokes t_trial_timers : Nat → Int32) (x1 : Int32) (r : Int32) (t_trial_o : Nat → Int32) (t_trial_circuit_o : Nat → Int32) (t_trial_faults_o : Nat → Int32) (t_trial_log_o : Nat → Int32) (t_trial_log_moves_o : Nat → Int32) (t_trial_log_times_o : Nat → Int32) (t_trial_positions_o : Nat → Int32) (t_trial_score_o : Nat → Int32) (t_trial_strokes_o : Nat → Int32) (t_trial_timers_o : Nat → Int32) (hm : mX7_cycleTime t_rig_sequence t_rig_sequence_cuts t_rig_sequence_groupOfStep t_rig_sequence_minus t_rig_sequence_pauses t_rig_sequence_plus t_rig_strokes t_trial t_trial_circuit t_trial_faults t_trial_log t_trial_log_moves t_trial_log_times t_trial_positions t_trial_score t_trial_strokes t_trial_timers x1 = some (r, t_trial_o, t_trial_circuit_o, t_trial_faults_o, t_trial_log_o, t_trial_log_moves_o, t_trial_log_times_o, t_trial_positions_o, t_trial_score_o, t_trial_strokes_o, t_trial_timers_o)) : bq_M l D cI cJ yX7_cycleTime cX7_cycleTime 2 (some .int) rmX7_cycleTime [.ref a_t, .int x1] (wdX7_cycleTime cI a_t a_t_rig a_t_rig_sequence a_t_rig_sequence_cuts a_t_rig_sequence_groupOfStep a_t_rig_sequence_minus a_t_rig_sequence_pauses a_t_rig_sequence_plus a_t_rig_strokes a_t_trial a_t_trial_circuit a_t_trial_faults a_t_trial_log a_t_trial_log_moves a_t_trial_log_times a_t_trial_positions a_t_trial_score a_t_trial_strokes a_t_trial_timers u_t_reader u_t_snapshot u_t_spare u_t_rig_circuit u_t_rig_log u_t_rig_score u_t_rig_positions u_t_rig_timers u_t_rig_faults u_t_rig_sequence_outBefore r_t_trial_sequence t t_rig t_rig_sequence t_rig_sequence_cuts t_rig_sequence_groupOfStep t_rig_sequence_minus t_rig_sequence_pauses t_rig_sequence_plus t_rig_strokes t_trial t_trial_circuit t_trial_faults t_trial_log t_trial_log_moves t_trial_log_times t_trial_positions t_trial_score t_trial_strokes t_trial_timers) (wdX7_cycleTime cI a_t a_t_rig a_t_rig_sequence a_t_rig_sequence_cuts a_t_rig_sequence_groupOfStep a_t_rig_sequence_minus a_t_rig_sequence_pauses a_t_rig_sequence_plus a_t_rig_strokes a_t_trial a_t_trial_circuit a_t_trial_faults a_t_trial_log a_t_trial_log_moves a_t_trial_log_times a_t_trial_positions a_t_trial_score a_t_trial_strokes a_t_trial_timers u_t_reader u_t_snapshot u_t_spare u_t_rig_circuit u_t_rig_log u_t_rig_score u_t_rig_positions u_t_rig_timers u_t_rig_faults u_t_rig_sequence_outBefore a_t_rig_sequence t t_rig t_rig_sequence t_rig_sequence_cuts t_rig_sequence_groupOfStep t_rig_sequence_minus t_rig_sequence_pauses t_rig_sequence_plus t_rig_strokes t_trial_o t_trial_circuit_o t_trial_faults_o t_trial_log_o t_trial_log_moves_o t_trial_log_times_o t_trial_positions_o t_trial_score_o t_trial_strokes_o t_trial_timers_o) (some (.int r)) := by
  refine bq_start (by decide) (Nat.le_of_ble_eq_true rfl) ?_
  intro p e s m av9 below meth c A ls Q H locs E K w hA hr hk hn hQ hl
  have E : bq_E p m c cX7_cycleTime 2 s av9 RX7 := E
  have hx := E.1
  have hb := E.2.1
  have hl : lv_has ls 2 [(0, .ref a_t), (1, .int x1)] := hl
  unfold mX7_cycleTime at hm
  refine lv_iload_n hx hb dX7_cycleTime_0 rfl (lv_at hl 1 rfl) ?_
  obtain ⟨⟨⟩, hC, hm⟩ := bq_bd_el hm
  refine bq_S0 (As := [.int x1]) (rest := []) (st1 := []) E K w hA (kX7_checkMethod l D cI cJ x1 hC) cd_X7_checkMethod ml_X7_131 in_X7 st_X7_checkMethod hs_X7_checkMethod ⟨Nat.le_of_ble_eq_true rfl, Nat.le_of_ble_eq_true rfl⟩ ⟨Nat.le_of_ble_eq_true rfl, Nat.le_of_ble_eq_true rfl⟩ rfl hl.1 rfl (Nat.le_of_ble_eq_true rfl) rfl dX7_cycleTime_1 (fun H locs w => bq_z ⟨rfl, rfl⟩ ?_)
  clear hC
  refine lv_aload_n hx hb dX7_cycleTime_4 rfl (lv_at hl 0 rfl) ?_
  obtain ⟨⟨⟩, hC, hm⟩ := bq_bd_el hm
  refine bq_V (As := []) (rest := []) (st1 := []) (ws' := wdX7_cycleTime cI a_t a_t_rig a_t_rig_sequence a_t_rig_sequence_cuts a_t_rig_sequence_groupOfStep a_t_rig_sequence_minus a_t_rig_sequence_pauses a_t_rig_sequence_plus a_t_rig_strokes a_t_trial a_t_trial_circuit a_t_trial_faults a_t_trial_log a_t_trial_log_moves a_t_trial_log_times a_t_trial_positions a_t_trial_score a_t_trial_strokes a_t_trial_timers u_t_reader u_t_snapshot u_t_spare u_t_rig_circuit u_t_rig_log u_t_rig_score u_t_rig_positions u_t_rig_timers u_t_rig_faults u_t_rig_sequence_outBefore r_t_trial_sequence t t_rig t_rig_sequence t_rig_sequence_cuts t_rig_sequence_groupOfStep t_rig_sequence_minus t_rig_sequence_pauses t_rig_sequence_plus t_rig_strokes t_trial t_trial_circuit t_trial_faults t_trial_log t_trial_log_moves t_trial_log_times t_trial_positions t_trial_score t_trial_strokes t_trial_timers) E K w hA (kX7_checkSequence l D cI cJ a_t a_t_rig a_t_rig_sequence u_t_reader a_t_trial u_t_snapshot u_t_spare u_t_rig_circuit u_t_rig_log u_t_rig_score a_t_rig_strokes u_t_rig_positions u_t_rig_timers u_t_rig_faults a_t_rig_sequence_plus a_t_rig_sequence_minus a_t_rig_sequence_pauses u_t_rig_sequence_outBefore a_t_rig_sequence_cuts a_t_rig_sequence_groupOfStep t t_rig t_rig_sequence hC) (bq_gV ml_X7_110 im_X7_checkSequence sl_X7_checkSequence in_X7 cd_X7_checkSequence) hd_X7_checkSequence ⟨Nat.le_of_ble_eq_true rfl, Nat.le_of_ble_eq_true rfl⟩ ⟨Nat.le_of_ble_eq_true rfl, Nat.le_of_ble_eq_true rfl⟩ ⟨[0, 1, 2], [3, 4, 5, 6, 7, 8, 9, 10, 11, 12, 13, 14, 15, 16, 17, 18], [16, 17, 18, 0, 1, 2, 3, 4, 5, 6, 7, 8, 9, 10, 11, 12, 13, 14, 15], rfl, rfl, rfl, rfl, rfl, rfl, rfl, rfl, rfl⟩ 0 rfl rfl rfl hl.1 rfl (Nat.le_of_ble_eq_true rfl) rfl dX7_cycleTime_5 (fun H locs w => bq_z ⟨rfl, rfl⟩ ?_)
  clear hC
  refine lv_aload_n hx hb dX7_cycleTime_8 rfl (lv_at hl 0 rfl) ?_
  refine lv_iload_n hx hb dX7_cycleTime_9 rfl (lv_at hl 1 rfl) ?_
  obtain ⟨v1, t_trial_2, t_trial_circuit_3, t_trial_faults_4, t_trial_log_5, t_trial_log_moves_6, t_trial_log_times_7, t_trial_positions_8, t_trial_score_9, t_trial_strokes_10, t_trial_timers_11, hC, hm⟩ := bq_b11_el hm
  refine bq_V (As := [.int x1]) (rest := []) (st1 := [.int v1]) (ws' := wdX7_cycleTime cI a_t a_t_rig a_t_rig_sequence a_t_rig_sequence_cuts a_t_rig_sequence_groupOfStep a_t_rig_sequence_minus a_t_rig_sequence_pauses a_t_rig_sequence_plus a_t_rig_strokes a_t_trial a_t_trial_circuit a_t_trial_faults a_t_trial_log a_t_trial_log_moves a_t_trial_log_times a_t_trial_positions a_t_trial_score a_t_trial_strokes a_t_trial_timers u_t_reader u_t_snapshot u_t_spare u_t_rig_circuit u_t_rig_log u_t_rig_score u_t_rig_positions u_t_rig_timers u_t_rig_faults u_t_rig_sequence_outBefore a_t_rig_sequence t t_rig t_rig_sequence t_rig_sequence_cuts t_rig_sequence_groupOfStep t_rig_sequence_minus t_rig_sequence_pauses t_rig_sequence_plus t_rig_strokes t_trial_2 t_trial_circuit_3 t_trial_faults_4 t_trial_log_5 t_trial_log_moves_6 t_trial_log_times_7 t_trial_positions_8 t_trial_score_9 t_trial_strokes_10 t_trial_timers_11) E K w hA (kX7_measureCycle l D cI cJ a_t a_t_rig a_t_rig_sequence a_t_rig_sequence_cuts a_t_rig_sequence_groupOfStep a_t_rig_sequence_minus a_t_rig_sequence_pauses a_t_rig_sequence_plus a_t_rig_strokes a_t_trial a_t_trial_circuit a_t_trial_faults a_t_trial_log a_t_trial_log_moves a_t_trial_log_times a_t_trial_positions a_t_trial_score a_t_trial_strokes a_t_trial_timers u_t_reader u_t_snapshot u_t_spare u_t_rig_circuit u_t_rig_log u_t_rig_score u_t_rig_positions u_t_rig_timers u_t_rig_faults u_t_rig_sequence_outBefore r_t_trial_sequence t t_rig t_rig_sequence t_rig_sequence_cuts t_rig_sequence_groupOfStep t_rig_sequence_minus t_rig_sequence_pauses t_rig_sequence_plus t_rig_strokes t_trial t_trial_circuit t_trial_faults t_trial_log t_trial_log_moves t_trial_log_times t_trial_positions t_trial_score t_trial_strokes t_trial_timers x1 v1 t_trial_2 t_trial_circuit_3 t_trial_faults_4 t_trial_log_5 t_trial_log_moves_6 t_trial_log_times_7 t_trial_positions_8 t_trial_score_9 t_trial_strokes_10 t_trial_timers_11 hC) (bq_gV ml_X7_231 im_X7_measureCycle sl_X7_measureCycle in_X7 cd_X7_measureCycle) hd_X7_measureCycle ⟨Nat.le_of_ble_eq_true rfl, Nat.le_of_ble_eq_true rfl⟩ ⟨Nat.le_of_ble_eq_true rfl, Nat.le_of_ble_eq_true rfl⟩ ⟨[0, 1, 2, 3, 4, 5, 6, 7, 8, 9, 10, 11, 12, 13, 14, 15, 16, 17, 18], [], [0, 1, 2, 3, 4, 5, 6, 7, 8, 9, 10, 11, 12, 13, 14, 15, 16, 17, 18], rfl, rfl, rfl, rfl, rfl, rfl, rfl, rfl, rfl⟩ 0 rfl rfl rfl hl.1 rfl (Nat.le_of_ble_eq_true rfl) rfl dX7_cycleTime_10 (fun H locs w => bq_z ⟨rfl, rfl⟩ ?_)
  clear hC
  obtain ⟨rfl, rfl, rfl, rfl, rfl, rfl, rfl, rfl, rfl, rfl, rfl⟩ := bq_in11 (Option.some.inj hm)
  exact bq_iret E w hr hk dX7_cycleTime_13 hQ
abbrev rmTX7_cycleTime : Room := { frames := 7, cells := 1, slots := 6, locals := 120 }
set_option maxHeartbeats 4000000 in
set_option maxRecDepth 100000 in
theorem tkX7_cycleTime {l : Launch} (hlf : l.stackTraces = false) (D : va_G) (cI cJ : ClassId) (a_t a_t_rig a_t_rig_sequence a_t_rig_sequence_cuts a_t_rig_sequence_groupOfStep a_t_rig_sequence_minus a_t_rig_sequence_pauses a_t_rig_sequence_plus a_t_rig_strokes a_t_trial a_t_trial_circuit a_t_trial_faults a_t_trial_log a_t_trial_log_moves a_t_trial_log_times a_t_trial_positions a_t_trial_score a_t_trial_strokes a_t_trial_timers u_t_reader u_t_snapshot u_t_spare u_t_rig_circuit u_t_rig_log u_t_rig_score u_t_rig_positions u_t_rig_timers u_t_rig_faults u_t_rig_sequence_outBefore r_t_trial_sequence : Nat) (t t_rig t_rig_sequence t_rig_sequence_cuts t_rig_sequence_groupOfStep t_rig_sequence_minus t_rig_sequence_pauses t_rig_sequence_plus t_rig_strokes t_trial t_trial_circuit t_trial_faults t_trial_log t_trial_log_moves t_trial_log_times t_trial_positions t_trial_score t_trial_strokes t_trial_timers : Nat → Int32) (x1 : Int32) (r : Nat) (hm : tX7_cycleTime t_rig_sequence t_rig_sequence_cuts t_rig_sequence_groupOfStep t_rig_sequence_minus t_rig_sequence_pauses t_rig_sequence_plus t_rig_strokes t_trial t_trial_circuit t_trial_faults t_trial_log t_trial_log_moves t_trial_log_times t_trial_positions t_trial_score t_trial_strokes t_trial_timers x1 = some r) : bq_MT l D cI cJ yX7_cycleTime cX7_cycleTime 2 (some .int) rmTX7_cycleTime [.ref a_t, .int x1] (wdX7_cycleTime cI a_t a_t_rig a_t_rig_sequence a_t_rig_sequence_cuts a_t_rig_sequence_groupOfStep a_t_rig_sequence_minus a_t_rig_sequence_pauses a_t_rig_sequence_plus a_t_rig_strokes a_t_trial a_t_trial_circuit a_t_trial_faults a_t_trial_log a_t_trial_log_moves a_t_trial_log_times a_t_trial_positions a_t_trial_score a_t_trial_strokes a_t_trial_timers u_t_reader u_t_snapshot u_t_spare u_t_rig_circuit u_t_rig_log u_t_rig_score u_t_rig_positions u_t_rig_timers u_t_rig_faults u_t_rig_sequence_outBefore r_t_trial_sequence t t_rig t_rig_sequence t_rig_sequence_cuts t_rig_sequence_groupOfStep t_rig_sequence_minus t_rig_sequence_pauses t_rig_sequence_plus t_rig_strokes t_trial t_trial_circuit t_trial_faults t_trial_log t_trial_log_moves t_trial_log_times t_trial_positions t_trial_score t_trial_strokes t_trial_timers) (bq_cls r) := by
  refine bq_startT (by decide) (Nat.le_of_ble_eq_true rfl) ?_
  intro p e s m av9 below meth c A ls Q H locs E K w hA hnt hk hX hQ hl
  have E : bq_E p m c cX7_cycleTime 2 s av9 RX7 := E
  have hx := E.1
  have hb := E.2.1
  have hl : lv_has ls 2 [(0, .ref a_t), (1, .int x1)] := hl
  unfold tX7_cycleTime at hm
  refine lv_iload_n hx hb dX7_cycleTime_0 rfl (lv_at hl 1 rfl) ?_
  refine (bq_tc_el hm).elim (fun hC => ?_) (fun hm => ?_)
  · exact bq_TS (As := [.int x1]) (rest := []) E K w hA hX hnt hk ⟨rfl, rfl⟩ (tkX7_checkMethod hlf D cI cJ x1 _ hC) cd_X7_checkMethod ml_X7_131 in_X7 st_X7_checkMethod hs_X7_checkMethod ⟨Nat.le_of_ble_eq_true rfl, Nat.le_of_ble_eq_true rfl⟩ ⟨Nat.le_of_ble_eq_true rfl, Nat.le_of_ble_eq_true rfl⟩ ⟨[], [0, 1, 2, 3, 4, 5, 6, 7, 8, 9, 10, 11, 12, 13, 14, 15, 16, 17, 18], [0, 1, 2, 3, 4, 5, 6, 7, 8, 9, 10, 11, 12, 13, 14, 15, 16, 17, 18], rfl, rfl, rfl, rfl, rfl, rfl, rfl, rfl, rfl⟩ rfl hl.1 rfl (Nat.le_of_ble_eq_true rfl) dX7_cycleTime_1 hQ
  obtain ⟨⟨⟩, hC, hm⟩ := bq_bd_el hm
  refine bq_S0 (As := [.int x1]) (rest := []) (st1 := []) E K w hA (kX7_checkMethod l D cI cJ x1 hC) cd_X7_checkMethod ml_X7_131 in_X7 st_X7_checkMethod hs_X7_checkMethod ⟨Nat.le_of_ble_eq_true rfl, Nat.le_of_ble_eq_true rfl⟩ ⟨Nat.le_of_ble_eq_true rfl, Nat.le_of_ble_eq_true rfl⟩ rfl hl.1 rfl (Nat.le_of_ble_eq_true rfl) rfl dX7_cycleTime_1 (fun H locs w => bq_z ⟨rfl, rfl⟩ ?_)
  clear hC
  refine lv_aload_n hx hb dX7_cycleTime_4 rfl (lv_at hl 0 rfl) ?_
  refine (bq_tc_el hm).elim (fun hC => ?_) (fun hm => ?_)
  · exact bq_TV (As := []) (rest := []) E K w hA hX hnt hk ⟨rfl, rfl⟩ (tkX7_checkSequence hlf D cI cJ a_t a_t_rig a_t_rig_sequence u_t_reader a_t_trial u_t_snapshot u_t_spare u_t_rig_circuit u_t_rig_log u_t_rig_score a_t_rig_strokes u_t_rig_positions u_t_rig_timers u_t_rig_faults a_t_rig_sequence_plus a_t_rig_sequence_minus a_t_rig_sequence_pauses u_t_rig_sequence_outBefore a_t_rig_sequence_cuts a_t_rig_sequence_groupOfStep t t_rig t_rig_sequence _ hC) (bq_gV ml_X7_110 im_X7_checkSequence sl_X7_checkSequence in_X7 cd_X7_checkSequence) hd_X7_checkSequence ⟨Nat.le_of_ble_eq_true rfl, Nat.le_of_ble_eq_true rfl⟩ ⟨Nat.le_of_ble_eq_true rfl, Nat.le_of_ble_eq_true rfl⟩ ⟨[0, 1, 2], [3, 4, 5, 6, 7, 8, 9, 10, 11, 12, 13, 14, 15, 16, 17, 18], [16, 17, 18, 0, 1, 2, 3, 4, 5, 6, 7, 8, 9, 10, 11, 12, 13, 14, 15], rfl, rfl, rfl, rfl, rfl, rfl, rfl, rfl, rfl⟩ 0 rfl rfl rfl hl.1 rfl (Nat.le_of_ble_eq_true rfl) dX7_cycleTime_5 hQ
  obtain ⟨⟨⟩, hC, hm⟩ := bq_bd_el hm
  refine bq_V (As := []) (rest := []) (st1 := []) (ws' := wdX7_cycleTime cI a_t a_t_rig a_t_rig_sequence a_t_rig_sequence_cuts a_t_rig_sequence_groupOfStep a_t_rig_sequence_minus a_t_rig_sequence_pauses a_t_rig_sequence_plus a_t_rig_strokes a_t_trial a_t_trial_circuit a_t_trial_faults a_t_trial_log a_t_trial_log_moves a_t_trial_log_times a_t_trial_positions a_t_trial_score a_t_trial_strokes a_t_trial_timers u_t_reader u_t_snapshot u_t_spare u_t_rig_circuit u_t_rig_log u_t_rig_score u_t_rig_positions u_t_rig_timers u_t_rig_faults u_t_rig_sequence_outBefore r_t_trial_sequence t t_rig t_rig_sequence t_rig_sequence_cuts t_rig_sequence_groupOfStep t_rig_sequence_minus t_rig_sequence_pauses t_rig_sequence_plus t_rig_strokes t_trial t_trial_circuit t_trial_faults t_trial_log t_trial_log_moves t_trial_log_times t_trial_positions t_trial_score t_trial_strokes t_trial_timers) E K w hA (kX7_checkSequence l D cI cJ a_t a_t_rig a_t_rig_sequence u_t_reader a_t_trial u_t_snapshot u_t_spare u_t_rig_circuit u_t_rig_log u_t_rig_score a_t_rig_strokes u_t_rig_positions u_t_rig_timers u_t_rig_faults a_t_rig_sequence_plus a_t_rig_sequence_minus a_t_rig_sequence_pauses u_t_rig_sequence_outBefore a_t_rig_sequence_cuts a_t_rig_sequence_groupOfStep t t_rig t_rig_sequence hC) (bq_gV ml_X7_110 im_X7_checkSequence sl_X7_checkSequence in_X7 cd_X7_checkSequence) hd_X7_checkSequence ⟨Nat.le_of_ble_eq_true rfl, Nat.le_of_ble_eq_true rfl⟩ ⟨Nat.le_of_ble_eq_true rfl, Nat.le_of_ble_eq_true rfl⟩ ⟨[0, 1, 2], [3, 4, 5, 6, 7, 8, 9, 10, 11, 12, 13, 14, 15, 16, 17, 18], [16, 17, 18, 0, 1, 2, 3, 4, 5, 6, 7, 8, 9, 10, 11, 12, 13, 14, 15], rfl, rfl, rfl, rfl, rfl, rfl, rfl, rfl, rfl⟩ 0 rfl rfl rfl hl.1 rfl (Nat.le_of_ble_eq_true rfl) rfl dX7_cycleTime_5 (fun H locs w => bq_z ⟨rfl, rfl⟩ ?_)
  clear hC
  cases hm
abbrev wdX7_cheapest (cI : ClassId) (a_t a_t_rig a_t_rig_sequence a_t_rig_sequence_cuts a_t_rig_sequence_groupOfStep a_t_rig_sequence_minus a_t_rig_sequence_pauses a_t_rig_sequence_plus a_t_rig_strokes a_t_trial a_t_trial_circuit a_t_trial_faults a_t_trial_log a_t_trial_log_moves a_t_trial_log_times a_t_trial_positions a_t_trial_score a_t_trial_strokes a_t_trial_timers u_t_reader u_t_snapshot u_t_spare u_t_rig_circuit u_t_rig_log u_t_rig_score u_t_rig_positions u_t_rig_timers u_t_rig_faults u_t_rig_sequence_outBefore m_0 : Nat) (t t_rig t_rig_sequence t_rig_sequence_cuts t_rig_sequence_groupOfStep t_rig_sequence_minus t_rig_sequence_pauses t_rig_sequence_plus t_rig_strokes t_trial t_trial_circuit t_trial_faults t_trial_log t_trial_log_moves t_trial_log_times t_trial_positions t_trial_score t_trial_strokes t_trial_timers : Nat → Int32) : va_W := [(a_t, oX7 u_t_reader a_t_rig a_t_trial u_t_snapshot u_t_spare t), (a_t_rig, oX3 a_t_rig_sequence u_t_rig_circuit u_t_rig_log u_t_rig_score a_t_rig_strokes u_t_rig_positions u_t_rig_timers u_t_rig_faults t_rig), (a_t_rig_sequence, oX5 a_t_rig_sequence_plus a_t_rig_sequence_minus a_t_rig_sequence_pauses u_t_rig_sequence_outBefore a_t_rig_sequence_cuts a_t_rig_sequence_groupOfStep t_rig_sequence), (a_t_rig_sequence_cuts, oA cI 16 t_rig_sequence_cuts), (a_t_rig_sequence_groupOfStep, oA cI 16 t_rig_sequence_groupOfStep), (a_t_rig_sequence_minus, oA cI 16 t_rig_sequence_minus), (a_t_rig_sequence_pauses, oA cI 16 t_rig_sequence_pauses), (a_t_rig_sequence_plus, oA cI 16 t_rig_sequence_plus), (a_t_rig_strokes, oA cI 6 t_rig_strokes), (a_t_trial, oX3 m_0 a_t_trial_circuit a_t_trial_log a_t_trial_score a_t_trial_strokes a_t_trial_positions a_t_trial_timers a_t_trial_faults t_trial), (a_t_trial_circuit, oX0 t_trial_circuit), (a_t_trial_faults, oA cI 5 t_trial_faults), (a_t_trial_log, oX1 a_t_trial_log_times a_t_trial_log_moves t_trial_log), (a_t_trial_log_moves, oA cI 40 t_trial_log_moves), (a_t_trial_log_times, oA cI 40 t_trial_log_times), (a_t_trial_positions, oA cI 6 t_trial_positions), (a_t_trial_score, oX4 t_trial_score), (a_t_trial_strokes, oA cI 6 t_trial_strokes), (a_t_trial_timers, oA cI 16 t_trial_timers)]
abbrev rmX7_cheapest : Room := { frames := 5, cells := 0, slots := 0, locals := 118 }
theorem hd_X7_cheapest : yX7_cheapest.cls = RX7 ∧ yX7_cheapest.cls ≠ "java/lang/invoke/MethodHandle" ∧ yX7_cheapest.cls ≠ "java/lang/invoke/VarHandle" ∧ (parseMethodDescriptor yX7_cheapest.desc).map (fun d => d.parameters.length) = some 0 := by decide +kernel
set_option maxHeartbeats 4000000 in
set_option maxRecDepth 100000 in
theorem kX7_cheapest (l : Launch) (D : va_G) (cI cJ : ClassId) (a_t a_t_rig a_t_rig_sequence a_t_rig_sequence_cuts a_t_rig_sequence_groupOfStep a_t_rig_sequence_minus a_t_rig_sequence_pauses a_t_rig_sequence_plus a_t_rig_strokes a_t_trial a_t_trial_circuit a_t_trial_faults a_t_trial_log a_t_trial_log_moves a_t_trial_log_times a_t_trial_positions a_t_trial_score a_t_trial_strokes a_t_trial_timers u_t_reader u_t_snapshot u_t_spare u_t_rig_circuit u_t_rig_log u_t_rig_score u_t_rig_positions u_t_rig_timers u_t_rig_faults u_t_rig_sequence_outBefore r_t_trial_sequence : Nat) (t t_rig t_rig_sequence t_rig_sequence_cuts t_rig_sequence_groupOfStep t_rig_sequence_minus t_rig_sequence_pauses t_rig_sequence_plus t_rig_strokes t_trial t_trial_circuit t_trial_faults t_trial_log t_trial_log_moves t_trial_log_times t_trial_positions t_trial_score t_trial_strokes t_trial_timers : Nat → Int32) (r : Int32) (t_trial_o : Nat → Int32) (t_trial_circuit_o : Nat → Int32) (t_trial_faults_o : Nat → Int32) (t_trial_log_o : Nat → Int32) (t_trial_log_moves_o : Nat → Int32) (t_trial_log_times_o : Nat → Int32) (t_trial_positions_o : Nat → Int32) (t_trial_score_o : Nat → Int32) (t_trial_strokes_o : Nat → Int32) (t_trial_timers_o : Nat → Int32) (q0_o : Nat) (hm : mX7_cheapest r_t_trial_sequence a_t_rig_sequence t_rig_sequence t_rig_sequence_cuts t_rig_sequence_groupOfStep t_rig_sequence_minus t_rig_sequence_pauses t_rig_sequence_plus t_rig_strokes t_trial t_trial_circuit t_trial_faults t_trial_log t_trial_log_moves t_trial_log_times t_trial_positions t_trial_score t_trial_strokes t_trial_timers = some (r, t_trial_o, t_trial_circuit_o, t_trial_faults_o, t_trial_log_o, t_trial_log_moves_o, t_trial_log_times_o, t_trial_positions_o, t_trial_score_o, t_trial_strokes_o, t_trial_timers_o, q0_o)) : bq_M l D cI cJ yX7_cheapest cX7_cheapest 5 (some .int) rmX7_cheapest [.ref a_t] (wdX7_cheapest cI a_t a_t_rig a_t_rig_sequence a_t_rig_sequence_cuts a_t_rig_sequence_groupOfStep a_t_rig_sequence_minus a_t_rig_sequence_pauses a_t_rig_sequence_plus a_t_rig_strokes a_t_trial a_t_trial_circuit a_t_trial_faults a_t_trial_log a_t_trial_log_moves a_t_trial_log_times a_t_trial_positions a_t_trial_score a_t_trial_strokes a_t_trial_timers u_t_reader u_t_snapshot u_t_spare u_t_rig_circuit u_t_rig_log u_t_rig_score u_t_rig_positions u_t_rig_timers u_t_rig_faults u_t_rig_sequence_outBefore r_t_trial_sequence t t_rig t_rig_sequence t_rig_sequence_cuts t_rig_sequence_groupOfStep t_rig_sequence_minus t_rig_sequence_pauses t_rig_sequence_plus t_rig_strokes t_trial t_trial_circuit t_trial_faults t_trial_log t_trial_log_moves t_trial_log_times t_trial_positions t_trial_score t_trial_strokes t_trial_timers) (wdX7_cheapest cI a_t a_t_rig a_t_rig_sequence a_t_rig_sequence_cuts a_t_rig_sequence_groupOfStep a_t_rig_sequence_minus a_t_rig_sequence_pauses a_t_rig_sequence_plus a_t_rig_strokes a_t_trial a_t_trial_circuit a_t_trial_faults a_t_trial_log a_t_trial_log_moves a_t_trial_log_times a_t_trial_positions a_t_trial_score a_t_trial_strokes a_t_trial_timers u_t_reader u_t_snapshot u_t_spare u_t_rig_circuit u_t_rig_log u_t_rig_score u_t_rig_positions u_t_rig_timers u_t_rig_faults u_t_rig_sequence_outBefore q0_o t t_rig t_rig_sequence t_rig_sequence_cuts t_rig_sequence_groupOfStep t_rig_sequence_minus t_rig_sequence_pauses t_rig_sequence_plus t_rig_strokes t_trial_o t_trial_circuit_o t_trial_faults_o t_trial_log_o t_trial_log_moves_o t_trial_log_times_o t_trial_positions_o t_trial_score_o t_trial_strokes_o t_trial_timers_o) (some (.int r)) := by
  refine bq_start (by decide) (Nat.le_of_ble_eq_true rfl) ?_
  intro p e s m av9 below meth c A ls Q H locs E K w hA hr hk hn hQ hl
  have E : bq_E p m c cX7_cheapest 5 s av9 RX7 := E
  have hx := E.1
  have hb := E.2.1
  have hl : lv_has ls 5 [(0, .ref a_t)] := hl
  unfold mX7_cheapest at hm
  refine lv_aload_n hx hb dX7_cheapest_0 rfl (lv_at hl 0 rfl) ?_
  obtain ⟨⟨⟩, hC, hm⟩ := bq_bd_el hm
  refine bq_V (As := []) (rest := []) (st1 := []) (ws' := wdX7_cheapest cI a_t a_t_rig a_t_rig_sequence a_t_rig_sequence_cuts a_t_rig_sequence_groupOfStep a_t_rig_sequence_minus a_t_rig_sequence_pauses a_t_rig_sequence_plus a_t_rig_strokes a_t_trial a_t_trial_circuit a_t_trial_faults a_t_trial_log a_t_trial_log_moves a_t_trial_log_times a_t_trial_positions a_t_trial_score a_t_trial_strokes a_t_trial_timers u_t_reader u_t_snapshot u_t_spare u_t_rig_circuit u_t_rig_log u_t_rig_score u_t_rig_positions u_t_rig_timers u_t_rig_faults u_t_rig_sequence_outBefore r_t_trial_sequence t t_rig t_rig_sequence t_rig_sequence_cuts t_rig_sequence_groupOfStep t_rig_sequence_minus t_rig_sequence_pauses t_rig_sequence_plus t_rig_strokes t_trial t_trial_circuit t_trial_faults t_trial_log t_trial_log_moves t_trial_log_times t_trial_positions t_trial_score t_trial_strokes t_trial_timers) E K w hA (kX7_checkSequence l D cI cJ a_t a_t_rig a_t_rig_sequence u_t_reader a_t_trial u_t_snapshot u_t_spare u_t_rig_circuit u_t_rig_log u_t_rig_score a_t_rig_strokes u_t_rig_positions u_t_rig_timers u_t_rig_faults a_t_rig_sequence_plus a_t_rig_sequence_minus a_t_rig_sequence_pauses u_t_rig_sequence_outBefore a_t_rig_sequence_cuts a_t_rig_sequence_groupOfStep t t_rig t_rig_sequence hC) (bq_gV ml_X7_110 im_X7_checkSequence sl_X7_checkSequence in_X7 cd_X7_checkSequence) hd_X7_checkSequence ⟨Nat.le_of_ble_eq_true rfl, Nat.le_of_ble_eq_true rfl⟩ ⟨Nat.le_of_ble_eq_true rfl, Nat.le_of_ble_eq_true rfl⟩ ⟨[0, 1, 2], [3, 4, 5, 6, 7, 8, 9, 10, 11, 12, 13, 14, 15, 16, 17, 18], [16, 17, 18, 0, 1, 2, 3, 4, 5, 6, 7, 8, 9, 10, 11, 12, 13, 14, 15], rfl, rfl, rfl, rfl, rfl, rfl, rfl, rfl, rfl⟩ 0 rfl rfl rfl hl.1 rfl (Nat.le_of_ble_eq_true rfl) rfl dX7_cheapest_1 (fun H locs w => bq_z ⟨rfl, rfl⟩ ?_)
  clear hC
  refine lv_iconst (v := (-1)) hx hb dX7_cheapest_4 (by decide) ?_
  refine lv_istore_n (lv' := [(1, .int (-1)), (0, .ref a_t)]) hx hb dX7_cheapest_5 rfl hl (by decide) rfl (fun ls hl => ?_)
  refine lv_iconst (v := 0) hx hb dX7_cheapest_6 (by decide) ?_
  refine lv_istore_n (lv' := [(2, .int 0), (1, .int (-1)), (0, .ref a_t)]) hx hb dX7_cheapest_7 rfl hl (by decide) rfl (fun ls hl => ?_)
  refine lv_iconst (v := 0) hx hb dX7_cheapest_8 (by decide) ?_
  refine lv_istore_n (lv' := [(3, .int 0), (2, .int 0), (1, .int (-1)), (0, .ref a_t)]) hx hb dX7_cheapest_9 rfl hl (by decide) rfl (fun ls hl => ?_)
  obtain ⟨v15, t_trial_16, t_trial_circuit_17, t_trial_faults_18, t_trial_log_19, t_trial_log_moves_20, t_trial_log_times_21, t_trial_positions_22, t_trial_score_23, t_trial_strokes_24, t_trial_timers_25, q26, hL, hm⟩ := bq_b12_el hm
  obtain ⟨B, eB, nn, hL⟩ := bq_loop_B hL
  have X51 : ∀ (H : Heap) (locs : List Loc) (ls : Array Slot), bq_w D A s.heap (wdX7_cheapest cI a_t a_t_rig a_t_rig_sequence a_t_rig_sequence_cuts a_t_rig_sequence_groupOfStep a_t_rig_sequence_minus a_t_rig_sequence_pauses a_t_rig_sequence_plus a_t_rig_strokes a_t_trial a_t_trial_circuit a_t_trial_faults a_t_trial_log a_t_trial_log_moves a_t_trial_log_times a_t_trial_positions a_t_trial_score a_t_trial_strokes a_t_trial_timers u_t_reader u_t_snapshot u_t_spare u_t_rig_circuit u_t_rig_log u_t_rig_score u_t_rig_positions u_t_rig_timers u_t_rig_faults u_t_rig_sequence_outBefore q26 t t_rig t_rig_sequence t_rig_sequence_cuts t_rig_sequence_groupOfStep t_rig_sequence_minus t_rig_sequence_pauses t_rig_sequence_plus t_rig_strokes t_trial_16 t_trial_circuit_17 t_trial_faults_18 t_trial_log_19 t_trial_log_moves_20 t_trial_log_times_21 t_trial_positions_22 t_trial_score_23 t_trial_strokes_24 t_trial_timers_25) H locs → lv_has ls 5 [(1, .int v15)] → W p l e rmX7_cheapest s m av9 below meth c H locs 0 0 Q (F0 m 51 ls []) := by
    intro H locs ls w hl
    refine lv_iload_n hx hb dX7_cheapest_51 rfl (lv_at hl 0 rfl) ?_
    obtain ⟨rfl, rfl, rfl, rfl, rfl, rfl, rfl, rfl, rfl, rfl, rfl, rfl⟩ := bq_in12 (Option.some.inj hm)
    exact bq_iret E w hr hk dX7_cheapest_52 hQ
  clear hm
  have L10 : ∀ (nn : Nat) (i1 : Int32) (i2 : Int32) (i3 : Int32) (t_trial_4 : Nat → Int32) (t_trial_circuit_5 : Nat → Int32) (t_trial_faults_6 : Nat → Int32) (t_trial_log_7 : Nat → Int32) (t_trial_log_moves_8 : Nat → Int32) (t_trial_log_times_9 : Nat → Int32) (t_trial_positions_10 : Nat → Int32) (t_trial_score_11 : Nat → Int32) (t_trial_strokes_12 : Nat → Int32) (t_trial_timers_13 : Nat → Int32) (q14 : Nat) (H : Heap) (locs : List Loc) (ls : Array Slot), bq_lp B nn (i1, i2, i3, t_trial_4, t_trial_circuit_5, t_trial_faults_6, t_trial_log_7, t_trial_log_moves_8, t_trial_log_times_9, t_trial_positions_10, t_trial_score_11, t_trial_strokes_12, t_trial_timers_13, q14) = some (v15, t_trial_16, t_trial_circuit_17, t_trial_faults_18, t_trial_log_19, t_trial_log_moves_20, t_trial_log_times_21, t_trial_positions_22, t_trial_score_23, t_trial_strokes_24, t_trial_timers_25, q26) → bq_w D A s.heap (wdX7_cheapest cI a_t a_t_rig a_t_rig_sequence a_t_rig_sequence_cuts a_t_rig_sequence_groupOfStep a_t_rig_sequence_minus a_t_rig_sequence_pauses a_t_rig_sequence_plus a_t_rig_strokes a_t_trial a_t_trial_circuit a_t_trial_faults a_t_trial_log a_t_trial_log_moves a_t_trial_log_times a_t_trial_positions a_t_trial_score a_t_trial_strokes a_t_trial_timers u_t_reader u_t_snapshot u_t_spare u_t_rig_circuit u_t_rig_log u_t_rig_score u_t_rig_positions u_t_rig_timers u_t_rig_faults u_t_rig_sequence_outBefore q14 t t_rig t_rig_sequence t_rig_sequence_cuts t_rig_sequence_groupOfStep t_rig_sequence_minus t_rig_sequence_pauses t_rig_sequence_plus t_rig_strokes t_trial_4 t_trial_circuit_5 t_trial_faults_6 t_trial_log_7 t_trial_log_moves_8 t_trial_log_times_9 t_trial_positions_10 t_trial_score_11 t_trial_strokes_12 t_trial_timers_13) H locs → lv_has ls 5 [(0, .ref a_t), (1, .int i3), (2, .int i2), (3, .int i1)] → W p l e rmX7_cheapest s m av9 below meth c H locs 0 0 Q (F0 m 10 ls []) := by
    intro nn
    induction nn with
    | zero =>
      intro i1 i2 i3 t_trial_4 t_trial_circuit_5 t_trial_faults_6 t_trial_log_7 t_trial_log_moves_8 t_trial_log_times_9 t_trial_positions_10 t_trial_score_11 t_trial_strokes_12 t_trial_timers_13 q14 H locs ls hL w hl
      exact bq_lp_0 hL
    | succ nn ih =>
      intro i1 i2 i3 t_trial_4 t_trial_circuit_5 t_trial_faults_6 t_trial_log_7 t_trial_log_moves_8 t_trial_log_times_9 t_trial_positions_10 t_trial_score_11 t_trial_strokes_12 t_trial_timers_13 q14 H locs ls hL w hl
      obtain ⟨oo10, hT10, hR10⟩ := bq_lp_el hL
      clear hL
      replace hT10 := bq_u14_el eB hT10
      unfold bX7_cheapest_10 at hT10
      refine lv_iload_n hx hb dX7_cheapest_10 rfl (lv_at hl 3 rfl) ?_
      refine lv_iconst (v := 3) hx hb dX7_cheapest_11 (by decide) ?_
      refine lv_icmp_ge (tgt := 51) hx hb dX7_cheapest_12 (by decide) (fun hc => ?_) (fun hc => ?_)
      · replace hT10 := bq_t hc hT10
        clear hc
        obtain rfl := Option.some.inj hT10
        replace hR10 := bq_lk_r hR10
        obtain ⟨rfl, rfl, rfl, rfl, rfl, rfl, rfl, rfl, rfl, rfl, rfl, rfl⟩ := bq_in12 hR10
        exact X51 H locs ls w (lv_sub hl [1] rfl)
      · replace hT10 := bq_f hc hT10
        clear hc
        refine lv_aload_n hx hb dX7_cheapest_15 rfl (lv_at hl 0 rfl) ?_
        refine lv_iload_n hx hb dX7_cheapest_16 rfl (lv_at hl 3 rfl) ?_
        obtain ⟨v27, hC, hT10⟩ := bq_bd_el hT10
        refine bq_V (As := [.int i1]) (rest := []) (st1 := [.int v27]) (ws' := wdX7_cheapest cI a_t a_t_rig a_t_rig_sequence a_t_rig_sequence_cuts a_t_rig_sequence_groupOfStep a_t_rig_sequence_minus a_t_rig_sequence_pauses a_t_rig_sequence_plus a_t_rig_strokes a_t_trial a_t_trial_circuit a_t_trial_faults a_t_trial_log a_t_trial_log_moves a_t_trial_log_times a_t_trial_positions a_t_trial_score a_t_trial_strokes a_t_trial_timers u_t_reader u_t_snapshot u_t_spare u_t_rig_circuit u_t_rig_log u_t_rig_score u_t_rig_positions u_t_rig_timers u_t_rig_faults u_t_rig_sequence_outBefore q14 t t_rig t_rig_sequence t_rig_sequence_cuts t_rig_sequence_groupOfStep t_rig_sequence_minus t_rig_sequence_pauses t_rig_sequence_plus t_rig_strokes t_trial_4 t_trial_circuit_5 t_trial_faults_6 t_trial_log_7 t_trial_log_moves_8 t_trial_log_times_9 t_trial_positions_10 t_trial_score_11 t_trial_strokes_12 t_trial_timers_13) E K w hA (kX7_countValves l D cI cJ a_t a_t_rig a_t_rig_sequence a_t_rig_sequence_minus a_t_rig_sequence_plus u_t_reader a_t_trial u_t_snapshot u_t_spare u_t_rig_circuit u_t_rig_log u_t_rig_score a_t_rig_strokes u_t_rig_positions u_t_rig_timers u_t_rig_faults a_t_rig_sequence_pauses u_t_rig_sequence_outBefore a_t_rig_sequence_cuts a_t_rig_sequence_groupOfStep t t_rig t_rig_sequence t_rig_sequence_minus t_rig_sequence_plus i1 v27 hC) (bq_gV ml_X7_134 im_X7_countValves sl_X7_countValves in_X7 cd_X7_countValves) hd_X7_countValves ⟨Nat.le_of_ble_eq_true rfl, Nat.le_of_ble_eq_true rfl⟩ ⟨Nat.le_of_ble_eq_true rfl, Nat.le_of_ble_eq_true rfl⟩ ⟨[0, 1, 2, 5, 7], [3, 4, 6, 8, 9, 10, 11, 12, 13, 14, 15, 16, 17, 18], [14, 15, 16, 0, 1, 17, 2, 18, 3, 4, 5, 6, 7, 8, 9, 10, 11, 12, 13], rfl, rfl, rfl, rfl, rfl, rfl, rfl, rfl, rfl⟩ 0 rfl rfl rfl hl.1 rfl (Nat.le_of_ble_eq_true rfl) rfl dX7_cheapest_17 (fun H locs w => bq_z ⟨rfl, rfl⟩ ?_)
        clear hC
        refine lv_istore (lv' := [(4, .int v27), (0, .ref a_t), (1, .int i3), (2, .int i2), (3, .int i1)]) hx hb dX7_cheapest_20 hl (by decide) rfl (fun ls hl => ?_)
        refine lv_iload_n hx hb dX7_cheapest_22 rfl (lv_at hl 2 rfl) ?_
        obtain ⟨v28, v29, t_trial_30, t_trial_circuit_31, t_trial_faults_32, t_trial_log_33, t_trial_log_moves_34, t_trial_log_times_35, t_trial_positions_36, t_trial_score_37, t_trial_strokes_38, t_trial_timers_39, q40, hT45, hT10⟩ := bq_b13_el hT10
        have K45 : ∀ (H : Heap) (locs : List Loc) (ls : Array Slot), bq_w D A s.heap (wdX7_cheapest cI a_t a_t_rig a_t_rig_sequence a_t_rig_sequence_cuts a_t_rig_sequence_groupOfStep a_t_rig_sequence_minus a_t_rig_sequence_pauses a_t_rig_sequence_plus a_t_rig_strokes a_t_trial a_t_trial_circuit a_t_trial_faults a_t_trial_log a_t_trial_log_moves a_t_trial_log_times a_t_trial_positions a_t_trial_score a_t_trial_strokes a_t_trial_timers u_t_reader u_t_snapshot u_t_spare u_t_rig_circuit u_t_rig_log u_t_rig_score u_t_rig_positions u_t_rig_timers u_t_rig_faults u_t_rig_sequence_outBefore q40 t t_rig t_rig_sequence t_rig_sequence_cuts t_rig_sequence_groupOfStep t_rig_sequence_minus t_rig_sequence_pauses t_rig_sequence_plus t_rig_strokes t_trial_30 t_trial_circuit_31 t_trial_faults_32 t_trial_log_33 t_trial_log_moves_34 t_trial_log_times_35 t_trial_positions_36 t_trial_score_37 t_trial_strokes_38 t_trial_timers_39) H locs → lv_has ls 5 [(0, .ref a_t), (1, .int v28), (2, .int v29), (3, .int i1)] → W p l e rmX7_cheapest s m av9 below meth c H locs 0 0 Q (F0 m 45 ls []) := by
          intro H locs ls w hl
          obtain ⟨v63, e9, hT10⟩ := bq_let_el hT10
          refine lv_iinc (v := v63) (lv' := [(3, .int v63), (0, .ref a_t), (1, .int v28), (2, .int v29)]) hx hb dX7_cheapest_45 hl (k := 3) rfl (by rw [e9]; rfl) (by decide) rfl (fun ls hl => ?_)
          clear e9
          refine lv_goto (tgt := 10) hx hb dX7_cheapest_48 (by decide) ?_
          obtain rfl := Option.some.inj hT10
          exact ih v63 v29 v28 t_trial_30 t_trial_circuit_31 t_trial_faults_32 t_trial_log_33 t_trial_log_moves_34 t_trial_log_times_35 t_trial_positions_36 t_trial_score_37 t_trial_strokes_38 t_trial_timers_39 q40 H locs ls hR10 w (lv_sub hl [1, 2, 3, 0] rfl)
        clear hT10
        refine lv_if_lt (tgt := 32) hx hb dX7_cheapest_23 (by decide) (fun hc => ?_) (fun hc => ?_)
        · replace hT45 := bq_t hc hT45
          clear hc
          refine lv_aload_n hx hb dX7_cheapest_32 rfl (lv_at hl 1 rfl) ?_
          refine lv_iload_n hx hb dX7_cheapest_33 rfl (lv_at hl 4 rfl) ?_
          obtain ⟨v41, t_trial_42, t_trial_circuit_43, t_trial_faults_44, t_trial_log_45, t_trial_log_moves_46, t_trial_log_times_47, t_trial_positions_48, t_trial_score_49, t_trial_strokes_50, t_trial_timers_51, hC, hT45⟩ := bq_b11_el hT45
          refine bq_V (As := [.int i1]) (rest := []) (st1 := [.int v41]) (ws' := wdX7_cheapest cI a_t a_t_rig a_t_rig_sequence a_t_rig_sequence_cuts a_t_rig_sequence_groupOfStep a_t_rig_sequence_minus a_t_rig_sequence_pauses a_t_rig_sequence_plus a_t_rig_strokes a_t_trial a_t_trial_circuit a_t_trial_faults a_t_trial_log a_t_trial_log_moves a_t_trial_log_times a_t_trial_positions a_t_trial_score a_t_trial_strokes a_t_trial_timers u_t_reader u_t_snapshot u_t_spare u_t_rig_circuit u_t_rig_log u_t_rig_score u_t_rig_positions u_t_rig_timers u_t_rig_faults u_t_rig_sequence_outBefore a_t_rig_sequence t t_rig t_rig_sequence t_rig_sequence_cuts t_rig_sequence_groupOfStep t_rig_sequence_minus t_rig_sequence_pauses t_rig_sequence_plus t_rig_strokes t_trial_42 t_trial_circuit_43 t_trial_faults_44 t_trial_log_45 t_trial_log_moves_46 t_trial_log_times_47 t_trial_positions_48 t_trial_score_49 t_trial_strokes_50 t_trial_timers_51) E K w hA (kX7_measureCycle l D cI cJ a_t a_t_rig a_t_rig_sequence a_t_rig_sequence_cuts a_t_rig_sequence_groupOfStep a_t_rig_sequence_minus a_t_rig_sequence_pauses a_t_rig_sequence_plus a_t_rig_strokes a_t_trial a_t_trial_circuit a_t_trial_faults a_t_trial_log a_t_trial_log_moves a_t_trial_log_times a_t_trial_positions a_t_trial_score a_t_trial_strokes a_t_trial_timers u_t_reader u_t_snapshot u_t_spare u_t_rig_circuit u_t_rig_log u_t_rig_score u_t_rig_positions u_t_rig_timers u_t_rig_faults u_t_rig_sequence_outBefore q14 t t_rig t_rig_sequence t_rig_sequence_cuts t_rig_sequence_groupOfStep t_rig_sequence_minus t_rig_sequence_pauses t_rig_sequence_plus t_rig_strokes t_trial_4 t_trial_circuit_5 t_trial_faults_6 t_trial_log_7 t_trial_log_moves_8 t_trial_log_times_9 t_trial_positions_10 t_trial_score_11 t_trial_strokes_12 t_trial_timers_13 i1 v41 t_trial_42 t_trial_circuit_43 t_trial_faults_44 t_trial_log_45 t_trial_log_moves_46 t_trial_log_times_47 t_trial_positions_48 t_trial_score_49 t_trial_strokes_50 t_trial_timers_51 hC) (bq_gV ml_X7_231 im_X7_measureCycle sl_X7_measureCycle in_X7 cd_X7_measureCycle) hd_X7_measureCycle ⟨Nat.le_of_ble_eq_true rfl, Nat.le_of_ble_eq_true rfl⟩ ⟨Nat.le_of_ble_eq_true rfl, Nat.le_of_ble_eq_true rfl⟩ ⟨[0, 1, 2, 3, 4, 5, 6, 7, 8, 9, 10, 11, 12, 13, 14, 15, 16, 17, 18], [], [0, 1, 2, 3, 4, 5, 6, 7, 8, 9, 10, 11, 12, 13, 14, 15, 16, 17, 18], rfl, rfl, rfl, rfl, rfl, rfl, rfl, rfl, rfl⟩ 0 rfl rfl rfl hl.1 rfl (Nat.le_of_ble_eq_true rfl) rfl dX7_cheapest_34 (fun H locs w => bq_z ⟨rfl, rfl⟩ ?_)
          clear hC
          refine lv_if_lt (tgt := 45) hx hb dX7_cheapest_37 (by decide) (fun hc => ?_) (fun hc => ?_)
          · replace hT45 := bq_t hc hT45
            clear hc
            obtain ⟨rfl, rfl, rfl, rfl, rfl, rfl, rfl, rfl, rfl, rfl, rfl, rfl, rfl⟩ := bq_in13 (Option.some.inj hT45)
            exact K45 H locs ls w (lv_sub hl [1, 2, 3, 4] rfl)
          · replace hT45 := bq_f hc hT45
            clear hc
            refine lv_iload_n hx hb dX7_cheapest_40 rfl (lv_at hl 4 rfl) ?_
            refine lv_istore_n (lv' := [(1, .int i1), (4, .int v27), (0, .ref a_t), (2, .int i2), (3, .int i1)]) hx hb dX7_cheapest_41 rfl hl (by decide) rfl (fun ls hl => ?_)
            refine lv_iload hx hb dX7_cheapest_42 (lv_at hl 1 rfl) ?_
            refine lv_istore_n (lv' := [(2, .int v27), (1, .int i1), (4, .int v27), (0, .ref a_t), (3, .int i1)]) hx hb dX7_cheapest_44 rfl hl (by decide) rfl (fun ls hl => ?_)
            obtain ⟨rfl, rfl, rfl, rfl, rfl, rfl, rfl, rfl, rfl, rfl, rfl, rfl, rfl⟩ := bq_in13 (Option.some.inj hT45)
            exact K45 H locs ls w (lv_sub hl [3, 1, 0, 4] rfl)
        · replace hT45 := bq_f hc hT45
          clear hc
          refine lv_iload hx hb dX7_cheapest_26 (lv_at hl 0 rfl) ?_
          refine lv_iload_n hx hb dX7_cheapest_28 rfl (lv_at hl 3 rfl) ?_
          refine lv_icmp_ge (tgt := 45) hx hb dX7_cheapest_29 (by decide) (fun hc => ?_) (fun hc => ?_)
          · replace hT45 := bq_t hc hT45
            clear hc
            obtain ⟨rfl, rfl, rfl, rfl, rfl, rfl, rfl, rfl, rfl, rfl, rfl, rfl, rfl⟩ := bq_in13 (Option.some.inj hT45)
            exact K45 H locs ls w (lv_sub hl [1, 2, 3, 4] rfl)
          · replace hT45 := bq_f hc hT45
            clear hc
            refine lv_aload_n hx hb dX7_cheapest_32 rfl (lv_at hl 1 rfl) ?_
            refine lv_iload_n hx hb dX7_cheapest_33 rfl (lv_at hl 4 rfl) ?_
            obtain ⟨v52, t_trial_53, t_trial_circuit_54, t_trial_faults_55, t_trial_log_56, t_trial_log_moves_57, t_trial_log_times_58, t_trial_positions_59, t_trial_score_60, t_trial_strokes_61, t_trial_timers_62, hC, hT45⟩ := bq_b11_el hT45
            refine bq_V (As := [.int i1]) (rest := []) (st1 := [.int v52]) (ws' := wdX7_cheapest cI a_t a_t_rig a_t_rig_sequence a_t_rig_sequence_cuts a_t_rig_sequence_groupOfStep a_t_rig_sequence_minus a_t_rig_sequence_pauses a_t_rig_sequence_plus a_t_rig_strokes a_t_trial a_t_trial_circuit a_t_trial_faults a_t_trial_log a_t_trial_log_moves a_t_trial_log_times a_t_trial_positions a_t_trial_score a_t_trial_strokes a_t_trial_timers u_t_reader u_t_snapshot u_t_spare u_t_rig_circuit u_t_rig_log u_t_rig_score u_t_rig_positions u_t_rig_timers u_t_rig_faults u_t_rig_sequence_outBefore a_t_rig_sequence t t_rig t_rig_sequence t_rig_sequence_cuts t_rig_sequence_groupOfStep t_rig_sequence_minus t_rig_sequence_pauses t_rig_sequence_plus t_rig_strokes t_trial_53 t_trial_circuit_54 t_trial_faults_55 t_trial_log_56 t_trial_log_moves_57 t_trial_log_times_58 t_trial_positions_59 t_trial_score_60 t_trial_strokes_61 t_trial_timers_62) E K w hA (kX7_measureCycle l D cI cJ a_t a_t_rig a_t_rig_sequence a_t_rig_sequence_cuts a_t_rig_sequence_groupOfStep a_t_rig_sequence_minus a_t_rig_sequence_pauses a_t_rig_sequence_plus a_t_rig_strokes a_t_trial a_t_trial_circuit a_t_trial_faults a_t_trial_log a_t_trial_log_moves a_t_trial_log_times a_t_trial_positions a_t_trial_score a_t_trial_strokes a_t_trial_timers u_t_reader u_t_snapshot u_t_spare u_t_rig_circuit u_t_rig_log u_t_rig_score u_t_rig_positions u_t_rig_timers u_t_rig_faults u_t_rig_sequence_outBefore q14 t t_rig t_rig_sequence t_rig_sequence_cuts t_rig_sequence_groupOfStep t_rig_sequence_minus t_rig_sequence_pauses t_rig_sequence_plus t_rig_strokes t_trial_4 t_trial_circuit_5 t_trial_faults_6 t_trial_log_7 t_trial_log_moves_8 t_trial_log_times_9 t_trial_positions_10 t_trial_score_11 t_trial_strokes_12 t_trial_timers_13 i1 v52 t_trial_53 t_trial_circuit_54 t_trial_faults_55 t_trial_log_56 t_trial_log_moves_57 t_trial_log_times_58 t_trial_positions_59 t_trial_score_60 t_trial_strokes_61 t_trial_timers_62 hC) (bq_gV ml_X7_231 im_X7_measureCycle sl_X7_measureCycle in_X7 cd_X7_measureCycle) hd_X7_measureCycle ⟨Nat.le_of_ble_eq_true rfl, Nat.le_of_ble_eq_true rfl⟩ ⟨Nat.le_of_ble_eq_true rfl, Nat.le_of_ble_eq_true rfl⟩ ⟨[0, 1, 2, 3, 4, 5, 6, 7, 8, 9, 10, 11, 12, 13, 14, 15, 16, 17, 18], [], [0, 1, 2, 3, 4, 5, 6, 7, 8, 9, 10, 11, 12, 13, 14, 15, 16, 17, 18], rfl, rfl, rfl, rfl, rfl, rfl, rfl, rfl, rfl⟩ 0 rfl rfl rfl hl.1 rfl (Nat.le_of_ble_eq_true rfl) rfl dX7_cheapest_34 (fun H locs w => bq_z ⟨rfl, rfl⟩ ?_)
            clear hC
            refine lv_if_lt (tgt := 45) hx hb dX7_cheapest_37 (by decide) (fun hc => ?_) (fun hc => ?_)
            · replace hT45 := bq_t hc hT45
              clear hc
              obtain ⟨rfl, rfl, rfl, rfl, rfl, rfl, rfl, rfl, rfl, rfl, rfl, rfl, rfl⟩ := bq_in13 (Option.some.inj hT45)
              exact K45 H locs ls w (lv_sub hl [1, 2, 3, 4] rfl)
            · replace hT45 := bq_f hc hT45
              clear hc
              refine lv_iload_n hx hb dX7_cheapest_40 rfl (lv_at hl 4 rfl) ?_
              refine lv_istore_n (lv' := [(1, .int i1), (4, .int v27), (0, .ref a_t), (2, .int i2), (3, .int i1)]) hx hb dX7_cheapest_41 rfl hl (by decide) rfl (fun ls hl => ?_)
              refine lv_iload hx hb dX7_cheapest_42 (lv_at hl 1 rfl) ?_
              refine lv_istore_n (lv' := [(2, .int v27), (1, .int i1), (4, .int v27), (0, .ref a_t), (3, .int i1)]) hx hb dX7_cheapest_44 rfl hl (by decide) rfl (fun ls hl => ?_)
              obtain ⟨rfl, rfl, rfl, rfl, rfl, rfl, rfl, rfl, rfl, rfl, rfl, rfl, rfl⟩ := bq_in13 (Option.some.inj hT45)
              exact K45 H locs ls w (lv_sub hl [3, 1, 0, 4] rfl)
  exact L10 nn 0 0 (-1) t_trial t_trial_circuit t_trial_faults t_trial_log t_trial_log_moves t_trial_log_times t_trial_positions t_trial_score t_trial_strokes t_trial_timers r_t_trial_sequence H locs ls hL w (lv_sub hl [3, 2, 1, 0] rfl)
abbrev rmTX7_cheapest : Room := { frames := 7, cells := 1, slots := 6, locals := 120 }
set_option maxHeartbeats 4000000 in
set_option maxRecDepth 100000 in
theorem tkX7_cheapest {l : Launch} (hlf : l.stackTraces = false) (D : va_G) (cI cJ : ClassId) (a_t a_t_rig a_t_rig_sequence a_t_rig_sequence_cuts a_t_rig_sequence_groupOfStep a_t_rig_sequence_minus a_t_rig_sequence_pauses a_t_rig_sequence_plus a_t_rig_strokes a_t_trial a_t_trial_circuit a_t_trial_faults a_t_trial_log a_t_trial_log_moves a_t_trial_log_times a_t_trial_positions a_t_trial_score a_t_trial_strokes a_t_trial_timers u_t_reader u_t_snapshot u_t_spare u_t_rig_circuit u_t_rig_log u_t_rig_score u_t_rig_positions u_t_rig_timers u_t_rig_faults u_t_rig_sequence_outBefore r_t_trial_sequence : Nat) (t t_rig t_rig_sequence t_rig_sequence_cuts t_rig_sequence_groupOfStep t_rig_sequence_minus t_rig_sequence_pauses t_rig_sequence_plus t_rig_strokes t_trial t_trial_circuit t_trial_faults t_trial_log t_trial_log_moves t_trial_log_times t_trial_positions t_trial_score t_trial_strokes t_trial_timers : Nat → Int32) (r : Nat) (hm : tX7_cheapest t_rig_sequence t_rig_sequence_cuts t_rig_sequence_groupOfStep t_rig_sequence_minus t_rig_sequence_pauses t_rig_sequence_plus t_rig_strokes t_trial t_trial_circuit t_trial_faults t_trial_log t_trial_log_moves t_trial_log_times t_trial_positions t_trial_score t_trial_strokes t_trial_timers = some r) : bq_MT l D cI cJ yX7_cheapest cX7_cheapest 5 (some .int) rmTX7_cheapest [.ref a_t] (wdX7_cheapest cI a_t a_t_rig a_t_rig_sequence a_t_rig_sequence_cuts a_t_rig_sequence_groupOfStep a_t_rig_sequence_minus a_t_rig_sequence_pauses a_t_rig_sequence_plus a_t_rig_strokes a_t_trial a_t_trial_circuit a_t_trial_faults a_t_trial_log a_t_trial_log_moves a_t_trial_log_times a_t_trial_positions a_t_trial_score a_t_trial_strokes a_t_trial_timers u_t_reader u_t_snapshot u_t_spare u_t_rig_circuit u_t_rig_log u_t_rig_score u_t_rig_positions u_t_rig_timers u_t_rig_faults u_t_rig_sequence_outBefore r_t_trial_sequence t t_rig t_rig_sequence t_rig_sequence_cuts t_rig_sequence_groupOfStep t_rig_sequence_minus t_rig_sequence_pauses t_rig_sequence_plus t_rig_strokes t_trial t_trial_circuit t_trial_faults t_trial_log t_trial_log_moves t_trial_log_times t_trial_positions t_trial_score t_trial_strokes t_trial_timers) (bq_cls r) := by
  refine bq_startT (by decide) (Nat.le_of_ble_eq_true rfl) ?_
  intro p e s m av9 below meth c A ls Q H locs E K w hA hnt hk hX hQ hl
  have E : bq_E p m c cX7_cheapest 5 s av9 RX7 := E
  have hx := E.1
  have hb := E.2.1
  have hl : lv_has ls 5 [(0, .ref a_t)] := hl
  unfold tX7_cheapest at hm
  refine lv_aload_n hx hb dX7_cheapest_0 rfl (lv_at hl 0 rfl) ?_
  refine (bq_tc_el hm).elim (fun hC => ?_) (fun hm => ?_)
  · exact bq_TV (As := []) (rest := []) E K w hA hX hnt hk ⟨rfl, rfl⟩ (tkX7_checkSequence hlf D cI cJ a_t a_t_rig a_t_rig_sequence u_t_reader a_t_trial u_t_snapshot u_t_spare u_t_rig_circuit u_t_rig_log u_t_rig_score a_t_rig_strokes u_t_rig_positions u_t_rig_timers u_t_rig_faults a_t_rig_sequence_plus a_t_rig_sequence_minus a_t_rig_sequence_pauses u_t_rig_sequence_outBefore a_t_rig_sequence_cuts a_t_rig_sequence_groupOfStep t t_rig t_rig_sequence _ hC) (bq_gV ml_X7_110 im_X7_checkSequence sl_X7_checkSequence in_X7 cd_X7_checkSequence) hd_X7_checkSequence ⟨Nat.le_of_ble_eq_true rfl, Nat.le_of_ble_eq_true rfl⟩ ⟨Nat.le_of_ble_eq_true rfl, Nat.le_of_ble_eq_true rfl⟩ ⟨[0, 1, 2], [3, 4, 5, 6, 7, 8, 9, 10, 11, 12, 13, 14, 15, 16, 17, 18], [16, 17, 18, 0, 1, 2, 3, 4, 5, 6, 7, 8, 9, 10, 11, 12, 13, 14, 15], rfl, rfl, rfl, rfl, rfl, rfl, rfl, rfl, rfl⟩ 0 rfl rfl rfl hl.1 rfl (Nat.le_of_ble_eq_true rfl) dX7_cheapest_1 hQ
  obtain ⟨⟨⟩, hC, hm⟩ := bq_bd_el hm
  refine bq_V (As := []) (rest := []) (st1 := []) (ws' := wdX7_cheapest cI a_t a_t_rig a_t_rig_sequence a_t_rig_sequence_cuts a_t_rig_sequence_groupOfStep a_t_rig_sequence_minus a_t_rig_sequence_pauses a_t_rig_sequence_plus a_t_rig_strokes a_t_trial a_t_trial_circuit a_t_trial_faults a_t_trial_log a_t_trial_log_moves a_t_trial_log_times a_t_trial_positions a_t_trial_score a_t_trial_strokes a_t_trial_timers u_t_reader u_t_snapshot u_t_spare u_t_rig_circuit u_t_rig_log u_t_rig_score u_t_rig_positions u_t_rig_timers u_t_rig_faults u_t_rig_sequence_outBefore r_t_trial_sequence t t_rig t_rig_sequence t_rig_sequence_cuts t_rig_sequence_groupOfStep t_rig_sequence_minus t_rig_sequence_pauses t_rig_sequence_plus t_rig_strokes t_trial t_trial_circuit t_trial_faults t_trial_log t_trial_log_moves t_trial_log_times t_trial_positions t_trial_score t_trial_strokes t_trial_timers) E K w hA (kX7_checkSequence l D cI cJ a_t a_t_rig a_t_rig_sequence u_t_reader a_t_trial u_t_snapshot u_t_spare u_t_rig_circuit u_t_rig_log u_t_rig_score a_t_rig_strokes u_t_rig_positions u_t_rig_timers u_t_rig_faults a_t_rig_sequence_plus a_t_rig_sequence_minus a_t_rig_sequence_pauses u_t_rig_sequence_outBefore a_t_rig_sequence_cuts a_t_rig_sequence_groupOfStep t t_rig t_rig_sequence hC) (bq_gV ml_X7_110 im_X7_checkSequence sl_X7_checkSequence in_X7 cd_X7_checkSequence) hd_X7_checkSequence ⟨Nat.le_of_ble_eq_true rfl, Nat.le_of_ble_eq_true rfl⟩ ⟨Nat.le_of_ble_eq_true rfl, Nat.le_of_ble_eq_true rfl⟩ ⟨[0, 1, 2], [3, 4, 5, 6, 7, 8, 9, 10, 11, 12, 13, 14, 15, 16, 17, 18], [16, 17, 18, 0, 1, 2, 3, 4, 5, 6, 7, 8, 9, 10, 11, 12, 13, 14, 15], rfl, rfl, rfl, rfl, rfl, rfl, rfl, rfl, rfl⟩ 0 rfl rfl rfl hl.1 rfl (Nat.le_of_ble_eq_true rfl) rfl dX7_cheapest_1 (fun H locs w => bq_z ⟨rfl, rfl⟩ ?_)
  clear hC
  cases hm
abbrev wdX7_effect (cI : ClassId) (a_t a_t_rig a_t_rig_circuit a_t_rig_sequence a_t_rig_sequence_cuts a_t_rig_sequence_groupOfStep a_t_rig_sequence_minus a_t_rig_sequence_pauses a_t_rig_sequence_plus a_t_rig_strokes a_t_trial a_t_trial_circuit a_t_trial_faults a_t_trial_log a_t_trial_log_moves a_t_trial_log_times a_t_trial_positions a_t_trial_score a_t_trial_strokes a_t_trial_timers u_t_reader u_t_snapshot u_t_spare u_t_rig_log u_t_rig_score u_t_rig_positions u_t_rig_timers u_t_rig_faults u_t_rig_sequence_outBefore m_0 : Nat) (t t_rig t_rig_circuit t_rig_sequence t_rig_sequence_cuts t_rig_sequence_groupOfStep t_rig_sequence_minus t_rig_sequence_pauses t_rig_sequence_plus t_rig_strokes t_trial t_trial_circuit t_trial_faults t_trial_log t_trial_log_moves t_trial_log_times t_trial_positions t_trial_score t_trial_strokes t_trial_timers : Nat → Int32) : va_W := [(a_t, oX7 u_t_reader a_t_rig a_t_trial u_t_snapshot u_t_spare t), (a_t_rig, oX3 a_t_rig_sequence a_t_rig_circuit u_t_rig_log u_t_rig_score a_t_rig_strokes u_t_rig_positions u_t_rig_timers u_t_rig_faults t_rig), (a_t_rig_circuit, oX0 t_rig_circuit), (a_t_rig_sequence, oX5 a_t_rig_sequence_plus a_t_rig_sequence_minus a_t_rig_sequence_pauses u_t_rig_sequence_outBefore a_t_rig_sequence_cuts a_t_rig_sequence_groupOfStep t_rig_sequence), (a_t_rig_sequence_cuts, oA cI 16 t_rig_sequence_cuts), (a_t_rig_sequence_groupOfStep, oA cI 16 t_rig_sequence_groupOfStep), (a_t_rig_sequence_minus, oA cI 16 t_rig_sequence_minus), (a_t_rig_sequence_pauses, oA cI 16 t_rig_sequence_pauses), (a_t_rig_sequence_plus, oA cI 16 t_rig_sequence_plus), (a_t_rig_strokes, oA cI 6 t_rig_strokes), (a_t_trial, oX3 m_0 a_t_trial_circuit a_t_trial_log a_t_trial_score a_t_trial_strokes a_t_trial_positions a_t_trial_timers a_t_trial_faults t_trial), (a_t_trial_circuit, oX0 t_trial_circuit), (a_t_trial_faults, oA cI 5 t_trial_faults), (a_t_trial_log, oX1 a_t_trial_log_times a_t_trial_log_moves t_trial_log), (a_t_trial_log_moves, oA cI 40 t_trial_log_moves), (a_t_trial_log_times, oA cI 40 t_trial_log_times), (a_t_trial_positions, oA cI 6 t_trial_positions), (a_t_trial_score, oX4 t_trial_score), (a_t_trial_strokes, oA cI 6 t_trial_strokes), (a_t_trial_timers, oA cI 16 t_trial_timers)]
abbrev rmX7_effect : Room := { frames := 5, cells := 0, slots := 0, locals := 117 }
theorem hd_X7_effect : yX7_effect.cls = RX7 ∧ yX7_effect.cls ≠ "java/lang/invoke/MethodHandle" ∧ yX7_effect.cls ≠ "java/lang/invoke/VarHandle" ∧ (parseMethodDescriptor yX7_effect.desc).map (fun d => d.parameters.length) = some 3 := by decide +kernel
set_option maxHeartbeats 4000000 in
set_option maxRecDepth 100000 in
theorem kX7_effect (l : Launch) (D : va_G) (cI cJ : ClassId) (a_t a_t_rig a_t_rig_circuit a_t_rig_sequence a_t_rig_sequence_cuts a_t_rig_sequence_groupOfStep a_t_rig_sequence_minus a_t_rig_sequence_pauses a_t_rig_sequence_plus a_t_rig_strokes a_t_trial a_t_trial_circuit a_t_trial_faults a_t_trial_log a_t_trial_log_moves a_t_trial_log_times a_t_trial_positions a_t_trial_score a_t_trial_strokes a_t_trial_timers u_t_reader u_t_snapshot u_t_spare u_t_rig_log u_t_rig_score u_t_rig_positions u_t_rig_timers u_t_rig_faults u_t_rig_sequence_outBefore r_t_trial_sequence : Nat) (t t_rig t_rig_circuit t_rig_sequence t_rig_sequence_cuts t_rig_sequence_groupOfStep t_rig_sequence_minus t_rig_sequence_pauses t_rig_sequence_plus t_rig_strokes t_trial t_trial_circuit t_trial_faults t_trial_log t_trial_log_moves t_trial_log_times t_trial_positions t_trial_score t_trial_strokes t_trial_timers : Nat → Int32) (x1 : Int32) (x2 : Int32) (x3 : Int32) (r : Int32) (t_trial_o : Nat → Int32) (t_trial_circuit_o : Nat → Int32) (t_trial_faults_o : Nat → Int32) (t_trial_log_o : Nat → Int32) (t_trial_log_moves_o : Nat → Int32) (t_trial_log_times_o : Nat → Int32) (t_trial_positions_o : Nat → Int32) (t_trial_score_o : Nat → Int32) (t_trial_strokes_o : Nat → Int32) (t_trial_timers_o : Nat → Int32) (hm : mX7_effect t_rig_circuit t_rig_sequence t_rig_sequence_cuts t_rig_sequence_groupOfStep t_rig_sequence_minus t_rig_sequence_pauses t_rig_sequence_plus t_rig_strokes t_trial t_trial_circuit t_trial_faults t_trial_log t_trial_log_moves t_trial_log_times t_trial_positions t_trial_score t_trial_strokes t_trial_timers x1 x2 x3 = some (r, t_trial_o, t_trial_circuit_o, t_trial_faults_o, t_trial_log_o, t_trial_log_moves_o, t_trial_log_times_o, t_trial_positions_o, t_trial_score_o, t_trial_strokes_o, t_trial_timers_o)) : bq_M l D cI cJ yX7_effect cX7_effect 4 (some .int) rmX7_effect [.ref a_t, .int x1, .int x2, .int x3] (wdX7_effect cI a_t a_t_rig a_t_rig_circuit a_t_rig_sequence a_t_rig_sequence_cuts a_t_rig_sequence_groupOfStep a_t_rig_sequence_minus a_t_rig_sequence_pauses a_t_rig_sequence_plus a_t_rig_strokes a_t_trial a_t_trial_circuit a_t_trial_faults a_t_trial_log a_t_trial_log_moves a_t_trial_log_times a_t_trial_positions a_t_trial_score a_t_trial_strokes a_t_trial_timers u_t_reader u_t_snapshot u_t_spare u_t_rig_log u_t_rig_score u_t_rig_positions u_t_rig_timers u_t_rig_faults u_t_rig_sequence_outBefore r_t_trial_sequence t t_rig t_rig_circuit t_rig_sequence t_rig_sequence_cuts t_rig_sequence_groupOfStep t_rig_sequence_minus t_rig_sequence_pauses t_rig_sequence_plus t_rig_strokes t_trial t_trial_circuit t_trial_faults t_trial_log t_trial_log_moves t_trial_log_times t_trial_positions t_trial_score t_trial_strokes t_trial_timers) (wdX7_effect cI a_t a_t_rig a_t_rig_circuit a_t_rig_sequence a_t_rig_sequence_cuts a_t_rig_sequence_groupOfStep a_t_rig_sequence_minus a_t_rig_sequence_pauses a_t_rig_sequence_plus a_t_rig_strokes a_t_trial a_t_trial_circuit a_t_trial_faults a_t_trial_log a_t_trial_log_moves a_t_trial_log_times a_t_trial_positions a_t_trial_score a_t_trial_strokes a_t_trial_timers u_t_reader u_t_snapshot u_t_spare u_t_rig_log u_t_rig_score u_t_rig_positions u_t_rig_timers u_t_rig_faults u_t_rig_sequence_outBefore a_t_rig_sequence t t_rig t_rig_circuit t_rig_sequence t_rig_sequence_cuts t_rig_sequence_groupOfStep t_rig_sequence_minus t_rig_sequence_pauses t_rig_sequence_plus t_rig_strokes t_trial_o t_trial_circuit_o t_trial_faults_o t_trial_log_o t_trial_log_moves_o t_trial_log_times_o t_trial_positions_o t_trial_score_o t_trial_strokes_o t_trial_timers_o) (some (.int r)) := by
  refine bq_start (by decide) (Nat.le_of_ble_eq_true rfl) ?_
  intro p e s m av9 below meth c A ls Q H locs E K w hA hr hk hn hQ hl
  have E : bq_E p m c cX7_effect 4 s av9 RX7 := E
  have hx := E.1
  have hb := E.2.1
  have hl : lv_has ls 4 [(0, .ref a_t), (1, .int x1), (2, .int x2), (3, .int x3)] := hl
  unfold mX7_effect at hm
  refine lv_iload_n hx hb dX7_effect_0 rfl (lv_at hl 1 rfl) ?_
  obtain ⟨⟨⟩, hC, hm⟩ := bq_bd_el hm
  refine bq_S0 (As := [.int x1]) (rest := []) (st1 := []) E K w hA (kX7_checkCylinder l D cI cJ x1 hC) cd_X7_checkCylinder ml_X7_93 in_X7 st_X7_checkCylinder hs_X7_checkCylinder ⟨Nat.le_of_ble_eq_true rfl, Nat.le_of_ble_eq_true rfl⟩ ⟨Nat.le_of_ble_eq_true rfl, Nat.le_of_ble_eq_true rfl⟩ rfl hl.1 rfl (Nat.le_of_ble_eq_true rfl) rfl dX7_effect_1 (fun H locs w => bq_z ⟨rfl, rfl⟩ ?_)
  clear hC
  refine lv_iload_n hx hb dX7_effect_4 rfl (lv_at hl 2 rfl) ?_
  obtain ⟨⟨⟩, hC, hm⟩ := bq_bd_el hm
  refine bq_S0 (As := [.int x2]) (rest := []) (st1 := []) E K w hA (kX7_checkFaultKind l D cI cJ x2 hC) cd_X7_checkFaultKind ml_X7_155 in_X7 st_X7_checkFaultKind hs_X7_checkFaultKind ⟨Nat.le_of_ble_eq_true rfl, Nat.le_of_ble_eq_true rfl⟩ ⟨Nat.le_of_ble_eq_true rfl, Nat.le_of_ble_eq_true rfl⟩ rfl hl.1 rfl (Nat.le_of_ble_eq_true rfl) rfl dX7_effect_5 (fun H locs w => bq_z ⟨rfl, rfl⟩ ?_)
  clear hC
  refine lv_iload_n hx hb dX7_effect_8 rfl (lv_at hl 3 rfl) ?_
  refine lv_if_lt (tgt := 19) hx hb dX7_effect_9 (by decide) (fun hc => ?_) (fun hc => ?_)
  · replace hm := bq_t hc hm
    clear hc
    cases hm
  · replace hm := bq_f hc hm
    clear hc
    refine lv_iload_n hx hb dX7_effect_12 rfl (lv_at hl 3 rfl) ?_
    refine lv_sipush (v := 2000) hx hb dX7_effect_13 (by decide) ?_
    refine lv_icmp_le (tgt := 29) hx hb dX7_effect_16 (by decide) (fun hc => ?_) (fun hc => ?_)
    · replace hm := bq_t hc hm
      clear hc
      refine lv_aload_n hx hb dX7_effect_29 rfl (lv_at hl 0 rfl) ?_
      obtain ⟨⟨⟩, hC, hm⟩ := bq_bd_el hm
      refine bq_V (As := []) (rest := []) (st1 := []) (ws' := wdX7_effect cI a_t a_t_rig a_t_rig_circuit a_t_rig_sequence a_t_rig_sequence_cuts a_t_rig_sequence_groupOfStep a_t_rig_sequence_minus a_t_rig_sequence_pauses a_t_rig_sequence_plus a_t_rig_strokes a_t_trial a_t_trial_circuit a_t_trial_faults a_t_trial_log a_t_trial_log_moves a_t_trial_log_times a_t_trial_positions a_t_trial_score a_t_trial_strokes a_t_trial_timers u_t_reader u_t_snapshot u_t_spare u_t_rig_log u_t_rig_score u_t_rig_positions u_t_rig_timers u_t_rig_faults u_t_rig_sequence_outBefore r_t_trial_sequence t t_rig t_rig_circuit t_rig_sequence t_rig_sequence_cuts t_rig_sequence_groupOfStep t_rig_sequence_minus t_rig_sequence_pauses t_rig_sequence_plus t_rig_strokes t_trial t_trial_circuit t_trial_faults t_trial_log t_trial_log_moves t_trial_log_times t_trial_positions t_trial_score t_trial_strokes t_trial_timers) E K w hA (kX7_checkSequence l D cI cJ a_t a_t_rig a_t_rig_sequence u_t_reader a_t_trial u_t_snapshot u_t_spare a_t_rig_circuit u_t_rig_log u_t_rig_score a_t_rig_strokes u_t_rig_positions u_t_rig_timers u_t_rig_faults a_t_rig_sequence_plus a_t_rig_sequence_minus a_t_rig_sequence_pauses u_t_rig_sequence_outBefore a_t_rig_sequence_cuts a_t_rig_sequence_groupOfStep t t_rig t_rig_sequence hC) (bq_gV ml_X7_110 im_X7_checkSequence sl_X7_checkSequence in_X7 cd_X7_checkSequence) hd_X7_checkSequence ⟨Nat.le_of_ble_eq_true rfl, Nat.le_of_ble_eq_true rfl⟩ ⟨Nat.le_of_ble_eq_true rfl, Nat.le_of_ble_eq_true rfl⟩ ⟨[0, 1, 3], [2, 4, 5, 6, 7, 8, 9, 10, 11, 12, 13, 14, 15, 16, 17, 18, 19], [17, 18, 0, 19, 1, 2, 3, 4, 5, 6, 7, 8, 9, 10, 11, 12, 13, 14, 15, 16], rfl, rfl, rfl, rfl, rfl, rfl, rfl, rfl, rfl⟩ 0 rfl rfl rfl hl.1 rfl (Nat.le_of_ble_eq_true rfl) rfl dX7_effect_30 (fun H locs w => bq_z ⟨rfl, rfl⟩ ?_)
      clear hC
      refine lv_aload_n hx hb dX7_effect_33 rfl (lv_at hl 0 rfl) ?_
      refine gt_X7_28 E K w 0 rfl rfl dX7_effect_34 ?_
      refine lv_aload_n hx hb dX7_effect_37 rfl (lv_at hl 0 rfl) ?_
      refine gt_X7_24 E K w 0 rfl rfl dX7_effect_38 ?_
      refine lv_aload_n hx hb dX7_effect_41 rfl (lv_at hl 0 rfl) ?_
      refine gt_X7_24 E K w 0 rfl rfl dX7_effect_42 ?_
      refine gt_X7_137 E K w 1 rfl rfl dX7_effect_45 ?_
      refine gt_X7_141 E K w 2 rfl rfl dX7_effect_48 ?_
      obtain ⟨t_trial_1, t_trial_circuit_2, t_trial_faults_3, t_trial_log_4, t_trial_positions_5, t_trial_score_6, t_trial_strokes_7, t_trial_timers_8, hC, hm⟩ := bq_b8_el hm
      refine bq_V (As := [.ref a_t_rig, .int (t_rig_circuit 0)]) (rest := []) (st1 := []) (ws' := wdX7_effect cI a_t a_t_rig a_t_rig_circuit a_t_rig_sequence a_t_rig_sequence_cuts a_t_rig_sequence_groupOfStep a_t_rig_sequence_minus a_t_rig_sequence_pauses a_t_rig_sequence_plus a_t_rig_strokes a_t_trial a_t_trial_circuit a_t_trial_faults a_t_trial_log a_t_trial_log_moves a_t_trial_log_times a_t_trial_positions a_t_trial_score a_t_trial_strokes a_t_trial_timers u_t_reader u_t_snapshot u_t_spare u_t_rig_log u_t_rig_score u_t_rig_positions u_t_rig_timers u_t_rig_faults u_t_rig_sequence_outBefore a_t_rig_sequence t t_rig t_rig_circuit t_rig_sequence t_rig_sequence_cuts t_rig_sequence_groupOfStep t_rig_sequence_minus t_rig_sequence_pauses t_rig_sequence_plus t_rig_strokes t_trial_1 t_trial_circuit_2 t_trial_faults_3 t_trial_log_4 t_trial_log_moves t_trial_log_times t_trial_positions_5 t_trial_score_6 t_trial_strokes_7 t_trial_timers_8) E K w hA (kX3_becomeCopyOf l D cI cJ a_t_trial a_t_trial_circuit a_t_trial_faults a_t_trial_log a_t_trial_positions a_t_trial_score a_t_trial_strokes a_t_trial_timers a_t_rig a_t_rig_sequence a_t_rig_sequence_minus a_t_rig_sequence_plus a_t_rig_strokes a_t_trial_log_times a_t_trial_log_moves a_t_rig_circuit u_t_rig_log u_t_rig_score u_t_rig_positions u_t_rig_timers u_t_rig_faults a_t_rig_sequence_pauses u_t_rig_sequence_outBefore a_t_rig_sequence_cuts a_t_rig_sequence_groupOfStep r_t_trial_sequence t_trial t_trial_circuit t_trial_faults t_trial_log t_trial_positions t_trial_score t_trial_strokes t_trial_timers t_rig t_rig_sequence t_rig_sequence_minus t_rig_sequence_plus t_rig_strokes (t_rig_circuit 0) t_trial_1 t_trial_circuit_2 t_trial_faults_3 t_trial_log_4 t_trial_positions_5 t_trial_score_6 t_trial_strokes_7 t_trial_timers_8 hC) (bq_gV ml_X7_236 im_X3_becomeCopyOf sl_X3_becomeCopyOf in_X3 cd_X3_becomeCopyOf) hd_X3_becomeCopyOf ⟨Nat.le_of_ble_eq_true rfl, Nat.le_of_ble_eq_true rfl⟩ ⟨Nat.le_of_ble_eq_true rfl, Nat.le_of_ble_eq_true rfl⟩ ⟨[10, 11, 12, 13, 16, 17, 18, 19, 1, 3, 6, 8, 9], [0, 2, 4, 5, 7, 14, 15], [0, 15, 1, 16, 2, 3, 17, 4, 18, 19, 7, 8, 9, 10, 5, 6, 11, 12, 13, 14], rfl, rfl, rfl, rfl, rfl, rfl, rfl, rfl, rfl⟩ 10 rfl rfl rfl hl.1 rfl (Nat.le_of_ble_eq_true rfl) rfl dX7_effect_51 (fun H locs w => bq_z ⟨rfl, rfl⟩ ?_)
      clear hC
      refine lv_aload_n hx hb dX7_effect_54 rfl (lv_at hl 0 rfl) ?_
      refine gt_X7_28 E K w 0 rfl rfl dX7_effect_55 ?_
      refine lv_iload_n hx hb dX7_effect_58 rfl (lv_at hl 1 rfl) ?_
      refine lv_iload_n hx hb dX7_effect_59 rfl (lv_at hl 2 rfl) ?_
      refine lv_iconst (v := 1) hx hb dX7_effect_60 (by decide) ?_
      obtain ⟨t_trial_faults_9, hC, hm⟩ := bq_bd_el hm
      refine bq_V (As := [.int x1, .int x2, .int 1]) (rest := []) (st1 := []) (ws' := wdX7_effect cI a_t a_t_rig a_t_rig_circuit a_t_rig_sequence a_t_rig_sequence_cuts a_t_rig_sequence_groupOfStep a_t_rig_sequence_minus a_t_rig_sequence_pauses a_t_rig_sequence_plus a_t_rig_strokes a_t_trial a_t_trial_circuit a_t_trial_faults a_t_trial_log a_t_trial_log_moves a_t_trial_log_times a_t_trial_positions a_t_trial_score a_t_trial_strokes a_t_trial_timers u_t_reader u_t_snapshot u_t_spare u_t_rig_log u_t_rig_score u_t_rig_positions u_t_rig_timers u_t_rig_faults u_t_rig_sequence_outBefore a_t_rig_sequence t t_rig t_rig_circuit t_rig_sequence t_rig_sequence_cuts t_rig_sequence_groupOfStep t_rig_sequence_minus t_rig_sequence_pauses t_rig_sequence_plus t_rig_strokes t_trial_1 t_trial_circuit_2 t_trial_faults_9 t_trial_log_4 t_trial_log_moves t_trial_log_times t_trial_positions_5 t_trial_score_6 t_trial_strokes_7 t_trial_timers_8) E K w hA (kX3_putFault l D cI cJ a_t_trial a_t_trial_faults a_t_rig_sequence a_t_trial_circuit a_t_trial_log a_t_trial_score a_t_trial_strokes a_t_trial_positions a_t_trial_timers t_trial_1 t_trial_faults_3 x1 x2 1 t_trial_faults_9 hC) (bq_gV ml_X7_161 im_X3_putFault sl_X3_putFault in_X3 cd_X3_putFault) hd_X3_putFault ⟨Nat.le_of_ble_eq_true rfl, Nat.le_of_ble_eq_true rfl⟩ ⟨Nat.le_of_ble_eq_true rfl, Nat.le_of_ble_eq_true rfl⟩ ⟨[10, 12], [0, 1, 2, 3, 4, 5, 6, 7, 8, 9, 11, 13, 14, 15, 16, 17, 18, 19], [0, 1, 2, 3, 4, 5, 6, 7, 8, 9, 18, 10, 19, 11, 12, 13, 14, 15, 16, 17], rfl, rfl, rfl, rfl, rfl, rfl, rfl, rfl, rfl⟩ 10 rfl rfl rfl hl.1 rfl (Nat.le_of_ble_eq_true rfl) rfl dX7_effect_61 (fun H locs w => bq_z ⟨rfl, rfl⟩ ?_)
      clear hC
      refine lv_aload_n hx hb dX7_effect_64 rfl (lv_at hl 0 rfl) ?_
      refine gt_X7_28 E K w 0 rfl rfl dX7_effect_65 ?_
      refine lv_iload_n hx hb dX7_effect_68 rfl (lv_at hl 3 rfl) ?_
      obtain ⟨t_trial_10, t_trial_circuit_11, t_trial_log_12, t_trial_log_moves_13, t_trial_log_times_14, t_trial_positions_15, t_trial_score_16, t_trial_timers_17, hC, hm⟩ := bq_b8_el hm
      refine bq_V (As := [.int x3]) (rest := []) (st1 := []) (ws' := wdX7_effect cI a_t a_t_rig a_t_rig_circuit a_t_rig_sequence a_t_rig_sequence_cuts a_t_rig_sequence_groupOfStep a_t_rig_sequence_minus a_t_rig_sequence_pauses a_t_rig_sequence_plus a_t_rig_strokes a_t_trial a_t_trial_circuit a_t_trial_faults a_t_trial_log a_t_trial_log_moves a_t_trial_log_times a_t_trial_positions a_t_trial_score a_t_trial_strokes a_t_trial_timers u_t_reader u_t_snapshot u_t_spare u_t_rig_log u_t_rig_score u_t_rig_positions u_t_rig_timers u_t_rig_faults u_t_rig_sequence_outBefore a_t_rig_sequence t t_rig t_rig_circuit t_rig_sequence t_rig_sequence_cuts t_rig_sequence_groupOfStep t_rig_sequence_minus t_rig_sequence_pauses t_rig_sequence_plus t_rig_strokes t_trial_10 t_trial_circuit_11 t_trial_faults_9 t_trial_log_12 t_trial_log_moves_13 t_trial_log_times_14 t_trial_positions_15 t_trial_score_16 t_trial_strokes_7 t_trial_timers_17) E K w hA (kX3_run l D cI cJ a_t_trial a_t_trial_circuit a_t_trial_faults a_t_trial_log a_t_trial_log_moves a_t_trial_log_times a_t_trial_positions a_t_trial_score a_t_rig_sequence a_t_rig_sequence_cuts a_t_rig_sequence_groupOfStep a_t_rig_sequence_minus a_t_rig_sequence_pauses a_t_rig_sequence_plus a_t_trial_strokes a_t_trial_timers u_t_rig_sequence_outBefore t_trial_1 t_trial_circuit_2 t_trial_faults_9 t_trial_log_4 t_trial_log_moves t_trial_log_times t_trial_positions_5 t_trial_score_6 t_rig_sequence t_rig_sequence_cuts t_rig_sequence_groupOfStep t_rig_sequence_minus t_rig_sequence_pauses t_rig_sequence_plus t_trial_strokes_7 t_trial_timers_8 x3 t_trial_10 t_trial_circuit_11 t_trial_log_12 t_trial_log_moves_13 t_trial_log_times_14 t_trial_positions_15 t_trial_score_16 t_trial_timers_17 hC) (bq_gV ml_X7_177 im_X3_run sl_X3_run in_X3 cd_X3_run) hd_X3_run ⟨Nat.le_of_ble_eq_true rfl, Nat.le_of_ble_eq_true rfl⟩ ⟨Nat.le_of_ble_eq_true rfl, Nat.le_of_ble_eq_true rfl⟩ ⟨[10, 11, 12, 13, 14, 15, 16, 17, 3, 4, 5, 6, 7, 8, 18, 19], [0, 1, 2, 9], [0, 1, 2, 12, 13, 14, 15, 16, 17, 3, 4, 5, 6, 7, 8, 9, 10, 11, 18, 19], rfl, rfl, rfl, rfl, rfl, rfl, rfl, rfl, rfl⟩ 10 rfl rfl rfl hl.1 rfl (Nat.le_of_ble_eq_true rfl) rfl dX7_effect_69 (fun H locs w => bq_z ⟨rfl, rfl⟩ ?_)
      clear hC
      refine lv_aload_n hx hb dX7_effect_72 rfl (lv_at hl 0 rfl) ?_
      refine gt_X7_28 E K w 0 rfl rfl dX7_effect_73 ?_
      refine gt_X7_216 E K w 10 rfl rfl dX7_effect_76 ?_
      refine gt_X7_220 E K w 17 rfl rfl dX7_effect_79 ?_
      obtain ⟨rfl, rfl, rfl, rfl, rfl, rfl, rfl, rfl, rfl, rfl, rfl⟩ := bq_in11 (Option.some.inj hm)
      exact bq_iret E w hr hk dX7_effect_82 hQ
    · replace hm := bq_f hc hm
      clear hc
      cases hm
abbrev rmTX7_effect : Room := { frames := 7, cells := 1, slots := 6, locals := 120 }
set_option maxHeartbeats 4000000 in
set_option maxRecDepth 100000 in
theorem tkX7_effect {l : Launch} (hlf : l.stackTraces = false) (D : va_G) (cI cJ : ClassId) (a_t a_t_rig a_t_rig_circuit a_t_rig_sequence a_t_rig_sequence_cuts a_t_rig_sequence_groupOfStep a_t_rig_sequence_minus a_t_rig_sequence_pauses a_t_rig_sequence_plus a_t_rig_strokes a_t_trial a_t_trial_circuit a_t_trial_faults a_t_trial_log a_t_trial_log_moves a_t_trial_log_times a_t_trial_positions a_t_trial_score a_t_trial_strokes a_t_trial_timers u_t_reader u_t_snapshot u_t_spare u_t_rig_log u_t_rig_score u_t_rig_positions u_t_rig_timers u_t_rig_faults u_t_rig_sequence_outBefore r_t_trial_sequence : Nat) (t t_rig t_rig_circuit t_rig_sequence t_rig_sequence_cuts t_rig_sequence_groupOfStep t_rig_sequence_minus t_rig_sequence_pauses t_rig_sequence_plus t_rig_strokes t_trial t_trial_circuit t_trial_faults t_trial_log t_trial_log_moves t_trial_log_times t_trial_positions t_trial_score t_trial_strokes t_trial_timers : Nat → Int32) (x1 : Int32) (x2 : Int32) (x3 : Int32) (r : Nat) (hm : tX7_effect t_rig_circuit t_rig_sequence t_rig_sequence_cuts t_rig_sequence_groupOfStep t_rig_sequence_minus t_rig_sequence_pauses t_rig_sequence_plus t_rig_strokes t_trial t_trial_circuit t_trial_faults t_trial_log t_trial_log_moves t_trial_log_times t_trial_positions t_trial_score t_trial_strokes t_trial_timers x1 x2 x3 = some r) : bq_MT l D cI cJ yX7_effect cX7_effect 4 (some .int) rmTX7_effect [.ref a_t, .int x1, .int x2, .int x3] (wdX7_effect cI a_t a_t_rig a_t_rig_circuit a_t_rig_sequence a_t_rig_sequence_cuts a_t_rig_sequence_groupOfStep a_t_rig_sequence_minus a_t_rig_sequence_pauses a_t_rig_sequence_plus a_t_rig_strokes a_t_trial a_t_trial_circuit a_t_trial_faults a_t_trial_log a_t_trial_log_moves a_t_trial_log_times a_t_trial_positions a_t_trial_score a_t_trial_strokes a_t_trial_timers u_t_reader u_t_snapshot u_t_spare u_t_rig_log u_t_rig_score u_t_rig_positions u_t_rig_timers u_t_rig_faults u_t_rig_sequence_outBefore r_t_trial_sequence t t_rig t_rig_circuit t_rig_sequence t_rig_sequence_cuts t_rig_sequence_groupOfStep t_rig_sequence_minus t_rig_sequence_pauses t_rig_sequence_plus t_rig_strokes t_trial t_trial_circuit t_trial_faults t_trial_log t_trial_log_moves t_trial_log_times t_trial_positions t_trial_score t_trial_strokes t_trial_timers) (bq_cls r) := by
  refine bq_startT (by decide) (Nat.le_of_ble_eq_true rfl) ?_
  intro p e s m av9 below meth c A ls Q H locs E K w hA hnt hk hX hQ hl
  have E : bq_E p m c cX7_effect 4 s av9 RX7 := E
  have hx := E.1
  have hb := E.2.1
  have hl : lv_has ls 4 [(0, .ref a_t), (1, .int x1), (2, .int x2), (3, .int x3)] := hl
  unfold tX7_effect at hm
  refine lv_iload_n hx hb dX7_effect_0 rfl (lv_at hl 1 rfl) ?_
  refine (bq_tc_el hm).elim (fun hC => ?_) (fun hm => ?_)
  · exact bq_TS (As := [.int x1]) (rest := []) E K w hA hX hnt hk ⟨rfl, rfl⟩ (tkX7_checkCylinder hlf D cI cJ x1 _ hC) cd_X7_checkCylinder ml_X7_93 in_X7 st_X7_checkCylinder hs_X7_checkCylinder ⟨Nat.le_of_ble_eq_true rfl, Nat.le_of_ble_eq_true rfl⟩ ⟨Nat.le_of_ble_eq_true rfl, Nat.le_of_ble_eq_true rfl⟩ ⟨[], [0, 1, 2, 3, 4, 5, 6, 7, 8, 9, 10, 11, 12, 13, 14, 15, 16, 17, 18, 19], [0, 1, 2, 3, 4, 5, 6, 7, 8, 9, 10, 11, 12, 13, 14, 15, 16, 17, 18, 19], rfl, rfl, rfl, rfl, rfl, rfl, rfl, rfl, rfl⟩ rfl hl.1 rfl (Nat.le_of_ble_eq_true rfl) dX7_effect_1 hQ
  obtain ⟨⟨⟩, hC, hm⟩ := bq_bd_el hm
  refine bq_S0 (As := [.int x1]) (rest := []) (st1 := []) E K w hA (kX7_checkCylinder l D cI cJ x1 hC) cd_X7_checkCylinder ml_X7_93 in_X7 st_X7_checkCylinder hs_X7_checkCylinder ⟨Nat.le_of_ble_eq_true rfl, Nat.le_of_ble_eq_true rfl⟩ ⟨Nat.le_of_ble_eq_true rfl, Nat.le_of_ble_eq_true rfl⟩ rfl hl.1 rfl (Nat.le_of_ble_eq_true rfl) rfl dX7_effect_1 (fun H locs w => bq_z ⟨rfl, rfl⟩ ?_)
  clear hC
  refine lv_iload_n hx hb dX7_effect_4 rfl (lv_at hl 2 rfl) ?_
  refine (bq_tc_el hm).elim (fun hC => ?_) (fun hm => ?_)
  · exact bq_TS (As := [.int x2]) (rest := []) E K w hA hX hnt hk ⟨rfl, rfl⟩ (tkX7_checkFaultKind hlf D cI cJ x2 _ hC) cd_X7_checkFaultKind ml_X7_155 in_X7 st_X7_checkFaultKind hs_X7_checkFaultKind ⟨Nat.le_of_ble_eq_true rfl, Nat.le_of_ble_eq_true rfl⟩ ⟨Nat.le_of_ble_eq_true rfl, Nat.le_of_ble_eq_true rfl⟩ ⟨[], [0, 1, 2, 3, 4, 5, 6, 7, 8, 9, 10, 11, 12, 13, 14, 15, 16, 17, 18, 19], [0, 1, 2, 3, 4, 5, 6, 7, 8, 9, 10, 11, 12, 13, 14, 15, 16, 17, 18, 19], rfl, rfl, rfl, rfl, rfl, rfl, rfl, rfl, rfl⟩ rfl hl.1 rfl (Nat.le_of_ble_eq_true rfl) dX7_effect_5 hQ
  obtain ⟨⟨⟩, hC, hm⟩ := bq_bd_el hm
  refine bq_S0 (As := [.int x2]) (rest := []) (st1 := []) E K w hA (kX7_checkFaultKind l D cI cJ x2 hC) cd_X7_checkFaultKind ml_X7_155 in_X7 st_X7_checkFaultKind hs_X7_checkFaultKind ⟨Nat.le_of_ble_eq_true rfl, Nat.le_of_ble_eq_true rfl⟩ ⟨Nat.le_of_ble_eq_true rfl, Nat.le_of_ble_eq_true rfl⟩ rfl hl.1 rfl (Nat.le_of_ble_eq_true rfl) rfl dX7_effect_5 (fun H locs w => bq_z ⟨rfl, rfl⟩ ?_)
  clear hC
  refine lv_iload_n hx hb dX7_effect_8 rfl (lv_at hl 3 rfl) ?_
  refine lv_if_lt (tgt := 19) hx hb dX7_effect_9 (by decide) (fun hc => ?_) (fun hc => ?_)
  · replace hm := bq_t hc hm
    clear hc
    obtain rfl := Option.some.inj hm
    exact bq_throw (cls := "java/lang/IllegalArgumentException") hlf E K w hX hnt hk hQ (by decide +kernel) bq_upf cl_X7_46 in_IllegalArgumentException sr_X7_234 xa_X7_50 xb_X7_50 xg_X7_46_50 hl.1 dX7_effect_19 dX7_effect_22 dX7_effect_23 dX7_effect_25 dX7_effect_28 (Nat.le_of_ble_eq_true rfl) (Nat.le_of_ble_eq_true rfl) (Nat.le_of_ble_eq_true rfl) (Nat.le_of_ble_eq_true rfl)
  · replace hm := bq_f hc hm
    clear hc
    refine lv_iload_n hx hb dX7_effect_12 rfl (lv_at hl 3 rfl) ?_
    refine lv_sipush (v := 2000) hx hb dX7_effect_13 (by decide) ?_
    refine lv_icmp_le (tgt := 29) hx hb dX7_effect_16 (by decide) (fun hc => ?_) (fun hc => ?_)
    · replace hm := bq_t hc hm
      clear hc
      refine lv_aload_n hx hb dX7_effect_29 rfl (lv_at hl 0 rfl) ?_
      refine (bq_tc_el hm).elim (fun hC => ?_) (fun hm => ?_)
      · exact bq_TV (As := []) (rest := []) E K w hA hX hnt hk ⟨rfl, rfl⟩ (tkX7_checkSequence hlf D cI cJ a_t a_t_rig a_t_rig_sequence u_t_reader a_t_trial u_t_snapshot u_t_spare a_t_rig_circuit u_t_rig_log u_t_rig_score a_t_rig_strokes u_t_rig_positions u_t_rig_timers u_t_rig_faults a_t_rig_sequence_plus a_t_rig_sequence_minus a_t_rig_sequence_pauses u_t_rig_sequence_outBefore a_t_rig_sequence_cuts a_t_rig_sequence_groupOfStep t t_rig t_rig_sequence _ hC) (bq_gV ml_X7_110 im_X7_checkSequence sl_X7_checkSequence in_X7 cd_X7_checkSequence) hd_X7_checkSequence ⟨Nat.le_of_ble_eq_true rfl, Nat.le_of_ble_eq_true rfl⟩ ⟨Nat.le_of_ble_eq_true rfl, Nat.le_of_ble_eq_true rfl⟩ ⟨[0, 1, 3], [2, 4, 5, 6, 7, 8, 9, 10, 11, 12, 13, 14, 15, 16, 17, 18, 19], [17, 18, 0, 19, 1, 2, 3, 4, 5, 6, 7, 8, 9, 10, 11, 12, 13, 14, 15, 16], rfl, rfl, rfl, rfl, rfl, rfl, rfl, rfl, rfl⟩ 0 rfl rfl rfl hl.1 rfl (Nat.le_of_ble_eq_true rfl) dX7_effect_30 hQ
      obtain ⟨⟨⟩, hC, hm⟩ := bq_bd_el hm
      refine bq_V (As := []) (rest := []) (st1 := []) (ws' := wdX7_effect cI a_t a_t_rig a_t_rig_circuit a_t_rig_sequence a_t_rig_sequence_cuts a_t_rig_sequence_groupOfStep a_t_rig_sequence_minus a_t_rig_sequence_pauses a_t_rig_sequence_plus a_t_rig_strokes a_t_trial a_t_trial_circuit a_t_trial_faults a_t_trial_log a_t_trial_log_moves a_t_trial_log_times a_t_trial_positions a_t_trial_score a_t_trial_strokes a_t_trial_timers u_t_reader u_t_snapshot u_t_spare u_t_rig_log u_t_rig_score u_t_rig_positions u_t_rig_timers u_t_rig_faults u_t_rig_sequence_outBefore r_t_trial_sequence t t_rig t_rig_circuit t_rig_sequence t_rig_sequence_cuts t_rig_sequence_groupOfStep t_rig_sequence_minus t_rig_sequence_pauses t_rig_sequence_plus t_rig_strokes t_trial t_trial_circuit t_trial_faults t_trial_log t_trial_log_moves t_trial_log_times t_trial_positions t_trial_score t_trial_strokes t_trial_timers) E K w hA (kX7_checkSequence l D cI cJ a_t a_t_rig a_t_rig_sequence u_t_reader a_t_trial u_t_snapshot u_t_spare a_t_rig_circuit u_t_rig_log u_t_rig_score a_t_rig_strokes u_t_rig_positions u_t_rig_timers u_t_rig_faults a_t_rig_sequence_plus a_t_rig_sequence_minus a_t_rig_sequence_pauses u_t_rig_sequence_outBefore a_t_rig_sequence_cuts a_t_rig_sequence_groupOfStep t t_rig t_rig_sequence hC) (bq_gV ml_X7_110 im_X7_checkSequence sl_X7_checkSequence in_X7 cd_X7_checkSequence) hd_X7_checkSequence ⟨Nat.le_of_ble_eq_true rfl, Nat.le_of_ble_eq_true rfl⟩ ⟨Nat.le_of_ble_eq_true rfl, Nat.le_of_ble_eq_true rfl⟩ ⟨[0, 1, 3], [2, 4, 5, 6, 7, 8, 9, 10, 11, 12, 13, 14, 15, 16, 17, 18, 19], [17, 18, 0, 19, 1, 2, 3, 4, 5, 6, 7, 8, 9, 10, 11, 12, 13, 14, 15, 16], rfl, rfl, rfl, rfl, rfl, rfl, rfl, rfl, rfl⟩ 0 rfl rfl rfl hl.1 rfl (Nat.le_of_ble_eq_true rfl) rfl dX7_effect_30 (fun H locs w => bq_z ⟨rfl, rfl⟩ ?_)
      clear hC
      cases hm
    · replace hm := bq_f hc hm
      clear hc
      obtain rfl := Option.some.inj hm
      exact bq_throw (cls := "java/lang/IllegalArgumentException") hlf E K w hX hnt hk hQ (by decide +kernel) bq_upf cl_X7_46 in_IllegalArgumentException sr_X7_234 xa_X7_50 xb_X7_50 xg_X7_46_50 hl.1 dX7_effect_19 dX7_effect_22 dX7_effect_23 dX7_effect_25 dX7_effect_28 (Nat.le_of_ble_eq_true rfl) (Nat.le_of_ble_eq_true rfl) (Nat.le_of_ble_eq_true rfl) (Nat.le_of_ble_eq_true rfl)
abbrev wdX6_matches (cI : ClassId) (a_t a_t_positions a_t_timers a_p1 a_p1_circuit a_p1_positions a_p1_timers u_p1_sequence u_p1_log u_p1_score u_p1_strokes u_p1_faults : Nat) (t t_positions t_timers p1 p1_circuit p1_positions p1_timers : Nat → Int32) : va_W := [(a_t, oX6 a_t_positions a_t_timers t), (a_t_positions, oA cI 6 t_positions), (a_t_timers, oA cI 16 t_timers), (a_p1, oX3 u_p1_sequence a_p1_circuit u_p1_log u_p1_score u_p1_strokes a_p1_positions a_p1_timers u_p1_faults p1), (a_p1_circuit, oX0 p1_circuit), (a_p1_positions, oA cI 6 p1_positions), (a_p1_timers, oA cI 16 p1_timers)]
abbrev rmX6_matches : Room := { frames := 0, cells := 0, slots := 0, locals := 0 }
theorem hd_X6_matches : yX6_matches.cls = RX6 ∧ yX6_matches.cls ≠ "java/lang/invoke/MethodHandle" ∧ yX6_matches.cls ≠ "java/lang/invoke/VarHandle" ∧ (parseMethodDescriptor yX6_matches.desc).map (fun d => d.parameters.length) = some 1 := by decide +kernel
set_option maxHeartbeats 4000000 in
set_option maxRecDepth 100000 in
theorem kX6_matches (l : Launch) (D : va_G) (cI cJ : ClassId) (a_t a_t_positions a_t_timers a_p1 a_p1_circuit a_p1_positions a_p1_timers u_p1_sequence u_p1_log u_p1_score u_p1_strokes u_p1_faults : Nat) (t t_positions t_timers p1 p1_circuit p1_positions p1_timers : Nat → Int32) (r : Int32) (hm : mX6_matches t t_positions t_timers p1 p1_circuit p1_positions p1_timers = some r) : bq_M l D cI cJ yX6_matches cX6_matches 4 (some .boolean) rmX6_matches [.ref a_t, .ref a_p1] (wdX6_matches cI a_t a_t_positions a_t_timers a_p1 a_p1_circuit a_p1_positions a_p1_timers u_p1_sequence u_p1_log u_p1_score u_p1_strokes u_p1_faults t t_positions t_timers p1 p1_circuit p1_positions p1_timers) (wdX6_matches cI a_t a_t_positions a_t_timers a_p1 a_p1_circuit a_p1_positions a_p1_timers u_p1_sequence u_p1_log u_p1_score u_p1_strokes u_p1_faults t t_positions t_timers p1 p1_circuit p1_positions p1_timers) (some (.int r)) := by
  refine bq_start (by decide) (Nat.le_of_ble_eq_true rfl) ?_
  intro p e s m av9 below meth c A ls Q H locs E K w hA hr hk hn hQ hl
  have E : bq_E p m c cX6_matches 4 s av9 RX6 := E
  have hx := E.1
  have hb := E.2.1
  have hl : lv_has ls 4 [(0, .ref a_t), (1, .ref a_p1)] := hl
  unfold mX6_matches at hm
  refine lv_aload_n hx hb dX6_matches_0 rfl (lv_at hl 0 rfl) ?_
  refine gt_X6_32 E K w 0 rfl rfl dX6_matches_1 ?_
  refine lv_aload_n hx hb dX6_matches_4 rfl (lv_at hl 1 rfl) ?_
  refine gt_X6_28 E K w 3 rfl rfl dX6_matches_5 ?_
  obtain ⟨v1, hT30, hm⟩ := bq_let_el hm
  have K30 : ∀ (H : Heap) (locs : List Loc) (ls : Array Slot), bq_w D A s.heap (wdX6_matches cI a_t a_t_positions a_t_timers a_p1 a_p1_circuit a_p1_positions a_p1_timers u_p1_sequence u_p1_log u_p1_score u_p1_strokes u_p1_faults t t_positions t_timers p1 p1_circuit p1_positions p1_timers) H locs → lv_has ls 4 [(0, .ref a_t), (1, .ref a_p1)] → W p l e rmX6_matches s m av9 below meth c H locs 0 0 Q (F0 m 30 ls [.int v1]) := by
    intro H locs ls w hl
    refine lv_istore_n (lv' := [(2, .int v1), (0, .ref a_t), (1, .ref a_p1)]) hx hb dX6_matches_30 rfl hl (by decide) rfl (fun ls hl => ?_)
    refine lv_iconst (v := 0) hx hb dX6_matches_31 (by decide) ?_
    refine lv_istore_n (lv' := [(3, .int 0), (2, .int v1), (0, .ref a_t), (1, .ref a_p1)]) hx hb dX6_matches_32 rfl hl (by decide) rfl (fun ls hl => ?_)
    obtain ⟨v4, hL, hm⟩ := bq_bd_el hm
    obtain ⟨B, eB, nn, hL⟩ := bq_loop_B hL
    have X70 : ∀ (H : Heap) (locs : List Loc) (ls : Array Slot), bq_w D A s.heap (wdX6_matches cI a_t a_t_positions a_t_timers a_p1 a_p1_circuit a_p1_positions a_p1_timers u_p1_sequence u_p1_log u_p1_score u_p1_strokes u_p1_faults t t_positions t_timers p1 p1_circuit p1_positions p1_timers) H locs → lv_has ls 4 [(0, .ref a_t), (1, .ref a_p1), (2, .int v4)] → W p l e rmX6_matches s m av9 below meth c H locs 0 0 Q (F0 m 70 ls []) := by
      intro H locs ls w hl
      refine lv_iconst (v := 0) hx hb dX6_matches_70 (by decide) ?_
      refine lv_istore_n (lv' := [(3, .int 0), (0, .ref a_t), (1, .ref a_p1), (2, .int v4)]) hx hb dX6_matches_71 rfl hl (by decide) rfl (fun ls hl => ?_)
      obtain ⟨v7, hL, hm⟩ := bq_bd_el hm
      obtain ⟨B, eB, nn, hL⟩ := bq_loop_B hL
      have X109 : ∀ (H : Heap) (locs : List Loc) (ls : Array Slot), bq_w D A s.heap (wdX6_matches cI a_t a_t_positions a_t_timers a_p1 a_p1_circuit a_p1_positions a_p1_timers u_p1_sequence u_p1_log u_p1_score u_p1_strokes u_p1_faults t t_positions t_timers p1 p1_circuit p1_positions p1_timers) H locs → lv_has ls 4 [(2, .int v7)] → W p l e rmX6_matches s m av9 below meth c H locs 0 0 Q (F0 m 109 ls []) := by
        intro H locs ls w hl
        refine lv_iload_n hx hb dX6_matches_109 rfl (lv_at hl 0 rfl) ?_
        obtain ⟨hB, hm⟩ := bq_cb_el hm
        obtain rfl := Option.some.inj hm
        exact bq_zret E w hr hk hB dX6_matches_110 hQ
      clear hm
      have L72 : ∀ (nn : Nat) (i5 : Int32) (i6 : Int32) (H : Heap) (locs : List Loc) (ls : Array Slot), bq_lp B nn (i5, i6) = some v7 → bq_w D A s.heap (wdX6_matches cI a_t a_t_positions a_t_timers a_p1 a_p1_circuit a_p1_positions a_p1_timers u_p1_sequence u_p1_log u_p1_score u_p1_strokes u_p1_faults t t_positions t_timers p1 p1_circuit p1_positions p1_timers) H locs → lv_has ls 4 [(0, .ref a_t), (1, .ref a_p1), (2, .int i6), (3, .int i5)] → W p l e rmX6_matches s m av9 below meth c H locs 0 0 Q (F0 m 72 ls []) := by
        intro nn
        induction nn with
        | zero =>
          intro i5 i6 H locs ls hL w hl
          exact bq_lp_0 hL
        | succ nn ih =>
          intro i5 i6 H locs ls hL w hl
          obtain ⟨oo72, hT72, hR72⟩ := bq_lp_el hL
          clear hL
          replace hT72 := bq_u2_el eB hT72
          unfold bX6_matches_72 at hT72
          refine lv_iload_n hx hb dX6_matches_72 rfl (lv_at hl 3 rfl) ?_
          refine lv_bipush (v := 16) hx hb dX6_matches_73 (by decide) ?_
          refine lv_icmp_ge (tgt := 109) hx hb dX6_matches_75 (by decide) (fun hc => ?_) (fun hc => ?_)
          · replace hT72 := bq_t hc hT72
            clear hc
            obtain rfl := Option.some.inj hT72
            replace hR72 := bq_lk_r hR72
            subst hR72
            exact X109 H locs ls w (lv_sub hl [2] rfl)
          · replace hT72 := bq_f hc hT72
            clear hc
            refine lv_iload_n hx hb dX6_matches_78 rfl (lv_at hl 2 rfl) ?_
            refine lv_if_eq (tgt := 109) hx hb dX6_matches_79 (by decide) (fun hc => ?_) (fun hc => ?_)
            · replace hT72 := bq_t hc hT72
              clear hc
              obtain rfl := Option.some.inj hT72
              replace hR72 := bq_lk_r hR72
              subst hR72
              exact X109 H locs ls w (lv_sub hl [2] rfl)
            · replace hT72 := bq_f hc hT72
              clear hc
              refine lv_aload_n hx hb dX6_matches_82 rfl (lv_at hl 0 rfl) ?_
              refine gt_X6_15 E K w 0 rfl rfl dX6_matches_83 ?_
              refine lv_iload_n hx hb dX6_matches_86 rfl (lv_at hl 3 rfl) ?_
              obtain ⟨hI, hT72⟩ := bq_ci_el hT72
              refine bq_ald E K w 2 rfl hI dX6_matches_87 ?_
              refine lv_aload_n hx hb dX6_matches_88 rfl (lv_at hl 1 rfl) ?_
              refine gt_X6_27 E K w 3 rfl rfl dX6_matches_89 ?_
              refine lv_iload_n hx hb dX6_matches_92 rfl (lv_at hl 3 rfl) ?_
              obtain ⟨hI, hT72⟩ := bq_ci_el hT72
              refine bq_ald E K w 6 rfl hI dX6_matches_93 ?_
              obtain ⟨v8, hT102, hT72⟩ := bq_let_el hT72
              have K102 : ∀ (H : Heap) (locs : List Loc) (ls : Array Slot), bq_w D A s.heap (wdX6_matches cI a_t a_t_positions a_t_timers a_p1 a_p1_circuit a_p1_positions a_p1_timers u_p1_sequence u_p1_log u_p1_score u_p1_strokes u_p1_faults t t_positions t_timers p1 p1_circuit p1_positions p1_timers) H locs → lv_has ls 4 [(0, .ref a_t), (1, .ref a_p1), (3, .int i5)] → W p l e rmX6_matches s m av9 below meth c H locs 0 0 Q (F0 m 102 ls [.int v8]) := by
                intro H locs ls w hl
                refine lv_istore_n (lv' := [(2, .int v8), (0, .ref a_t), (1, .ref a_p1), (3, .int i5)]) hx hb dX6_matches_102 rfl hl (by decide) rfl (fun ls hl => ?_)
                obtain ⟨v9, e9, hT72⟩ := bq_let_el hT72
                refine lv_iinc (v := v9) (lv' := [(3, .int v9), (2, .int v8), (0, .ref a_t), (1, .ref a_p1)]) hx hb dX6_matches_103 hl (k := 3) rfl (by rw [e9]; rfl) (by decide) rfl (fun ls hl => ?_)
                clear e9
                refine lv_goto (tgt := 72) hx hb dX6_matches_106 (by decide) ?_
                obtain rfl := Option.some.inj hT72
                exact ih v9 v8 H locs ls hR72 w (lv_sub hl [2, 3, 1, 0] rfl)
              clear hT72
              refine lv_icmp_ne (tgt := 101) hx hb dX6_matches_94 (by decide) (fun hc => ?_) (fun hc => ?_)
              · replace hT102 := bq_ef hc hT102
                clear hc
                refine lv_iconst (v := 0) hx hb dX6_matches_101 (by decide) ?_
                subst hT102
                exact K102 H locs ls w (lv_sub hl [0, 1, 3] rfl)
              · replace hT102 := bq_et hc hT102
                clear hc
                refine lv_iconst (v := 1) hx hb dX6_matches_97 (by decide) ?_
                refine lv_goto (tgt := 102) hx hb dX6_matches_98 (by decide) ?_
                subst hT102
                exact K102 H locs ls w (lv_sub hl [0, 1, 3] rfl)
      exact L72 nn 0 v4 H locs ls hL w (lv_sub hl [1, 2, 3, 0] rfl)
    clear hm
    have L33 : ∀ (nn : Nat) (i2 : Int32) (i3 : Int32) (H : Heap) (locs : List Loc) (ls : Array Slot), bq_lp B nn (i2, i3) = some v4 → bq_w D A s.heap (wdX6_matches cI a_t a_t_positions a_t_timers a_p1 a_p1_circuit a_p1_positions a_p1_timers u_p1_sequence u_p1_log u_p1_score u_p1_strokes u_p1_faults t t_positions t_timers p1 p1_circuit p1_positions p1_timers) H locs → lv_has ls 4 [(0, .ref a_t), (1, .ref a_p1), (2, .int i3), (3, .int i2)] → W p l e rmX6_matches s m av9 below meth c H locs 0 0 Q (F0 m 33 ls []) := by
      intro nn
      induction nn with
      | zero =>
        intro i2 i3 H locs ls hL w hl
        exact bq_lp_0 hL
      | succ nn ih =>
        intro i2 i3 H locs ls hL w hl
        obtain ⟨oo33, hT33, hR33⟩ := bq_lp_el hL
        clear hL
        replace hT33 := bq_u2_el eB hT33
        unfold bX6_matches_33 at hT33
        refine lv_iload_n hx hb dX6_matches_33 rfl (lv_at hl 3 rfl) ?_
        refine lv_bipush (v := 6) hx hb dX6_matches_34 (by decide) ?_
        refine lv_icmp_ge (tgt := 70) hx hb dX6_matches_36 (by decide) (fun hc => ?_) (fun hc => ?_)
        · replace hT33 := bq_t hc hT33
          clear hc
          obtain rfl := Option.some.inj hT33
          replace hR33 := bq_lk_r hR33
          subst hR33
          exact X70 H locs ls w (lv_sub hl [0, 1, 2] rfl)
        · replace hT33 := bq_f hc hT33
          clear hc
          refine lv_iload_n hx hb dX6_matches_39 rfl (lv_at hl 2 rfl) ?_
          refine lv_if_eq (tgt := 70) hx hb dX6_matches_40 (by decide) (fun hc => ?_) (fun hc => ?_)
          · replace hT33 := bq_t hc hT33
            clear hc
            obtain rfl := Option.some.inj hT33
            replace hR33 := bq_lk_r hR33
            subst hR33
            exact X70 H locs ls w (lv_sub hl [0, 1, 2] rfl)
          · replace hT33 := bq_f hc hT33
            clear hc
            refine lv_aload_n hx hb dX6_matches_43 rfl (lv_at hl 0 rfl) ?_
            refine gt_X6_9 E K w 0 rfl rfl dX6_matches_44 ?_
            refine lv_iload_n hx hb dX6_matches_47 rfl (lv_at hl 3 rfl) ?_
            obtain ⟨hI, hT33⟩ := bq_ci_el hT33
            refine bq_ald E K w 1 rfl hI dX6_matches_48 ?_
            refine lv_aload_n hx hb dX6_matches_49 rfl (lv_at hl 1 rfl) ?_
            refine gt_X6_18 E K w 3 rfl rfl dX6_matches_50 ?_
            refine lv_iload_n hx hb dX6_matches_53 rfl (lv_at hl 3 rfl) ?_
            obtain ⟨hI, hT33⟩ := bq_ci_el hT33
            refine bq_ald E K w 5 rfl hI dX6_matches_54 ?_
            obtain ⟨v10, hT63, hT33⟩ := bq_let_el hT33
            have K63 : ∀ (H : Heap) (locs : List Loc) (ls : Array Slot), bq_w D A s.heap (wdX6_matches cI a_t a_t_positions a_t_timers a_p1 a_p1_circuit a_p1_positions a_p1_timers u_p1_sequence u_p1_log u_p1_score u_p1_strokes u_p1_faults t t_positions t_timers p1 p1_circuit p1_positions p1_timers) H locs → lv_has ls 4 [(0, .ref a_t), (1, .ref a_p1), (3, .int i2)] → W p l e rmX6_matches s m av9 below meth c H locs 0 0 Q (F0 m 63 ls [.int v10]) := by
              intro H locs ls w hl
              refine lv_istore_n (lv' := [(2, .int v10), (0, .ref a_t), (1, .ref a_p1), (3, .int i2)]) hx hb dX6_matches_63 rfl hl (by decide) rfl (fun ls hl => ?_)
              obtain ⟨v11, e9, hT33⟩ := bq_let_el hT33
              refine lv_iinc (v := v11) (lv' := [(3, .int v11), (2, .int v10), (0, .ref a_t), (1, .ref a_p1)]) hx hb dX6_matches_64 hl (k := 3) rfl (by rw [e9]; rfl) (by decide) rfl (fun ls hl => ?_)
              clear e9
              refine lv_goto (tgt := 33) hx hb dX6_matches_67 (by decide) ?_
              obtain rfl := Option.some.inj hT33
              exact ih v11 v10 H locs ls hR33 w (lv_sub hl [2, 3, 1, 0] rfl)
            clear hT33
            refine lv_icmp_ne (tgt := 62) hx hb dX6_matches_55 (by decide) (fun hc => ?_) (fun hc => ?_)
            · replace hT63 := bq_ef hc hT63
              clear hc
              refine lv_iconst (v := 0) hx hb dX6_matches_62 (by decide) ?_
              subst hT63
              exact K63 H locs ls w (lv_sub hl [0, 1, 3] rfl)
            · replace hT63 := bq_et hc hT63
              clear hc
              refine lv_iconst (v := 1) hx hb dX6_matches_58 (by decide) ?_
              refine lv_goto (tgt := 63) hx hb dX6_matches_59 (by decide) ?_
              subst hT63
              exact K63 H locs ls w (lv_sub hl [0, 1, 3] rfl)
    exact L33 nn 0 v1 H locs ls hL w (lv_sub hl [2, 3, 1, 0] rfl)
  clear hm
  refine lv_icmp_ne (tgt := 29) hx hb dX6_matches_8 (by decide) (fun hc => ?_) (fun hc => ?_)
  · replace hT30 := bq_ef hc hT30
    clear hc
    refine lv_iconst (v := 0) hx hb dX6_matches_29 (by decide) ?_
    subst hT30
    exact K30 H locs ls w (lv_sub hl [0, 1] rfl)
  · replace hT30 := bq_et hc hT30
    clear hc
    refine lv_aload_n hx hb dX6_matches_11 rfl (lv_at hl 0 rfl) ?_
    refine gt_X6_42 E K w 0 rfl rfl dX6_matches_12 ?_
    refine lv_aload_n hx hb dX6_matches_15 rfl (lv_at hl 1 rfl) ?_
    refine gt_X6_33 E K w 3 rfl rfl dX6_matches_16 ?_
    refine gt_X6_37 E K w 4 rfl rfl dX6_matches_19 ?_
    refine lv_icmp_ne (tgt := 29) hx hb dX6_matches_22 (by decide) (fun hc => ?_) (fun hc => ?_)
    · replace hT30 := bq_ef hc hT30
      clear hc
      refine lv_iconst (v := 0) hx hb dX6_matches_29 (by decide) ?_
      subst hT30
      exact K30 H locs ls w (lv_sub hl [0, 1] rfl)
    · replace hT30 := bq_et hc hT30
      clear hc
      refine lv_iconst (v := 1) hx hb dX6_matches_25 (by decide) ?_
      refine lv_goto (tgt := 30) hx hb dX6_matches_26 (by decide) ?_
      subst hT30
      exact K30 H locs ls w (lv_sub hl [0, 1] rfl)
abbrev wdX6_take (cI : ClassId) (a_t a_t_positions a_t_timers a_p1 a_p1_circuit a_p1_positions a_p1_timers u_p1_sequence u_p1_log u_p1_score u_p1_strokes u_p1_faults : Nat) (t t_positions t_timers p1 p1_circuit p1_positions p1_timers : Nat → Int32) : va_W := [(a_t, oX6 a_t_positions a_t_timers t), (a_t_positions, oA cI 6 t_positions), (a_t_timers, oA cI 16 t_timers), (a_p1, oX3 u_p1_sequence a_p1_circuit u_p1_log u_p1_score u_p1_strokes a_p1_positions a_p1_timers u_p1_faults p1), (a_p1_circuit, oX0 p1_circuit), (a_p1_positions, oA cI 6 p1_positions), (a_p1_timers, oA cI 16 p1_timers)]
abbrev rmX6_take : Room := { frames := 1, cells := 0, slots := 0, locals := 40 }
theorem hd_X6_take : yX6_take.cls = RX6 ∧ yX6_take.cls ≠ "java/lang/invoke/MethodHandle" ∧ yX6_take.cls ≠ "java/lang/invoke/VarHandle" ∧ (parseMethodDescriptor yX6_take.desc).map (fun d => d.parameters.length) = some 1 := by decide +kernel
set_option maxHeartbeats 4000000 in
set_option maxRecDepth 100000 in
theorem kX6_take (l : Launch) (D : va_G) (cI cJ : ClassId) (a_t a_t_positions a_t_timers a_p1 a_p1_circuit a_p1_positions a_p1_timers u_p1_sequence u_p1_log u_p1_score u_p1_strokes u_p1_faults : Nat) (t t_positions t_timers p1 p1_circuit p1_positions p1_timers : Nat → Int32) (t_o : Nat → Int32) (t_positions_o : Nat → Int32) (t_timers_o : Nat → Int32) (hm : mX6_take t t_positions t_timers p1 p1_circuit p1_positions p1_timers = some (t_o, t_positions_o, t_timers_o)) : bq_M l D cI cJ yX6_take cX6_take 2 none rmX6_take [.ref a_t, .ref a_p1] (wdX6_take cI a_t a_t_positions a_t_timers a_p1 a_p1_circuit a_p1_positions a_p1_timers u_p1_sequence u_p1_log u_p1_score u_p1_strokes u_p1_faults t t_positions t_timers p1 p1_circuit p1_positions p1_timers) (wdX6_take cI a_t a_t_positions a_t_timers a_p1 a_p1_circuit a_p1_positions a_p1_timers u_p1_sequence u_p1_log u_p1_score u_p1_strokes u_p1_faults t_o t_positions_o t_timers_o p1 p1_circuit p1_positions p1_timers) none := by
  refine bq_start (by decide) (Nat.le_of_ble_eq_true rfl) ?_
  intro p e s m av9 below meth c A ls Q H locs E K w hA hr hk hn hQ hl
  have E : bq_E p m c cX6_take 2 s av9 RX6 := E
  have hx := E.1
  have hb := E.2.1
  have hl : lv_has ls 2 [(0, .ref a_t), (1, .ref a_p1)] := hl
  unfold mX6_take at hm
  refine lv_aload_n hx hb dX6_take_0 rfl (lv_at hl 1 rfl) ?_
  refine gt_X6_18 E K w 3 rfl rfl dX6_take_1 ?_
  refine lv_iconst (v := 0) hx hb dX6_take_4 (by decide) ?_
  refine lv_aload_n hx hb dX6_take_5 rfl (lv_at hl 0 rfl) ?_
  refine gt_X6_9 E K w 0 rfl rfl dX6_take_6 ?_
  refine lv_iconst (v := 0) hx hb dX6_take_9 (by decide) ?_
  refine lv_bipush (v := 6) hx hb dX6_take_10 (by decide) ?_
  obtain ⟨t_positions_1, e9, hm⟩ := bq_let_el hm
  refine bq_copy (sk := 0) (dk := 0) (nk := 6) E K w ml_X6_21 5 1 rfl rfl (by decide) (by decide) (by decide) (by decide) (by decide) (by decide) (by decide) (by decide) (by decide) (by decide) hl.1 dX6_take_12 (fun H locs w => ?_)
  replace w : bq_w D A s.heap (wdX6_take cI a_t a_t_positions a_t_timers a_p1 a_p1_circuit a_p1_positions a_p1_timers u_p1_sequence u_p1_log u_p1_score u_p1_strokes u_p1_faults t t_positions_1 t_timers p1 p1_circuit p1_positions p1_timers) H locs := by rw [e9]; exact w
  clear e9
  refine lv_aload_n hx hb dX6_take_15 rfl (lv_at hl 1 rfl) ?_
  refine gt_X6_27 E K w 3 rfl rfl dX6_take_16 ?_
  refine lv_iconst (v := 0) hx hb dX6_take_19 (by decide) ?_
  refine lv_aload_n hx hb dX6_take_20 rfl (lv_at hl 0 rfl) ?_
  refine gt_X6_15 E K w 0 rfl rfl dX6_take_21 ?_
  refine lv_iconst (v := 0) hx hb dX6_take_24 (by decide) ?_
  refine lv_bipush (v := 16) hx hb dX6_take_25 (by decide) ?_
  obtain ⟨t_timers_2, e9, hm⟩ := bq_let_el hm
  refine bq_copy (sk := 0) (dk := 0) (nk := 16) E K w ml_X6_21 6 2 rfl rfl (by decide) (by decide) (by decide) (by decide) (by decide) (by decide) (by decide) (by decide) (by decide) (by decide) hl.1 dX6_take_27 (fun H locs w => ?_)
  replace w : bq_w D A s.heap (wdX6_take cI a_t a_t_positions a_t_timers a_p1 a_p1_circuit a_p1_positions a_p1_timers u_p1_sequence u_p1_log u_p1_score u_p1_strokes u_p1_faults t t_positions_1 t_timers_2 p1 p1_circuit p1_positions p1_timers) H locs := by rw [e9]; exact w
  clear e9
  refine lv_aload_n hx hb dX6_take_30 rfl (lv_at hl 0 rfl) ?_
  refine lv_aload_n hx hb dX6_take_31 rfl (lv_at hl 1 rfl) ?_
  refine gt_X6_28 E K w 3 rfl rfl dX6_take_32 ?_
  obtain ⟨t_3, e9, hm⟩ := bq_let_el hm
  refine pt_X6_32 E K w 0 rfl (Nat.le_of_ble_eq_true rfl) dX6_take_35 (fun H locs w => ?_)
  replace w : bq_w D A s.heap (wdX6_take cI a_t a_t_positions a_t_timers a_p1 a_p1_circuit a_p1_positions a_p1_timers u_p1_sequence u_p1_log u_p1_score u_p1_strokes u_p1_faults t_3 t_positions_1 t_timers_2 p1 p1_circuit p1_positions p1_timers) H locs := by rw [e9]; exact w
  clear e9
  refine lv_aload_n hx hb dX6_take_38 rfl (lv_at hl 0 rfl) ?_
  refine lv_aload_n hx hb dX6_take_39 rfl (lv_at hl 1 rfl) ?_
  refine gt_X6_33 E K w 3 rfl rfl dX6_take_40 ?_
  refine gt_X6_37 E K w 4 rfl rfl dX6_take_43 ?_
  obtain ⟨t_4, e9, hm⟩ := bq_let_el hm
  refine pt_X6_42 E K w 0 rfl (Nat.le_of_ble_eq_true rfl) dX6_take_46 (fun H locs w => ?_)
  replace w : bq_w D A s.heap (wdX6_take cI a_t a_t_positions a_t_timers a_p1 a_p1_circuit a_p1_positions a_p1_timers u_p1_sequence u_p1_log u_p1_score u_p1_strokes u_p1_faults t_4 t_positions_1 t_timers_2 p1 p1_circuit p1_positions p1_timers) H locs := by rw [e9]; exact w
  clear e9
  obtain ⟨rfl, rfl, rfl⟩ := bq_in3 (Option.some.inj hm)
  exact bq_vret E w hr hk dX6_take_49 hQ
abbrev wdX7_runTrialFar (cI : ClassId) (a_t a_t_snapshot a_t_snapshot_positions a_t_snapshot_timers a_t_trial a_t_trial_circuit a_t_trial_faults a_t_trial_log a_t_trial_log_moves a_t_trial_log_times a_t_trial_positions a_t_trial_score a_t_trial_sequence a_t_trial_sequence_cuts a_t_trial_sequence_groupOfStep a_t_trial_sequence_minus a_t_trial_sequence_pauses a_t_trial_sequence_plus a_t_trial_strokes a_t_trial_timers u_t_reader u_t_rig u_t_spare u_t_trial_sequence_outBefore : Nat) (t t_snapshot t_snapshot_positions t_snapshot_timers t_trial t_trial_circuit t_trial_faults t_trial_log t_trial_log_moves t_trial_log_times t_trial_positions t_trial_score t_trial_sequence t_trial_sequence_cuts t_trial_sequence_groupOfStep t_trial_sequence_minus t_trial_sequence_pauses t_trial_sequence_plus t_trial_strokes t_trial_timers : Nat → Int32) : va_W := [(a_t, oX7 u_t_reader u_t_rig a_t_trial a_t_snapshot u_t_spare t), (a_t_snapshot, oX6 a_t_snapshot_positions a_t_snapshot_timers t_snapshot), (a_t_snapshot_positions, oA cI 6 t_snapshot_positions), (a_t_snapshot_timers, oA cI 16 t_snapshot_timers), (a_t_trial, oX3 a_t_trial_sequence a_t_trial_circuit a_t_trial_log a_t_trial_score a_t_trial_strokes a_t_trial_positions a_t_trial_timers a_t_trial_faults t_trial), (a_t_trial_circuit, oX0 t_trial_circuit), (a_t_trial_faults, oA cI 5 t_trial_faults), (a_t_trial_log, oX1 a_t_trial_log_times a_t_trial_log_moves t_trial_log), (a_t_trial_log_moves, oA cI 40 t_trial_log_moves), (a_t_trial_log_times, oA cI 40 t_trial_log_times), (a_t_trial_positions, oA cI 6 t_trial_positions), (a_t_trial_score, oX4 t_trial_score), (a_t_trial_sequence, oX5 a_t_trial_sequence_plus a_t_trial_sequence_minus a_t_trial_sequence_pauses u_t_trial_sequence_outBefore a_t_trial_sequence_cuts a_t_trial_sequence_groupOfStep t_trial_sequence), (a_t_trial_sequence_cuts, oA cI 16 t_trial_sequence_cuts), (a_t_trial_sequence_groupOfStep, oA cI 16 t_trial_sequence_groupOfStep), (a_t_trial_sequence_minus, oA cI 16 t_trial_sequence_minus), (a_t_trial_sequence_pauses, oA cI 16 t_trial_sequence_pauses), (a_t_trial_sequence_plus, oA cI 16 t_trial_sequence_plus), (a_t_trial_strokes, oA cI 6 t_trial_strokes), (a_t_trial_timers, oA cI 16 t_trial_timers)]
abbrev rmX7_runTrialFar : Room := { frames := 4, cells := 0, slots := 0, locals := 95 }
theorem hd_X7_runTrialFar : yX7_runTrialFar.cls = RX7 ∧ yX7_runTrialFar.cls ≠ "java/lang/invoke/MethodHandle" ∧ yX7_runTrialFar.cls ≠ "java/lang/invoke/VarHandle" ∧ (parseMethodDescriptor yX7_runTrialFar.desc).map (fun d => d.parameters.length) = some 1 := by decide +kernel
set_option maxHeartbeats 4000000 in
set_option maxRecDepth 100000 in
theorem kX7_runTrialFar (l : Launch) (D : va_G) (cI cJ : ClassId) (a_t a_t_snapshot a_t_snapshot_positions a_t_snapshot_timers a_t_trial a_t_trial_circuit a_t_trial_faults a_t_trial_log a_t_trial_log_moves a_t_trial_log_times a_t_trial_positions a_t_trial_score a_t_trial_sequence a_t_trial_sequence_cuts a_t_trial_sequence_groupOfStep a_t_trial_sequence_minus a_t_trial_sequence_pauses a_t_trial_sequence_plus a_t_trial_strokes a_t_trial_timers u_t_reader u_t_rig u_t_spare u_t_trial_sequence_outBefore : Nat) (t t_snapshot t_snapshot_positions t_snapshot_timers t_trial t_trial_circuit t_trial_faults t_trial_log t_trial_log_moves t_trial_log_times t_trial_positions t_trial_score t_trial_sequence t_trial_sequence_cuts t_trial_sequence_groupOfStep t_trial_sequence_minus t_trial_sequence_pauses t_trial_sequence_plus t_trial_strokes t_trial_timers : Nat → Int32) (x1 : Int32) (t_snapshot_o : Nat → Int32) (t_snapshot_positions_o : Nat → Int32) (t_snapshot_timers_o : Nat → Int32) (t_trial_o : Nat → Int32) (t_trial_circuit_o : Nat → Int32) (t_trial_log_o : Nat → Int32) (t_trial_log_moves_o : Nat → Int32) (t_trial_log_times_o : Nat → Int32) (t_trial_positions_o : Nat → Int32) (t_trial_score_o : Nat → Int32) (t_trial_timers_o : Nat → Int32) (hm : mX7_runTrialFar t_snapshot t_snapshot_positions t_snapshot_timers t_trial t_trial_circuit t_trial_faults t_trial_log t_trial_log_moves t_trial_log_times t_trial_positions t_trial_score t_trial_sequence t_trial_sequence_cuts t_trial_sequence_groupOfStep t_trial_sequence_minus t_trial_sequence_pauses t_trial_sequence_plus t_trial_strokes t_trial_timers x1 = some (t_snapshot_o, t_snapshot_positions_o, t_snapshot_timers_o, t_trial_o, t_trial_circuit_o, t_trial_log_o, t_trial_log_moves_o, t_trial_log_times_o, t_trial_positions_o, t_trial_score_o, t_trial_timers_o)) : bq_M l D cI cJ yX7_runTrialFar cX7_runTrialFar 7 none rmX7_runTrialFar [.ref a_t, .int x1] (wdX7_runTrialFar cI a_t a_t_snapshot a_t_snapshot_positions a_t_snapshot_timers a_t_trial a_t_trial_circuit a_t_trial_faults a_t_trial_log a_t_trial_log_moves a_t_trial_log_times a_t_trial_positions a_t_trial_score a_t_trial_sequence a_t_trial_sequence_cuts a_t_trial_sequence_groupOfStep a_t_trial_sequence_minus a_t_trial_sequence_pauses a_t_trial_sequence_plus a_t_trial_strokes a_t_trial_timers u_t_reader u_t_rig u_t_spare u_t_trial_sequence_outBefore t t_snapshot t_snapshot_positions t_snapshot_timers t_trial t_trial_circuit t_trial_faults t_trial_log t_trial_log_moves t_trial_log_times t_trial_positions t_trial_score t_trial_sequence t_trial_sequence_cuts t_trial_sequence_groupOfStep t_trial_sequence_minus t_trial_sequence_pauses t_trial_sequence_plus t_trial_strokes t_trial_timers) (wdX7_runTrialFar cI a_t a_t_snapshot a_t_snapshot_positions a_t_snapshot_timers a_t_trial a_t_trial_circuit a_t_trial_faults a_t_trial_log a_t_trial_log_moves a_t_trial_log_times a_t_trial_positions a_t_trial_score a_t_trial_sequence a_t_trial_sequence_cuts a_t_trial_sequence_groupOfStep a_t_trial_sequence_minus a_t_trial_sequence_pauses a_t_trial_sequence_plus a_t_trial_strokes a_t_trial_timers u_t_reader u_t_rig u_t_spare u_t_trial_sequence_outBefore t t_snapshot_o t_snapshot_positions_o t_snapshot_timers_o t_trial_o t_trial_circuit_o t_trial_faults t_trial_log_o t_trial_log_moves_o t_trial_log_times_o t_trial_positions_o t_trial_score_o t_trial_sequence t_trial_sequence_cuts t_trial_sequence_groupOfStep t_trial_sequence_minus t_trial_sequence_pauses t_trial_sequence_plus t_trial_strokes t_trial_timers_o) none := by
  refine bq_start (by decide) (Nat.le_of_ble_eq_true rfl) ?_
  intro p e s m av9 below meth c A ls Q H locs E K w hA hr hk hn hQ hl
  have E : bq_E p m c cX7_runTrialFar 7 s av9 RX7 := E
  have hx := E.1
  have hb := E.2.1
  have hl : lv_has ls 7 [(0, .ref a_t), (1, .int x1)] := hl
  unfold mX7_runTrialFar at hm
  refine lv_iload_n hx hb dX7_runTrialFar_0 rfl (lv_at hl 1 rfl) ?_
  refine lv_istore_n (lv' := [(2, .int x1), (0, .ref a_t), (1, .int x1)]) hx hb dX7_runTrialFar_1 rfl hl (by decide) rfl (fun ls hl => ?_)
  refine lv_iconst (v := 0) hx hb dX7_runTrialFar_2 (by decide) ?_
  refine lv_istore_n (lv' := [(3, .int 0), (2, .int x1), (0, .ref a_t), (1, .int x1)]) hx hb dX7_runTrialFar_3 rfl hl (by decide) rfl (fun ls hl => ?_)
  refine lv_iconst (v := 1) hx hb dX7_runTrialFar_4 (by decide) ?_
  refine lv_istore (lv' := [(4, .int 1), (3, .int 0), (2, .int x1), (0, .ref a_t), (1, .int x1)]) hx hb dX7_runTrialFar_5 hl (by decide) rfl (fun ls hl => ?_)
  refine lv_iconst (v := 0) hx hb dX7_runTrialFar_7 (by decide) ?_
  refine lv_istore (lv' := [(5, .int 0), (4, .int 1), (3, .int 0), (2, .int x1), (0, .ref a_t), (1, .int x1)]) hx hb dX7_runTrialFar_8 hl (by decide) rfl (fun ls hl => ?_)
  refine lv_aload_n hx hb dX7_runTrialFar_10 rfl (lv_at hl 4 rfl) ?_
  refine gt_X7_34 E K w 0 rfl rfl dX7_runTrialFar_11 ?_
  refine lv_aload_n hx hb dX7_runTrialFar_14 rfl (lv_at hl 4 rfl) ?_
  refine gt_X7_28 E K w 0 rfl rfl dX7_runTrialFar_15 ?_
  obtain ⟨t_snapshot_1, t_snapshot_positions_2, t_snapshot_timers_3, hC, hm⟩ := bq_b3_el hm
  refine bq_V (As := [.ref a_t_trial]) (rest := []) (st1 := []) (ws' := wdX7_runTrialFar cI a_t a_t_snapshot a_t_snapshot_positions a_t_snapshot_timers a_t_trial a_t_trial_circuit a_t_trial_faults a_t_trial_log a_t_trial_log_moves a_t_trial_log_times a_t_trial_positions a_t_trial_score a_t_trial_sequence a_t_trial_sequence_cuts a_t_trial_sequence_groupOfStep a_t_trial_sequence_minus a_t_trial_sequence_pauses a_t_trial_sequence_plus a_t_trial_strokes a_t_trial_timers u_t_reader u_t_rig u_t_spare u_t_trial_sequence_outBefore t t_snapshot_1 t_snapshot_positions_2 t_snapshot_timers_3 t_trial t_trial_circuit t_trial_faults t_trial_log t_trial_log_moves t_trial_log_times t_trial_positions t_trial_score t_trial_sequence t_trial_sequence_cuts t_trial_sequence_groupOfStep t_trial_sequence_minus t_trial_sequence_pauses t_trial_sequence_plus t_trial_strokes t_trial_timers) E K w hA (kX6_take l D cI cJ a_t_snapshot a_t_snapshot_positions a_t_snapshot_timers a_t_trial a_t_trial_circuit a_t_trial_positions a_t_trial_timers a_t_trial_sequence a_t_trial_log a_t_trial_score a_t_trial_strokes a_t_trial_faults t_snapshot t_snapshot_positions t_snapshot_timers t_trial t_trial_circuit t_trial_positions t_trial_timers t_snapshot_1 t_snapshot_positions_2 t_snapshot_timers_3 hC) (bq_gV ml_X7_289 im_X6_take sl_X6_take in_X6 cd_X6_take) hd_X6_take ⟨Nat.le_of_ble_eq_true rfl, Nat.le_of_ble_eq_true rfl⟩ ⟨Nat.le_of_ble_eq_true rfl, Nat.le_of_ble_eq_true rfl⟩ ⟨[1, 2, 3, 4, 5, 10, 19], [0, 6, 7, 8, 9, 11, 12, 13, 14, 15, 16, 17, 18], [0, 13, 14, 15, 16, 17, 1, 2, 3, 4, 18, 5, 6, 7, 8, 9, 10, 11, 12, 19], rfl, rfl, rfl, rfl, rfl, rfl, rfl, rfl, rfl⟩ 1 rfl rfl rfl hl.1 rfl (Nat.le_of_ble_eq_true rfl) rfl dX7_runTrialFar_18 (fun H locs w => bq_z ⟨rfl, rfl⟩ ?_)
  clear hC
  refine lv_iconst (v := 0) hx hb dX7_runTrialFar_21 (by decide) ?_
  refine lv_istore (lv' := [(6, .int 0), (5, .int 0), (4, .int 1), (3, .int 0), (2, .int x1), (0, .ref a_t), (1, .int x1)]) hx hb dX7_runTrialFar_22 hl (by decide) rfl (fun ls hl => ?_)
  obtain ⟨t_snapshot_20, t_snapshot_positions_21, t_snapshot_timers_22, t_trial_23, t_trial_circuit_24, t_trial_log_25, t_trial_log_moves_26, t_trial_log_times_27, t_trial_positions_28, t_trial_score_29, t_trial_timers_30, hL, hm⟩ := bq_b11_el hm
  obtain ⟨B, eB, nn, hL⟩ := bq_loop_B hL
  have X114 : ∀ (H : Heap) (locs : List Loc) (ls : Array Slot), bq_w D A s.heap (wdX7_runTrialFar cI a_t a_t_snapshot a_t_snapshot_positions a_t_snapshot_timers a_t_trial a_t_trial_circuit a_t_trial_faults a_t_trial_log a_t_trial_log_moves a_t_trial_log_times a_t_trial_positions a_t_trial_score a_t_trial_sequence a_t_trial_sequence_cuts a_t_trial_sequence_groupOfStep a_t_trial_sequence_minus a_t_trial_sequence_pauses a_t_trial_sequence_plus a_t_trial_strokes a_t_trial_timers u_t_reader u_t_rig u_t_spare u_t_trial_sequence_outBefore t t_snapshot_20 t_snapshot_positions_21 t_snapshot_timers_22 t_trial_23 t_trial_circuit_24 t_trial_faults t_trial_log_25 t_trial_log_moves_26 t_trial_log_times_27 t_trial_positions_28 t_trial_score_29 t_trial_sequence t_trial_sequence_cuts t_trial_sequence_groupOfStep t_trial_sequence_minus t_trial_sequence_pauses t_trial_sequence_plus t_trial_strokes t_trial_timers_30) H locs → lv_has ls 7 [] → W p l e rmX7_runTrialFar s m av9 below meth c H locs 0 0 Q (F0 m 114 ls []) := by
    intro H locs ls w hl
    obtain ⟨rfl, rfl, rfl, rfl, rfl, rfl, rfl, rfl, rfl, rfl, rfl⟩ := bq_in11 (Option.some.inj hm)
    exact bq_vret E w hr hk dX7_runTrialFar_114 hQ
  clear hm
  have L24 : ∀ (nn : Nat) (i4 : Int32) (i5 : Int32) (i6 : Int32) (i7 : Int32) (i8 : Int32) (t_snapshot_9 : Nat → Int32) (t_snapshot_positions_10 : Nat → Int32) (t_snapshot_timers_11 : Nat → Int32) (t_trial_12 : Nat → Int32) (t_trial_circuit_13 : Nat → Int32) (t_trial_log_14 : Nat → Int32) (t_trial_log_moves_15 : Nat → Int32) (t_trial_log_times_16 : Nat → Int32) (t_trial_positions_17 : Nat → Int32) (t_trial_score_18 : Nat → Int32) (t_trial_timers_19 : Nat → Int32) (H : Heap) (locs : List Loc) (ls : Array Slot), bq_lp B nn (i4, i5, i6, i7, i8, t_snapshot_9, t_snapshot_positions_10, t_snapshot_timers_11, t_trial_12, t_trial_circuit_13, t_trial_log_14, t_trial_log_moves_15, t_trial_log_times_16, t_trial_positions_17, t_trial_score_18, t_trial_timers_19) = some (t_snapshot_20, t_snapshot_positions_21, t_snapshot_timers_22, t_trial_23, t_trial_circuit_24, t_trial_log_25, t_trial_log_moves_26, t_trial_log_times_27, t_trial_positions_28, t_trial_score_29, t_trial_timers_30) → bq_w D A s.heap (wdX7_runTrialFar cI a_t a_t_snapshot a_t_snapshot_positions a_t_snapshot_timers a_t_trial a_t_trial_circuit a_t_trial_faults a_t_trial_log a_t_trial_log_moves a_t_trial_log_times a_t_trial_positions a_t_trial_score a_t_trial_sequence a_t_trial_sequence_cuts a_t_trial_sequence_groupOfStep a_t_trial_sequence_minus a_t_trial_sequence_pauses a_t_trial_sequence_plus a_t_trial_strokes a_t_trial_timers u_t_reader u_t_rig u_t_spare u_t_trial_sequence_outBefore t t_snapshot_9 t_snapshot_positions_10 t_snapshot_timers_11 t_trial_12 t_trial_circuit_13 t_trial_faults t_trial_log_14 t_trial_log_moves_15 t_trial_log_times_16 t_trial_positions_17 t_trial_score_18 t_trial_sequence t_trial_sequence_cuts t_trial_sequence_groupOfStep t_trial_sequence_minus t_trial_sequence_pauses t_trial_sequence_plus t_trial_strokes t_trial_timers_19) H locs → lv_has ls 7 [(0, .ref a_t), (1, .int x1), (2, .int i8), (3, .int i7), (4, .int i6), (5, .int i5), (6, .int i4)] → W p l e rmX7_runTrialFar s m av9 below meth c H locs 0 0 Q (F0 m 24 ls []) := by
    intro nn
    induction nn with
    | zero =>
      intro i4 i5 i6 i7 i8 t_snapshot_9 t_snapshot_positions_10 t_snapshot_timers_11 t_trial_12 t_trial_circuit_13 t_trial_log_14 t_trial_log_moves_15 t_trial_log_times_16 t_trial_positions_17 t_trial_score_18 t_trial_timers_19 H locs ls hL w hl
      exact bq_lp_0 hL
    | succ nn ih =>
      intro i4 i5 i6 i7 i8 t_snapshot_9 t_snapshot_positions_10 t_snapshot_timers_11 t_trial_12 t_trial_circuit_13 t_trial_log_14 t_trial_log_moves_15 t_trial_log_times_16 t_trial_positions_17 t_trial_score_18 t_trial_timers_19 H locs ls hL w hl
      obtain ⟨oo24, hT24, hR24⟩ := bq_lp_el hL
      clear hL
      replace hT24 := bq_u16_el eB hT24
      unfold bX7_runTrialFar_24 at hT24
      refine lv_iload hx hb dX7_runTrialFar_24 (lv_at hl 6 rfl) ?_
      refine lv_iload_n hx hb dX7_runTrialFar_26 rfl (lv_at hl 1 rfl) ?_
      refine lv_icmp_ge (tgt := 114) hx hb dX7_runTrialFar_27 (by decide) (fun hc => ?_) (fun hc => ?_)
      · replace hT24 := bq_t hc hT24
        clear hc
        obtain rfl := Option.some.inj hT24
        replace hR24 := bq_lk_r hR24
        obtain ⟨rfl, rfl, rfl, rfl, rfl, rfl, rfl, rfl, rfl, rfl, rfl⟩ := bq_in11 hR24
        exact X114 H locs ls w (lv_sub hl [] rfl)
      · replace hT24 := bq_f hc hT24
        clear hc
        refine lv_iload_n hx hb dX7_runTrialFar_30 rfl (lv_at hl 2 rfl) ?_
        refine lv_if_le (tgt := 114) hx hb dX7_runTrialFar_31 (by decide) (fun hc => ?_) (fun hc => ?_)
        · replace hT24 := bq_t hc hT24
          clear hc
          obtain rfl := Option.some.inj hT24
          replace hR24 := bq_lk_r hR24
          obtain ⟨rfl, rfl, rfl, rfl, rfl, rfl, rfl, rfl, rfl, rfl, rfl⟩ := bq_in11 hR24
          exact X114 H locs ls w (lv_sub hl [] rfl)
        · replace hT24 := bq_f hc hT24
          clear hc
          refine lv_aload_n hx hb dX7_runTrialFar_34 rfl (lv_at hl 0 rfl) ?_
          refine gt_X7_28 E K w 0 rfl rfl dX7_runTrialFar_35 ?_
          obtain ⟨t_trial_31, t_trial_circuit_32, t_trial_log_33, t_trial_log_moves_34, t_trial_log_times_35, t_trial_positions_36, t_trial_score_37, t_trial_timers_38, hC, hT24⟩ := bq_b8_el hT24
          refine bq_V (As := []) (rest := []) (st1 := []) (ws' := wdX7_runTrialFar cI a_t a_t_snapshot a_t_snapshot_positions a_t_snapshot_timers a_t_trial a_t_trial_circuit a_t_trial_faults a_t_trial_log a_t_trial_log_moves a_t_trial_log_times a_t_trial_positions a_t_trial_score a_t_trial_sequence a_t_trial_sequence_cuts a_t_trial_sequence_groupOfStep a_t_trial_sequence_minus a_t_trial_sequence_pauses a_t_trial_sequence_plus a_t_trial_strokes a_t_trial_timers u_t_reader u_t_rig u_t_spare u_t_trial_sequence_outBefore t t_snapshot_9 t_snapshot_positions_10 t_snapshot_timers_11 t_trial_31 t_trial_circuit_32 t_trial_faults t_trial_log_33 t_trial_log_moves_34 t_trial_log_times_35 t_trial_positions_36 t_trial_score_37 t_trial_sequence t_trial_sequence_cuts t_trial_sequence_groupOfStep t_trial_sequence_minus t_trial_sequence_pauses t_trial_sequence_plus t_trial_strokes t_trial_timers_38) E K w hA (kX3_makeTick l D cI cJ a_t_trial a_t_trial_circuit a_t_trial_faults a_t_trial_log a_t_trial_log_moves a_t_trial_log_times a_t_trial_positions a_t_trial_score a_t_trial_sequence a_t_trial_sequence_cuts a_t_trial_sequence_groupOfStep a_t_trial_sequence_minus a_t_trial_sequence_pauses a_t_trial_sequence_plus a_t_trial_strokes a_t_trial_timers u_t_trial_sequence_outBefore t_trial_12 t_trial_circuit_13 t_trial_faults t_trial_log_14 t_trial_log_moves_15 t_trial_log_times_16 t_trial_positions_17 t_trial_score_18 t_trial_sequence t_trial_sequence_cuts t_trial_sequence_groupOfStep t_trial_sequence_minus t_trial_sequence_pauses t_trial_sequence_plus t_trial_strokes t_trial_timers_19 t_trial_31 t_trial_circuit_32 t_trial_log_33 t_trial_log_moves_34 t_trial_log_times_35 t_trial_positions_36 t_trial_score_37 t_trial_timers_38 hC) (bq_gV ml_X7_272 im_X3_makeTick sl_X3_makeTick in_X3 cd_X3_makeTick) hd_X3_makeTick ⟨Nat.le_of_ble_eq_true rfl, Nat.le_of_ble_eq_true rfl⟩ ⟨Nat.le_of_ble_eq_true rfl, Nat.le_of_ble_eq_true rfl⟩ ⟨[4, 5, 6, 7, 8, 9, 10, 11, 12, 13, 14, 15, 16, 17, 18, 19], [0, 1, 2, 3], [0, 1, 2, 3, 4, 5, 6, 7, 8, 9, 10, 11, 12, 13, 14, 15, 16, 17, 18, 19], rfl, rfl, rfl, rfl, rfl, rfl, rfl, rfl, rfl⟩ 4 rfl rfl rfl hl.1 rfl (Nat.le_of_ble_eq_true rfl) rfl dX7_runTrialFar_38 (fun H locs w => bq_z ⟨rfl, rfl⟩ ?_)
          clear hC
          obtain ⟨v39, e9, hT24⟩ := bq_let_el hT24
          refine lv_iinc (v := v39) (lv' := [(2, .int v39), (0, .ref a_t), (1, .int x1), (3, .int i7), (4, .int i6), (5, .int i5), (6, .int i4)]) hx hb dX7_runTrialFar_41 hl (k := 2) rfl (by rw [e9]; rfl) (by decide) rfl (fun ls hl => ?_)
          clear e9
          obtain ⟨v40, e9, hT24⟩ := bq_let_el hT24
          refine lv_iinc (v := v40) (lv' := [(3, .int v40), (2, .int v39), (0, .ref a_t), (1, .int x1), (4, .int i6), (5, .int i5), (6, .int i4)]) hx hb dX7_runTrialFar_44 hl (k := 3) rfl (by rw [e9]; rfl) (by decide) rfl (fun ls hl => ?_)
          clear e9
          refine lv_iload hx hb dX7_runTrialFar_47 (lv_at hl 5 rfl) ?_
          obtain ⟨v41, v42, v43, v44, t_snapshot_45, t_snapshot_positions_46, t_snapshot_timers_47, hT108, hT24⟩ := bq_b7_el hT24
          have K108 : ∀ (H : Heap) (locs : List Loc) (ls : Array Slot), bq_w D A s.heap (wdX7_runTrialFar cI a_t a_t_snapshot a_t_snapshot_positions a_t_snapshot_timers a_t_trial a_t_trial_circuit a_t_trial_faults a_t_trial_log a_t_trial_log_moves a_t_trial_log_times a_t_trial_positions a_t_trial_score a_t_trial_sequence a_t_trial_sequence_cuts a_t_trial_sequence_groupOfStep a_t_trial_sequence_minus a_t_trial_sequence_pauses a_t_trial_sequence_plus a_t_trial_strokes a_t_trial_timers u_t_reader u_t_rig u_t_spare u_t_trial_sequence_outBefore t t_snapshot_45 t_snapshot_positions_46 t_snapshot_timers_47 t_trial_31 t_trial_circuit_32 t_trial_faults t_trial_log_33 t_trial_log_moves_34 t_trial_log_times_35 t_trial_positions_36 t_trial_score_37 t_trial_sequence t_trial_sequence_cuts t_trial_sequence_groupOfStep t_trial_sequence_minus t_trial_sequence_pauses t_trial_sequence_plus t_trial_strokes t_trial_timers_38) H locs → lv_has ls 7 [(0, .ref a_t), (1, .int x1), (2, .int v41), (3, .int v42), (4, .int v43), (5, .int v44), (6, .int i4)] → W p l e rmX7_runTrialFar s m av9 below meth c H locs 0 0 Q (F0 m 108 ls []) := by
            intro H locs ls w hl
            obtain ⟨v54, e9, hT24⟩ := bq_let_el hT24
            refine lv_iinc (v := v54) (lv' := [(6, .int v54), (0, .ref a_t), (1, .int x1), (2, .int v41), (3, .int v42), (4, .int v43), (5, .int v44)]) hx hb dX7_runTrialFar_108 hl (k := 6) rfl (by rw [e9]; rfl) (by decide) rfl (fun ls hl => ?_)
            clear e9
            refine lv_goto (tgt := 24) hx hb dX7_runTrialFar_111 (by decide) ?_
            obtain rfl := Option.some.inj hT24
            exact ih v54 v44 v43 v42 v41 t_snapshot_45 t_snapshot_positions_46 t_snapshot_timers_47 t_trial_31 t_trial_circuit_32 t_trial_log_33 t_trial_log_moves_34 t_trial_log_times_35 t_trial_positions_36 t_trial_score_37 t_trial_timers_38 H locs ls hR24 w (lv_sub hl [1, 2, 3, 4, 5, 6, 0] rfl)
          clear hT24
          refine lv_if_eq (tgt := 55) hx hb dX7_runTrialFar_49 (by decide) (fun hc => ?_) (fun hc => ?_)
          · replace hT108 := bq_t hc hT108
            clear hc
            refine lv_iload_n hx hb dX7_runTrialFar_55 rfl (lv_at hl 0 rfl) ?_
            obtain ⟨J83, eJ83, hT108⟩ := bq_let_el hT108
            have K83 : ∀ (H : Heap) (locs : List Loc) (ls : Array Slot), J83 () = some (v41, v42, v43, v44, t_snapshot_45, t_snapshot_positions_46, t_snapshot_timers_47) → bq_w D A s.heap (wdX7_runTrialFar cI a_t a_t_snapshot a_t_snapshot_positions a_t_snapshot_timers a_t_trial a_t_trial_circuit a_t_trial_faults a_t_trial_log a_t_trial_log_moves a_t_trial_log_times a_t_trial_positions a_t_trial_score a_t_trial_sequence a_t_trial_sequence_cuts a_t_trial_sequence_groupOfStep a_t_trial_sequence_minus a_t_trial_sequence_pauses a_t_trial_sequence_plus a_t_trial_strokes a_t_trial_timers u_t_reader u_t_rig u_t_spare u_t_trial_sequence_outBefore t t_snapshot_9 t_snapshot_positions_10 t_snapshot_timers_11 t_trial_31 t_trial_circuit_32 t_trial_faults t_trial_log_33 t_trial_log_moves_34 t_trial_log_times_35 t_trial_positions_36 t_trial_score_37 t_trial_sequence t_trial_sequence_cuts t_trial_sequence_groupOfStep t_trial_sequence_minus t_trial_sequence_pauses t_trial_sequence_plus t_trial_strokes t_trial_timers_38) H locs → lv_has ls 7 [(0, .ref a_t), (1, .int x1), (2, .int v39), (3, .int v40), (4, .int i6), (5, .int i5), (6, .int i4)] → W p l e rmX7_runTrialFar s m av9 below meth c H locs 0 0 Q (F0 m 83 ls []) := by
              intro H locs ls hJ w hl
              replace hJ := bq_ap1 eJ83 hJ
              refine lv_iload_n hx hb dX7_runTrialFar_83 rfl (lv_at hl 3 rfl) ?_
              refine lv_iload hx hb dX7_runTrialFar_84 (lv_at hl 4 rfl) ?_
              refine lv_icmp_lt (tgt := 108) hx hb dX7_runTrialFar_86 (by decide) (fun hc => ?_) (fun hc => ?_)
              · replace hJ := bq_t hc hJ
                clear hc
                obtain ⟨rfl, rfl, rfl, rfl, rfl, rfl, rfl⟩ := bq_in7 (Option.some.inj hJ)
                exact K108 H locs ls w (lv_sub hl [0, 1, 2, 3, 4, 5, 6] rfl)
              · replace hJ := bq_f hc hJ
                clear hc
                refine lv_aload_n hx hb dX7_runTrialFar_89 rfl (lv_at hl 0 rfl) ?_
                refine gt_X7_34 E K w 0 rfl rfl dX7_runTrialFar_90 ?_
                refine lv_aload_n hx hb dX7_runTrialFar_93 rfl (lv_at hl 0 rfl) ?_
                refine gt_X7_28 E K w 0 rfl rfl dX7_runTrialFar_94 ?_
                obtain ⟨t_snapshot_48, t_snapshot_positions_49, t_snapshot_timers_50, hC, hJ⟩ := bq_b3_el hJ
                refine bq_V (As := [.ref a_t_trial]) (rest := []) (st1 := []) (ws' := wdX7_runTrialFar cI a_t a_t_snapshot a_t_snapshot_positions a_t_snapshot_timers a_t_trial a_t_trial_circuit a_t_trial_faults a_t_trial_log a_t_trial_log_moves a_t_trial_log_times a_t_trial_positions a_t_trial_score a_t_trial_sequence a_t_trial_sequence_cuts a_t_trial_sequence_groupOfStep a_t_trial_sequence_minus a_t_trial_sequence_pauses a_t_trial_sequence_plus a_t_trial_strokes a_t_trial_timers u_t_reader u_t_rig u_t_spare u_t_trial_sequence_outBefore t t_snapshot_48 t_snapshot_positions_49 t_snapshot_timers_50 t_trial_31 t_trial_circuit_32 t_trial_faults t_trial_log_33 t_trial_log_moves_34 t_trial_log_times_35 t_trial_positions_36 t_trial_score_37 t_trial_sequence t_trial_sequence_cuts t_trial_sequence_groupOfStep t_trial_sequence_minus t_trial_sequence_pauses t_trial_sequence_plus t_trial_strokes t_trial_timers_38) E K w hA (kX6_take l D cI cJ a_t_snapshot a_t_snapshot_positions a_t_snapshot_timers a_t_trial a_t_trial_circuit a_t_trial_positions a_t_trial_timers a_t_trial_sequence a_t_trial_log a_t_trial_score a_t_trial_strokes a_t_trial_faults t_snapshot_9 t_snapshot_positions_10 t_snapshot_timers_11 t_trial_31 t_trial_circuit_32 t_trial_positions_36 t_trial_timers_38 t_snapshot_48 t_snapshot_positions_49 t_snapshot_timers_50 hC) (bq_gV ml_X7_289 im_X6_take sl_X6_take in_X6 cd_X6_take) hd_X6_take ⟨Nat.le_of_ble_eq_true rfl, Nat.le_of_ble_eq_true rfl⟩ ⟨Nat.le_of_ble_eq_true rfl, Nat.le_of_ble_eq_true rfl⟩ ⟨[1, 2, 3, 4, 5, 10, 19], [0, 6, 7, 8, 9, 11, 12, 13, 14, 15, 16, 17, 18], [0, 13, 14, 15, 16, 17, 1, 2, 3, 4, 18, 5, 6, 7, 8, 9, 10, 11, 12, 19], rfl, rfl, rfl, rfl, rfl, rfl, rfl, rfl, rfl⟩ 1 rfl rfl rfl hl.1 rfl (Nat.le_of_ble_eq_true rfl) rfl dX7_runTrialFar_97 (fun H locs w => bq_z ⟨rfl, rfl⟩ ?_)
                clear hC
                refine lv_iconst (v := 0) hx hb dX7_runTrialFar_100 (by decide) ?_
                refine lv_istore_n (lv' := [(3, .int 0), (0, .ref a_t), (1, .int x1), (2, .int v39), (4, .int i6), (5, .int i5), (6, .int i4)]) hx hb dX7_runTrialFar_101 rfl hl (by decide) rfl (fun ls hl => ?_)
                refine lv_iconst (v := 2) hx hb dX7_runTrialFar_102 (by decide) ?_
                refine lv_iload hx hb dX7_runTrialFar_103 (lv_at hl 4 rfl) ?_
                refine lv_imul hx hb dX7_runTrialFar_105 ?_
                obtain ⟨v51, e9, hJ⟩ := bq_let_el hJ
                refine bq_nmi e9 ?_
                clear e9
                refine lv_istore (lv' := [(4, .int v51), (3, .int 0), (0, .ref a_t), (1, .int x1), (2, .int v39), (5, .int i5), (6, .int i4)]) hx hb dX7_runTrialFar_106 hl (by decide) rfl (fun ls hl => ?_)
                obtain ⟨rfl, rfl, rfl, rfl, rfl, rfl, rfl⟩ := bq_in7 (Option.some.inj hJ)
                exact K108 H locs ls w (lv_sub hl [2, 3, 4, 1, 0, 5, 6] rfl)
            refine lv_if_le (tgt := 83) hx hb dX7_runTrialFar_56 (by decide) (fun hc => ?_) (fun hc => ?_)
            · replace hT108 := bq_t hc hT108
              clear hc
              exact K83 H locs ls hT108 w (lv_sub hl [2, 3, 1, 0, 4, 5, 6] rfl)
            · replace hT108 := bq_f hc hT108
              clear hc
              refine lv_aload_n hx hb dX7_runTrialFar_59 rfl (lv_at hl 2 rfl) ?_
              refine gt_X7_34 E K w 0 rfl rfl dX7_runTrialFar_60 ?_
              refine lv_aload_n hx hb dX7_runTrialFar_63 rfl (lv_at hl 2 rfl) ?_
              refine gt_X7_28 E K w 0 rfl rfl dX7_runTrialFar_64 ?_
              obtain ⟨v52, hC, hT108⟩ := bq_bd_el hT108
              refine bq_V (As := [.ref a_t_trial]) (rest := []) (st1 := [.int v52]) (ws' := wdX7_runTrialFar cI a_t a_t_snapshot a_t_snapshot_positions a_t_snapshot_timers a_t_trial a_t_trial_circuit a_t_trial_faults a_t_trial_log a_t_trial_log_moves a_t_trial_log_times a_t_trial_positions a_t_trial_score a_t_trial_sequence a_t_trial_sequence_cuts a_t_trial_sequence_groupOfStep a_t_trial_sequence_minus a_t_trial_sequence_pauses a_t_trial_sequence_plus a_t_trial_strokes a_t_trial_timers u_t_reader u_t_rig u_t_spare u_t_trial_sequence_outBefore t t_snapshot_9 t_snapshot_positions_10 t_snapshot_timers_11 t_trial_31 t_trial_circuit_32 t_trial_faults t_trial_log_33 t_trial_log_moves_34 t_trial_log_times_35 t_trial_positions_36 t_trial_score_37 t_trial_sequence t_trial_sequence_cuts t_trial_sequence_groupOfStep t_trial_sequence_minus t_trial_sequence_pauses t_trial_sequence_plus t_trial_strokes t_trial_timers_38) E K w hA (kX6_matches l D cI cJ a_t_snapshot a_t_snapshot_positions a_t_snapshot_timers a_t_trial a_t_trial_circuit a_t_trial_positions a_t_trial_timers a_t_trial_sequence a_t_trial_log a_t_trial_score a_t_trial_strokes a_t_trial_faults t_snapshot_9 t_snapshot_positions_10 t_snapshot_timers_11 t_trial_31 t_trial_circuit_32 t_trial_positions_36 t_trial_timers_38 v52 hC) (bq_gV ml_X7_293 im_X6_matches sl_X6_matches in_X6 cd_X6_matches) hd_X6_matches ⟨Nat.le_of_ble_eq_true rfl, Nat.le_of_ble_eq_true rfl⟩ ⟨Nat.le_of_ble_eq_true rfl, Nat.le_of_ble_eq_true rfl⟩ ⟨[1, 2, 3, 4, 5, 10, 19], [0, 6, 7, 8, 9, 11, 12, 13, 14, 15, 16, 17, 18], [0, 13, 14, 15, 16, 17, 1, 2, 3, 4, 18, 5, 6, 7, 8, 9, 10, 11, 12, 19], rfl, rfl, rfl, rfl, rfl, rfl, rfl, rfl, rfl⟩ 1 rfl rfl rfl hl.1 rfl (Nat.le_of_ble_eq_true rfl) rfl dX7_runTrialFar_67 (fun H locs w => bq_z ⟨rfl, rfl⟩ ?_)
              clear hC
              refine lv_if_eq (tgt := 83) hx hb dX7_runTrialFar_70 (by decide) (fun hc => ?_) (fun hc => ?_)
              · replace hT108 := bq_t hc hT108
                clear hc
                exact K83 H locs ls hT108 w (lv_sub hl [2, 3, 1, 0, 4, 5, 6] rfl)
              · replace hT108 := bq_f hc hT108
                clear hc
                refine lv_iload_n hx hb dX7_runTrialFar_73 rfl (lv_at hl 1 rfl) ?_
                refine lv_iload_n hx hb dX7_runTrialFar_74 rfl (lv_at hl 0 rfl) ?_
                obtain ⟨hZ, hT108⟩ := bq_cz_el hT108
                refine lv_irem hx hb dX7_runTrialFar_75 hZ ?_
                obtain ⟨v53, e9, hT108⟩ := bq_let_el hT108
                refine bq_nmi e9 ?_
                clear e9
                refine lv_istore_n (lv' := [(2, .int v53), (3, .int v40), (0, .ref a_t), (1, .int x1), (4, .int i6), (5, .int i5), (6, .int i4)]) hx hb dX7_runTrialFar_76 rfl hl (by decide) rfl (fun ls hl => ?_)
                refine lv_iconst (v := 1) hx hb dX7_runTrialFar_77 (by decide) ?_
                refine lv_istore (lv' := [(5, .int 1), (2, .int v53), (3, .int v40), (0, .ref a_t), (1, .int x1), (4, .int i6), (6, .int i4)]) hx hb dX7_runTrialFar_78 hl (by decide) rfl (fun ls hl => ?_)
                refine lv_goto (tgt := 108) hx hb dX7_runTrialFar_80 (by decide) ?_
                obtain ⟨rfl, rfl, rfl, rfl, rfl, rfl, rfl⟩ := bq_in7 (Option.some.inj hT108)
                exact K108 H locs ls w (lv_sub hl [3, 4, 1, 2, 5, 0, 6] rfl)
          · replace hT108 := bq_f hc hT108
            clear hc
            refine lv_goto (tgt := 108) hx hb dX7_runTrialFar_52 (by decide) ?_
            obtain ⟨rfl, rfl, rfl, rfl, rfl, rfl, rfl⟩ := bq_in7 (Option.some.inj hT108)
            exact K108 H locs ls w (lv_sub hl [2, 3, 1, 0, 4, 5, 6] rfl)
  exact L24 nn 0 0 1 0 x1 t_snapshot_1 t_snapshot_positions_2 t_snapshot_timers_3 t_trial t_trial_circuit t_trial_log t_trial_log_moves t_trial_log_times t_trial_positions t_trial_score t_trial_timers H locs ls hL w (lv_sub hl [5, 6, 4, 3, 2, 1, 0] rfl)
abbrev wdX7_explains (cI : ClassId) (a_t a_t_rig a_t_rig_circuit a_t_rig_positions a_t_rig_sequence a_t_rig_sequence_cuts a_t_rig_sequence_groupOfStep a_t_rig_sequence_minus a_t_rig_sequence_pauses a_t_rig_sequence_plus a_t_rig_strokes a_t_snapshot a_t_snapshot_positions a_t_snapshot_timers a_t_trial a_t_trial_circuit a_t_trial_faults a_t_trial_log a_t_trial_log_moves a_t_trial_log_times a_t_trial_positions a_t_trial_score a_t_trial_strokes a_t_trial_timers u_t_reader u_t_spare u_t_rig_log u_t_rig_score u_t_rig_timers u_t_rig_faults u_t_rig_sequence_outBefore m_0 : Nat) (t t_rig t_rig_circuit t_rig_positions t_rig_sequence t_rig_sequence_cuts t_rig_sequence_groupOfStep t_rig_sequence_minus t_rig_sequence_pauses t_rig_sequence_plus t_rig_strokes t_snapshot t_snapshot_positions t_snapshot_timers t_trial t_trial_circuit t_trial_faults t_trial_log t_trial_log_moves t_trial_log_times t_trial_positions t_trial_score t_trial_strokes t_trial_timers : Nat → Int32) : va_W := [(a_t, oX7 u_t_reader a_t_rig a_t_trial a_t_snapshot u_t_spare t), (a_t_rig, oX3 a_t_rig_sequence a_t_rig_circuit u_t_rig_log u_t_rig_score a_t_rig_strokes a_t_rig_positions u_t_rig_timers u_t_rig_faults t_rig), (a_t_rig_circuit, oX0 t_rig_circuit), (a_t_rig_positions, oA cI 6 t_rig_positions), (a_t_rig_sequence, oX5 a_t_rig_sequence_plus a_t_rig_sequence_minus a_t_rig_sequence_pauses u_t_rig_sequence_outBefore a_t_rig_sequence_cuts a_t_rig_sequence_groupOfStep t_rig_sequence), (a_t_rig_sequence_cuts, oA cI 16 t_rig_sequence_cuts), (a_t_rig_sequence_groupOfStep, oA cI 16 t_rig_sequence_groupOfStep), (a_t_rig_sequence_minus, oA cI 16 t_rig_sequence_minus), (a_t_rig_sequence_pauses, oA cI 16 t_rig_sequence_pauses), (a_t_rig_sequence_plus, oA cI 16 t_rig_sequence_plus), (a_t_rig_strokes, oA cI 6 t_rig_strokes), (a_t_snapshot, oX6 a_t_snapshot_positions a_t_snapshot_timers t_snapshot), (a_t_snapshot_positions, oA cI 6 t_snapshot_positions), (a_t_snapshot_timers, oA cI 16 t_snapshot_timers), (a_t_trial, oX3 m_0 a_t_trial_circuit a_t_trial_log a_t_trial_score a_t_trial_strokes a_t_trial_positions a_t_trial_timers a_t_trial_faults t_trial), (a_t_trial_circuit, oX0 t_trial_circuit), (a_t_trial_faults, oA cI 5 t_trial_faults), (a_t_trial_log, oX1 a_t_trial_log_times a_t_trial_log_moves t_trial_log), (a_t_trial_log_moves, oA cI 40 t_trial_log_moves), (a_t_trial_log_times, oA cI 40 t_trial_log_times), (a_t_trial_positions, oA cI 6 t_trial_positions), (a_t_trial_score, oX4 t_trial_score), (a_t_trial_strokes, oA cI 6 t_trial_strokes), (a_t_trial_timers, oA cI 16 t_trial_timers)]
abbrev rmX7_explains : Room := { frames := 5, cells := 0, slots := 0, locals := 121 }
theorem hd_X7_explains : yX7_explains.cls = RX7 ∧ yX7_explains.cls ≠ "java/lang/invoke/MethodHandle" ∧ yX7_explains.cls ≠ "java/lang/invoke/VarHandle" ∧ (parseMethodDescriptor yX7_explains.desc).map (fun d => d.parameters.length) = some 2 := by decide +kernel
set_option maxHeartbeats 4000000 in
set_option maxRecDepth 100000 in
theorem kX7_explains (l : Launch) (D : va_G) (cI cJ : ClassId) (a_t a_t_rig a_t_rig_circuit a_t_rig_positions a_t_rig_sequence a_t_rig_sequence_cuts a_t_rig_sequence_groupOfStep a_t_rig_sequence_minus a_t_rig_sequence_pauses a_t_rig_sequence_plus a_t_rig_strokes a_t_snapshot a_t_snapshot_positions a_t_snapshot_timers a_t_trial a_t_trial_circuit a_t_trial_faults a_t_trial_log a_t_trial_log_moves a_t_trial_log_times a_t_trial_positions a_t_trial_score a_t_trial_strokes a_t_trial_timers u_t_reader u_t_spare u_t_rig_log u_t_rig_score u_t_rig_timers u_t_rig_faults u_t_rig_sequence_outBefore r_t_trial_sequence : Nat) (t t_rig t_rig_circuit t_rig_positions t_rig_sequence t_rig_sequence_cuts t_rig_sequence_groupOfStep t_rig_sequence_minus t_rig_sequence_pauses t_rig_sequence_plus t_rig_strokes t_snapshot t_snapshot_positions t_snapshot_timers t_trial t_trial_circuit t_trial_faults t_trial_log t_trial_log_moves t_trial_log_times t_trial_positions t_trial_score t_trial_strokes t_trial_timers : Nat → Int32) (x1 : Int32) (x2 : Int32) (r : Int32) (t_snapshot_o : Nat → Int32) (t_snapshot_positions_o : Nat → Int32) (t_snapshot_timers_o : Nat → Int32) (t_trial_o : Nat → Int32) (t_trial_circuit_o : Nat → Int32) (t_trial_faults_o : Nat → Int32) (t_trial_log_o : Nat → Int32) (t_trial_log_moves_o : Nat → Int32) (t_trial_log_times_o : Nat → Int32) (t_trial_positions_o : Nat → Int32) (t_trial_score_o : Nat → Int32) (t_trial_strokes_o : Nat → Int32) (t_trial_timers_o : Nat → Int32) (hm : mX7_explains t_rig t_rig_circuit t_rig_positions t_rig_sequence t_rig_sequence_cuts t_rig_sequence_groupOfStep t_rig_sequence_minus t_rig_sequence_pauses t_rig_sequence_plus t_rig_strokes t_snapshot t_snapshot_positions t_snapshot_timers t_trial t_trial_circuit t_trial_faults t_trial_log t_trial_log_moves t_trial_log_times t_trial_positions t_trial_score t_trial_strokes t_trial_timers x1 x2 = some (r, t_snapshot_o, t_snapshot_positions_o, t_snapshot_timers_o, t_trial_o, t_trial_circuit_o, t_trial_faults_o, t_trial_log_o, t_trial_log_moves_o, t_trial_log_times_o, t_trial_positions_o, t_trial_score_o, t_trial_strokes_o, t_trial_timers_o)) : bq_M l D cI cJ yX7_explains cX7_explains 5 (some .boolean) rmX7_explains [.ref a_t, .int x1, .int x2] (wdX7_explains cI a_t a_t_rig a_t_rig_circuit a_t_rig_positions a_t_rig_sequence a_t_rig_sequence_cuts a_t_rig_sequence_groupOfStep a_t_rig_sequence_minus a_t_rig_sequence_pauses a_t_rig_sequence_plus a_t_rig_strokes a_t_snapshot a_t_snapshot_positions a_t_snapshot_timers a_t_trial a_t_trial_circuit a_t_trial_faults a_t_trial_log a_t_trial_log_moves a_t_trial_log_times a_t_trial_positions a_t_trial_score a_t_trial_strokes a_t_trial_timers u_t_reader u_t_spare u_t_rig_log u_t_rig_score u_t_rig_timers u_t_rig_faults u_t_rig_sequence_outBefore r_t_trial_sequence t t_rig t_rig_circuit t_rig_positions t_rig_sequence t_rig_sequence_cuts t_rig_sequence_groupOfStep t_rig_sequence_minus t_rig_sequence_pauses t_rig_sequence_plus t_rig_strokes t_snapshot t_snapshot_positions t_snapshot_timers t_trial t_trial_circuit t_trial_faults t_trial_log t_trial_log_moves t_trial_log_times t_trial_positions t_trial_score t_trial_strokes t_trial_timers) (wdX7_explains cI a_t a_t_rig a_t_rig_circuit a_t_rig_positions a_t_rig_sequence a_t_rig_sequence_cuts a_t_rig_sequence_groupOfStep a_t_rig_sequence_minus a_t_rig_sequence_pauses a_t_rig_sequence_plus a_t_rig_strokes a_t_snapshot a_t_snapshot_positions a_t_snapshot_timers a_t_trial a_t_trial_circuit a_t_trial_faults a_t_trial_log a_t_trial_log_moves a_t_trial_log_times a_t_trial_positions a_t_trial_score a_t_trial_strokes a_t_trial_timers u_t_reader u_t_spare u_t_rig_log u_t_rig_score u_t_rig_timers u_t_rig_faults u_t_rig_sequence_outBefore a_t_rig_sequence t t_rig t_rig_circuit t_rig_positions t_rig_sequence t_rig_sequence_cuts t_rig_sequence_groupOfStep t_rig_sequence_minus t_rig_sequence_pauses t_rig_sequence_plus t_rig_strokes t_snapshot_o t_snapshot_positions_o t_snapshot_timers_o t_trial_o t_trial_circuit_o t_trial_faults_o t_trial_log_o t_trial_log_moves_o t_trial_log_times_o t_trial_positions_o t_trial_score_o t_trial_strokes_o t_trial_timers_o) (some (.int r)) := by
  refine bq_start (by decide) (Nat.le_of_ble_eq_true rfl) ?_
  intro p e s m av9 below meth c A ls Q H locs E K w hA hr hk hn hQ hl
  have E : bq_E p m c cX7_explains 5 s av9 RX7 := E
  have hx := E.1
  have hb := E.2.1
  have hl : lv_has ls 5 [(0, .ref a_t), (1, .int x1), (2, .int x2)] := hl
  unfold mX7_explains at hm
  refine lv_aload_n hx hb dX7_explains_0 rfl (lv_at hl 0 rfl) ?_
  refine gt_X7_28 E K w 0 rfl rfl dX7_explains_1 ?_
  refine lv_aload_n hx hb dX7_explains_4 rfl (lv_at hl 0 rfl) ?_
  refine gt_X7_24 E K w 0 rfl rfl dX7_explains_5 ?_
  refine lv_aload_n hx hb dX7_explains_8 rfl (lv_at hl 0 rfl) ?_
  refine gt_X7_24 E K w 0 rfl rfl dX7_explains_9 ?_
  refine gt_X7_137 E K w 1 rfl rfl dX7_explains_12 ?_
  refine gt_X7_141 E K w 2 rfl rfl dX7_explains_15 ?_
  obtain ⟨t_trial_1, t_trial_circuit_2, t_trial_faults_3, t_trial_log_4, t_trial_positions_5, t_trial_score_6, t_trial_strokes_7, t_trial_timers_8, hC, hm⟩ := bq_b8_el hm
  refine bq_V (As := [.ref a_t_rig, .int (t_rig_circuit 0)]) (rest := []) (st1 := []) (ws' := wdX7_explains cI a_t a_t_rig a_t_rig_circuit a_t_rig_positions a_t_rig_sequence a_t_rig_sequence_cuts a_t_rig_sequence_groupOfStep a_t_rig_sequence_minus a_t_rig_sequence_pauses a_t_rig_sequence_plus a_t_rig_strokes a_t_snapshot a_t_snapshot_positions a_t_snapshot_timers a_t_trial a_t_trial_circuit a_t_trial_faults a_t_trial_log a_t_trial_log_moves a_t_trial_log_times a_t_trial_positions a_t_trial_score a_t_trial_strokes a_t_trial_timers u_t_reader u_t_spare u_t_rig_log u_t_rig_score u_t_rig_timers u_t_rig_faults u_t_rig_sequence_outBefore a_t_rig_sequence t t_rig t_rig_circuit t_rig_positions t_rig_sequence t_rig_sequence_cuts t_rig_sequence_groupOfStep t_rig_sequence_minus t_rig_sequence_pauses t_rig_sequence_plus t_rig_strokes t_snapshot t_snapshot_positions t_snapshot_timers t_trial_1 t_trial_circuit_2 t_trial_faults_3 t_trial_log_4 t_trial_log_moves t_trial_log_times t_trial_positions_5 t_trial_score_6 t_trial_strokes_7 t_trial_timers_8) E K w hA (kX3_becomeCopyOf l D cI cJ a_t_trial a_t_trial_circuit a_t_trial_faults a_t_trial_log a_t_trial_positions a_t_trial_score a_t_trial_strokes a_t_trial_timers a_t_rig a_t_rig_sequence a_t_rig_sequence_minus a_t_rig_sequence_plus a_t_rig_strokes a_t_trial_log_times a_t_trial_log_moves a_t_rig_circuit u_t_rig_log u_t_rig_score a_t_rig_positions u_t_rig_timers u_t_rig_faults a_t_rig_sequence_pauses u_t_rig_sequence_outBefore a_t_rig_sequence_cuts a_t_rig_sequence_groupOfStep r_t_trial_sequence t_trial t_trial_circuit t_trial_faults t_trial_log t_trial_positions t_trial_score t_trial_strokes t_trial_timers t_rig t_rig_sequence t_rig_sequence_minus t_rig_sequence_plus t_rig_strokes (t_rig_circuit 0) t_trial_1 t_trial_circuit_2 t_trial_faults_3 t_trial_log_4 t_trial_positions_5 t_trial_score_6 t_trial_strokes_7 t_trial_timers_8 hC) (bq_gV ml_X7_236 im_X3_becomeCopyOf sl_X3_becomeCopyOf in_X3 cd_X3_becomeCopyOf) hd_X3_becomeCopyOf ⟨Nat.le_of_ble_eq_true rfl, Nat.le_of_ble_eq_true rfl⟩ ⟨Nat.le_of_ble_eq_true rfl, Nat.le_of_ble_eq_true rfl⟩ ⟨[14, 15, 16, 17, 20, 21, 22, 23, 1, 4, 7, 9, 10], [0, 2, 3, 5, 6, 8, 11, 12, 13, 18, 19], [0, 19, 1, 2, 20, 3, 4, 21, 5, 22, 23, 6, 7, 8, 11, 12, 13, 14, 9, 10, 15, 16, 17, 18], rfl, rfl, rfl, rfl, rfl, rfl, rfl, rfl, rfl⟩ 14 rfl rfl rfl hl.1 rfl (Nat.le_of_ble_eq_true rfl) rfl dX7_explains_18 (fun H locs w => bq_z ⟨rfl, rfl⟩ ?_)
  clear hC
  refine lv_aload_n hx hb dX7_explains_21 rfl (lv_at hl 0 rfl) ?_
  refine gt_X7_28 E K w 0 rfl rfl dX7_explains_22 ?_
  refine lv_iload_n hx hb dX7_explains_25 rfl (lv_at hl 1 rfl) ?_
  refine lv_iload_n hx hb dX7_explains_26 rfl (lv_at hl 2 rfl) ?_
  refine lv_iconst (v := 1) hx hb dX7_explains_27 (by decide) ?_
  obtain ⟨t_trial_faults_9, hC, hm⟩ := bq_bd_el hm
  refine bq_V (As := [.int x1, .int x2, .int 1]) (rest := []) (st1 := []) (ws' := wdX7_explains cI a_t a_t_rig a_t_rig_circuit a_t_rig_positions a_t_rig_sequence a_t_rig_sequence_cuts a_t_rig_sequence_groupOfStep a_t_rig_sequence_minus a_t_rig_sequence_pauses a_t_rig_sequence_plus a_t_rig_strokes a_t_snapshot a_t_snapshot_positions a_t_snapshot_timers a_t_trial a_t_trial_circuit a_t_trial_faults a_t_trial_log a_t_trial_log_moves a_t_trial_log_times a_t_trial_positions a_t_trial_score a_t_trial_strokes a_t_trial_timers u_t_reader u_t_spare u_t_rig_log u_t_rig_score u_t_rig_timers u_t_rig_faults u_t_rig_sequence_outBefore a_t_rig_sequence t t_rig t_rig_circuit t_rig_positions t_rig_sequence t_rig_sequence_cuts t_rig_sequence_groupOfStep t_rig_sequence_minus t_rig_sequence_pauses t_rig_sequence_plus t_rig_strokes t_snapshot t_snapshot_positions t_snapshot_timers t_trial_1 t_trial_circuit_2 t_trial_faults_9 t_trial_log_4 t_trial_log_moves t_trial_log_times t_trial_positions_5 t_trial_score_6 t_trial_strokes_7 t_trial_timers_8) E K w hA (kX3_putFault l D cI cJ a_t_trial a_t_trial_faults a_t_rig_sequence a_t_trial_circuit a_t_trial_log a_t_trial_score a_t_trial_strokes a_t_trial_positions a_t_trial_timers t_trial_1 t_trial_faults_3 x1 x2 1 t_trial_faults_9 hC) (bq_gV ml_X7_161 im_X3_putFault sl_X3_putFault in_X3 cd_X3_putFault) hd_X3_putFault ⟨Nat.le_of_ble_eq_true rfl, Nat.le_of_ble_eq_true rfl⟩ ⟨Nat.le_of_ble_eq_true rfl, Nat.le_of_ble_eq_true rfl⟩ ⟨[14, 16], [0, 1, 2, 3, 4, 5, 6, 7, 8, 9, 10, 11, 12, 13, 15, 17, 18, 19, 20, 21, 22, 23], [0, 1, 2, 3, 4, 5, 6, 7, 8, 9, 10, 11, 12, 13, 22, 14, 23, 15, 16, 17, 18, 19, 20, 21], rfl, rfl, rfl, rfl, rfl, rfl, rfl, rfl, rfl⟩ 14 rfl rfl rfl hl.1 rfl (Nat.le_of_ble_eq_true rfl) rfl dX7_explains_28 (fun H locs w => bq_z ⟨rfl, rfl⟩ ?_)
  clear hC
  refine lv_aload_n hx hb dX7_explains_31 rfl (lv_at hl 0 rfl) ?_
  refine lv_aload_n hx hb dX7_explains_32 rfl (lv_at hl 0 rfl) ?_
  refine gt_X7_24 E K w 0 rfl rfl dX7_explains_33 ?_
  refine gt_X7_165 E K w 1 rfl rfl dX7_explains_36 ?_
  refine lv_sipush (v := 5000) hx hb dX7_explains_39 (by decide) ?_
  refine bq_min E ml_X7_281 hl.1 (Nat.le_of_ble_eq_true rfl) (Nat.le_of_ble_eq_true rfl) (Nat.le_of_ble_eq_true rfl) (Nat.le_of_ble_eq_true rfl) dX7_explains_42 ?_
  obtain ⟨t_snapshot_10, t_snapshot_positions_11, t_snapshot_timers_12, t_trial_13, t_trial_circuit_14, t_trial_log_15, t_trial_log_moves_16, t_trial_log_times_17, t_trial_positions_18, t_trial_score_19, t_trial_timers_20, hC, hm⟩ := bq_b11_el hm
  refine bq_V (As := [.int (if 5000 < (t_rig 10) then 5000 else (t_rig 10))]) (rest := []) (st1 := []) (ws' := wdX7_explains cI a_t a_t_rig a_t_rig_circuit a_t_rig_positions a_t_rig_sequence a_t_rig_sequence_cuts a_t_rig_sequence_groupOfStep a_t_rig_sequence_minus a_t_rig_sequence_pauses a_t_rig_sequence_plus a_t_rig_strokes a_t_snapshot a_t_snapshot_positions a_t_snapshot_timers a_t_trial a_t_trial_circuit a_t_trial_faults a_t_trial_log a_t_trial_log_moves a_t_trial_log_times a_t_trial_positions a_t_trial_score a_t_trial_strokes a_t_trial_timers u_t_reader u_t_spare u_t_rig_log u_t_rig_score u_t_rig_timers u_t_rig_faults u_t_rig_sequence_outBefore a_t_rig_sequence t t_rig t_rig_circuit t_rig_positions t_rig_sequence t_rig_sequence_cuts t_rig_sequence_groupOfStep t_rig_sequence_minus t_rig_sequence_pauses t_rig_sequence_plus t_rig_strokes t_snapshot_10 t_snapshot_positions_11 t_snapshot_timers_12 t_trial_13 t_trial_circuit_14 t_trial_faults_9 t_trial_log_15 t_trial_log_moves_16 t_trial_log_times_17 t_trial_positions_18 t_trial_score_19 t_trial_strokes_7 t_trial_timers_20) E K w hA (kX7_runTrialFar l D cI cJ a_t a_t_snapshot a_t_snapshot_positions a_t_snapshot_timers a_t_trial a_t_trial_circuit a_t_trial_faults a_t_trial_log a_t_trial_log_moves a_t_trial_log_times a_t_trial_positions a_t_trial_score a_t_rig_sequence a_t_rig_sequence_cuts a_t_rig_sequence_groupOfStep a_t_rig_sequence_minus a_t_rig_sequence_pauses a_t_rig_sequence_plus a_t_trial_strokes a_t_trial_timers u_t_reader a_t_rig u_t_spare u_t_rig_sequence_outBefore t t_snapshot t_snapshot_positions t_snapshot_timers t_trial_1 t_trial_circuit_2 t_trial_faults_9 t_trial_log_4 t_trial_log_moves t_trial_log_times t_trial_positions_5 t_trial_score_6 t_rig_sequence t_rig_sequence_cuts t_rig_sequence_groupOfStep t_rig_sequence_minus t_rig_sequence_pauses t_rig_sequence_plus t_trial_strokes_7 t_trial_timers_8 (if 5000 < (t_rig 10) then 5000 else (t_rig 10)) t_snapshot_10 t_snapshot_positions_11 t_snapshot_timers_12 t_trial_13 t_trial_circuit_14 t_trial_log_15 t_trial_log_moves_16 t_trial_log_times_17 t_trial_positions_18 t_trial_score_19 t_trial_timers_20 hC) (bq_gV ml_X7_286 im_X7_runTrialFar sl_X7_runTrialFar in_X7 cd_X7_runTrialFar) hd_X7_runTrialFar ⟨Nat.le_of_ble_eq_true rfl, Nat.le_of_ble_eq_true rfl⟩ ⟨Nat.le_of_ble_eq_true rfl, Nat.le_of_ble_eq_true rfl⟩ ⟨[0, 11, 12, 13, 14, 15, 16, 17, 18, 19, 20, 21, 4, 5, 6, 7, 8, 9, 22, 23], [1, 2, 3, 10], [4, 0, 1, 2, 16, 17, 18, 19, 20, 21, 3, 5, 6, 7, 8, 9, 10, 11, 12, 13, 14, 15, 22, 23], rfl, rfl, rfl, rfl, rfl, rfl, rfl, rfl, rfl⟩ 0 rfl rfl rfl hl.1 rfl (Nat.le_of_ble_eq_true rfl) rfl dX7_explains_45 (fun H locs w => bq_z ⟨rfl, rfl⟩ ?_)
  clear hC
  refine lv_aload_n hx hb dX7_explains_48 rfl (lv_at hl 0 rfl) ?_
  refine gt_X7_28 E K w 0 rfl rfl dX7_explains_49 ?_
  refine gt_X7_183 E K w 14 rfl rfl dX7_explains_52 ?_
  refine lv_aload_n hx hb dX7_explains_55 rfl (lv_at hl 0 rfl) ?_
  refine gt_X7_24 E K w 0 rfl rfl dX7_explains_56 ?_
  refine gt_X7_183 E K w 1 rfl rfl dX7_explains_59 ?_
  obtain ⟨v21, hT70, hm⟩ := bq_let_el hm
  have K70 : ∀ (H : Heap) (locs : List Loc) (ls : Array Slot), bq_w D A s.heap (wdX7_explains cI a_t a_t_rig a_t_rig_circuit a_t_rig_positions a_t_rig_sequence a_t_rig_sequence_cuts a_t_rig_sequence_groupOfStep a_t_rig_sequence_minus a_t_rig_sequence_pauses a_t_rig_sequence_plus a_t_rig_strokes a_t_snapshot a_t_snapshot_positions a_t_snapshot_timers a_t_trial a_t_trial_circuit a_t_trial_faults a_t_trial_log a_t_trial_log_moves a_t_trial_log_times a_t_trial_positions a_t_trial_score a_t_trial_strokes a_t_trial_timers u_t_reader u_t_spare u_t_rig_log u_t_rig_score u_t_rig_timers u_t_rig_faults u_t_rig_sequence_outBefore a_t_rig_sequence t t_rig t_rig_circuit t_rig_positions t_rig_sequence t_rig_sequence_cuts t_rig_sequence_groupOfStep t_rig_sequence_minus t_rig_sequence_pauses t_rig_sequence_plus t_rig_strokes t_snapshot_10 t_snapshot_positions_11 t_snapshot_timers_12 t_trial_13 t_trial_circuit_14 t_trial_faults_9 t_trial_log_15 t_trial_log_moves_16 t_trial_log_times_17 t_trial_positions_18 t_trial_score_19 t_trial_strokes_7 t_trial_timers_20) H locs → lv_has ls 5 [(0, .ref a_t)] → W p l e rmX7_explains s m av9 below meth c H locs 0 0 Q (F0 m 70 ls [.int v21]) := by
    intro H locs ls w hl
    refine lv_istore_n (lv' := [(3, .int v21), (0, .ref a_t)]) hx hb dX7_explains_70 rfl hl (by decide) rfl (fun ls hl => ?_)
    refine lv_iconst (v := 0) hx hb dX7_explains_71 (by decide) ?_
    refine lv_istore (lv' := [(4, .int 0), (3, .int v21), (0, .ref a_t)]) hx hb dX7_explains_72 hl (by decide) rfl (fun ls hl => ?_)
    obtain ⟨v24, hL, hm⟩ := bq_bd_el hm
    obtain ⟨B, eB, nn, hL⟩ := bq_loop_B hL
    have X120 : ∀ (H : Heap) (locs : List Loc) (ls : Array Slot), bq_w D A s.heap (wdX7_explains cI a_t a_t_rig a_t_rig_circuit a_t_rig_positions a_t_rig_sequence a_t_rig_sequence_cuts a_t_rig_sequence_groupOfStep a_t_rig_sequence_minus a_t_rig_sequence_pauses a_t_rig_sequence_plus a_t_rig_strokes a_t_snapshot a_t_snapshot_positions a_t_snapshot_timers a_t_trial a_t_trial_circuit a_t_trial_faults a_t_trial_log a_t_trial_log_moves a_t_trial_log_times a_t_trial_positions a_t_trial_score a_t_trial_strokes a_t_trial_timers u_t_reader u_t_spare u_t_rig_log u_t_rig_score u_t_rig_timers u_t_rig_faults u_t_rig_sequence_outBefore a_t_rig_sequence t t_rig t_rig_circuit t_rig_positions t_rig_sequence t_rig_sequence_cuts t_rig_sequence_groupOfStep t_rig_sequence_minus t_rig_sequence_pauses t_rig_sequence_plus t_rig_strokes t_snapshot_10 t_snapshot_positions_11 t_snapshot_timers_12 t_trial_13 t_trial_circuit_14 t_trial_faults_9 t_trial_log_15 t_trial_log_moves_16 t_trial_log_times_17 t_trial_positions_18 t_trial_score_19 t_trial_strokes_7 t_trial_timers_20) H locs → lv_has ls 5 [(3, .int v24)] → W p l e rmX7_explains s m av9 below meth c H locs 0 0 Q (F0 m 120 ls []) := by
      intro H locs ls w hl
      refine lv_iload_n hx hb dX7_explains_120 rfl (lv_at hl 0 rfl) ?_
      obtain ⟨hB, hm⟩ := bq_cb_el hm
      obtain ⟨rfl, rfl, rfl, rfl, rfl, rfl, rfl, rfl, rfl, rfl, rfl, rfl, rfl, rfl⟩ := bq_in14 (Option.some.inj hm)
      exact bq_zret E w hr hk hB dX7_explains_121 hQ
    clear hm
    have L74 : ∀ (nn : Nat) (i22 : Int32) (i23 : Int32) (H : Heap) (locs : List Loc) (ls : Array Slot), bq_lp B nn (i22, i23) = some v24 → bq_w D A s.heap (wdX7_explains cI a_t a_t_rig a_t_rig_circuit a_t_rig_positions a_t_rig_sequence a_t_rig_sequence_cuts a_t_rig_sequence_groupOfStep a_t_rig_sequence_minus a_t_rig_sequence_pauses a_t_rig_sequence_plus a_t_rig_strokes a_t_snapshot a_t_snapshot_positions a_t_snapshot_timers a_t_trial a_t_trial_circuit a_t_trial_faults a_t_trial_log a_t_trial_log_moves a_t_trial_log_times a_t_trial_positions a_t_trial_score a_t_trial_strokes a_t_trial_timers u_t_reader u_t_spare u_t_rig_log u_t_rig_score u_t_rig_timers u_t_rig_faults u_t_rig_sequence_outBefore a_t_rig_sequence t t_rig t_rig_circuit t_rig_positions t_rig_sequence t_rig_sequence_cuts t_rig_sequence_groupOfStep t_rig_sequence_minus t_rig_sequence_pauses t_rig_sequence_plus t_rig_strokes t_snapshot_10 t_snapshot_positions_11 t_snapshot_timers_12 t_trial_13 t_trial_circuit_14 t_trial_faults_9 t_trial_log_15 t_trial_log_moves_16 t_trial_log_times_17 t_trial_positions_18 t_trial_score_19 t_trial_strokes_7 t_trial_timers_20) H locs → lv_has ls 5 [(0, .ref a_t), (3, .int i23), (4, .int i22)] → W p l e rmX7_explains s m av9 below meth c H locs 0 0 Q (F0 m 74 ls []) := by
      intro nn
      induction nn with
      | zero =>
        intro i22 i23 H locs ls hL w hl
        exact bq_lp_0 hL
      | succ nn ih =>
        intro i22 i23 H locs ls hL w hl
        obtain ⟨oo74, hT74, hR74⟩ := bq_lp_el hL
        clear hL
        replace hT74 := bq_u2_el eB hT74
        unfold bX7_explains_74 at hT74
        refine lv_iload hx hb dX7_explains_74 (lv_at hl 2 rfl) ?_
        refine lv_bipush (v := 6) hx hb dX7_explains_76 (by decide) ?_
        refine lv_icmp_ge (tgt := 120) hx hb dX7_explains_78 (by decide) (fun hc => ?_) (fun hc => ?_)
        · replace hT74 := bq_t hc hT74
          clear hc
          obtain rfl := Option.some.inj hT74
          replace hR74 := bq_lk_r hR74
          subst hR74
          exact X120 H locs ls w (lv_sub hl [1] rfl)
        · replace hT74 := bq_f hc hT74
          clear hc
          refine lv_iload_n hx hb dX7_explains_81 rfl (lv_at hl 1 rfl) ?_
          obtain ⟨v25, hT113, hT74⟩ := bq_bd_el hT74
          have K113 : ∀ (H : Heap) (locs : List Loc) (ls : Array Slot), bq_w D A s.heap (wdX7_explains cI a_t a_t_rig a_t_rig_circuit a_t_rig_positions a_t_rig_sequence a_t_rig_sequence_cuts a_t_rig_sequence_groupOfStep a_t_rig_sequence_minus a_t_rig_sequence_pauses a_t_rig_sequence_plus a_t_rig_strokes a_t_snapshot a_t_snapshot_positions a_t_snapshot_timers a_t_trial a_t_trial_circuit a_t_trial_faults a_t_trial_log a_t_trial_log_moves a_t_trial_log_times a_t_trial_positions a_t_trial_score a_t_trial_strokes a_t_trial_timers u_t_reader u_t_spare u_t_rig_log u_t_rig_score u_t_rig_timers u_t_rig_faults u_t_rig_sequence_outBefore a_t_rig_sequence t t_rig t_rig_circuit t_rig_positions t_rig_sequence t_rig_sequence_cuts t_rig_sequence_groupOfStep t_rig_sequence_minus t_rig_sequence_pauses t_rig_sequence_plus t_rig_strokes t_snapshot_10 t_snapshot_positions_11 t_snapshot_timers_12 t_trial_13 t_trial_circuit_14 t_trial_faults_9 t_trial_log_15 t_trial_log_moves_16 t_trial_log_times_17 t_trial_positions_18 t_trial_score_19 t_trial_strokes_7 t_trial_timers_20) H locs → lv_has ls 5 [(0, .ref a_t), (4, .int i22)] → W p l e rmX7_explains s m av9 below meth c H locs 0 0 Q (F0 m 113 ls [.int v25]) := by
            intro H locs ls w hl
            refine lv_istore_n (lv' := [(3, .int v25), (0, .ref a_t), (4, .int i22)]) hx hb dX7_explains_113 rfl hl (by decide) rfl (fun ls hl => ?_)
            obtain ⟨v26, e9, hT74⟩ := bq_let_el hT74
            refine lv_iinc (v := v26) (lv' := [(4, .int v26), (3, .int v25), (0, .ref a_t)]) hx hb dX7_explains_114 hl (k := 2) rfl (by rw [e9]; rfl) (by decide) rfl (fun ls hl => ?_)
            clear e9
            refine lv_goto (tgt := 74) hx hb dX7_explains_117 (by decide) ?_
            obtain rfl := Option.some.inj hT74
            exact ih v26 v25 H locs ls hR74 w (lv_sub hl [2, 1, 0] rfl)
          clear hT74
          refine lv_if_eq (tgt := 112) hx hb dX7_explains_82 (by decide) (fun hc => ?_) (fun hc => ?_)
          · replace hT113 := bq_t hc hT113
            clear hc
            refine lv_iconst (v := 0) hx hb dX7_explains_112 (by decide) ?_
            obtain rfl := Option.some.inj hT113
            exact K113 H locs ls w (lv_sub hl [0, 2] rfl)
          · replace hT113 := bq_f hc hT113
            clear hc
            refine lv_aload_n hx hb dX7_explains_85 rfl (lv_at hl 0 rfl) ?_
            refine gt_X7_28 E K w 0 rfl rfl dX7_explains_86 ?_
            refine gt_X7_180 E K w 14 rfl rfl dX7_explains_89 ?_
            refine lv_iload hx hb dX7_explains_92 (lv_at hl 2 rfl) ?_
            obtain ⟨hI, hT113⟩ := bq_ci_el hT113
            refine bq_ald E K w 20 rfl hI dX7_explains_94 ?_
            refine lv_aload_n hx hb dX7_explains_95 rfl (lv_at hl 0 rfl) ?_
            refine gt_X7_24 E K w 0 rfl rfl dX7_explains_96 ?_
            refine gt_X7_180 E K w 1 rfl rfl dX7_explains_99 ?_
            refine lv_iload hx hb dX7_explains_102 (lv_at hl 2 rfl) ?_
            obtain ⟨hI, hT113⟩ := bq_ci_el hT113
            refine bq_ald E K w 3 rfl hI dX7_explains_104 ?_
            refine lv_icmp_ne (tgt := 112) hx hb dX7_explains_105 (by decide) (fun hc => ?_) (fun hc => ?_)
            · replace hT113 := bq_f hc hT113
              clear hc
              refine lv_iconst (v := 0) hx hb dX7_explains_112 (by decide) ?_
              obtain rfl := Option.some.inj hT113
              exact K113 H locs ls w (lv_sub hl [0, 2] rfl)
            · replace hT113 := bq_t hc hT113
              clear hc
              refine lv_iconst (v := 1) hx hb dX7_explains_108 (by decide) ?_
              refine lv_goto (tgt := 113) hx hb dX7_explains_109 (by decide) ?_
              obtain rfl := Option.some.inj hT113
              exact K113 H locs ls w (lv_sub hl [0, 2] rfl)
    exact L74 nn 0 v21 H locs ls hL w (lv_sub hl [2, 1, 0] rfl)
  clear hm
  refine lv_icmp_ne (tgt := 69) hx hb dX7_explains_62 (by decide) (fun hc => ?_) (fun hc => ?_)
  · replace hT70 := bq_ef hc hT70
    clear hc
    refine lv_iconst (v := 0) hx hb dX7_explains_69 (by decide) ?_
    subst hT70
    exact K70 H locs ls w (lv_sub hl [0] rfl)
  · replace hT70 := bq_et hc hT70
    clear hc
    refine lv_iconst (v := 1) hx hb dX7_explains_65 (by decide) ?_
    refine lv_goto (tgt := 70) hx hb dX7_explains_66 (by decide) ?_
    subst hT70
    exact K70 H locs ls w (lv_sub hl [0] rfl)
abbrev wdX7_suspect (cI : ClassId) (a_t a_t_rig a_t_rig_circuit a_t_rig_positions a_t_rig_sequence a_t_rig_sequence_cuts a_t_rig_sequence_groupOfStep a_t_rig_sequence_minus a_t_rig_sequence_pauses a_t_rig_sequence_plus a_t_rig_strokes a_t_snapshot a_t_snapshot_positions a_t_snapshot_timers a_t_trial a_t_trial_circuit a_t_trial_faults a_t_trial_log a_t_trial_log_moves a_t_trial_log_times a_t_trial_positions a_t_trial_score a_t_trial_strokes a_t_trial_timers u_t_reader u_t_spare u_t_rig_log u_t_rig_score u_t_rig_timers u_t_rig_faults u_t_rig_sequence_outBefore m_0 : Nat) (t t_rig t_rig_circuit t_rig_positions t_rig_sequence t_rig_sequence_cuts t_rig_sequence_groupOfStep t_rig_sequence_minus t_rig_sequence_pauses t_rig_sequence_plus t_rig_strokes t_snapshot t_snapshot_positions t_snapshot_timers t_trial t_trial_circuit t_trial_faults t_trial_log t_trial_log_moves t_trial_log_times t_trial_positions t_trial_score t_trial_strokes t_trial_timers : Nat → Int32) : va_W := [(a_t, oX7 u_t_reader a_t_rig a_t_trial a_t_snapshot u_t_spare t), (a_t_rig, oX3 a_t_rig_sequence a_t_rig_circuit u_t_rig_log u_t_rig_score a_t_rig_strokes a_t_rig_positions u_t_rig_timers u_t_rig_faults t_rig), (a_t_rig_circuit, oX0 t_rig_circuit), (a_t_rig_positions, oA cI 6 t_rig_positions), (a_t_rig_sequence, oX5 a_t_rig_sequence_plus a_t_rig_sequence_minus a_t_rig_sequence_pauses u_t_rig_sequence_outBefore a_t_rig_sequence_cuts a_t_rig_sequence_groupOfStep t_rig_sequence), (a_t_rig_sequence_cuts, oA cI 16 t_rig_sequence_cuts), (a_t_rig_sequence_groupOfStep, oA cI 16 t_rig_sequence_groupOfStep), (a_t_rig_sequence_minus, oA cI 16 t_rig_sequence_minus), (a_t_rig_sequence_pauses, oA cI 16 t_rig_sequence_pauses), (a_t_rig_sequence_plus, oA cI 16 t_rig_sequence_plus), (a_t_rig_strokes, oA cI 6 t_rig_strokes), (a_t_snapshot, oX6 a_t_snapshot_positions a_t_snapshot_timers t_snapshot), (a_t_snapshot_positions, oA cI 6 t_snapshot_positions), (a_t_snapshot_timers, oA cI 16 t_snapshot_timers), (a_t_trial, oX3 m_0 a_t_trial_circuit a_t_trial_log a_t_trial_score a_t_trial_strokes a_t_trial_positions a_t_trial_timers a_t_trial_faults t_trial), (a_t_trial_circuit, oX0 t_trial_circuit), (a_t_trial_faults, oA cI 5 t_trial_faults), (a_t_trial_log, oX1 a_t_trial_log_times a_t_trial_log_moves t_trial_log), (a_t_trial_log_moves, oA cI 40 t_trial_log_moves), (a_t_trial_log_times, oA cI 40 t_trial_log_times), (a_t_trial_positions, oA cI 6 t_trial_positions), (a_t_trial_score, oX4 t_trial_score), (a_t_trial_strokes, oA cI 6 t_trial_strokes), (a_t_trial_timers, oA cI 16 t_trial_timers)]
abbrev rmX7_suspect : Room := { frames := 6, cells := 0, slots := 0, locals := 145 }
theorem hd_X7_suspect : yX7_suspect.cls = RX7 ∧ yX7_suspect.cls ≠ "java/lang/invoke/MethodHandle" ∧ yX7_suspect.cls ≠ "java/lang/invoke/VarHandle" ∧ (parseMethodDescriptor yX7_suspect.desc).map (fun d => d.parameters.length) = some 1 := by decide +kernel
set_option maxHeartbeats 4000000 in
set_option maxRecDepth 100000 in
theorem kX7_suspect (l : Launch) (D : va_G) (cI cJ : ClassId) (a_t a_t_rig a_t_rig_circuit a_t_rig_positions a_t_rig_sequence a_t_rig_sequence_cuts a_t_rig_sequence_groupOfStep a_t_rig_sequence_minus a_t_rig_sequence_pauses a_t_rig_sequence_plus a_t_rig_strokes a_t_snapshot a_t_snapshot_positions a_t_snapshot_timers a_t_trial a_t_trial_circuit a_t_trial_faults a_t_trial_log a_t_trial_log_moves a_t_trial_log_times a_t_trial_positions a_t_trial_score a_t_trial_strokes a_t_trial_timers u_t_reader u_t_spare u_t_rig_log u_t_rig_score u_t_rig_timers u_t_rig_faults u_t_rig_sequence_outBefore r_t_trial_sequence : Nat) (t t_rig t_rig_circuit t_rig_positions t_rig_sequence t_rig_sequence_cuts t_rig_sequence_groupOfStep t_rig_sequence_minus t_rig_sequence_pauses t_rig_sequence_plus t_rig_strokes t_snapshot t_snapshot_positions t_snapshot_timers t_trial t_trial_circuit t_trial_faults t_trial_log t_trial_log_moves t_trial_log_times t_trial_positions t_trial_score t_trial_strokes t_trial_timers : Nat → Int32) (x1 : Int32) (r : Int32) (t_snapshot_o : Nat → Int32) (t_snapshot_positions_o : Nat → Int32) (t_snapshot_timers_o : Nat → Int32) (t_trial_o : Nat → Int32) (t_trial_circuit_o : Nat → Int32) (t_trial_faults_o : Nat → Int32) (t_trial_log_o : Nat → Int32) (t_trial_log_moves_o : Nat → Int32) (t_trial_log_times_o : Nat → Int32) (t_trial_positions_o : Nat → Int32) (t_trial_score_o : Nat → Int32) (t_trial_strokes_o : Nat → Int32) (t_trial_timers_o : Nat → Int32) (q0_o : Nat) (hm : mX7_suspect r_t_trial_sequence a_t_rig_sequence t_rig t_rig_circuit t_rig_positions t_rig_sequence t_rig_sequence_cuts t_rig_sequence_groupOfStep t_rig_sequence_minus t_rig_sequence_pauses t_rig_sequence_plus t_rig_strokes t_snapshot t_snapshot_positions t_snapshot_timers t_trial t_trial_circuit t_trial_faults t_trial_log t_trial_log_moves t_trial_log_times t_trial_positions t_trial_score t_trial_strokes t_trial_timers x1 = some (r, t_snapshot_o, t_snapshot_positions_o, t_snapshot_timers_o, t_trial_o, t_trial_circuit_o, t_trial_faults_o, t_trial_log_o, t_trial_log_moves_o, t_trial_log_times_o, t_trial_positions_o, t_trial_score_o, t_trial_strokes_o, t_trial_timers_o, q0_o)) : bq_M l D cI cJ yX7_suspect cX7_suspect 5 (some .int) rmX7_suspect [.ref a_t, .int x1] (wdX7_suspect cI a_t a_t_rig a_t_rig_circuit a_t_rig_positions a_t_rig_sequence a_t_rig_sequence_cuts a_t_rig_sequence_groupOfStep a_t_rig_sequence_minus a_t_rig_sequence_pauses a_t_rig_sequence_plus a_t_rig_strokes a_t_snapshot a_t_snapshot_positions a_t_snapshot_timers a_t_trial a_t_trial_circuit a_t_trial_faults a_t_trial_log a_t_trial_log_moves a_t_trial_log_times a_t_trial_positions a_t_trial_score a_t_trial_strokes a_t_trial_timers u_t_reader u_t_spare u_t_rig_log u_t_rig_score u_t_rig_timers u_t_rig_faults u_t_rig_sequence_outBefore r_t_trial_sequence t t_rig t_rig_circuit t_rig_positions t_rig_sequence t_rig_sequence_cuts t_rig_sequence_groupOfStep t_rig_sequence_minus t_rig_sequence_pauses t_rig_sequence_plus t_rig_strokes t_snapshot t_snapshot_positions t_snapshot_timers t_trial t_trial_circuit t_trial_faults t_trial_log t_trial_log_moves t_trial_log_times t_trial_positions t_trial_score t_trial_strokes t_trial_timers) (wdX7_suspect cI a_t a_t_rig a_t_rig_circuit a_t_rig_positions a_t_rig_sequence a_t_rig_sequence_cuts a_t_rig_sequence_groupOfStep a_t_rig_sequence_minus a_t_rig_sequence_pauses a_t_rig_sequence_plus a_t_rig_strokes a_t_snapshot a_t_snapshot_positions a_t_snapshot_timers a_t_trial a_t_trial_circuit a_t_trial_faults a_t_trial_log a_t_trial_log_moves a_t_trial_log_times a_t_trial_positions a_t_trial_score a_t_trial_strokes a_t_trial_timers u_t_reader u_t_spare u_t_rig_log u_t_rig_score u_t_rig_timers u_t_rig_faults u_t_rig_sequence_outBefore q0_o t t_rig t_rig_circuit t_rig_positions t_rig_sequence t_rig_sequence_cuts t_rig_sequence_groupOfStep t_rig_sequence_minus t_rig_sequence_pauses t_rig_sequence_plus t_rig_strokes t_snapshot_o t_snapshot_positions_o t_snapshot_timers_o t_trial_o t_trial_circuit_o t_trial_faults_o t_trial_log_o t_trial_log_moves_o t_trial_log_times_o t_trial_positions_o t_trial_score_o t_trial_strokes_o t_trial_timers_o) (some (.int r)) := by
  refine bq_start (by decide) (Nat.le_of_ble_eq_true rfl) ?_
  intro p e s m av9 below meth c A ls Q H locs E K w hA hr hk hn hQ hl
  have E : bq_E p m c cX7_suspect 5 s av9 RX7 := E
  have hx := E.1
  have hb := E.2.1
  have hl : lv_has ls 5 [(0, .ref a_t), (1, .int x1)] := hl
  unfold mX7_suspect at hm
  refine lv_iload_n hx hb dX7_suspect_0 rfl (lv_at hl 1 rfl) ?_
  refine lv_if_ge (tgt := 14) hx hb dX7_suspect_1 (by decide) (fun hc => ?_) (fun hc => ?_)
  · replace hm := bq_t hc hm
    clear hc
    refine lv_aload_n hx hb dX7_suspect_14 rfl (lv_at hl 0 rfl) ?_
    obtain ⟨⟨⟩, hC, hm⟩ := bq_bd_el hm
    refine bq_V (As := []) (rest := []) (st1 := []) (ws' := wdX7_suspect cI a_t a_t_rig a_t_rig_circuit a_t_rig_positions a_t_rig_sequence a_t_rig_sequence_cuts a_t_rig_sequence_groupOfStep a_t_rig_sequence_minus a_t_rig_sequence_pauses a_t_rig_sequence_plus a_t_rig_strokes a_t_snapshot a_t_snapshot_positions a_t_snapshot_timers a_t_trial a_t_trial_circuit a_t_trial_faults a_t_trial_log a_t_trial_log_moves a_t_trial_log_times a_t_trial_positions a_t_trial_score a_t_trial_strokes a_t_trial_timers u_t_reader u_t_spare u_t_rig_log u_t_rig_score u_t_rig_timers u_t_rig_faults u_t_rig_sequence_outBefore r_t_trial_sequence t t_rig t_rig_circuit t_rig_positions t_rig_sequence t_rig_sequence_cuts t_rig_sequence_groupOfStep t_rig_sequence_minus t_rig_sequence_pauses t_rig_sequence_plus t_rig_strokes t_snapshot t_snapshot_positions t_snapshot_timers t_trial t_trial_circuit t_trial_faults t_trial_log t_trial_log_moves t_trial_log_times t_trial_positions t_trial_score t_trial_strokes t_trial_timers) E K w hA (kX7_checkSequence l D cI cJ a_t a_t_rig a_t_rig_sequence u_t_reader a_t_trial a_t_snapshot u_t_spare a_t_rig_circuit u_t_rig_log u_t_rig_score a_t_rig_strokes a_t_rig_positions u_t_rig_timers u_t_rig_faults a_t_rig_sequence_plus a_t_rig_sequence_minus a_t_rig_sequence_pauses u_t_rig_sequence_outBefore a_t_rig_sequence_cuts a_t_rig_sequence_groupOfStep t t_rig t_rig_sequence hC) (bq_gV ml_X7_110 im_X7_checkSequence sl_X7_checkSequence in_X7 cd_X7_checkSequence) hd_X7_checkSequence ⟨Nat.le_of_ble_eq_true rfl, Nat.le_of_ble_eq_true rfl⟩ ⟨Nat.le_of_ble_eq_true rfl, Nat.le_of_ble_eq_true rfl⟩ ⟨[0, 1, 4], [2, 3, 5, 6, 7, 8, 9, 10, 11, 12, 13, 14, 15, 16, 17, 18, 19, 20, 21, 22, 23], [21, 22, 0, 1, 23, 2, 3, 4, 5, 6, 7, 8, 9, 10, 11, 12, 13, 14, 15, 16, 17, 18, 19, 20], rfl, rfl, rfl, rfl, rfl, rfl, rfl, rfl, rfl⟩ 0 rfl rfl rfl hl.1 rfl (Nat.le_of_ble_eq_true rfl) rfl dX7_suspect_15 (fun H locs w => bq_z ⟨rfl, rfl⟩ ?_)
    clear hC
    refine lv_iconst (v := 0) hx hb dX7_suspect_18 (by decide) ?_
    refine lv_istore_n (lv' := [(2, .int 0), (0, .ref a_t), (1, .int x1)]) hx hb dX7_suspect_19 rfl hl (by decide) rfl (fun ls hl => ?_)
    refine lv_iconst (v := 0) hx hb dX7_suspect_20 (by decide) ?_
    refine lv_istore_n (lv' := [(3, .int 0), (2, .int 0), (0, .ref a_t), (1, .int x1)]) hx hb dX7_suspect_21 rfl hl (by decide) rfl (fun ls hl => ?_)
    obtain ⟨rr22, hL, hm⟩ := bq_bd_el hm
    obtain ⟨B, eB, nn, hL⟩ := bq_loop_B hL
    have X75 : ∀ (t_snapshot_17 : Nat → Int32) (t_snapshot_positions_18 : Nat → Int32) (t_snapshot_timers_19 : Nat → Int32) (t_trial_20 : Nat → Int32) (t_trial_circuit_21 : Nat → Int32) (t_trial_faults_22 : Nat → Int32) (t_trial_log_23 : Nat → Int32) (t_trial_log_moves_24 : Nat → Int32) (t_trial_log_times_25 : Nat → Int32) (t_trial_positions_26 : Nat → Int32) (t_trial_score_27 : Nat → Int32) (t_trial_strokes_28 : Nat → Int32) (t_trial_timers_29 : Nat → Int32) (q30 : Nat) (hE : rr22 = .inl (t_snapshot_17, t_snapshot_positions_18, t_snapshot_timers_19, t_trial_20, t_trial_circuit_21, t_trial_faults_22, t_trial_log_23, t_trial_log_moves_24, t_trial_log_times_25, t_trial_positions_26, t_trial_score_27, t_trial_strokes_28, t_trial_timers_29, q30)) (H : Heap) (locs : List Loc) (ls : Array Slot), bq_w D A s.heap (wdX7_suspect cI a_t a_t_rig a_t_rig_circuit a_t_rig_positions a_t_rig_sequence a_t_rig_sequence_cuts a_t_rig_sequence_groupOfStep a_t_rig_sequence_minus a_t_rig_sequence_pauses a_t_rig_sequence_plus a_t_rig_strokes a_t_snapshot a_t_snapshot_positions a_t_snapshot_timers a_t_trial a_t_trial_circuit a_t_trial_faults a_t_trial_log a_t_trial_log_moves a_t_trial_log_times a_t_trial_positions a_t_trial_score a_t_trial_strokes a_t_trial_timers u_t_reader u_t_spare u_t_rig_log u_t_rig_score u_t_rig_timers u_t_rig_faults u_t_rig_sequence_outBefore q30 t t_rig t_rig_circuit t_rig_positions t_rig_sequence t_rig_sequence_cuts t_rig_sequence_groupOfStep t_rig_sequence_minus t_rig_sequence_pauses t_rig_sequence_plus t_rig_strokes t_snapshot_17 t_snapshot_positions_18 t_snapshot_timers_19 t_trial_20 t_trial_circuit_21 t_trial_faults_22 t_trial_log_23 t_trial_log_moves_24 t_trial_log_times_25 t_trial_positions_26 t_trial_score_27 t_trial_strokes_28 t_trial_timers_29) H locs → lv_has ls 5 [] → W p l e rmX7_suspect s m av9 below meth c H locs 0 0 Q (F0 m 75 ls []) := by
      intro t_snapshot_17 t_snapshot_positions_18 t_snapshot_timers_19 t_trial_20 t_trial_circuit_21 t_trial_faults_22 t_trial_log_23 t_trial_log_moves_24 t_trial_log_times_25 t_trial_positions_26 t_trial_score_27 t_trial_strokes_28 t_trial_timers_29 q30 hE H locs ls w hl
      subst hE
      replace hm := bq_or14_l hm
      refine lv_iconst (v := (-1)) hx hb dX7_suspect_75 (by decide) ?_
      obtain ⟨rfl, rfl, rfl, rfl, rfl, rfl, rfl, rfl, rfl, rfl, rfl, rfl, rfl, rfl, rfl⟩ := bq_in15 (Option.some.inj hm)
      exact bq_iret E w hr hk dX7_suspect_76 hQ
    have L22 : ∀ (nn : Nat) (i1 : Int32) (i2 : Int32) (t_snapshot_3 : Nat → Int32) (t_snapshot_positions_4 : Nat → Int32) (t_snapshot_timers_5 : Nat → Int32) (t_trial_6 : Nat → Int32) (t_trial_circuit_7 : Nat → Int32) (t_trial_faults_8 : Nat → Int32) (t_trial_log_9 : Nat → Int32) (t_trial_log_moves_10 : Nat → Int32) (t_trial_log_times_11 : Nat → Int32) (t_trial_positions_12 : Nat → Int32) (t_trial_score_13 : Nat → Int32) (t_trial_strokes_14 : Nat → Int32) (t_trial_timers_15 : Nat → Int32) (q16 : Nat) (H : Heap) (locs : List Loc) (ls : Array Slot), bq_lp B nn (i1, i2, t_snapshot_3, t_snapshot_positions_4, t_snapshot_timers_5, t_trial_6, t_trial_circuit_7, t_trial_faults_8, t_trial_log_9, t_trial_log_moves_10, t_trial_log_times_11, t_trial_positions_12, t_trial_score_13, t_trial_strokes_14, t_trial_timers_15, q16) = some rr22 → bq_w D A s.heap (wdX7_suspect cI a_t a_t_rig a_t_rig_circuit a_t_rig_positions a_t_rig_sequence a_t_rig_sequence_cuts a_t_rig_sequence_groupOfStep a_t_rig_sequence_minus a_t_rig_sequence_pauses a_t_rig_sequence_plus a_t_rig_strokes a_t_snapshot a_t_snapshot_positions a_t_snapshot_timers a_t_trial a_t_trial_circuit a_t_trial_faults a_t_trial_log a_t_trial_log_moves a_t_trial_log_times a_t_trial_positions a_t_trial_score a_t_trial_strokes a_t_trial_timers u_t_reader u_t_spare u_t_rig_log u_t_rig_score u_t_rig_timers u_t_rig_faults u_t_rig_sequence_outBefore q16 t t_rig t_rig_circuit t_rig_positions t_rig_sequence t_rig_sequence_cuts t_rig_sequence_groupOfStep t_rig_sequence_minus t_rig_sequence_pauses t_rig_sequence_plus t_rig_strokes t_snapshot_3 t_snapshot_positions_4 t_snapshot_timers_5 t_trial_6 t_trial_circuit_7 t_trial_faults_8 t_trial_log_9 t_trial_log_moves_10 t_trial_log_times_11 t_trial_positions_12 t_trial_score_13 t_trial_strokes_14 t_trial_timers_15) H locs → lv_has ls 5 [(0, .ref a_t), (1, .int x1), (2, .int i2), (3, .int i1)] → W p l e rmX7_suspect s m av9 below meth c H locs 0 0 Q (F0 m 22 ls []) := by
      intro nn
      induction nn with
      | zero =>
        intro i1 i2 t_snapshot_3 t_snapshot_positions_4 t_snapshot_timers_5 t_trial_6 t_trial_circuit_7 t_trial_faults_8 t_trial_log_9 t_trial_log_moves_10 t_trial_log_times_11 t_trial_positions_12 t_trial_score_13 t_trial_strokes_14 t_trial_timers_15 q16 H locs ls hL w hl
        exact bq_lp_0 hL
      | succ nn ih =>
        intro i1 i2 t_snapshot_3 t_snapshot_positions_4 t_snapshot_timers_5 t_trial_6 t_trial_circuit_7 t_trial_faults_8 t_trial_log_9 t_trial_log_moves_10 t_trial_log_times_11 t_trial_positions_12 t_trial_score_13 t_trial_strokes_14 t_trial_timers_15 q16 H locs ls hL w hl
        obtain ⟨oo22, hT22, hR22⟩ := bq_lp_el hL
        clear hL
        replace hT22 := bq_u16_el eB hT22
        unfold bX7_suspect_22 at hT22
        refine lv_iload_n hx hb dX7_suspect_22 rfl (lv_at hl 3 rfl) ?_
        refine lv_bipush (v := 6) hx hb dX7_suspect_23 (by decide) ?_
        refine lv_icmp_ge (tgt := 75) hx hb dX7_suspect_25 (by decide) (fun hc => ?_) (fun hc => ?_)
        · replace hT22 := bq_t hc hT22
          clear hc
          obtain rfl := Option.some.inj hT22
          replace hR22 := bq_lk_r hR22
          exact X75 t_snapshot_3 t_snapshot_positions_4 t_snapshot_timers_5 t_trial_6 t_trial_circuit_7 t_trial_faults_8 t_trial_log_9 t_trial_log_moves_10 t_trial_log_times_11 t_trial_positions_12 t_trial_score_13 t_trial_strokes_14 t_trial_timers_15 q16 hR22.symm H locs ls w (lv_sub hl [] rfl)
        · replace hT22 := bq_f hc hT22
          clear hc
          refine lv_iconst (v := 0) hx hb dX7_suspect_28 (by decide) ?_
          refine lv_istore (lv' := [(4, .int 0), (0, .ref a_t), (1, .int x1), (2, .int i2), (3, .int i1)]) hx hb dX7_suspect_29 hl (by decide) rfl (fun ls hl => ?_)
          obtain ⟨rr31, hL, hT22⟩ := bq_bd_el hT22
          obtain ⟨B, eB, nn, hL⟩ := bq_loop_B hL
          have X69 : ∀ (v47 : Int32) (t_snapshot_48 : Nat → Int32) (t_snapshot_positions_49 : Nat → Int32) (t_snapshot_timers_50 : Nat → Int32) (t_trial_51 : Nat → Int32) (t_trial_circuit_52 : Nat → Int32) (t_trial_faults_53 : Nat → Int32) (t_trial_log_54 : Nat → Int32) (t_trial_log_moves_55 : Nat → Int32) (t_trial_log_times_56 : Nat → Int32) (t_trial_positions_57 : Nat → Int32) (t_trial_score_58 : Nat → Int32) (t_trial_strokes_59 : Nat → Int32) (t_trial_timers_60 : Nat → Int32) (q61 : Nat) (hE : rr31 = .inl (v47, t_snapshot_48, t_snapshot_positions_49, t_snapshot_timers_50, t_trial_51, t_trial_circuit_52, t_trial_faults_53, t_trial_log_54, t_trial_log_moves_55, t_trial_log_times_56, t_trial_positions_57, t_trial_score_58, t_trial_strokes_59, t_trial_timers_60, q61)) (H : Heap) (locs : List Loc) (ls : Array Slot), bq_w D A s.heap (wdX7_suspect cI a_t a_t_rig a_t_rig_circuit a_t_rig_positions a_t_rig_sequence a_t_rig_sequence_cuts a_t_rig_sequence_groupOfStep a_t_rig_sequence_minus a_t_rig_sequence_pauses a_t_rig_sequence_plus a_t_rig_strokes a_t_snapshot a_t_snapshot_positions a_t_snapshot_timers a_t_trial a_t_trial_circuit a_t_trial_faults a_t_trial_log a_t_trial_log_moves a_t_trial_log_times a_t_trial_positions a_t_trial_score a_t_trial_strokes a_t_trial_timers u_t_reader u_t_spare u_t_rig_log u_t_rig_score u_t_rig_timers u_t_rig_faults u_t_rig_sequence_outBefore q61 t t_rig t_rig_circuit t_rig_positions t_rig_sequence t_rig_sequence_cuts t_rig_sequence_groupOfStep t_rig_sequence_minus t_rig_sequence_pauses t_rig_sequence_plus t_rig_strokes t_snapshot_48 t_snapshot_positions_49 t_snapshot_timers_50 t_trial_51 t_trial_circuit_52 t_trial_faults_53 t_trial_log_54 t_trial_log_moves_55 t_trial_log_times_56 t_trial_positions_57 t_trial_score_58 t_trial_strokes_59 t_trial_timers_60) H locs → lv_has ls 5 [(0, .ref a_t), (1, .int x1), (2, .int v47), (3, .int i1)] → W p l e rmX7_suspect s m av9 below meth c H locs 0 0 Q (F0 m 69 ls []) := by
            intro v47 t_snapshot_48 t_snapshot_positions_49 t_snapshot_timers_50 t_trial_51 t_trial_circuit_52 t_trial_faults_53 t_trial_log_54 t_trial_log_moves_55 t_trial_log_times_56 t_trial_positions_57 t_trial_score_58 t_trial_strokes_59 t_trial_timers_60 q61 hE H locs ls w hl
            subst hE
            replace hT22 := bq_or15_l hT22
            obtain ⟨v62, e9, hT22⟩ := bq_let_el hT22
            refine lv_iinc (v := v62) (lv' := [(3, .int v62), (0, .ref a_t), (1, .int x1), (2, .int v47)]) hx hb dX7_suspect_69 hl (k := 3) rfl (by rw [e9]; rfl) (by decide) rfl (fun ls hl => ?_)
            clear e9
            refine lv_goto (tgt := 22) hx hb dX7_suspect_72 (by decide) ?_
            obtain rfl := Option.some.inj hT22
            exact ih v62 v47 t_snapshot_48 t_snapshot_positions_49 t_snapshot_timers_50 t_trial_51 t_trial_circuit_52 t_trial_faults_53 t_trial_log_54 t_trial_log_moves_55 t_trial_log_times_56 t_trial_positions_57 t_trial_score_58 t_trial_strokes_59 t_trial_timers_60 q61 H locs ls hR22 w (lv_sub hl [1, 2, 3, 0] rfl)
          have L31 : ∀ (nn : Nat) (i31 : Int32) (i32 : Int32) (t_snapshot_33 : Nat → Int32) (t_snapshot_positions_34 : Nat → Int32) (t_snapshot_timers_35 : Nat → Int32) (t_trial_36 : Nat → Int32) (t_trial_circuit_37 : Nat → Int32) (t_trial_faults_38 : Nat → Int32) (t_trial_log_39 : Nat → Int32) (t_trial_log_moves_40 : Nat → Int32) (t_trial_log_times_41 : Nat → Int32) (t_trial_positions_42 : Nat → Int32) (t_trial_score_43 : Nat → Int32) (t_trial_strokes_44 : Nat → Int32) (t_trial_timers_45 : Nat → Int32) (q46 : Nat) (H : Heap) (locs : List Loc) (ls : Array Slot), bq_lp B nn (i31, i32, t_snapshot_33, t_snapshot_positions_34, t_snapshot_timers_35, t_trial_36, t_trial_circuit_37, t_trial_faults_38, t_trial_log_39, t_trial_log_moves_40, t_trial_log_times_41, t_trial_positions_42, t_trial_score_43, t_trial_strokes_44, t_trial_timers_45, q46) = some rr31 → bq_w D A s.heap (wdX7_suspect cI a_t a_t_rig a_t_rig_circuit a_t_rig_positions a_t_rig_sequence a_t_rig_sequence_cuts a_t_rig_sequence_groupOfStep a_t_rig_sequence_minus a_t_rig_sequence_pauses a_t_rig_sequence_plus a_t_rig_strokes a_t_snapshot a_t_snapshot_positions a_t_snapshot_timers a_t_trial a_t_trial_circuit a_t_trial_faults a_t_trial_log a_t_trial_log_moves a_t_trial_log_times a_t_trial_positions a_t_trial_score a_t_trial_strokes a_t_trial_timers u_t_reader u_t_spare u_t_rig_log u_t_rig_score u_t_rig_timers u_t_rig_faults u_t_rig_sequence_outBefore q46 t t_rig t_rig_circuit t_rig_positions t_rig_sequence t_rig_sequence_cuts t_rig_sequence_groupOfStep t_rig_sequence_minus t_rig_sequence_pauses t_rig_sequence_plus t_rig_strokes t_snapshot_33 t_snapshot_positions_34 t_snapshot_timers_35 t_trial_36 t_trial_circuit_37 t_trial_faults_38 t_trial_log_39 t_trial_log_moves_40 t_trial_log_times_41 t_trial_positions_42 t_trial_score_43 t_trial_strokes_44 t_trial_timers_45) H locs → lv_has ls 5 [(0, .ref a_t), (1, .int x1), (2, .int i32), (3, .int i1), (4, .int i31)] → W p l e rmX7_suspect s m av9 below meth c H locs 0 0 Q (F0 m 31 ls []) := by
            intro nn
            induction nn with
            | zero =>
              intro i31 i32 t_snapshot_33 t_snapshot_positions_34 t_snapshot_timers_35 t_trial_36 t_trial_circuit_37 t_trial_faults_38 t_trial_log_39 t_trial_log_moves_40 t_trial_log_times_41 t_trial_positions_42 t_trial_score_43 t_trial_strokes_44 t_trial_timers_45 q46 H locs ls hL w hl
              exact bq_lp_0 hL
            | succ nn ih =>
              intro i31 i32 t_snapshot_33 t_snapshot_positions_34 t_snapshot_timers_35 t_trial_36 t_trial_circuit_37 t_trial_faults_38 t_trial_log_39 t_trial_log_moves_40 t_trial_log_times_41 t_trial_positions_42 t_trial_score_43 t_trial_strokes_44 t_trial_timers_45 q46 H locs ls hL w hl
              obtain ⟨oo31, hT31, hR31⟩ := bq_lp_el hL
              clear hL
              replace hT31 := bq_u16_el eB hT31
              unfold bX7_suspect_31 at hT31
              refine lv_iload hx hb dX7_suspect_31 (lv_at hl 4 rfl) ?_
              refine lv_iconst (v := 5) hx hb dX7_suspect_33 (by decide) ?_
              refine lv_icmp_ge (tgt := 69) hx hb dX7_suspect_34 (by decide) (fun hc => ?_) (fun hc => ?_)
              · replace hT31 := bq_t hc hT31
                clear hc
                obtain rfl := Option.some.inj hT31
                replace hR31 := bq_lk_r hR31
                exact X69 i32 t_snapshot_33 t_snapshot_positions_34 t_snapshot_timers_35 t_trial_36 t_trial_circuit_37 t_trial_faults_38 t_trial_log_39 t_trial_log_moves_40 t_trial_log_times_41 t_trial_positions_42 t_trial_score_43 t_trial_strokes_44 t_trial_timers_45 q46 hR31.symm H locs ls w (lv_sub hl [0, 1, 2, 3] rfl)
              · replace hT31 := bq_f hc hT31
                clear hc
                refine lv_aload_n hx hb dX7_suspect_37 rfl (lv_at hl 0 rfl) ?_
                refine lv_iload_n hx hb dX7_suspect_38 rfl (lv_at hl 3 rfl) ?_
                refine lv_iload hx hb dX7_suspect_39 (lv_at hl 4 rfl) ?_
                obtain ⟨v63, t_snapshot_64, t_snapshot_positions_65, t_snapshot_timers_66, t_trial_67, t_trial_circuit_68, t_trial_faults_69, t_trial_log_70, t_trial_log_moves_71, t_trial_log_times_72, t_trial_positions_73, t_trial_score_74, t_trial_strokes_75, t_trial_timers_76, hC, hT31⟩ := bq_b14_el hT31
                refine bq_V (As := [.int i1, .int i31]) (rest := []) (st1 := [.int v63]) (ws' := wdX7_suspect cI a_t a_t_rig a_t_rig_circuit a_t_rig_positions a_t_rig_sequence a_t_rig_sequence_cuts a_t_rig_sequence_groupOfStep a_t_rig_sequence_minus a_t_rig_sequence_pauses a_t_rig_sequence_plus a_t_rig_strokes a_t_snapshot a_t_snapshot_positions a_t_snapshot_timers a_t_trial a_t_trial_circuit a_t_trial_faults a_t_trial_log a_t_trial_log_moves a_t_trial_log_times a_t_trial_positions a_t_trial_score a_t_trial_strokes a_t_trial_timers u_t_reader u_t_spare u_t_rig_log u_t_rig_score u_t_rig_timers u_t_rig_faults u_t_rig_sequence_outBefore a_t_rig_sequence t t_rig t_rig_circuit t_rig_positions t_rig_sequence t_rig_sequence_cuts t_rig_sequence_groupOfStep t_rig_sequence_minus t_rig_sequence_pauses t_rig_sequence_plus t_rig_strokes t_snapshot_64 t_snapshot_positions_65 t_snapshot_timers_66 t_trial_67 t_trial_circuit_68 t_trial_faults_69 t_trial_log_70 t_trial_log_moves_71 t_trial_log_times_72 t_trial_positions_73 t_trial_score_74 t_trial_strokes_75 t_trial_timers_76) E K w hA (kX7_explains l D cI cJ a_t a_t_rig a_t_rig_circuit a_t_rig_positions a_t_rig_sequence a_t_rig_sequence_cuts a_t_rig_sequence_groupOfStep a_t_rig_sequence_minus a_t_rig_sequence_pauses a_t_rig_sequence_plus a_t_rig_strokes a_t_snapshot a_t_snapshot_positions a_t_snapshot_timers a_t_trial a_t_trial_circuit a_t_trial_faults a_t_trial_log a_t_trial_log_moves a_t_trial_log_times a_t_trial_positions a_t_trial_score a_t_trial_strokes a_t_trial_timers u_t_reader u_t_spare u_t_rig_log u_t_rig_score u_t_rig_timers u_t_rig_faults u_t_rig_sequence_outBefore q46 t t_rig t_rig_circuit t_rig_positions t_rig_sequence t_rig_sequence_cuts t_rig_sequence_groupOfStep t_rig_sequence_minus t_rig_sequence_pauses t_rig_sequence_plus t_rig_strokes t_snapshot_33 t_snapshot_positions_34 t_snapshot_timers_35 t_trial_36 t_trial_circuit_37 t_trial_faults_38 t_trial_log_39 t_trial_log_moves_40 t_trial_log_times_41 t_trial_positions_42 t_trial_score_43 t_trial_strokes_44 t_trial_timers_45 i1 i31 v63 t_snapshot_64 t_snapshot_positions_65 t_snapshot_timers_66 t_trial_67 t_trial_circuit_68 t_trial_faults_69 t_trial_log_70 t_trial_log_moves_71 t_trial_log_times_72 t_trial_positions_73 t_trial_score_74 t_trial_strokes_75 t_trial_timers_76 hC) (bq_gV ml_X7_242 im_X7_explains sl_X7_explains in_X7 cd_X7_explains) hd_X7_explains ⟨Nat.le_of_ble_eq_true rfl, Nat.le_of_ble_eq_true rfl⟩ ⟨Nat.le_of_ble_eq_true rfl, Nat.le_of_ble_eq_true rfl⟩ ⟨[0, 1, 2, 3, 4, 5, 6, 7, 8, 9, 10, 11, 12, 13, 14, 15, 16, 17, 18, 19, 20, 21, 22, 23], [], [0, 1, 2, 3, 4, 5, 6, 7, 8, 9, 10, 11, 12, 13, 14, 15, 16, 17, 18, 19, 20, 21, 22, 23], rfl, rfl, rfl, rfl, rfl, rfl, rfl, rfl, rfl⟩ 0 rfl rfl rfl hl.1 rfl (Nat.le_of_ble_eq_true rfl) rfl dX7_suspect_41 (fun H locs w => bq_z ⟨rfl, rfl⟩ ?_)
                clear hC
                refine lv_if_eq (tgt := 63) hx hb dX7_suspect_44 (by decide) (fun hc => ?_) (fun hc => ?_)
                · replace hT31 := bq_t hc hT31
                  clear hc
                  obtain ⟨v77, e9, hT31⟩ := bq_let_el hT31
                  refine lv_iinc (v := v77) (lv' := [(4, .int v77), (0, .ref a_t), (1, .int x1), (2, .int i32), (3, .int i1)]) hx hb dX7_suspect_63 hl (k := 4) rfl (by rw [e9]; rfl) (by decide) rfl (fun ls hl => ?_)
                  clear e9
                  refine lv_goto (tgt := 31) hx hb dX7_suspect_66 (by decide) ?_
                  obtain rfl := Option.some.inj hT31
                  exact ih v77 i32 t_snapshot_64 t_snapshot_positions_65 t_snapshot_timers_66 t_trial_67 t_trial_circuit_68 t_trial_faults_69 t_trial_log_70 t_trial_log_moves_71 t_trial_log_times_72 t_trial_positions_73 t_trial_score_74 t_trial_strokes_75 t_trial_timers_76 a_t_rig_sequence H locs ls hR31 w (lv_sub hl [1, 2, 3, 4, 0] rfl)
                · replace hT31 := bq_f hc hT31
                  clear hc
                  refine lv_iload_n hx hb dX7_suspect_47 rfl (lv_at hl 2 rfl) ?_
                  refine lv_iload_n hx hb dX7_suspect_48 rfl (lv_at hl 1 rfl) ?_
                  refine lv_icmp_ne (tgt := 60) hx hb dX7_suspect_49 (by decide) (fun hc => ?_) (fun hc => ?_)
                  · replace hT31 := bq_f hc hT31
                    clear hc
                    obtain ⟨v78, e9, hT31⟩ := bq_let_el hT31
                    refine lv_iinc (v := v78) (lv' := [(2, .int v78), (0, .ref a_t), (1, .int x1), (3, .int i1), (4, .int i31)]) hx hb dX7_suspect_60 hl (k := 2) rfl (by rw [e9]; rfl) (by decide) rfl (fun ls hl => ?_)
                    clear e9
                    obtain ⟨v79, e9, hT31⟩ := bq_let_el hT31
                    refine lv_iinc (v := v79) (lv' := [(4, .int v79), (2, .int v78), (0, .ref a_t), (1, .int x1), (3, .int i1)]) hx hb dX7_suspect_63 hl (k := 4) rfl (by rw [e9]; rfl) (by decide) rfl (fun ls hl => ?_)
                    clear e9
                    refine lv_goto (tgt := 31) hx hb dX7_suspect_66 (by decide) ?_
                    obtain rfl := Option.some.inj hT31
                    exact ih v79 v78 t_snapshot_64 t_snapshot_positions_65 t_snapshot_timers_66 t_trial_67 t_trial_circuit_68 t_trial_faults_69 t_trial_log_70 t_trial_log_moves_71 t_trial_log_times_72 t_trial_positions_73 t_trial_score_74 t_trial_strokes_75 t_trial_timers_76 a_t_rig_sequence H locs ls hR31 w (lv_sub hl [2, 3, 1, 4, 0] rfl)
                  · replace hT31 := bq_t hc hT31
                    clear hc
                    refine lv_bipush (v := 10) hx hb dX7_suspect_52 (by decide) ?_
                    refine lv_iload_n hx hb dX7_suspect_54 rfl (lv_at hl 3 rfl) ?_
                    refine lv_imul hx hb dX7_suspect_55 ?_
                    refine lv_iload hx hb dX7_suspect_56 (lv_at hl 4 rfl) ?_
                    refine lv_iadd hx hb dX7_suspect_58 ?_
                    obtain rfl := Option.some.inj hT31
                    replace hR31 := bq_lk_r hR31
                    subst hR31
                    replace hT22 := bq_or15_r hT22
                    obtain rfl := Option.some.inj hT22
                    replace hR22 := bq_lk_r hR22
                    subst hR22
                    replace hm := bq_or14_r hm
                    obtain ⟨rfl, rfl, rfl, rfl, rfl, rfl, rfl, rfl, rfl, rfl, rfl, rfl, rfl, rfl, rfl⟩ := bq_in15 (Option.some.inj hm)
                    exact bq_iret E w hr hk dX7_suspect_59 hQ
          exact L31 nn 0 i2 t_snapshot_3 t_snapshot_positions_4 t_snapshot_timers_5 t_trial_6 t_trial_circuit_7 t_trial_faults_8 t_trial_log_9 t_trial_log_moves_10 t_trial_log_times_11 t_trial_positions_12 t_trial_score_13 t_trial_strokes_14 t_trial_timers_15 q16 H locs ls hL w (lv_sub hl [1, 2, 3, 4, 0] rfl)
    exact L22 nn 0 0 t_snapshot t_snapshot_positions t_snapshot_timers t_trial t_trial_circuit t_trial_faults t_trial_log t_trial_log_moves t_trial_log_times t_trial_positions t_trial_score t_trial_strokes t_trial_timers r_t_trial_sequence H locs ls hL w (lv_sub hl [2, 3, 1, 0] rfl)
  · replace hm := bq_f hc hm
    clear hc
    cases hm
abbrev rmTX7_suspect : Room := { frames := 7, cells := 1, slots := 6, locals := 145 }
set_option maxHeartbeats 4000000 in
set_option maxRecDepth 100000 in
theorem tkX7_suspect {l : Launch} (hlf : l.stackTraces = false) (D : va_G) (cI cJ : ClassId) (a_t a_t_rig a_t_rig_circuit a_t_rig_positions a_t_rig_sequence a_t_rig_sequence_cuts a_t_rig_sequence_groupOfStep a_t_rig_sequence_minus a_t_rig_sequence_pauses a_t_rig_sequence_plus a_t_rig_strokes a_t_snapshot a_t_snapshot_positions a_t_snapshot_timers a_t_trial a_t_trial_circuit a_t_trial_faults a_t_trial_log a_t_trial_log_moves a_t_trial_log_times a_t_trial_positions a_t_trial_score a_t_trial_strokes a_t_trial_timers u_t_reader u_t_spare u_t_rig_log u_t_rig_score u_t_rig_timers u_t_rig_faults u_t_rig_sequence_outBefore r_t_trial_sequence : Nat) (t t_rig t_rig_circuit t_rig_positions t_rig_sequence t_rig_sequence_cuts t_rig_sequence_groupOfStep t_rig_sequence_minus t_rig_sequence_pauses t_rig_sequence_plus t_rig_strokes t_snapshot t_snapshot_positions t_snapshot_timers t_trial t_trial_circuit t_trial_faults t_trial_log t_trial_log_moves t_trial_log_times t_trial_positions t_trial_score t_trial_strokes t_trial_timers : Nat → Int32) (x1 : Int32) (r : Nat) (hm : tX7_suspect t_rig t_rig_circuit t_rig_positions t_rig_sequence t_rig_sequence_cuts t_rig_sequence_groupOfStep t_rig_sequence_minus t_rig_sequence_pauses t_rig_sequence_plus t_rig_strokes t_snapshot t_snapshot_positions t_snapshot_timers t_trial t_trial_circuit t_trial_faults t_trial_log t_trial_log_moves t_trial_log_times t_trial_positions t_trial_score t_trial_strokes t_trial_timers x1 = some r) : bq_MT l D cI cJ yX7_suspect cX7_suspect 5 (some .int) rmTX7_suspect [.ref a_t, .int x1] (wdX7_suspect cI a_t a_t_rig a_t_rig_circuit a_t_rig_positions a_t_rig_sequence a_t_rig_sequence_cuts a_t_rig_sequence_groupOfStep a_t_rig_sequence_minus a_t_rig_sequence_pauses a_t_rig_sequence_plus a_t_rig_strokes a_t_snapshot a_t_snapshot_positions a_t_snapshot_timers a_t_trial a_t_trial_circuit a_t_trial_faults a_t_trial_log a_t_trial_log_moves a_t_trial_log_times a_t_trial_positions a_t_trial_score a_t_trial_strokes a_t_trial_timers u_t_reader u_t_spare u_t_rig_log u_t_rig_score u_t_rig_timers u_t_rig_faults u_t_rig_sequence_outBefore r_t_trial_sequence t t_rig t_rig_circuit t_rig_positions t_rig_sequence t_rig_sequence_cuts t_rig_sequence_groupOfStep t_rig_sequence_minus t_rig_sequence_pauses t_rig_sequence_plus t_rig_strokes t_snapshot t_snapshot_positions t_snapshot_timers t_trial t_trial_circuit t_trial_faults t_trial_log t_trial_log_moves t_trial_log_times t_trial_positions t_trial_score t_trial_strokes t_trial_timers) (bq_cls r) := by
  refine bq_startT (by decide) (Nat.le_of_ble_eq_true rfl) ?_
  intro p e s m av9 below meth c A ls Q H locs E K w hA hnt hk hX hQ hl
  have E : bq_E p m c cX7_suspect 5 s av9 RX7 := E
  have hx := E.1
  have hb := E.2.1
  have hl : lv_has ls 5 [(0, .ref a_t), (1, .int x1)] := hl
  unfold tX7_suspect at hm
  refine lv_iload_n hx hb dX7_suspect_0 rfl (lv_at hl 1 rfl) ?_
  refine lv_if_ge (tgt := 14) hx hb dX7_suspect_1 (by decide) (fun hc => ?_) (fun hc => ?_)
  · replace hm := bq_t hc hm
    clear hc
    refine lv_aload_n hx hb dX7_suspect_14 rfl (lv_at hl 0 rfl) ?_
    refine (bq_tc_el hm).elim (fun hC => ?_) (fun hm => ?_)
    · exact bq_TV (As := []) (rest := []) E K w hA hX hnt hk ⟨rfl, rfl⟩ (tkX7_checkSequence hlf D cI cJ a_t a_t_rig a_t_rig_sequence u_t_reader a_t_trial a_t_snapshot u_t_spare a_t_rig_circuit u_t_rig_log u_t_rig_score a_t_rig_strokes a_t_rig_positions u_t_rig_timers u_t_rig_faults a_t_rig_sequence_plus a_t_rig_sequence_minus a_t_rig_sequence_pauses u_t_rig_sequence_outBefore a_t_rig_sequence_cuts a_t_rig_sequence_groupOfStep t t_rig t_rig_sequence _ hC) (bq_gV ml_X7_110 im_X7_checkSequence sl_X7_checkSequence in_X7 cd_X7_checkSequence) hd_X7_checkSequence ⟨Nat.le_of_ble_eq_true rfl, Nat.le_of_ble_eq_true rfl⟩ ⟨Nat.le_of_ble_eq_true rfl, Nat.le_of_ble_eq_true rfl⟩ ⟨[0, 1, 4], [2, 3, 5, 6, 7, 8, 9, 10, 11, 12, 13, 14, 15, 16, 17, 18, 19, 20, 21, 22, 23], [21, 22, 0, 1, 23, 2, 3, 4, 5, 6, 7, 8, 9, 10, 11, 12, 13, 14, 15, 16, 17, 18, 19, 20], rfl, rfl, rfl, rfl, rfl, rfl, rfl, rfl, rfl⟩ 0 rfl rfl rfl hl.1 rfl (Nat.le_of_ble_eq_true rfl) dX7_suspect_15 hQ
    obtain ⟨⟨⟩, hC, hm⟩ := bq_bd_el hm
    refine bq_V (As := []) (rest := []) (st1 := []) (ws' := wdX7_suspect cI a_t a_t_rig a_t_rig_circuit a_t_rig_positions a_t_rig_sequence a_t_rig_sequence_cuts a_t_rig_sequence_groupOfStep a_t_rig_sequence_minus a_t_rig_sequence_pauses a_t_rig_sequence_plus a_t_rig_strokes a_t_snapshot a_t_snapshot_positions a_t_snapshot_timers a_t_trial a_t_trial_circuit a_t_trial_faults a_t_trial_log a_t_trial_log_moves a_t_trial_log_times a_t_trial_positions a_t_trial_score a_t_trial_strokes a_t_trial_timers u_t_reader u_t_spare u_t_rig_log u_t_rig_score u_t_rig_timers u_t_rig_faults u_t_rig_sequence_outBefore r_t_trial_sequence t t_rig t_rig_circuit t_rig_positions t_rig_sequence t_rig_sequence_cuts t_rig_sequence_groupOfStep t_rig_sequence_minus t_rig_sequence_pauses t_rig_sequence_plus t_rig_strokes t_snapshot t_snapshot_positions t_snapshot_timers t_trial t_trial_circuit t_trial_faults t_trial_log t_trial_log_moves t_trial_log_times t_trial_positions t_trial_score t_trial_strokes t_trial_timers) E K w hA (kX7_checkSequence l D cI cJ a_t a_t_rig a_t_rig_sequence u_t_reader a_t_trial a_t_snapshot u_t_spare a_t_rig_circuit u_t_rig_log u_t_rig_score a_t_rig_strokes a_t_rig_positions u_t_rig_timers u_t_rig_faults a_t_rig_sequence_plus a_t_rig_sequence_minus a_t_rig_sequence_pauses u_t_rig_sequence_outBefore a_t_rig_sequence_cuts a_t_rig_sequence_groupOfStep t t_rig t_rig_sequence hC) (bq_gV ml_X7_110 im_X7_checkSequence sl_X7_checkSequence in_X7 cd_X7_checkSequence) hd_X7_checkSequence ⟨Nat.le_of_ble_eq_true rfl, Nat.le_of_ble_eq_true rfl⟩ ⟨Nat.le_of_ble_eq_true rfl, Nat.le_of_ble_eq_true rfl⟩ ⟨[0, 1, 4], [2, 3, 5, 6, 7, 8, 9, 10, 11, 12, 13, 14, 15, 16, 17, 18, 19, 20, 21, 22, 23], [21, 22, 0, 1, 23, 2, 3, 4, 5, 6, 7, 8, 9, 10, 11, 12, 13, 14, 15, 16, 17, 18, 19, 20], rfl, rfl, rfl, rfl, rfl, rfl, rfl, rfl, rfl⟩ 0 rfl rfl rfl hl.1 rfl (Nat.le_of_ble_eq_true rfl) rfl dX7_suspect_15 (fun H locs w => bq_z ⟨rfl, rfl⟩ ?_)
    clear hC
    cases hm
  · replace hm := bq_f hc hm
    clear hc
    obtain rfl := Option.some.inj hm
    exact bq_throw (cls := "java/lang/IndexOutOfBoundsException") hlf E K w hX hnt hk hQ (by decide +kernel) bq_upf cl_X7_120 in_IndexOutOfBoundsException sr_X7_240 xa_X7_124 xb_X7_124 xg_X7_120_124 hl.1 dX7_suspect_4 dX7_suspect_7 dX7_suspect_8 dX7_suspect_10 dX7_suspect_13 (Nat.le_of_ble_eq_true rfl) (Nat.le_of_ble_eq_true rfl) (Nat.le_of_ble_eq_true rfl) (Nat.le_of_ble_eq_true rfl)
abbrev wdX7_readSequence (cI : ClassId) (a_t a_t_reader a_t_reader_signs a_t_rig a_t_rig_circuit a_t_rig_log a_t_rig_positions a_t_rig_score a_t_rig_timers a_t_spare a_t_spare_cuts a_t_spare_groupOfStep a_t_spare_minus a_t_spare_outBefore a_t_spare_pauses a_t_spare_plus u_t_trial u_t_snapshot u_t_rig_strokes u_t_rig_faults u_t_rig_log_times u_t_rig_log_moves m_0 m_1 : Nat) (t t_reader t_reader_signs t_rig t_rig_circuit t_rig_log t_rig_positions t_rig_score t_rig_timers t_spare t_spare_cuts t_spare_groupOfStep t_spare_minus t_spare_outBefore t_spare_pauses t_spare_plus : Nat → Int32) : va_W := [(a_t, oX7 a_t_reader a_t_rig u_t_trial u_t_snapshot m_0 t), (a_t_reader, oX2 a_t_reader_signs t_reader), (a_t_reader_signs, oA cI 80 t_reader_signs), (a_t_rig, oX3 m_1 a_t_rig_circuit a_t_rig_log a_t_rig_score u_t_rig_strokes a_t_rig_positions a_t_rig_timers u_t_rig_faults t_rig), (a_t_rig_circuit, oX0 t_rig_circuit), (a_t_rig_log, oX1 u_t_rig_log_times u_t_rig_log_moves t_rig_log), (a_t_rig_positions, oA cI 6 t_rig_positions), (a_t_rig_score, oX4 t_rig_score), (a_t_rig_timers, oA cI 16 t_rig_timers), (a_t_spare, oX5 a_t_spare_plus a_t_spare_minus a_t_spare_pauses a_t_spare_outBefore a_t_spare_cuts a_t_spare_groupOfStep t_spare), (a_t_spare_cuts, oA cI 16 t_spare_cuts), (a_t_spare_groupOfStep, oA cI 16 t_spare_groupOfStep), (a_t_spare_minus, oA cI 16 t_spare_minus), (a_t_spare_outBefore, oA cI 16 t_spare_outBefore), (a_t_spare_pauses, oA cI 16 t_spare_pauses), (a_t_spare_plus, oA cI 16 t_spare_plus)]
abbrev rmX7_readSequence : Room := { frames := 6, cells := 0, slots := 0, locals := 138 }
theorem hd_X7_readSequence : yX7_readSequence.cls = RX7 ∧ yX7_readSequence.cls ≠ "java/lang/invoke/MethodHandle" ∧ yX7_readSequence.cls ≠ "java/lang/invoke/VarHandle" ∧ (parseMethodDescriptor yX7_readSequence.desc).map (fun d => d.parameters.length) = some 0 := by decide +kernel
set_option maxHeartbeats 4000000 in
set_option maxRecDepth 100000 in
theorem kX7_readSequence (l : Launch) (D : va_G) (cI cJ : ClassId) (a_t a_t_reader a_t_reader_signs a_t_rig a_t_rig_circuit a_t_rig_log a_t_rig_positions a_t_rig_score a_t_rig_timers a_t_spare a_t_spare_cuts a_t_spare_groupOfStep a_t_spare_minus a_t_spare_outBefore a_t_spare_pauses a_t_spare_plus u_t_trial u_t_snapshot u_t_rig_strokes u_t_rig_faults u_t_rig_log_times u_t_rig_log_moves r_t_rig_sequence : Nat) (t t_reader t_reader_signs t_rig t_rig_circuit t_rig_log t_rig_positions t_rig_score t_rig_timers t_spare t_spare_cuts t_spare_groupOfStep t_spare_minus t_spare_outBefore t_spare_pauses t_spare_plus : Nat → Int32) (r : Int32) (t_o : Nat → Int32) (t_reader_o : Nat → Int32) (t_rig_o : Nat → Int32) (t_rig_circuit_o : Nat → Int32) (t_rig_log_o : Nat → Int32) (t_rig_positions_o : Nat → Int32) (t_rig_score_o : Nat → Int32) (t_rig_timers_o : Nat → Int32) (t_spare_o : Nat → Int32) (t_spare_cuts_o : Nat → Int32) (t_spare_groupOfStep_o : Nat → Int32) (t_spare_minus_o : Nat → Int32) (t_spare_outBefore_o : Nat → Int32) (t_spare_pauses_o : Nat → Int32) (t_spare_plus_o : Nat → Int32) (q0_o : Nat) (q1_o : Nat) (hm : mX7_readSequence a_t_spare r_t_rig_sequence t t_reader t_reader_signs t_rig t_rig_circuit t_rig_log t_rig_positions t_rig_score t_rig_timers t_spare t_spare_cuts t_spare_groupOfStep t_spare_minus t_spare_outBefore t_spare_pauses t_spare_plus = some (r, t_o, t_reader_o, t_rig_o, t_rig_circuit_o, t_rig_log_o, t_rig_positions_o, t_rig_score_o, t_rig_timers_o, t_spare_o, t_spare_cuts_o, t_spare_groupOfStep_o, t_spare_minus_o, t_spare_outBefore_o, t_spare_pauses_o, t_spare_plus_o, q0_o, q1_o)) : bq_M l D cI cJ yX7_readSequence cX7_readSequence 2 (some .int) rmX7_readSequence [.ref a_t] (wdX7_readSequence cI a_t a_t_reader a_t_reader_signs a_t_rig a_t_rig_circuit a_t_rig_log a_t_rig_positions a_t_rig_score a_t_rig_timers a_t_spare a_t_spare_cuts a_t_spare_groupOfStep a_t_spare_minus a_t_spare_outBefore a_t_spare_pauses a_t_spare_plus u_t_trial u_t_snapshot u_t_rig_strokes u_t_rig_faults u_t_rig_log_times u_t_rig_log_moves a_t_spare r_t_rig_sequence t t_reader t_reader_signs t_rig t_rig_circuit t_rig_log t_rig_positions t_rig_score t_rig_timers t_spare t_spare_cuts t_spare_groupOfStep t_spare_minus t_spare_outBefore t_spare_pauses t_spare_plus) (wdX7_readSequence cI a_t a_t_reader a_t_reader_signs a_t_rig a_t_rig_circuit a_t_rig_log a_t_rig_positions a_t_rig_score a_t_rig_timers a_t_spare a_t_spare_cuts a_t_spare_groupOfStep a_t_spare_minus a_t_spare_outBefore a_t_spare_pauses a_t_spare_plus u_t_trial u_t_snapshot u_t_rig_strokes u_t_rig_faults u_t_rig_log_times u_t_rig_log_moves q0_o q1_o t_o t_reader_o t_reader_signs t_rig_o t_rig_circuit_o t_rig_log_o t_rig_positions_o t_rig_score_o t_rig_timers_o t_spare_o t_spare_cuts_o t_spare_groupOfStep_o t_spare_minus_o t_spare_outBefore_o t_spare_pauses_o t_spare_plus_o) (some (.int r)) := by
  refine bq_start (by decide) (Nat.le_of_ble_eq_true rfl) ?_
  intro p e s m av9 below meth c A ls Q H locs E K w hA hr hk hn hQ hl
  have E : bq_E p m c cX7_readSequence 2 s av9 RX7 := E
  have hx := E.1
  have hb := E.2.1
  have hl : lv_has ls 2 [(0, .ref a_t)] := hl
  unfold mX7_readSequence at hm
  refine lv_aload_n hx hb dX7_readSequence_0 rfl (lv_at hl 0 rfl) ?_
  refine gt_X7_13 E K w 0 rfl rfl dX7_readSequence_1 ?_
  refine lv_aload_n hx hb dX7_readSequence_4 rfl (lv_at hl 0 rfl) ?_
  refine gt_X7_38 E K w 0 rfl rfl dX7_readSequence_5 ?_
  obtain ⟨t_reader_1, t_spare_2, t_spare_minus_3, t_spare_outBefore_4, t_spare_pauses_5, t_spare_plus_6, hC, hm⟩ := bq_b6_el hm
  refine bq_V (As := [.ref a_t_spare]) (rest := []) (st1 := []) (ws' := wdX7_readSequence cI a_t a_t_reader a_t_reader_signs a_t_rig a_t_rig_circuit a_t_rig_log a_t_rig_positions a_t_rig_score a_t_rig_timers a_t_spare a_t_spare_cuts a_t_spare_groupOfStep a_t_spare_minus a_t_spare_outBefore a_t_spare_pauses a_t_spare_plus u_t_trial u_t_snapshot u_t_rig_strokes u_t_rig_faults u_t_rig_log_times u_t_rig_log_moves a_t_spare r_t_rig_sequence t t_reader_1 t_reader_signs t_rig t_rig_circuit t_rig_log t_rig_positions t_rig_score t_rig_timers t_spare_2 t_spare_cuts t_spare_groupOfStep t_spare_minus_3 t_spare_outBefore_4 t_spare_pauses_5 t_spare_plus_6) E K w hA (kX2_readInto l D cI cJ a_t_reader a_t_reader_signs a_t_spare a_t_spare_minus a_t_spare_outBefore a_t_spare_pauses a_t_spare_plus a_t_spare_cuts a_t_spare_groupOfStep t_reader t_reader_signs t_spare t_spare_minus t_spare_outBefore t_spare_pauses t_spare_plus t_reader_1 t_spare_2 t_spare_minus_3 t_spare_outBefore_4 t_spare_pauses_5 t_spare_plus_6 hC) (bq_gV ml_X7_65 im_X2_readInto sl_X2_readInto in_X2 cd_X2_readInto) hd_X2_readInto ⟨Nat.le_of_ble_eq_true rfl, Nat.le_of_ble_eq_true rfl⟩ ⟨Nat.le_of_ble_eq_true rfl, Nat.le_of_ble_eq_true rfl⟩ ⟨[1, 2, 9, 12, 13, 14, 15], [0, 3, 4, 5, 6, 7, 8, 10, 11], [0, 9, 10, 1, 2, 3, 4, 5, 6, 11, 7, 8, 12, 13, 14, 15], rfl, rfl, rfl, rfl, rfl, rfl, rfl, rfl, rfl⟩ 1 rfl rfl rfl hl.1 rfl (Nat.le_of_ble_eq_true rfl) rfl dX7_readSequence_8 (fun H locs w => bq_z ⟨rfl, rfl⟩ ?_)
  clear hC
  refine lv_aload_n hx hb dX7_readSequence_11 rfl (lv_at hl 0 rfl) ?_
  refine lv_aload_n hx hb dX7_readSequence_12 rfl (lv_at hl 0 rfl) ?_
  refine gt_X7_13 E K w 0 rfl rfl dX7_readSequence_13 ?_
  refine gt_X7_68 E K w 1 rfl rfl dX7_readSequence_16 ?_
  obtain ⟨t_7, e9, hm⟩ := bq_let_el hm
  refine pt_X7_42 E K w 0 rfl (Nat.le_of_ble_eq_true rfl) dX7_readSequence_19 (fun H locs w => ?_)
  replace w : bq_w D A s.heap (wdX7_readSequence cI a_t a_t_reader a_t_reader_signs a_t_rig a_t_rig_circuit a_t_rig_log a_t_rig_positions a_t_rig_score a_t_rig_timers a_t_spare a_t_spare_cuts a_t_spare_groupOfStep a_t_spare_minus a_t_spare_outBefore a_t_spare_pauses a_t_spare_plus u_t_trial u_t_snapshot u_t_rig_strokes u_t_rig_faults u_t_rig_log_times u_t_rig_log_moves a_t_spare r_t_rig_sequence t_7 t_reader_1 t_reader_signs t_rig t_rig_circuit t_rig_log t_rig_positions t_rig_score t_rig_timers t_spare_2 t_spare_cuts t_spare_groupOfStep t_spare_minus_3 t_spare_outBefore_4 t_spare_pauses_5 t_spare_plus_6) H locs := by rw [e9]; exact w
  clear e9
  refine lv_aload_n hx hb dX7_readSequence_22 rfl (lv_at hl 0 rfl) ?_
  refine gt_X7_13 E K w 0 rfl rfl dX7_readSequence_23 ?_
  refine gt_X7_68 E K w 1 rfl rfl dX7_readSequence_26 ?_
  refine lv_if_eq (tgt := 42) hx hb dX7_readSequence_29 (by decide) (fun hc => ?_) (fun hc => ?_)
  · replace hm := bq_t hc hm
    clear hc
    refine lv_aload_n hx hb dX7_readSequence_42 rfl (lv_at hl 0 rfl) ?_
    refine gt_X7_13 E K w 0 rfl rfl dX7_readSequence_43 ?_
    refine lv_iconst (v := 0) hx hb dX7_readSequence_46 (by decide) ?_
    obtain ⟨t_reader_8, e9, hm⟩ := bq_let_el hm
    refine pt_X7_53 E K w 1 rfl (Nat.le_of_ble_eq_true rfl) dX7_readSequence_47 (fun H locs w => ?_)
    replace w : bq_w D A s.heap (wdX7_readSequence cI a_t a_t_reader a_t_reader_signs a_t_rig a_t_rig_circuit a_t_rig_log a_t_rig_positions a_t_rig_score a_t_rig_timers a_t_spare a_t_spare_cuts a_t_spare_groupOfStep a_t_spare_minus a_t_spare_outBefore a_t_spare_pauses a_t_spare_plus u_t_trial u_t_snapshot u_t_rig_strokes u_t_rig_faults u_t_rig_log_times u_t_rig_log_moves a_t_spare r_t_rig_sequence t_7 t_reader_8 t_reader_signs t_rig t_rig_circuit t_rig_log t_rig_positions t_rig_score t_rig_timers t_spare_2 t_spare_cuts t_spare_groupOfStep t_spare_minus_3 t_spare_outBefore_4 t_spare_pauses_5 t_spare_plus_6) H locs := by rw [e9]; exact w
    clear e9
    refine lv_aload_n hx hb dX7_readSequence_50 rfl (lv_at hl 0 rfl) ?_
    refine gt_X7_38 E K w 0 rfl rfl dX7_readSequence_51 ?_
    obtain ⟨t_spare_9, t_spare_cuts_10, t_spare_groupOfStep_11, hC, hm⟩ := bq_b3_el hm
    refine bq_V (As := []) (rest := []) (st1 := []) (ws' := wdX7_readSequence cI a_t a_t_reader a_t_reader_signs a_t_rig a_t_rig_circuit a_t_rig_log a_t_rig_positions a_t_rig_score a_t_rig_timers a_t_spare a_t_spare_cuts a_t_spare_groupOfStep a_t_spare_minus a_t_spare_outBefore a_t_spare_pauses a_t_spare_plus u_t_trial u_t_snapshot u_t_rig_strokes u_t_rig_faults u_t_rig_log_times u_t_rig_log_moves a_t_spare r_t_rig_sequence t_7 t_reader_8 t_reader_signs t_rig t_rig_circuit t_rig_log t_rig_positions t_rig_score t_rig_timers t_spare_9 t_spare_cuts_10 t_spare_groupOfStep_11 t_spare_minus_3 t_spare_outBefore_4 t_spare_pauses_5 t_spare_plus_6) E K w hA (kX5_divide l D cI cJ a_t_spare a_t_spare_cuts a_t_spare_groupOfStep a_t_spare_minus a_t_spare_plus a_t_spare_pauses a_t_spare_outBefore t_spare_2 t_spare_cuts t_spare_groupOfStep t_spare_minus_3 t_spare_plus_6 t_spare_9 t_spare_cuts_10 t_spare_groupOfStep_11 hC) (bq_gV ml_X7_74 im_X5_divide sl_X5_divide in_X5 cd_X5_divide) hd_X5_divide ⟨Nat.le_of_ble_eq_true rfl, Nat.le_of_ble_eq_true rfl⟩ ⟨Nat.le_of_ble_eq_true rfl, Nat.le_of_ble_eq_true rfl⟩ ⟨[9, 10, 11, 12, 15], [0, 1, 2, 3, 4, 5, 6, 7, 8, 13, 14], [0, 1, 2, 3, 4, 5, 6, 7, 8, 11, 12, 13, 14, 9, 10, 15], rfl, rfl, rfl, rfl, rfl, rfl, rfl, rfl, rfl⟩ 9 rfl rfl rfl hl.1 rfl (Nat.le_of_ble_eq_true rfl) rfl dX7_readSequence_54 (fun H locs w => bq_z ⟨rfl, rfl⟩ ?_)
    clear hC
    refine lv_aload_n hx hb dX7_readSequence_57 rfl (lv_at hl 0 rfl) ?_
    refine gt_X7_24 E K w 0 rfl rfl dX7_readSequence_58 ?_
    refine gt_X7_77 E K w 3 rfl rfl dX7_readSequence_61 ?_
    refine lv_astore_n (lv' := [(1, .ref r_t_rig_sequence), (0, .ref a_t)]) hx hb dX7_readSequence_64 rfl hl (by decide) rfl (fun ls hl => ?_)
    refine lv_aload_n hx hb dX7_readSequence_65 rfl (lv_at hl 1 rfl) ?_
    refine gt_X7_24 E K w 0 rfl rfl dX7_readSequence_66 ?_
    refine lv_aload_n hx hb dX7_readSequence_69 rfl (lv_at hl 1 rfl) ?_
    refine gt_X7_38 E K w 0 rfl rfl dX7_readSequence_70 ?_
    refine pt_X7_77 E K w 3 rfl (Nat.le_of_ble_eq_true rfl) dX7_readSequence_73 (fun H locs w => ?_)
    replace w : bq_w D A s.heap (wdX7_readSequence cI a_t a_t_reader a_t_reader_signs a_t_rig a_t_rig_circuit a_t_rig_log a_t_rig_positions a_t_rig_score a_t_rig_timers a_t_spare a_t_spare_cuts a_t_spare_groupOfStep a_t_spare_minus a_t_spare_outBefore a_t_spare_pauses a_t_spare_plus u_t_trial u_t_snapshot u_t_rig_strokes u_t_rig_faults u_t_rig_log_times u_t_rig_log_moves a_t_spare a_t_spare t_7 t_reader_8 t_reader_signs t_rig t_rig_circuit t_rig_log t_rig_positions t_rig_score t_rig_timers t_spare_9 t_spare_cuts_10 t_spare_groupOfStep_11 t_spare_minus_3 t_spare_outBefore_4 t_spare_pauses_5 t_spare_plus_6) H locs := w
    refine lv_aload_n hx hb dX7_readSequence_76 rfl (lv_at hl 1 rfl) ?_
    refine lv_aload_n hx hb dX7_readSequence_77 rfl (lv_at hl 0 rfl) ?_
    refine pt_X7_38 E K w 0 rfl (Nat.le_of_ble_eq_true rfl) dX7_readSequence_78 (fun H locs w => ?_)
    replace w : bq_w D A s.heap (wdX7_readSequence cI a_t a_t_reader a_t_reader_signs a_t_rig a_t_rig_circuit a_t_rig_log a_t_rig_positions a_t_rig_score a_t_rig_timers a_t_spare a_t_spare_cuts a_t_spare_groupOfStep a_t_spare_minus a_t_spare_outBefore a_t_spare_pauses a_t_spare_plus u_t_trial u_t_snapshot u_t_rig_strokes u_t_rig_faults u_t_rig_log_times u_t_rig_log_moves r_t_rig_sequence a_t_spare t_7 t_reader_8 t_reader_signs t_rig t_rig_circuit t_rig_log t_rig_positions t_rig_score t_rig_timers t_spare_9 t_spare_cuts_10 t_spare_groupOfStep_11 t_spare_minus_3 t_spare_outBefore_4 t_spare_pauses_5 t_spare_plus_6) H locs := w
    refine lv_aload_n hx hb dX7_readSequence_81 rfl (lv_at hl 1 rfl) ?_
    refine gt_X7_24 E K w 0 rfl rfl dX7_readSequence_82 ?_
    obtain ⟨t_rig_12, t_rig_circuit_13, t_rig_log_14, t_rig_positions_15, t_rig_score_16, t_rig_timers_17, hC, hm⟩ := bq_b6_el hm
    refine bq_V (As := []) (rest := []) (st1 := []) (ws' := wdX7_readSequence cI a_t a_t_reader a_t_reader_signs a_t_rig a_t_rig_circuit a_t_rig_log a_t_rig_positions a_t_rig_score a_t_rig_timers a_t_spare a_t_spare_cuts a_t_spare_groupOfStep a_t_spare_minus a_t_spare_outBefore a_t_spare_pauses a_t_spare_plus u_t_trial u_t_snapshot u_t_rig_strokes u_t_rig_faults u_t_rig_log_times u_t_rig_log_moves r_t_rig_sequence a_t_spare t_7 t_reader_8 t_reader_signs t_rig_12 t_rig_circuit_13 t_rig_log_14 t_rig_positions_15 t_rig_score_16 t_rig_timers_17 t_spare_9 t_spare_cuts_10 t_spare_groupOfStep_11 t_spare_minus_3 t_spare_outBefore_4 t_spare_pauses_5 t_spare_plus_6) E K w hA (kX3_bringToRest l D cI cJ a_t_rig a_t_rig_circuit a_t_rig_log a_t_rig_positions a_t_rig_score a_t_spare a_t_spare_minus a_t_spare_plus a_t_rig_timers u_t_rig_strokes u_t_rig_faults u_t_rig_log_times u_t_rig_log_moves a_t_spare_pauses a_t_spare_outBefore a_t_spare_cuts a_t_spare_groupOfStep t_rig t_rig_circuit t_rig_log t_rig_positions t_rig_score t_spare_9 t_spare_minus_3 t_spare_plus_6 t_rig_timers t_rig_12 t_rig_circuit_13 t_rig_log_14 t_rig_positions_15 t_rig_score_16 t_rig_timers_17 hC) (bq_gV ml_X7_80 im_X3_bringToRest sl_X3_bringToRest in_X3 cd_X3_bringToRest) hd_X3_bringToRest ⟨Nat.le_of_ble_eq_true rfl, Nat.le_of_ble_eq_true rfl⟩ ⟨Nat.le_of_ble_eq_true rfl, Nat.le_of_ble_eq_true rfl⟩ ⟨[3, 4, 5, 6, 7, 9, 12, 15, 8], [0, 1, 2, 10, 11, 13, 14], [0, 1, 2, 7, 8, 9, 10, 11, 15, 12, 3, 4, 13, 5, 6, 14], rfl, rfl, rfl, rfl, rfl, rfl, rfl, rfl, rfl⟩ 3 rfl rfl rfl hl.1 rfl (Nat.le_of_ble_eq_true rfl) rfl dX7_readSequence_85 (fun H locs w => bq_z ⟨rfl, rfl⟩ ?_)
    clear hC
    refine lv_aload_n hx hb dX7_readSequence_88 rfl (lv_at hl 1 rfl) ?_
    refine gt_X7_24 E K w 0 rfl rfl dX7_readSequence_89 ?_
    refine gt_X7_77 E K w 3 rfl rfl dX7_readSequence_92 ?_
    refine gt_X7_83 E K w 9 rfl rfl dX7_readSequence_95 ?_
    obtain ⟨rfl, rfl, rfl, rfl, rfl, rfl, rfl, rfl, rfl, rfl, rfl, rfl, rfl, rfl, rfl, rfl, rfl, rfl⟩ := bq_in18 (Option.some.inj hm)
    exact bq_iret E w hr hk dX7_readSequence_98 hQ
  · replace hm := bq_f hc hm
    clear hc
    refine lv_iconst (v := (-1)) hx hb dX7_readSequence_32 (by decide) ?_
    refine lv_aload_n hx hb dX7_readSequence_33 rfl (lv_at hl 0 rfl) ?_
    refine gt_X7_13 E K w 0 rfl rfl dX7_readSequence_34 ?_
    refine gt_X7_71 E K w 1 rfl rfl dX7_readSequence_37 ?_
    refine lv_isub hx hb dX7_readSequence_40 ?_
    obtain ⟨rfl, rfl, rfl, rfl, rfl, rfl, rfl, rfl, rfl, rfl, rfl, rfl, rfl, rfl, rfl, rfl, rfl, rfl⟩ := bq_in18 (Option.some.inj hm)
    exact bq_iret E w hr hk dX7_readSequence_41 hQ
