abbrev wdX3_makeTick (cI : ClassId) (a_t a_t_circuit a_t_faults a_t_log a_t_log_moves a_t_log_times a_t_positions a_t_score a_t_sequence a_t_sequence_cuts a_t_sequence_groupOfStep a_t_sequence_minus a_t_sequence_pauses a_t_sequence_plus a_t_strokes a_t_timers u_t_sequence_outBefore : Nat) (t : Nat → Int32) (t_circuit : Nat → Int32) (t_faults : Nat → Int32) (t_log : Nat → Int32) (t_log_moves : Nat → Int32) (t_log_times : Nat → Int32) (t_positions : Nat → Int32) (t_score : Nat → Int32) (t_sequence : Nat → Int32) (t_sequence_cuts : Nat → Int32) (t_sequence_groupOfStep : Nat → Int32) (t_sequence_minus : Nat → Int32) (t_sequence_pauses : Nat → Int32) (t_sequence_plus : Nat → Int32) (t_strokes : Nat → Int32) (t_timers : Nat → Int32) : va_W := [(a_t, oX3 a_t_sequence a_t_circuit a_t_log a_t_score a_t_strokes a_t_positions a_t_timers a_t_faults t), (a_t_circuit, oX0 t_circuit), (a_t_faults, oA cI 5 t_faults), (a_t_log, oX1 a_t_log_times a_t_log_moves t_log), (a_t_log_moves, oA cI 40 t_log_moves), (a_t_log_times, oA cI 40 t_log_times), (a_t_positions, oA cI 6 t_positions), (a_t_score, oX4 t_score), (a_t_sequence, oX5 a_t_sequence_plus a_t_sequence_minus a_t_sequence_pauses u_t_sequence_outBefore a_t_sequence_cuts a_t_sequence_groupOfStep t_sequence), (a_t_sequence_cuts, oA cI 16 t_sequence_cuts), (a_t_sequence_groupOfStep, oA cI 16 t_sequence_groupOfStep), (a_t_sequence_minus, oA cI 16 t_sequence_minus), (a_t_sequence_pauses, oA cI 16 t_sequence_pauses), (a_t_sequence_plus, oA cI 16 t_sequence_plus), (a_t_strokes, oA cI 6 t_strokes), (a_t_timers, oA cI 16 t_timers)]
abbrev rmX3_makeTick : Room := { frames := 3, cells := 0, slots := 0, locals := 72 }
theorem hd_X3_makeTick : yX3_makeTick.cls = RX3 ∧ yX3_makeTick.cls ≠ "java/lang/invoke/MethodHandle" ∧ yX3_makeTick.cls ≠ "java/lang/invoke/VarHandle" ∧ (parseMethodDescriptor yX3_makeTick.desc).map (fun d => d.parameters.length) = some 0 := by decide +kernel
set_option maxHeartbeats 4000000 in
set_option maxRecDepth 100000 in
theorem kX3_makeTick (l : Launch) (D : va_G) (cI cJ : ClassId) (a_t a_t_circuit a_t_faults a_t_log a_t_log_moves a_t_log_times a_t_positions a_t_score a_t_sequence a_t_sequence_cuts a_t_sequence_groupOfStep a_t_sequence_minus a_t_sequence_pauses a_t_sequence_plus a_t_strokes a_t_timers u_t_sequence_outBefore : Nat) (t t_circuit t_faults t_log t_log_moves t_log_times t_positions t_score t_sequence t_sequence_cuts t_sequence_groupOfStep t_sequence_minus t_sequence_pauses t_sequence_plus t_strokes t_timers : Nat → Int32) (t_o : Nat → Int32) (t_circuit_o : Nat → Int32) (t_log_o : Nat → Int32) (t_log_moves_o : Nat → Int32) (t_log_times_o : Nat → Int32) (t_positions_o : Nat → Int32) (t_score_o : Nat → Int32) (t_timers_o : Nat → Int32) (hm : mX3_makeTick t t_circuit t_faults t_log t_log_moves t_log_times t_positions t_score t_sequence t_sequence_cuts t_sequence_groupOfStep t_sequence_minus t_sequence_pauses t_sequence_plus t_strokes t_timers = some (t_o, t_circuit_o, t_log_o, t_log_moves_o, t_log_times_o, t_positions_o, t_score_o, t_timers_o)) : bq_M l D cI cJ yX3_makeTick cX3_makeTick 4 none rmX3_makeTick [.ref a_t] (wdX3_makeTick cI a_t a_t_circuit a_t_faults a_t_log a_t_log_moves a_t_log_times a_t_positions a_t_score a_t_sequence a_t_sequence_cuts a_t_sequence_groupOfStep a_t_sequence_minus a_t_sequence_pauses a_t_sequence_plus a_t_strokes a_t_timers u_t_sequence_outBefore t t_circuit t_faults t_log t_log_moves t_log_times t_positions t_score t_sequence t_sequence_cuts t_sequence_groupOfStep t_sequence_minus t_sequence_pauses t_sequence_plus t_strokes t_timers) (wdX3_makeTick cI a_t a_t_circuit a_t_faults a_t_log a_t_log_moves a_t_log_times a_t_positions a_t_score a_t_sequence a_t_sequence_cuts a_t_sequence_groupOfStep a_t_sequence_minus a_t_sequence_pauses a_t_sequence_plus a_t_strokes a_t_timers u_t_sequence_outBefore t_o t_circuit_o t_faults t_log_o t_log_moves_o t_log_times_o t_positions_o t_score_o t_sequence t_sequence_cuts t_sequence_groupOfStep t_sequence_minus t_sequence_pauses t_sequence_plus t_strokes t_timers_o) none := by
  refine bq_start (by decide) (Nat.le_of_ble_eq_true rfl) ?_
  intro p e s m av9 below meth c A ls Q H locs E K w hA hr hk hn hQ hl
  have E : bq_E p m c cX3_makeTick 4 s av9 RX3 := E
  have hx := E.1
  have hb := E.2.1
  have hl : lv_has ls 4 [(0, .ref a_t)] := hl
  unfold mX3_makeTick at hm
  refine lv_aload_n hx hb dX3_makeTick_0 rfl (lv_at hl 0 rfl) ?_
  refine gt_X3_12 E K w 0 rfl rfl dX3_makeTick_1 ?_
  refine lv_aload_n hx hb dX3_makeTick_4 rfl (lv_at hl 0 rfl) ?_
  refine gt_X3_49 E K w 0 rfl rfl dX3_makeTick_5 ?_
  refine lv_aload_n hx hb dX3_makeTick_8 rfl (lv_at hl 0 rfl) ?_
  obtain ⟨v1, hC, hm⟩ := bq_bd_el hm
  refine bq_V (As := []) (rest := [.ref a_t_sequence, .ref a_t_circuit]) (st1 := [.int v1, .ref a_t_sequence, .ref a_t_circuit]) (ws' := wdX3_makeTick cI a_t a_t_circuit a_t_faults a_t_log a_t_log_moves a_t_log_times a_t_positions a_t_score a_t_sequence a_t_sequence_cuts a_t_sequence_groupOfStep a_t_sequence_minus a_t_sequence_pauses a_t_sequence_plus a_t_strokes a_t_timers u_t_sequence_outBefore t t_circuit t_faults t_log t_log_moves t_log_times t_positions t_score t_sequence t_sequence_cuts t_sequence_groupOfStep t_sequence_minus t_sequence_pauses t_sequence_plus t_strokes t_timers) E K w hA (kX3_completeSteps l D cI cJ a_t a_t_faults a_t_positions a_t_sequence a_t_sequence_minus a_t_sequence_pauses a_t_sequence_plus a_t_strokes a_t_timers a_t_circuit a_t_log a_t_score u_t_sequence_outBefore a_t_sequence_cuts a_t_sequence_groupOfStep t t_faults t_positions t_sequence t_sequence_minus t_sequence_pauses t_sequence_plus t_strokes t_timers v1 hC) (bq_gV ml_X3_94 im_X3_completeSteps sl_X3_completeSteps in_X3 cd_X3_completeSteps) hd_X3_completeSteps ⟨Nat.le_of_ble_eq_true rfl, Nat.le_of_ble_eq_true rfl⟩ ⟨Nat.le_of_ble_eq_true rfl, Nat.le_of_ble_eq_true rfl⟩ ⟨[0, 2, 6, 8, 11, 12, 13, 14, 15], [1, 3, 4, 5, 7, 9, 10], [7, 0, 8, 1, 2, 3, 9, 4, 10, 5, 6, 11, 12, 13, 14, 15], rfl, rfl, rfl, rfl, rfl, rfl, rfl, rfl, rfl⟩ 0 rfl rfl rfl hl.1 rfl (Nat.le_of_ble_eq_true rfl) rfl dX3_makeTick_9 (fun H locs w => bq_z ⟨rfl, rfl⟩ ?_)
  clear hC
  refine lv_aload_n hx hb dX3_makeTick_12 rfl (lv_at hl 0 rfl) ?_
  refine gt_X3_45 E K w 0 rfl rfl dX3_makeTick_13 ?_
  obtain ⟨t_circuit_2, hC, hm⟩ := bq_bd_el hm
  refine bq_V (As := [.ref a_t_sequence, .int v1, .int (t 8)]) (rest := []) (st1 := []) (ws' := wdX3_makeTick cI a_t a_t_circuit a_t_faults a_t_log a_t_log_moves a_t_log_times a_t_positions a_t_score a_t_sequence a_t_sequence_cuts a_t_sequence_groupOfStep a_t_sequence_minus a_t_sequence_pauses a_t_sequence_plus a_t_strokes a_t_timers u_t_sequence_outBefore t t_circuit_2 t_faults t_log t_log_moves t_log_times t_positions t_score t_sequence t_sequence_cuts t_sequence_groupOfStep t_sequence_minus t_sequence_pauses t_sequence_plus t_strokes t_timers) E K w hA (kX0_decide l D cI cJ a_t_circuit a_t_sequence a_t_sequence_cuts a_t_sequence_groupOfStep a_t_sequence_minus a_t_sequence_pauses a_t_sequence_plus u_t_sequence_outBefore t_circuit t_sequence t_sequence_cuts t_sequence_groupOfStep t_sequence_minus t_sequence_pauses t_sequence_plus v1 (t 8) t_circuit_2 hC) (bq_gV ml_X3_98 im_X0_decide sl_X0_decide in_X0 cd_X0_decide) hd_X0_decide ⟨Nat.le_of_ble_eq_true rfl, Nat.le_of_ble_eq_true rfl⟩ ⟨Nat.le_of_ble_eq_true rfl, Nat.le_of_ble_eq_true rfl⟩ ⟨[1, 8, 9, 10, 11, 12, 13], [0, 2, 3, 4, 5, 6, 7, 14, 15], [0, 9, 1, 2, 3, 4, 5, 6, 10, 11, 12, 13, 14, 15, 7, 8], rfl, rfl, rfl, rfl, rfl, rfl, rfl, rfl, rfl⟩ 1 rfl rfl rfl hl.1 rfl (Nat.le_of_ble_eq_true rfl) rfl dX3_makeTick_16 (fun H locs w => bq_z ⟨rfl, rfl⟩ ?_)
  clear hC
  refine lv_aload_n hx hb dX3_makeTick_19 rfl (lv_at hl 0 rfl) ?_
  obtain ⟨v3, t_4, t_log_5, t_log_moves_6, t_log_times_7, t_score_8, hC, hm⟩ := bq_b6_el hm
  refine bq_V (As := []) (rest := []) (st1 := [.int v3]) (ws' := wdX3_makeTick cI a_t a_t_circuit a_t_faults a_t_log a_t_log_moves a_t_log_times a_t_positions a_t_score a_t_sequence a_t_sequence_cuts a_t_sequence_groupOfStep a_t_sequence_minus a_t_sequence_pauses a_t_sequence_plus a_t_strokes a_t_timers u_t_sequence_outBefore t_4 t_circuit_2 t_faults t_log_5 t_log_moves_6 t_log_times_7 t_positions t_score_8 t_sequence t_sequence_cuts t_sequence_groupOfStep t_sequence_minus t_sequence_pauses t_sequence_plus t_strokes t_timers) E K w hA (kX3_shiftValves l D cI cJ a_t a_t_circuit a_t_log a_t_log_moves a_t_log_times a_t_score a_t_sequence a_t_sequence_minus a_t_sequence_plus a_t_strokes a_t_positions a_t_timers a_t_faults a_t_sequence_pauses u_t_sequence_outBefore a_t_sequence_cuts a_t_sequence_groupOfStep t t_circuit_2 t_log t_log_moves t_log_times t_score t_sequence t_sequence_minus t_sequence_plus v3 t_4 t_log_5 t_log_moves_6 t_log_times_7 t_score_8 hC) (bq_gV ml_X3_102 im_X3_shiftValves sl_X3_shiftValves in_X3 cd_X3_shiftValves) hd_X3_shiftValves ⟨Nat.le_of_ble_eq_true rfl, Nat.le_of_ble_eq_true rfl⟩ ⟨Nat.le_of_ble_eq_true rfl, Nat.le_of_ble_eq_true rfl⟩ ⟨[0, 1, 3, 4, 5, 7, 8, 11, 13], [2, 6, 9, 10, 12, 14, 15], [7, 8, 0, 9, 10, 11, 1, 12, 13, 2, 3, 14, 4, 15, 5, 6], rfl, rfl, rfl, rfl, rfl, rfl, rfl, rfl, rfl⟩ 0 rfl rfl rfl hl.1 rfl (Nat.le_of_ble_eq_true rfl) rfl dX3_makeTick_20 (fun H locs w => bq_z ⟨rfl, rfl⟩ ?_)
  clear hC
  refine lv_istore_n (lv' := [(1, .int v3), (0, .ref a_t)]) hx hb dX3_makeTick_23 rfl hl (by decide) rfl (fun ls hl => ?_)
  refine lv_aload_n hx hb dX3_makeTick_24 rfl (lv_at hl 1 rfl) ?_
  obtain ⟨v9, t_positions_10, hC, hm⟩ := bq_b2_el hm
  refine bq_V (As := []) (rest := []) (st1 := [.int v9]) (ws' := wdX3_makeTick cI a_t a_t_circuit a_t_faults a_t_log a_t_log_moves a_t_log_times a_t_positions a_t_score a_t_sequence a_t_sequence_cuts a_t_sequence_groupOfStep a_t_sequence_minus a_t_sequence_pauses a_t_sequence_plus a_t_strokes a_t_timers u_t_sequence_outBefore t_4 t_circuit_2 t_faults t_log_5 t_log_moves_6 t_log_times_7 t_positions_10 t_score_8 t_sequence t_sequence_cuts t_sequence_groupOfStep t_sequence_minus t_sequence_pauses t_sequence_plus t_strokes t_timers) E K w hA (kX3_movePistons l D cI cJ a_t a_t_faults a_t_positions a_t_strokes a_t_sequence a_t_circuit a_t_log a_t_score a_t_timers t_4 t_faults t_positions t_strokes v9 t_positions_10 hC) (bq_gV ml_X3_106 im_X3_movePistons sl_X3_movePistons in_X3 cd_X3_movePistons) hd_X3_movePistons ⟨Nat.le_of_ble_eq_true rfl, Nat.le_of_ble_eq_true rfl⟩ ⟨Nat.le_of_ble_eq_true rfl, Nat.le_of_ble_eq_true rfl⟩ ⟨[0, 2, 6, 14], [1, 3, 4, 5, 7, 8, 9, 10, 11, 12, 13, 15], [12, 0, 13, 1, 2, 3, 14, 4, 5, 6, 7, 8, 9, 10, 15, 11], rfl, rfl, rfl, rfl, rfl, rfl, rfl, rfl, rfl⟩ 0 rfl rfl rfl hl.1 rfl (Nat.le_of_ble_eq_true rfl) rfl dX3_makeTick_25 (fun H locs w => bq_z ⟨rfl, rfl⟩ ?_)
  clear hC
  refine lv_istore_n (lv' := [(2, .int v9), (1, .int v3), (0, .ref a_t)]) hx hb dX3_makeTick_28 rfl hl (by decide) rfl (fun ls hl => ?_)
  refine lv_aload_n hx hb dX3_makeTick_29 rfl (lv_at hl 2 rfl) ?_
  obtain ⟨v11, t_timers_12, hC, hm⟩ := bq_b2_el hm
  refine bq_V (As := []) (rest := []) (st1 := [.int v11]) (ws' := wdX3_makeTick cI a_t a_t_circuit a_t_faults a_t_log a_t_log_moves a_t_log_times a_t_positions a_t_score a_t_sequence a_t_sequence_cuts a_t_sequence_groupOfStep a_t_sequence_minus a_t_sequence_pauses a_t_sequence_plus a_t_strokes a_t_timers u_t_sequence_outBefore t_4 t_circuit_2 t_faults t_log_5 t_log_moves_6 t_log_times_7 t_positions_10 t_score_8 t_sequence t_sequence_cuts t_sequence_groupOfStep t_sequence_minus t_sequence_pauses t_sequence_plus t_strokes t_timers_12) E K w hA (kX3_advanceTimers l D cI cJ a_t a_t_circuit a_t_sequence a_t_timers a_t_log a_t_score a_t_strokes a_t_positions a_t_faults a_t_sequence_plus a_t_sequence_minus a_t_sequence_pauses u_t_sequence_outBefore a_t_sequence_cuts a_t_sequence_groupOfStep t_4 t_circuit_2 t_sequence t_timers v11 t_timers_12 hC) (bq_gV ml_X3_109 im_X3_advanceTimers sl_X3_advanceTimers in_X3 cd_X3_advanceTimers) hd_X3_advanceTimers ⟨Nat.le_of_ble_eq_true rfl, Nat.le_of_ble_eq_true rfl⟩ ⟨Nat.le_of_ble_eq_true rfl, Nat.le_of_ble_eq_true rfl⟩ ⟨[0, 1, 8, 15], [2, 3, 4, 5, 6, 7, 9, 10, 11, 12, 13, 14], [12, 13, 0, 1, 2, 3, 4, 5, 14, 6, 7, 8, 9, 10, 11, 15], rfl, rfl, rfl, rfl, rfl, rfl, rfl, rfl, rfl⟩ 0 rfl rfl rfl hl.1 rfl (Nat.le_of_ble_eq_true rfl) rfl dX3_makeTick_30 (fun H locs w => bq_z ⟨rfl, rfl⟩ ?_)
  clear hC
  refine lv_istore_n (lv' := [(3, .int v11), (2, .int v9), (1, .int v3), (0, .ref a_t)]) hx hb dX3_makeTick_33 rfl hl (by decide) rfl (fun ls hl => ?_)
  refine lv_aload_n hx hb dX3_makeTick_34 rfl (lv_at hl 3 rfl) ?_
  refine lv_dup hx hb dX3_makeTick_35 rfl ?_
  refine gt_X3_63 E K w 0 rfl rfl dX3_makeTick_36 ?_
  refine lv_iconst (v := 1) hx hb dX3_makeTick_39 (by decide) ?_
  refine lv_iadd hx hb dX3_makeTick_40 ?_
  obtain ⟨t_13, e9, hm⟩ := bq_let_el hm
  refine pt_X3_63 E K w 0 rfl (Nat.le_of_ble_eq_true rfl) dX3_makeTick_41 (fun H locs w => ?_)
  replace w : bq_w D A s.heap (wdX3_makeTick cI a_t a_t_circuit a_t_faults a_t_log a_t_log_moves a_t_log_times a_t_positions a_t_score a_t_sequence a_t_sequence_cuts a_t_sequence_groupOfStep a_t_sequence_minus a_t_sequence_pauses a_t_sequence_plus a_t_strokes a_t_timers u_t_sequence_outBefore t_13 t_circuit_2 t_faults t_log_5 t_log_moves_6 t_log_times_7 t_positions_10 t_score_8 t_sequence t_sequence_cuts t_sequence_groupOfStep t_sequence_minus t_sequence_pauses t_sequence_plus t_strokes t_timers_12) H locs := by rw [e9]; exact w
  clear e9
  refine lv_iload_n hx hb dX3_makeTick_44 rfl (lv_at hl 2 rfl) ?_
  obtain ⟨t_14, hT60, hm⟩ := bq_bd_el hm
  have K60 : ∀ (H : Heap) (locs : List Loc) (ls : Array Slot), bq_w D A s.heap (wdX3_makeTick cI a_t a_t_circuit a_t_faults a_t_log a_t_log_moves a_t_log_times a_t_positions a_t_score a_t_sequence a_t_sequence_cuts a_t_sequence_groupOfStep a_t_sequence_minus a_t_sequence_pauses a_t_sequence_plus a_t_strokes a_t_timers u_t_sequence_outBefore t_14 t_circuit_2 t_faults t_log_5 t_log_moves_6 t_log_times_7 t_positions_10 t_score_8 t_sequence t_sequence_cuts t_sequence_groupOfStep t_sequence_minus t_sequence_pauses t_sequence_plus t_strokes t_timers_12) H locs → lv_has ls 4 [(0, .ref a_t), (1, .int v3), (2, .int v9), (3, .int v11)] → W p l e rmX3_makeTick s m av9 below meth c H locs 0 0 Q (F0 m 60 ls []) := by
    intro H locs ls w hl
    refine lv_aload_n hx hb dX3_makeTick_60 rfl (lv_at hl 0 rfl) ?_
    refine lv_iload_n hx hb dX3_makeTick_61 rfl (lv_at hl 1 rfl) ?_
    obtain ⟨v17, hT88, hm⟩ := bq_let_el hm
    have K88 : ∀ (H : Heap) (locs : List Loc) (ls : Array Slot), bq_w D A s.heap (wdX3_makeTick cI a_t a_t_circuit a_t_faults a_t_log a_t_log_moves a_t_log_times a_t_positions a_t_score a_t_sequence a_t_sequence_cuts a_t_sequence_groupOfStep a_t_sequence_minus a_t_sequence_pauses a_t_sequence_plus a_t_strokes a_t_timers u_t_sequence_outBefore t_14 t_circuit_2 t_faults t_log_5 t_log_moves_6 t_log_times_7 t_positions_10 t_score_8 t_sequence t_sequence_cuts t_sequence_groupOfStep t_sequence_minus t_sequence_pauses t_sequence_plus t_strokes t_timers_12) H locs → lv_has ls 4 [] → W p l e rmX3_makeTick s m av9 below meth c H locs 0 0 Q (F0 m 88 ls [.int v17, .ref a_t]) := by
      intro H locs ls w hl
      obtain ⟨hB, hm⟩ := bq_cb_el hm
      obtain ⟨t_18, e9, hm⟩ := bq_let_el hm
      refine pt_X3_69 E K w 0 rfl (Nat.le_of_ble_eq_true rfl) hB dX3_makeTick_88 (fun H locs w => ?_)
      replace w : bq_w D A s.heap (wdX3_makeTick cI a_t a_t_circuit a_t_faults a_t_log a_t_log_moves a_t_log_times a_t_positions a_t_score a_t_sequence a_t_sequence_cuts a_t_sequence_groupOfStep a_t_sequence_minus a_t_sequence_pauses a_t_sequence_plus a_t_strokes a_t_timers u_t_sequence_outBefore t_18 t_circuit_2 t_faults t_log_5 t_log_moves_6 t_log_times_7 t_positions_10 t_score_8 t_sequence t_sequence_cuts t_sequence_groupOfStep t_sequence_minus t_sequence_pauses t_sequence_plus t_strokes t_timers_12) H locs := by rw [e9]; exact w
      clear e9
      obtain ⟨rfl, rfl, rfl, rfl, rfl, rfl, rfl, rfl⟩ := bq_in8 (Option.some.inj hm)
      exact bq_vret E w hr hk dX3_makeTick_91 hQ
    clear hm
    refine lv_if_ne (tgt := 87) hx hb dX3_makeTick_62 (by decide) (fun hc => ?_) (fun hc => ?_)
    · replace hT88 := bq_ef hc hT88
      clear hc
      refine lv_iconst (v := 0) hx hb dX3_makeTick_87 (by decide) ?_
      subst hT88
      exact K88 H locs ls w (lv_sub hl [] rfl)
    · replace hT88 := bq_et hc hT88
      clear hc
      refine lv_iload_n hx hb dX3_makeTick_65 rfl (lv_at hl 2 rfl) ?_
      refine lv_if_ne (tgt := 87) hx hb dX3_makeTick_66 (by decide) (fun hc => ?_) (fun hc => ?_)
      · replace hT88 := bq_ef hc hT88
        clear hc
        refine lv_iconst (v := 0) hx hb dX3_makeTick_87 (by decide) ?_
        subst hT88
        exact K88 H locs ls w (lv_sub hl [] rfl)
      · replace hT88 := bq_et hc hT88
        clear hc
        refine lv_iload_n hx hb dX3_makeTick_69 rfl (lv_at hl 3 rfl) ?_
        refine lv_if_ne (tgt := 87) hx hb dX3_makeTick_70 (by decide) (fun hc => ?_) (fun hc => ?_)
        · replace hT88 := bq_ef hc hT88
          clear hc
          refine lv_iconst (v := 0) hx hb dX3_makeTick_87 (by decide) ?_
          subst hT88
          exact K88 H locs ls w (lv_sub hl [] rfl)
        · replace hT88 := bq_et hc hT88
          clear hc
          refine lv_aload_n hx hb dX3_makeTick_73 rfl (lv_at hl 0 rfl) ?_
          refine gt_X3_12 E K w 0 rfl rfl dX3_makeTick_74 ?_
          refine gt_X3_112 E K w 1 rfl rfl dX3_makeTick_77 ?_
          refine lv_if_ne (tgt := 87) hx hb dX3_makeTick_80 (by decide) (fun hc => ?_) (fun hc => ?_)
          · replace hT88 := bq_ef hc hT88
            clear hc
            refine lv_iconst (v := 0) hx hb dX3_makeTick_87 (by decide) ?_
            subst hT88
            exact K88 H locs ls w (lv_sub hl [] rfl)
          · replace hT88 := bq_et hc hT88
            clear hc
            refine lv_iconst (v := 1) hx hb dX3_makeTick_83 (by decide) ?_
            refine lv_goto (tgt := 88) hx hb dX3_makeTick_84 (by decide) ?_
            subst hT88
            exact K88 H locs ls w (lv_sub hl [] rfl)
  clear hm
  refine lv_if_ne (tgt := 52) hx hb dX3_makeTick_45 (by decide) (fun hc => ?_) (fun hc => ?_)
  · replace hT60 := bq_f hc hT60
    clear hc
    refine lv_aload_n hx hb dX3_makeTick_52 rfl (lv_at hl 3 rfl) ?_
    refine lv_aload_n hx hb dX3_makeTick_53 rfl (lv_at hl 3 rfl) ?_
    refine gt_X3_63 E K w 0 rfl rfl dX3_makeTick_54 ?_
    obtain ⟨t_15, e9, hT60⟩ := bq_let_el hT60
    refine pt_X3_66 E K w 0 rfl (Nat.le_of_ble_eq_true rfl) dX3_makeTick_57 (fun H locs w => ?_)
    replace w : bq_w D A s.heap (wdX3_makeTick cI a_t a_t_circuit a_t_faults a_t_log a_t_log_moves a_t_log_times a_t_positions a_t_score a_t_sequence a_t_sequence_cuts a_t_sequence_groupOfStep a_t_sequence_minus a_t_sequence_pauses a_t_sequence_plus a_t_strokes a_t_timers u_t_sequence_outBefore t_15 t_circuit_2 t_faults t_log_5 t_log_moves_6 t_log_times_7 t_positions_10 t_score_8 t_sequence t_sequence_cuts t_sequence_groupOfStep t_sequence_minus t_sequence_pauses t_sequence_plus t_strokes t_timers_12) H locs := by rw [e9]; exact w
    clear e9
    obtain rfl := Option.some.inj hT60
    exact K60 H locs ls w (lv_sub hl [3, 2, 1, 0] rfl)
  · replace hT60 := bq_t hc hT60
    clear hc
    refine lv_iload_n hx hb dX3_makeTick_48 rfl (lv_at hl 1 rfl) ?_
    refine lv_if_eq (tgt := 60) hx hb dX3_makeTick_49 (by decide) (fun hc => ?_) (fun hc => ?_)
    · replace hT60 := bq_t hc hT60
      clear hc
      obtain rfl := Option.some.inj hT60
      exact K60 H locs ls w (lv_sub hl [3, 2, 1, 0] rfl)
    · replace hT60 := bq_f hc hT60
      clear hc
      refine lv_aload_n hx hb dX3_makeTick_52 rfl (lv_at hl 3 rfl) ?_
      refine lv_aload_n hx hb dX3_makeTick_53 rfl (lv_at hl 3 rfl) ?_
      refine gt_X3_63 E K w 0 rfl rfl dX3_makeTick_54 ?_
      obtain ⟨t_16, e9, hT60⟩ := bq_let_el hT60
      refine pt_X3_66 E K w 0 rfl (Nat.le_of_ble_eq_true rfl) dX3_makeTick_57 (fun H locs w => ?_)
      replace w : bq_w D A s.heap (wdX3_makeTick cI a_t a_t_circuit a_t_faults a_t_log a_t_log_moves a_t_log_times a_t_positions a_t_score a_t_sequence a_t_sequence_cuts a_t_sequence_groupOfStep a_t_sequence_minus a_t_sequence_pauses a_t_sequence_plus a_t_strokes a_t_timers u_t_sequence_outBefore t_16 t_circuit_2 t_faults t_log_5 t_log_moves_6 t_log_times_7 t_positions_10 t_score_8 t_sequence t_sequence_cuts t_sequence_groupOfStep t_sequence_minus t_sequence_pauses t_sequence_plus t_strokes t_timers_12) H locs := by rw [e9]; exact w
      clear e9
      obtain rfl := Option.some.inj hT60
      exact K60 H locs ls w (lv_sub hl [3, 2, 1, 0] rfl)
abbrev wdX3_run (cI : ClassId) (a_t a_t_circuit a_t_faults a_t_log a_t_log_moves a_t_log_times a_t_positions a_t_score a_t_sequence a_t_sequence_cuts a_t_sequence_groupOfStep a_t_sequence_minus a_t_sequence_pauses a_t_sequence_plus a_t_strokes a_t_timers u_t_sequence_outBefore : Nat) (t : Nat → Int32) (t_circuit : Nat → Int32) (t_faults : Nat → Int32) (t_log : Nat → Int32) (t_log_moves : Nat → Int32) (t_log_times : Nat → Int32) (t_positions : Nat → Int32) (t_score : Nat → Int32) (t_sequence : Nat → Int32) (t_sequence_cuts : Nat → Int32) (t_sequence_groupOfStep : Nat → Int32) (t_sequence_minus : Nat → Int32) (t_sequence_pauses : Nat → Int32) (t_sequence_plus : Nat → Int32) (t_strokes : Nat → Int32) (t_timers : Nat → Int32) : va_W := [(a_t, oX3 a_t_sequence a_t_circuit a_t_log a_t_score a_t_strokes a_t_positions a_t_timers a_t_faults t), (a_t_circuit, oX0 t_circuit), (a_t_faults, oA cI 5 t_faults), (a_t_log, oX1 a_t_log_times a_t_log_moves t_log), (a_t_log_moves, oA cI 40 t_log_moves), (a_t_log_times, oA cI 40 t_log_times), (a_t_positions, oA cI 6 t_positions), (a_t_score, oX4 t_score), (a_t_sequence, oX5 a_t_sequence_plus a_t_sequence_minus a_t_sequence_pauses u_t_sequence_outBefore a_t_sequence_cuts a_t_sequence_groupOfStep t_sequence), (a_t_sequence_cuts, oA cI 16 t_sequence_cuts), (a_t_sequence_groupOfStep, oA cI 16 t_sequence_groupOfStep), (a_t_sequence_minus, oA cI 16 t_sequence_minus), (a_t_sequence_pauses, oA cI 16 t_sequence_pauses), (a_t_sequence_plus, oA cI 16 t_sequence_plus), (a_t_strokes, oA cI 6 t_strokes), (a_t_timers, oA cI 16 t_timers)]
abbrev rmX3_run : Room := { frames := 4, cells := 0, slots := 0, locals := 95 }
theorem hd_X3_run : yX3_run.cls = RX3 ∧ yX3_run.cls ≠ "java/lang/invoke/MethodHandle" ∧ yX3_run.cls ≠ "java/lang/invoke/VarHandle" ∧ (parseMethodDescriptor yX3_run.desc).map (fun d => d.parameters.length) = some 1 := by decide +kernel
set_option maxHeartbeats 4000000 in
set_option maxRecDepth 100000 in
theorem kX3_run (l : Launch) (D : va_G) (cI cJ : ClassId) (a_t a_t_circuit a_t_faults a_t_log a_t_log_moves a_t_log_times a_t_positions a_t_score a_t_sequence a_t_sequence_cuts a_t_sequence_groupOfStep a_t_sequence_minus a_t_sequence_pauses a_t_sequence_plus a_t_strokes a_t_timers u_t_sequence_outBefore : Nat) (t t_circuit t_faults t_log t_log_moves t_log_times t_positions t_score t_sequence t_sequence_cuts t_sequence_groupOfStep t_sequence_minus t_sequence_pauses t_sequence_plus t_strokes t_timers : Nat → Int32) (x1 : Int32) (t_o : Nat → Int32) (t_circuit_o : Nat → Int32) (t_log_o : Nat → Int32) (t_log_moves_o : Nat → Int32) (t_log_times_o : Nat → Int32) (t_positions_o : Nat → Int32) (t_score_o : Nat → Int32) (t_timers_o : Nat → Int32) (hm : mX3_run t t_circuit t_faults t_log t_log_moves t_log_times t_positions t_score t_sequence t_sequence_cuts t_sequence_groupOfStep t_sequence_minus t_sequence_pauses t_sequence_plus t_strokes t_timers x1 = some (t_o, t_circuit_o, t_log_o, t_log_moves_o, t_log_times_o, t_positions_o, t_score_o, t_timers_o)) : bq_M l D cI cJ yX3_run cX3_run 3 none rmX3_run [.ref a_t, .int x1] (wdX3_run cI a_t a_t_circuit a_t_faults a_t_log a_t_log_moves a_t_log_times a_t_positions a_t_score a_t_sequence a_t_sequence_cuts a_t_sequence_groupOfStep a_t_sequence_minus a_t_sequence_pauses a_t_sequence_plus a_t_strokes a_t_timers u_t_sequence_outBefore t t_circuit t_faults t_log t_log_moves t_log_times t_positions t_score t_sequence t_sequence_cuts t_sequence_groupOfStep t_sequence_minus t_sequence_pauses t_sequence_plus t_strokes t_timers) (wdX3_run cI a_t a_t_circuit a_t_faults a_t_log a_t_log_moves a_t_log_times a_t_positions a_t_score a_t_sequence a_t_sequence_cuts a_t_sequence_groupOfStep a_t_sequence_minus a_t_sequence_pauses a_t_sequence_plus a_t_strokes a_t_timers u_t_sequence_outBefore t_o t_circuit_o t_faults t_log_o t_log_moves_o t_log_times_o t_positions_o t_score_o t_sequence t_sequence_cuts t_sequence_groupOfStep t_sequence_minus t_sequence_pauses t_sequence_plus t_strokes t_timers_o) none := by
  refine bq_start (by decide) (Nat.le_of_ble_eq_true rfl) ?_
  intro p e s m av9 below meth c A ls Q H locs E K w hA hr hk hn hQ hl
  have E : bq_E p m c cX3_run 3 s av9 RX3 := E
  have hx := E.1
  have hb := E.2.1
  have hl : lv_has ls 3 [(0, .ref a_t), (1, .int x1)] := hl
  unfold mX3_run at hm
  refine lv_iconst (v := 1) hx hb dX3_run_0 (by decide) ?_
  refine lv_istore_n (lv' := [(2, .int 1), (0, .ref a_t), (1, .int x1)]) hx hb dX3_run_1 rfl hl (by decide) rfl (fun ls hl => ?_)
  obtain ⟨rr2, hL, hm⟩ := bq_bd_el hm
  obtain ⟨B, eB, nn, hL⟩ := bq_loop_B hL
  have X37 : ∀ (t_10 : Nat → Int32) (t_circuit_11 : Nat → Int32) (t_log_12 : Nat → Int32) (t_log_moves_13 : Nat → Int32) (t_log_times_14 : Nat → Int32) (t_positions_15 : Nat → Int32) (t_score_16 : Nat → Int32) (t_timers_17 : Nat → Int32) (hE : rr2 = .inl (t_10, t_circuit_11, t_log_12, t_log_moves_13, t_log_times_14, t_positions_15, t_score_16, t_timers_17)) (H : Heap) (locs : List Loc) (ls : Array Slot), bq_w D A s.heap (wdX3_run cI a_t a_t_circuit a_t_faults a_t_log a_t_log_moves a_t_log_times a_t_positions a_t_score a_t_sequence a_t_sequence_cuts a_t_sequence_groupOfStep a_t_sequence_minus a_t_sequence_pauses a_t_sequence_plus a_t_strokes a_t_timers u_t_sequence_outBefore t_10 t_circuit_11 t_faults t_log_12 t_log_moves_13 t_log_times_14 t_positions_15 t_score_16 t_sequence t_sequence_cuts t_sequence_groupOfStep t_sequence_minus t_sequence_pauses t_sequence_plus t_strokes t_timers_17) H locs → lv_has ls 3 [] → W p l e rmX3_run s m av9 below meth c H locs 0 0 Q (F0 m 37 ls []) := by
    intro t_10 t_circuit_11 t_log_12 t_log_moves_13 t_log_times_14 t_positions_15 t_score_16 t_timers_17 hE H locs ls w hl
    subst hE
    replace hm := bq_or8_l hm
    obtain ⟨rfl, rfl, rfl, rfl, rfl, rfl, rfl, rfl⟩ := bq_in8 (Option.some.inj hm)
    exact bq_vret E w hr hk dX3_run_37 hQ
  have L2 : ∀ (nn : Nat) (i1 : Int32) (t_2 : Nat → Int32) (t_circuit_3 : Nat → Int32) (t_log_4 : Nat → Int32) (t_log_moves_5 : Nat → Int32) (t_log_times_6 : Nat → Int32) (t_positions_7 : Nat → Int32) (t_score_8 : Nat → Int32) (t_timers_9 : Nat → Int32) (H : Heap) (locs : List Loc) (ls : Array Slot), bq_lp B nn (i1, t_2, t_circuit_3, t_log_4, t_log_moves_5, t_log_times_6, t_positions_7, t_score_8, t_timers_9) = some rr2 → bq_w D A s.heap (wdX3_run cI a_t a_t_circuit a_t_faults a_t_log a_t_log_moves a_t_log_times a_t_positions a_t_score a_t_sequence a_t_sequence_cuts a_t_sequence_groupOfStep a_t_sequence_minus a_t_sequence_pauses a_t_sequence_plus a_t_strokes a_t_timers u_t_sequence_outBefore t_2 t_circuit_3 t_faults t_log_4 t_log_moves_5 t_log_times_6 t_positions_7 t_score_8 t_sequence t_sequence_cuts t_sequence_groupOfStep t_sequence_minus t_sequence_pauses t_sequence_plus t_strokes t_timers_9) H locs → lv_has ls 3 [(0, .ref a_t), (1, .int x1), (2, .int i1)] → W p l e rmX3_run s m av9 below meth c H locs 0 0 Q (F0 m 2 ls []) := by
    intro nn
    induction nn with
    | zero =>
      intro i1 t_2 t_circuit_3 t_log_4 t_log_moves_5 t_log_times_6 t_positions_7 t_score_8 t_timers_9 H locs ls hL w hl
      exact bq_lp_0 hL
    | succ nn ih =>
      intro i1 t_2 t_circuit_3 t_log_4 t_log_moves_5 t_log_times_6 t_positions_7 t_score_8 t_timers_9 H locs ls hL w hl
      obtain ⟨oo2, hT2, hR2⟩ := bq_lp_el hL
      clear hL
      replace hT2 := bq_u9_el eB hT2
      unfold bX3_run_2 at hT2
      refine lv_iload_n hx hb dX3_run_2 rfl (lv_at hl 2 rfl) ?_
      refine lv_iload_n hx hb dX3_run_3 rfl (lv_at hl 1 rfl) ?_
      refine lv_icmp_gt (tgt := 37) hx hb dX3_run_4 (by decide) (fun hc => ?_) (fun hc => ?_)
      · replace hT2 := bq_t hc hT2
        clear hc
        obtain rfl := Option.some.inj hT2
        replace hR2 := bq_lk_r hR2
        exact X37 t_2 t_circuit_3 t_log_4 t_log_moves_5 t_log_times_6 t_positions_7 t_score_8 t_timers_9 hR2.symm H locs ls w (lv_sub hl [] rfl)
      · replace hT2 := bq_f hc hT2
        clear hc
        refine lv_aload_n hx hb dX3_run_7 rfl (lv_at hl 0 rfl) ?_
        obtain ⟨t_18, t_circuit_19, t_log_20, t_log_moves_21, t_log_times_22, t_positions_23, t_score_24, t_timers_25, hC, hT2⟩ := bq_b8_el hT2
        refine bq_V (As := []) (rest := []) (st1 := []) (ws' := wdX3_run cI a_t a_t_circuit a_t_faults a_t_log a_t_log_moves a_t_log_times a_t_positions a_t_score a_t_sequence a_t_sequence_cuts a_t_sequence_groupOfStep a_t_sequence_minus a_t_sequence_pauses a_t_sequence_plus a_t_strokes a_t_timers u_t_sequence_outBefore t_18 t_circuit_19 t_faults t_log_20 t_log_moves_21 t_log_times_22 t_positions_23 t_score_24 t_sequence t_sequence_cuts t_sequence_groupOfStep t_sequence_minus t_sequence_pauses t_sequence_plus t_strokes t_timers_25) E K w hA (kX3_makeTick l D cI cJ a_t a_t_circuit a_t_faults a_t_log a_t_log_moves a_t_log_times a_t_positions a_t_score a_t_sequence a_t_sequence_cuts a_t_sequence_groupOfStep a_t_sequence_minus a_t_sequence_pauses a_t_sequence_plus a_t_strokes a_t_timers u_t_sequence_outBefore t_2 t_circuit_3 t_faults t_log_4 t_log_moves_5 t_log_times_6 t_positions_7 t_score_8 t_sequence t_sequence_cuts t_sequence_groupOfStep t_sequence_minus t_sequence_pauses t_sequence_plus t_strokes t_timers_9 t_18 t_circuit_19 t_log_20 t_log_moves_21 t_log_times_22 t_positions_23 t_score_24 t_timers_25 hC) (bq_gV ml_X3_91 im_X3_makeTick sl_X3_makeTick in_X3 cd_X3_makeTick) hd_X3_makeTick ⟨Nat.le_of_ble_eq_true rfl, Nat.le_of_ble_eq_true rfl⟩ ⟨Nat.le_of_ble_eq_true rfl, Nat.le_of_ble_eq_true rfl⟩ ⟨[0, 1, 2, 3, 4, 5, 6, 7, 8, 9, 10, 11, 12, 13, 14, 15], [], [0, 1, 2, 3, 4, 5, 6, 7, 8, 9, 10, 11, 12, 13, 14, 15], rfl, rfl, rfl, rfl, rfl, rfl, rfl, rfl, rfl⟩ 0 rfl rfl rfl hl.1 rfl (Nat.le_of_ble_eq_true rfl) rfl dX3_run_8 (fun H locs w => bq_z ⟨rfl, rfl⟩ ?_)
        clear hC
        refine lv_aload_n hx hb dX3_run_11 rfl (lv_at hl 0 rfl) ?_
        refine gt_X3_69 E K w 0 rfl rfl dX3_run_12 ?_
        refine lv_if_eq (tgt := 31) hx hb dX3_run_15 (by decide) (fun hc => ?_) (fun hc => ?_)
        · replace hT2 := bq_t hc hT2
          clear hc
          obtain ⟨v26, e9, hT2⟩ := bq_let_el hT2
          refine lv_iinc (v := v26) (lv' := [(2, .int v26), (0, .ref a_t), (1, .int x1)]) hx hb dX3_run_31 hl (k := 2) rfl (by rw [e9]; rfl) (by decide) rfl (fun ls hl => ?_)
          clear e9
          refine lv_goto (tgt := 2) hx hb dX3_run_34 (by decide) ?_
          obtain rfl := Option.some.inj hT2
          exact ih v26 t_18 t_circuit_19 t_log_20 t_log_moves_21 t_log_times_22 t_positions_23 t_score_24 t_timers_25 H locs ls hR2 w (lv_sub hl [1, 2, 0] rfl)
        · replace hT2 := bq_f hc hT2
          clear hc
          refine lv_aload_n hx hb dX3_run_18 rfl (lv_at hl 0 rfl) ?_
          refine lv_dup hx hb dX3_run_19 rfl ?_
          refine gt_X3_63 E K w 0 rfl rfl dX3_run_20 ?_
          refine lv_iload_n hx hb dX3_run_23 rfl (lv_at hl 1 rfl) ?_
          refine lv_iload_n hx hb dX3_run_24 rfl (lv_at hl 2 rfl) ?_
          refine lv_isub hx hb dX3_run_25 ?_
          refine lv_iadd hx hb dX3_run_26 ?_
          obtain ⟨t_27, e9, hT2⟩ := bq_let_el hT2
          refine pt_X3_63 E K w 0 rfl (Nat.le_of_ble_eq_true rfl) dX3_run_27 (fun H locs w => ?_)
          replace w : bq_w D A s.heap (wdX3_run cI a_t a_t_circuit a_t_faults a_t_log a_t_log_moves a_t_log_times a_t_positions a_t_score a_t_sequence a_t_sequence_cuts a_t_sequence_groupOfStep a_t_sequence_minus a_t_sequence_pauses a_t_sequence_plus a_t_strokes a_t_timers u_t_sequence_outBefore t_27 t_circuit_19 t_faults t_log_20 t_log_moves_21 t_log_times_22 t_positions_23 t_score_24 t_sequence t_sequence_cuts t_sequence_groupOfStep t_sequence_minus t_sequence_pauses t_sequence_plus t_strokes t_timers_25) H locs := by rw [e9]; exact w
          clear e9
          obtain rfl := Option.some.inj hT2
          replace hR2 := bq_lk_r hR2
          subst hR2
          replace hm := bq_or8_r hm
          obtain ⟨rfl, rfl, rfl, rfl, rfl, rfl, rfl, rfl⟩ := bq_in8 (Option.some.inj hm)
          exact bq_vret E w hr hk dX3_run_30 hQ
  exact L2 nn 1 t t_circuit t_log t_log_moves t_log_times t_positions t_score t_timers H locs ls hL w (lv_sub hl [1, 2, 0] rfl)
abbrev wdX3_becomeCopyOf (cI : ClassId) (a_t a_t_circuit a_t_faults a_t_log a_t_positions a_t_score a_t_strokes a_t_timers a_p1 a_p1_sequence a_p1_sequence_minus a_p1_sequence_plus a_p1_strokes u_t_log_times u_t_log_moves u_p1_circuit u_p1_log u_p1_score u_p1_positions u_p1_timers u_p1_faults u_p1_sequence_pauses u_p1_sequence_outBefore u_p1_sequence_cuts u_p1_sequence_groupOfStep m_0 : Nat) (t : Nat → Int32) (t_circuit : Nat → Int32) (t_faults : Nat → Int32) (t_log : Nat → Int32) (t_positions : Nat → Int32) (t_score : Nat → Int32) (t_strokes : Nat → Int32) (t_timers : Nat → Int32) (p1 : Nat → Int32) (p1_sequence : Nat → Int32) (p1_sequence_minus : Nat → Int32) (p1_sequence_plus : Nat → Int32) (p1_strokes : Nat → Int32) : va_W := [(a_t, oX3 m_0 a_t_circuit a_t_log a_t_score a_t_strokes a_t_positions a_t_timers a_t_faults t), (a_t_circuit, oX0 t_circuit), (a_t_faults, oA cI 5 t_faults), (a_t_log, oX1 u_t_log_times u_t_log_moves t_log), (a_t_positions, oA cI 6 t_positions), (a_t_score, oX4 t_score), (a_t_strokes, oA cI 6 t_strokes), (a_t_timers, oA cI 16 t_timers), (a_p1, oX3 a_p1_sequence u_p1_circuit u_p1_log u_p1_score a_p1_strokes u_p1_positions u_p1_timers u_p1_faults p1), (a_p1_sequence, oX5 a_p1_sequence_plus a_p1_sequence_minus u_p1_sequence_pauses u_p1_sequence_outBefore u_p1_sequence_cuts u_p1_sequence_groupOfStep p1_sequence), (a_p1_sequence_minus, oA cI 16 p1_sequence_minus), (a_p1_sequence_plus, oA cI 16 p1_sequence_plus), (a_p1_strokes, oA cI 6 p1_strokes)]
abbrev rmX3_becomeCopyOf : Room := { frames := 3, cells := 0, slots := 0, locals := 64 }
theorem hd_X3_becomeCopyOf : yX3_becomeCopyOf.cls = RX3 ∧ yX3_becomeCopyOf.cls ≠ "java/lang/invoke/MethodHandle" ∧ yX3_becomeCopyOf.cls ≠ "java/lang/invoke/VarHandle" ∧ (parseMethodDescriptor yX3_becomeCopyOf.desc).map (fun d => d.parameters.length) = some 2 := by decide +kernel
set_option maxHeartbeats 4000000 in
set_option maxRecDepth 100000 in
theorem kX3_becomeCopyOf (l : Launch) (D : va_G) (cI cJ : ClassId) (a_t a_t_circuit a_t_faults a_t_log a_t_positions a_t_score a_t_strokes a_t_timers a_p1 a_p1_sequence a_p1_sequence_minus a_p1_sequence_plus a_p1_strokes u_t_log_times u_t_log_moves u_p1_circuit u_p1_log u_p1_score u_p1_positions u_p1_timers u_p1_faults u_p1_sequence_pauses u_p1_sequence_outBefore u_p1_sequence_cuts u_p1_sequence_groupOfStep r_t_sequence : Nat) (t t_circuit t_faults t_log t_positions t_score t_strokes t_timers p1 p1_sequence p1_sequence_minus p1_sequence_plus p1_strokes : Nat → Int32) (x2 : Int32) (t_o : Nat → Int32) (t_circuit_o : Nat → Int32) (t_faults_o : Nat → Int32) (t_log_o : Nat → Int32) (t_positions_o : Nat → Int32) (t_score_o : Nat → Int32) (t_strokes_o : Nat → Int32) (t_timers_o : Nat → Int32) (hm : mX3_becomeCopyOf t t_circuit t_faults t_log t_positions t_score t_strokes t_timers p1_sequence p1_sequence_minus p1_sequence_plus p1_strokes x2 = some (t_o, t_circuit_o, t_faults_o, t_log_o, t_positions_o, t_score_o, t_strokes_o, t_timers_o)) : bq_M l D cI cJ yX3_becomeCopyOf cX3_becomeCopyOf 3 none rmX3_becomeCopyOf [.ref a_t, .ref a_p1, .int x2] (wdX3_becomeCopyOf cI a_t a_t_circuit a_t_faults a_t_log a_t_positions a_t_score a_t_strokes a_t_timers a_p1 a_p1_sequence a_p1_sequence_minus a_p1_sequence_plus a_p1_strokes u_t_log_times u_t_log_moves u_p1_circuit u_p1_log u_p1_score u_p1_positions u_p1_timers u_p1_faults u_p1_sequence_pauses u_p1_sequence_outBefore u_p1_sequence_cuts u_p1_sequence_groupOfStep r_t_sequence t t_circuit t_faults t_log t_positions t_score t_strokes t_timers p1 p1_sequence p1_sequence_minus p1_sequence_plus p1_strokes) (wdX3_becomeCopyOf cI a_t a_t_circuit a_t_faults a_t_log a_t_positions a_t_score a_t_strokes a_t_timers a_p1 a_p1_sequence a_p1_sequence_minus a_p1_sequence_plus a_p1_strokes u_t_log_times u_t_log_moves u_p1_circuit u_p1_log u_p1_score u_p1_positions u_p1_timers u_p1_faults u_p1_sequence_pauses u_p1_sequence_outBefore u_p1_sequence_cuts u_p1_sequence_groupOfStep a_p1_sequence t_o t_circuit_o t_faults_o t_log_o t_positions_o t_score_o t_strokes_o t_timers_o p1 p1_sequence p1_sequence_minus p1_sequence_plus p1_strokes) none := by
  refine bq_start (by decide) (Nat.le_of_ble_eq_true rfl) ?_
  intro p e s m av9 below meth c A ls Q H locs E K w hA hr hk hn hQ hl
  have E : bq_E p m c cX3_becomeCopyOf 3 s av9 RX3 := E
  have hx := E.1
  have hb := E.2.1
  have hl : lv_has ls 3 [(0, .ref a_t), (1, .ref a_p1), (2, .int x2)] := hl
  unfold mX3_becomeCopyOf at hm
  refine lv_aload_n hx hb dX3_becomeCopyOf_0 rfl (lv_at hl 0 rfl) ?_
  refine lv_aload_n hx hb dX3_becomeCopyOf_1 rfl (lv_at hl 1 rfl) ?_
  refine gt_X3_49 E K w 8 rfl rfl dX3_becomeCopyOf_2 ?_
  refine pt_X3_49 E K w 0 rfl (Nat.le_of_ble_eq_true rfl) dX3_becomeCopyOf_5 (fun H locs w => ?_)
  replace w : bq_w D A s.heap (wdX3_becomeCopyOf cI a_t a_t_circuit a_t_faults a_t_log a_t_positions a_t_score a_t_strokes a_t_timers a_p1 a_p1_sequence a_p1_sequence_minus a_p1_sequence_plus a_p1_strokes u_t_log_times u_t_log_moves u_p1_circuit u_p1_log u_p1_score u_p1_positions u_p1_timers u_p1_faults u_p1_sequence_pauses u_p1_sequence_outBefore u_p1_sequence_cuts u_p1_sequence_groupOfStep a_p1_sequence t t_circuit t_faults t_log t_positions t_score t_strokes t_timers p1 p1_sequence p1_sequence_minus p1_sequence_plus p1_strokes) H locs := w
  refine lv_aload_n hx hb dX3_becomeCopyOf_8 rfl (lv_at hl 1 rfl) ?_
  refine gt_X3_32 E K w 8 rfl rfl dX3_becomeCopyOf_9 ?_
  refine lv_iconst (v := 0) hx hb dX3_becomeCopyOf_12 (by decide) ?_
  refine lv_aload_n hx hb dX3_becomeCopyOf_13 rfl (lv_at hl 0 rfl) ?_
  refine gt_X3_32 E K w 0 rfl rfl dX3_becomeCopyOf_14 ?_
  refine lv_iconst (v := 0) hx hb dX3_becomeCopyOf_17 (by decide) ?_
  refine lv_bipush (v := 6) hx hb dX3_becomeCopyOf_18 (by decide) ?_
  obtain ⟨t_strokes_1, e9, hm⟩ := bq_let_el hm
  refine bq_copy (sk := 0) (dk := 0) (nk := 6) E K w ml_X3_79 12 6 rfl rfl (by decide) (by decide) (by decide) (by decide) (by decide) (by decide) (by decide) (by decide) (by decide) (by decide) hl.1 dX3_becomeCopyOf_20 (fun H locs w => ?_)
  replace w : bq_w D A s.heap (wdX3_becomeCopyOf cI a_t a_t_circuit a_t_faults a_t_log a_t_positions a_t_score a_t_strokes a_t_timers a_p1 a_p1_sequence a_p1_sequence_minus a_p1_sequence_plus a_p1_strokes u_t_log_times u_t_log_moves u_p1_circuit u_p1_log u_p1_score u_p1_positions u_p1_timers u_p1_faults u_p1_sequence_pauses u_p1_sequence_outBefore u_p1_sequence_cuts u_p1_sequence_groupOfStep a_p1_sequence t t_circuit t_faults t_log t_positions t_score t_strokes_1 t_timers p1 p1_sequence p1_sequence_minus p1_sequence_plus p1_strokes) H locs := by rw [e9]; exact w
  clear e9
  refine lv_aload_n hx hb dX3_becomeCopyOf_23 rfl (lv_at hl 0 rfl) ?_
  refine gt_X3_42 E K w 0 rfl rfl dX3_becomeCopyOf_24 ?_
  refine lv_iconst (v := 0) hx hb dX3_becomeCopyOf_27 (by decide) ?_
  obtain ⟨t_faults_2, hC, hm⟩ := bq_bd_el hm
  refine bq_S (As := [.ref a_t_faults, .int 0]) (rest := []) (st1 := []) (ws' := wdX3_becomeCopyOf cI a_t a_t_circuit a_t_faults a_t_log a_t_positions a_t_score a_t_strokes a_t_timers a_p1 a_p1_sequence a_p1_sequence_minus a_p1_sequence_plus a_p1_strokes u_t_log_times u_t_log_moves u_p1_circuit u_p1_log u_p1_score u_p1_positions u_p1_timers u_p1_faults u_p1_sequence_pauses u_p1_sequence_outBefore u_p1_sequence_cuts u_p1_sequence_groupOfStep a_p1_sequence t t_circuit t_faults_2 t_log t_positions t_score t_strokes_1 t_timers p1 p1_sequence p1_sequence_minus p1_sequence_plus p1_strokes) E K w hA (kJ7_fill_53178 l D cI cJ a_t_faults 5 t_faults 0 t_faults_2 hC) cd_J7_fill_53178 ml_X3_53 in_J7 st_J7_fill_53178 hs_J7_fill_53178 ⟨Nat.le_of_ble_eq_true rfl, Nat.le_of_ble_eq_true rfl⟩ ⟨Nat.le_of_ble_eq_true rfl, Nat.le_of_ble_eq_true rfl⟩ ⟨[2], [0, 1, 3, 4, 5, 6, 7, 8, 9, 10, 11, 12], [0, 1, 12, 2, 3, 4, 5, 6, 7, 8, 9, 10, 11], rfl, rfl, rfl, rfl, rfl, rfl, rfl, rfl, rfl⟩ rfl hl.1 rfl (Nat.le_of_ble_eq_true rfl) rfl dX3_becomeCopyOf_28 (fun H locs w => bq_z ⟨rfl, rfl⟩ ?_)
  clear hC
  refine lv_aload_n hx hb dX3_becomeCopyOf_31 rfl (lv_at hl 0 rfl) ?_
  refine gt_X3_12 E K w 0 rfl rfl dX3_becomeCopyOf_32 ?_
  refine lv_iload_n hx hb dX3_becomeCopyOf_35 rfl (lv_at hl 2 rfl) ?_
  obtain ⟨t_circuit_3, e9, hm⟩ := bq_let_el hm
  refine pt_X3_85 E K w 1 rfl (Nat.le_of_ble_eq_true rfl) dX3_becomeCopyOf_36 (fun H locs w => ?_)
  replace w : bq_w D A s.heap (wdX3_becomeCopyOf cI a_t a_t_circuit a_t_faults a_t_log a_t_positions a_t_score a_t_strokes a_t_timers a_p1 a_p1_sequence a_p1_sequence_minus a_p1_sequence_plus a_p1_strokes u_t_log_times u_t_log_moves u_p1_circuit u_p1_log u_p1_score u_p1_positions u_p1_timers u_p1_faults u_p1_sequence_pauses u_p1_sequence_outBefore u_p1_sequence_cuts u_p1_sequence_groupOfStep a_p1_sequence t t_circuit_3 t_faults_2 t_log t_positions t_score t_strokes_1 t_timers p1 p1_sequence p1_sequence_minus p1_sequence_plus p1_strokes) H locs := by rw [e9]; exact w
  clear e9
  refine lv_aload_n hx hb dX3_becomeCopyOf_39 rfl (lv_at hl 0 rfl) ?_
  obtain ⟨t_4, t_circuit_5, t_log_6, t_positions_7, t_score_8, t_timers_9, hC, hm⟩ := bq_b6_el hm
  refine bq_V (As := []) (rest := []) (st1 := []) (ws' := wdX3_becomeCopyOf cI a_t a_t_circuit a_t_faults a_t_log a_t_positions a_t_score a_t_strokes a_t_timers a_p1 a_p1_sequence a_p1_sequence_minus a_p1_sequence_plus a_p1_strokes u_t_log_times u_t_log_moves u_p1_circuit u_p1_log u_p1_score u_p1_positions u_p1_timers u_p1_faults u_p1_sequence_pauses u_p1_sequence_outBefore u_p1_sequence_cuts u_p1_sequence_groupOfStep a_p1_sequence t_4 t_circuit_5 t_faults_2 t_log_6 t_positions_7 t_score_8 t_strokes_1 t_timers_9 p1 p1_sequence p1_sequence_minus p1_sequence_plus p1_strokes) E K w hA (kX3_bringToRest l D cI cJ a_t a_t_circuit a_t_log a_t_positions a_t_score a_p1_sequence a_p1_sequence_minus a_p1_sequence_plus a_t_timers a_t_strokes a_t_faults u_t_log_times u_t_log_moves u_p1_sequence_pauses u_p1_sequence_outBefore u_p1_sequence_cuts u_p1_sequence_groupOfStep t t_circuit_3 t_log t_positions t_score p1_sequence p1_sequence_minus p1_sequence_plus t_timers t_4 t_circuit_5 t_log_6 t_positions_7 t_score_8 t_timers_9 hC) (bq_gV ml_X3_88 im_X3_bringToRest sl_X3_bringToRest in_X3 cd_X3_bringToRest) hd_X3_bringToRest ⟨Nat.le_of_ble_eq_true rfl, Nat.le_of_ble_eq_true rfl⟩ ⟨Nat.le_of_ble_eq_true rfl, Nat.le_of_ble_eq_true rfl⟩ ⟨[0, 1, 3, 4, 5, 9, 10, 11, 7], [2, 6, 8, 12], [4, 5, 0, 6, 7, 8, 1, 12, 2, 9, 10, 11, 3], rfl, rfl, rfl, rfl, rfl, rfl, rfl, rfl, rfl⟩ 0 rfl rfl rfl hl.1 rfl (Nat.le_of_ble_eq_true rfl) rfl dX3_becomeCopyOf_40 (fun H locs w => bq_z ⟨rfl, rfl⟩ ?_)
  clear hC
  obtain ⟨rfl, rfl, rfl, rfl, rfl, rfl, rfl, rfl⟩ := bq_in8 (Option.some.inj hm)
  exact bq_vret E w hr hk dX3_becomeCopyOf_43 hQ
abbrev wdX6_take (cI : ClassId) (a_t a_t_positions a_t_timers a_p1 a_p1_circuit a_p1_positions a_p1_timers u_p1_sequence u_p1_log u_p1_score u_p1_strokes u_p1_faults : Nat) (t : Nat → Int32) (t_positions : Nat → Int32) (t_timers : Nat → Int32) (p1 : Nat → Int32) (p1_circuit : Nat → Int32) (p1_positions : Nat → Int32) (p1_timers : Nat → Int32) : va_W := [(a_t, oX6 a_t_positions a_t_timers t), (a_t_positions, oA cI 6 t_positions), (a_t_timers, oA cI 16 t_timers), (a_p1, oX3 u_p1_sequence a_p1_circuit u_p1_log u_p1_score u_p1_strokes a_p1_positions a_p1_timers u_p1_faults p1), (a_p1_circuit, oX0 p1_circuit), (a_p1_positions, oA cI 6 p1_positions), (a_p1_timers, oA cI 16 p1_timers)]
abbrev rmX6_take : Room := { frames := 1, cells := 0, slots := 0, locals := 40 }
theorem hd_X6_take : yX6_take.cls = RX6 ∧ yX6_take.cls ≠ "java/lang/invoke/MethodHandle" ∧ yX6_take.cls ≠ "java/lang/invoke/VarHandle" ∧ (parseMethodDescriptor yX6_take.desc).map (fun d => d.parameters.length) = some 1 := by decide +kernel
set_option maxHeartbeats 4000000 in
set_option maxRecDepth 100000 in
theorem kX6_take (l : Launch) (D : va_G) (cI cJ : ClassId) (a_t a_t_positions a_t_timers a_p1 a_p1_circuit a_p1_positions a_p1_timers u_p1_sequence u_p1_log u_p1_score u_p1_strokes u_p1_faults : Nat) (t t_positions t_timers p1 p1_circuit p1_positions p1_timers : Nat → Int32) (t_o : Nat → Int32) (t_positions_o : Nat → Int32) (t_timers_o : Nat → Int32) (hm : mX6_take t t_positions t_timers p1 p1_circuit p1_positions p1_timers = some (t_o, t_positions_o, t_timers_o)) : bq_M l D cI cJ yX6_take cX6_take 2 none rmX6_take [.ref a_t, .ref a_p1] (wdX6_take cI a_t a_t_positions a_t_timers a_p1 a_p1_circuit a_p1_positions a_p1_timers u_p1_sequence u_p1_log u_p1_score u_p1_strokes u_p1_faults t t_positions t_timers p1 p1_circuit p1_positions p1_timers) (wdX6_take cI a_t a_t_positions a_t_timers a_p1 a_p1_circuit a_p1_positions a_p1_timers u_p1_sequence u_p1_log u_p1_score u_p1_strokes u_p1_faults t_o t_positions_o t_timers_o p1 p1_circuit p1_positions p1_timers) none := by
  refine bq_start (by decide) (Nat.le_of_ble_eq_true rfl) ?_
  intro p e s m av9 below meth c A ls Q H locs E K w hA hr hk hn hQ hl
  have E : bq_E p m c cX6_take 2 s av9 RX6 := E
  have hx := E.1
  have hb := E.2.1
  have hl : lv_has ls 2 [(0, .ref a_t), (1, .ref a_p1)] := hl
  unfold mX6_take at hm
  refine lv_aload_n hx hb dX6_take_0 rfl (lv_at hl 1 rfl) ?_
  refine gt_X6_18 E K w 3 rfl rfl dX6_take_1 ?_
  refine lv_iconst (v := 0) hx hb dX6_take_4 (by decide) ?_
  refine lv_aload_n hx hb dX6_take_5 rfl (lv_at hl 0 rfl) ?_
  refine gt_X6_9 E K w 0 rfl rfl dX6_take_6 ?_
  refine lv_iconst (v := 0) hx hb dX6_take_9 (by decide) ?_
  refine lv_bipush (v := 6) hx hb dX6_take_10 (by decide) ?_
  obtain ⟨t_positions_1, e9, hm⟩ := bq_let_el hm
  refine bq_copy (sk := 0) (dk := 0) (nk := 6) E K w ml_X6_21 5 1 rfl rfl (by decide) (by decide) (by decide) (by decide) (by decide) (by decide) (by decide) (by decide) (by decide) (by decide) hl.1 dX6_take_12 (fun H locs w => ?_)
  replace w : bq_w D A s.heap (wdX6_take cI a_t a_t_positions a_t_timers a_p1 a_p1_circuit a_p1_positions a_p1_timers u_p1_sequence u_p1_log u_p1_score u_p1_strokes u_p1_faults t t_positions_1 t_timers p1 p1_circuit p1_positions p1_timers) H locs := by rw [e9]; exact w
  clear e9
  refine lv_aload_n hx hb dX6_take_15 rfl (lv_at hl 1 rfl) ?_
  refine gt_X6_27 E K w 3 rfl rfl dX6_take_16 ?_
  refine lv_iconst (v := 0) hx hb dX6_take_19 (by decide) ?_
  refine lv_aload_n hx hb dX6_take_20 rfl (lv_at hl 0 rfl) ?_
  refine gt_X6_15 E K w 0 rfl rfl dX6_take_21 ?_
  refine lv_iconst (v := 0) hx hb dX6_take_24 (by decide) ?_
  refine lv_bipush (v := 16) hx hb dX6_take_25 (by decide) ?_
  obtain ⟨t_timers_2, e9, hm⟩ := bq_let_el hm
  refine bq_copy (sk := 0) (dk := 0) (nk := 16) E K w ml_X6_21 6 2 rfl rfl (by decide) (by decide) (by decide) (by decide) (by decide) (by decide) (by decide) (by decide) (by decide) (by decide) hl.1 dX6_take_27 (fun H locs w => ?_)
  replace w : bq_w D A s.heap (wdX6_take cI a_t a_t_positions a_t_timers a_p1 a_p1_circuit a_p1_positions a_p1_timers u_p1_sequence u_p1_log u_p1_score u_p1_strokes u_p1_faults t t_positions_1 t_timers_2 p1 p1_circuit p1_positions p1_timers) H locs := by rw [e9]; exact w
  clear e9
  refine lv_aload_n hx hb dX6_take_30 rfl (lv_at hl 0 rfl) ?_
  refine lv_aload_n hx hb dX6_take_31 rfl (lv_at hl 1 rfl) ?_
  refine gt_X6_28 E K w 3 rfl rfl dX6_take_32 ?_
  obtain ⟨t_3, e9, hm⟩ := bq_let_el hm
  refine pt_X6_32 E K w 0 rfl (Nat.le_of_ble_eq_true rfl) dX6_take_35 (fun H locs w => ?_)
  replace w : bq_w D A s.heap (wdX6_take cI a_t a_t_positions a_t_timers a_p1 a_p1_circuit a_p1_positions a_p1_timers u_p1_sequence u_p1_log u_p1_score u_p1_strokes u_p1_faults t_3 t_positions_1 t_timers_2 p1 p1_circuit p1_positions p1_timers) H locs := by rw [e9]; exact w
  clear e9
  refine lv_aload_n hx hb dX6_take_38 rfl (lv_at hl 0 rfl) ?_
  refine lv_aload_n hx hb dX6_take_39 rfl (lv_at hl 1 rfl) ?_
  refine gt_X6_33 E K w 3 rfl rfl dX6_take_40 ?_
  refine gt_X6_37 E K w 4 rfl rfl dX6_take_43 ?_
  obtain ⟨t_4, e9, hm⟩ := bq_let_el hm
  refine pt_X6_42 E K w 0 rfl (Nat.le_of_ble_eq_true rfl) dX6_take_46 (fun H locs w => ?_)
  replace w : bq_w D A s.heap (wdX6_take cI a_t a_t_positions a_t_timers a_p1 a_p1_circuit a_p1_positions a_p1_timers u_p1_sequence u_p1_log u_p1_score u_p1_strokes u_p1_faults t_4 t_positions_1 t_timers_2 p1 p1_circuit p1_positions p1_timers) H locs := by rw [e9]; exact w
  clear e9
  obtain ⟨rfl, rfl, rfl⟩ := bq_in3 (Option.some.inj hm)
  exact bq_vret E w hr hk dX6_take_49 hQ
abbrev wdX6_matches (cI : ClassId) (a_t a_t_positions a_t_timers a_p1 a_p1_circuit a_p1_positions a_p1_timers u_p1_sequence u_p1_log u_p1_score u_p1_strokes u_p1_faults : Nat) (t : Nat → Int32) (t_positions : Nat → Int32) (t_timers : Nat → Int32) (p1 : Nat → Int32) (p1_circuit : Nat → Int32) (p1_positions : Nat → Int32) (p1_timers : Nat → Int32) : va_W := [(a_t, oX6 a_t_positions a_t_timers t), (a_t_positions, oA cI 6 t_positions), (a_t_timers, oA cI 16 t_timers), (a_p1, oX3 u_p1_sequence a_p1_circuit u_p1_log u_p1_score u_p1_strokes a_p1_positions a_p1_timers u_p1_faults p1), (a_p1_circuit, oX0 p1_circuit), (a_p1_positions, oA cI 6 p1_positions), (a_p1_timers, oA cI 16 p1_timers)]
abbrev rmX6_matches : Room := { frames := 0, cells := 0, slots := 0, locals := 0 }
theorem hd_X6_matches : yX6_matches.cls = RX6 ∧ yX6_matches.cls ≠ "java/lang/invoke/MethodHandle" ∧ yX6_matches.cls ≠ "java/lang/invoke/VarHandle" ∧ (parseMethodDescriptor yX6_matches.desc).map (fun d => d.parameters.length) = some 1 := by decide +kernel
set_option maxHeartbeats 4000000 in
set_option maxRecDepth 100000 in
theorem kX6_matches (l : Launch) (D : va_G) (cI cJ : ClassId) (a_t a_t_positions a_t_timers a_p1 a_p1_circuit a_p1_positions a_p1_timers u_p1_sequence u_p1_log u_p1_score u_p1_strokes u_p1_faults : Nat) (t t_positions t_timers p1 p1_circuit p1_positions p1_timers : Nat → Int32) (r : Int32) (hm : mX6_matches t t_positions t_timers p1 p1_circuit p1_positions p1_timers = some r) : bq_M l D cI cJ yX6_matches cX6_matches 4 (some .boolean) rmX6_matches [.ref a_t, .ref a_p1] (wdX6_matches cI a_t a_t_positions a_t_timers a_p1 a_p1_circuit a_p1_positions a_p1_timers u_p1_sequence u_p1_log u_p1_score u_p1_strokes u_p1_faults t t_positions t_timers p1 p1_circuit p1_positions p1_timers) (wdX6_matches cI a_t a_t_positions a_t_timers a_p1 a_p1_circuit a_p1_positions a_p1_timers u_p1_sequence u_p1_log u_p1_score u_p1_strokes u_p1_faults t t_positions t_timers p1 p1_circuit p1_positions p1_timers) (some (.int r)) := by
  refine bq_start (by decide) (Nat.le_of_ble_eq_true rfl) ?_
  intro p e s m av9 below meth c A ls Q H locs E K w hA hr hk hn hQ hl
  have E : bq_E p m c cX6_matches 4 s av9 RX6 := E
  have hx := E.1
  have hb := E.2.1
  have hl : lv_has ls 4 [(0, .ref a_t), (1, .ref a_p1)] := hl
  unfold mX6_matches at hm
  refine lv_aload_n hx hb dX6_matches_0 rfl (lv_at hl 0 rfl) ?_
  refine gt_X6_32 E K w 0 rfl rfl dX6_matches_1 ?_
  refine lv_aload_n hx hb dX6_matches_4 rfl (lv_at hl 1 rfl) ?_
  refine gt_X6_28 E K w 3 rfl rfl dX6_matches_5 ?_
  obtain ⟨v1, hT30, hm⟩ := bq_let_el hm
  have K30 : ∀ (H : Heap) (locs : List Loc) (ls : Array Slot), bq_w D A s.heap (wdX6_matches cI a_t a_t_positions a_t_timers a_p1 a_p1_circuit a_p1_positions a_p1_timers u_p1_sequence u_p1_log u_p1_score u_p1_strokes u_p1_faults t t_positions t_timers p1 p1_circuit p1_positions p1_timers) H locs → lv_has ls 4 [(0, .ref a_t), (1, .ref a_p1)] → W p l e rmX6_matches s m av9 below meth c H locs 0 0 Q (F0 m 30 ls [.int v1]) := by
    intro H locs ls w hl
    refine lv_istore_n (lv' := [(2, .int v1), (0, .ref a_t), (1, .ref a_p1)]) hx hb dX6_matches_30 rfl hl (by decide) rfl (fun ls hl => ?_)
    refine lv_iconst (v := 0) hx hb dX6_matches_31 (by decide) ?_
    refine lv_istore_n (lv' := [(3, .int 0), (2, .int v1), (0, .ref a_t), (1, .ref a_p1)]) hx hb dX6_matches_32 rfl hl (by decide) rfl (fun ls hl => ?_)
    obtain ⟨v4, hL, hm⟩ := bq_bd_el hm
    obtain ⟨B, eB, nn, hL⟩ := bq_loop_B hL
    have X70 : ∀ (H : Heap) (locs : List Loc) (ls : Array Slot), bq_w D A s.heap (wdX6_matches cI a_t a_t_positions a_t_timers a_p1 a_p1_circuit a_p1_positions a_p1_timers u_p1_sequence u_p1_log u_p1_score u_p1_strokes u_p1_faults t t_positions t_timers p1 p1_circuit p1_positions p1_timers) H locs → lv_has ls 4 [(0, .ref a_t), (1, .ref a_p1), (2, .int v4)] → W p l e rmX6_matches s m av9 below meth c H locs 0 0 Q (F0 m 70 ls []) := by
      intro H locs ls w hl
      refine lv_iconst (v := 0) hx hb dX6_matches_70 (by decide) ?_
      refine lv_istore_n (lv' := [(3, .int 0), (0, .ref a_t), (1, .ref a_p1), (2, .int v4)]) hx hb dX6_matches_71 rfl hl (by decide) rfl (fun ls hl => ?_)
      obtain ⟨v7, hL, hm⟩ := bq_bd_el hm
      obtain ⟨B, eB, nn, hL⟩ := bq_loop_B hL
      have X109 : ∀ (H : Heap) (locs : List Loc) (ls : Array Slot), bq_w D A s.heap (wdX6_matches cI a_t a_t_positions a_t_timers a_p1 a_p1_circuit a_p1_positions a_p1_timers u_p1_sequence u_p1_log u_p1_score u_p1_strokes u_p1_faults t t_positions t_timers p1 p1_circuit p1_positions p1_timers) H locs → lv_has ls 4 [(2, .int v7)] → W p l e rmX6_matches s m av9 below meth c H locs 0 0 Q (F0 m 109 ls []) := by
        intro H locs ls w hl
        refine lv_iload_n hx hb dX6_matches_109 rfl (lv_at hl 0 rfl) ?_
        obtain ⟨hB, hm⟩ := bq_cb_el hm
        obtain rfl := Option.some.inj hm
        exact bq_zret E w hr hk hB dX6_matches_110 hQ
      clear hm
      have L72 : ∀ (nn : Nat) (i5 : Int32) (i6 : Int32) (H : Heap) (locs : List Loc) (ls : Array Slot), bq_lp B nn (i5, i6) = some v7 → bq_w D A s.heap (wdX6_matches cI a_t a_t_positions a_t_timers a_p1 a_p1_circuit a_p1_positions a_p1_timers u_p1_sequence u_p1_log u_p1_score u_p1_strokes u_p1_faults t t_positions t_timers p1 p1_circuit p1_positions p1_timers) H locs → lv_has ls 4 [(0, .ref a_t), (1, .ref a_p1), (2, .int i6), (3, .int i5)] → W p l e rmX6_matches s m av9 below meth c H locs 0 0 Q (F0 m 72 ls []) := by
        intro nn
        induction nn with
        | zero =>
          intro i5 i6 H locs ls hL w hl
          exact bq_lp_0 hL
        | succ nn ih =>
          intro i5 i6 H locs ls hL w hl
          obtain ⟨oo72, hT72, hR72⟩ := bq_lp_el hL
          clear hL
          replace hT72 := bq_u2_el eB hT72
          unfold bX6_matches_72 at hT72
          refine lv_iload_n hx hb dX6_matches_72 rfl (lv_at hl 3 rfl) ?_
          refine lv_bipush (v := 16) hx hb dX6_matches_73 (by decide) ?_
          refine lv_icmp_ge (tgt := 109) hx hb dX6_matches_75 (by decide) (fun hc => ?_) (fun hc => ?_)
          · replace hT72 := bq_t hc hT72
            clear hc
            obtain rfl := Option.some.inj hT72
            replace hR72 := bq_lk_r hR72
            subst hR72
            exact X109 H locs ls w (lv_sub hl [2] rfl)
          · replace hT72 := bq_f hc hT72
            clear hc
            refine lv_iload_n hx hb dX6_matches_78 rfl (lv_at hl 2 rfl) ?_
            refine lv_if_eq (tgt := 109) hx hb dX6_matches_79 (by decide) (fun hc => ?_) (fun hc => ?_)
            · replace hT72 := bq_t hc hT72
              clear hc
              obtain rfl := Option.some.inj hT72
              replace hR72 := bq_lk_r hR72
              subst hR72
              exact X109 H locs ls w (lv_sub hl [2] rfl)
            · replace hT72 := bq_f hc hT72
              clear hc
              refine lv_aload_n hx hb dX6_matches_82 rfl (lv_at hl 0 rfl) ?_
              refine gt_X6_15 E K w 0 rfl rfl dX6_matches_83 ?_
              refine lv_iload_n hx hb dX6_matches_86 rfl (lv_at hl 3 rfl) ?_
              obtain ⟨hI, hT72⟩ := bq_ci_el hT72
              refine bq_ald E K w 2 rfl hI dX6_matches_87 ?_
              refine lv_aload_n hx hb dX6_matches_88 rfl (lv_at hl 1 rfl) ?_
              refine gt_X6_27 E K w 3 rfl rfl dX6_matches_89 ?_
              refine lv_iload_n hx hb dX6_matches_92 rfl (lv_at hl 3 rfl) ?_
              obtain ⟨hI, hT72⟩ := bq_ci_el hT72
              refine bq_ald E K w 6 rfl hI dX6_matches_93 ?_
              obtain ⟨v8, hT102, hT72⟩ := bq_let_el hT72
              have K102 : ∀ (H : Heap) (locs : List Loc) (ls : Array Slot), bq_w D A s.heap (wdX6_matches cI a_t a_t_positions a_t_timers a_p1 a_p1_circuit a_p1_positions a_p1_timers u_p1_sequence u_p1_log u_p1_score u_p1_strokes u_p1_faults t t_positions t_timers p1 p1_circuit p1_positions p1_timers) H locs → lv_has ls 4 [(0, .ref a_t), (1, .ref a_p1), (3, .int i5)] → W p l e rmX6_matches s m av9 below meth c H locs 0 0 Q (F0 m 102 ls [.int v8]) := by
                intro H locs ls w hl
                refine lv_istore_n (lv' := [(2, .int v8), (0, .ref a_t), (1, .ref a_p1), (3, .int i5)]) hx hb dX6_matches_102 rfl hl (by decide) rfl (fun ls hl => ?_)
                obtain ⟨v9, e9, hT72⟩ := bq_let_el hT72
                refine lv_iinc (v := v9) (lv' := [(3, .int v9), (2, .int v8), (0, .ref a_t), (1, .ref a_p1)]) hx hb dX6_matches_103 hl (k := 3) rfl (by rw [e9]; rfl) (by decide) rfl (fun ls hl => ?_)
                clear e9
                refine lv_goto (tgt := 72) hx hb dX6_matches_106 (by decide) ?_
                obtain rfl := Option.some.inj hT72
                exact ih v9 v8 H locs ls hR72 w (lv_sub hl [2, 3, 1, 0] rfl)
              clear hT72
              refine lv_icmp_ne (tgt := 101) hx hb dX6_matches_94 (by decide) (fun hc => ?_) (fun hc => ?_)
              · replace hT102 := bq_ef hc hT102
                clear hc
                refine lv_iconst (v := 0) hx hb dX6_matches_101 (by decide) ?_
                subst hT102
                exact K102 H locs ls w (lv_sub hl [0, 1, 3] rfl)
              · replace hT102 := bq_et hc hT102
                clear hc
                refine lv_iconst (v := 1) hx hb dX6_matches_97 (by decide) ?_
                refine lv_goto (tgt := 102) hx hb dX6_matches_98 (by decide) ?_
                subst hT102
                exact K102 H locs ls w (lv_sub hl [0, 1, 3] rfl)
      exact L72 nn 0 v4 H locs ls hL w (lv_sub hl [1, 2, 3, 0] rfl)
    clear hm
    have L33 : ∀ (nn : Nat) (i2 : Int32) (i3 : Int32) (H : Heap) (locs : List Loc) (ls : Array Slot), bq_lp B nn (i2, i3) = some v4 → bq_w D A s.heap (wdX6_matches cI a_t a_t_positions a_t_timers a_p1 a_p1_circuit a_p1_positions a_p1_timers u_p1_sequence u_p1_log u_p1_score u_p1_strokes u_p1_faults t t_positions t_timers p1 p1_circuit p1_positions p1_timers) H locs → lv_has ls 4 [(0, .ref a_t), (1, .ref a_p1), (2, .int i3), (3, .int i2)] → W p l e rmX6_matches s m av9 below meth c H locs 0 0 Q (F0 m 33 ls []) := by
      intro nn
      induction nn with
      | zero =>
        intro i2 i3 H locs ls hL w hl
        exact bq_lp_0 hL
      | succ nn ih =>
        intro i2 i3 H locs ls hL w hl
        obtain ⟨oo33, hT33, hR33⟩ := bq_lp_el hL
        clear hL
        replace hT33 := bq_u2_el eB hT33
        unfold bX6_matches_33 at hT33
        refine lv_iload_n hx hb dX6_matches_33 rfl (lv_at hl 3 rfl) ?_
        refine lv_bipush (v := 6) hx hb dX6_matches_34 (by decide) ?_
        refine lv_icmp_ge (tgt := 70) hx hb dX6_matches_36 (by decide) (fun hc => ?_) (fun hc => ?_)
        · replace hT33 := bq_t hc hT33
          clear hc
          obtain rfl := Option.some.inj hT33
          replace hR33 := bq_lk_r hR33
          subst hR33
          exact X70 H locs ls w (lv_sub hl [0, 1, 2] rfl)
        · replace hT33 := bq_f hc hT33
          clear hc
          refine lv_iload_n hx hb dX6_matches_39 rfl (lv_at hl 2 rfl) ?_
          refine lv_if_eq (tgt := 70) hx hb dX6_matches_40 (by decide) (fun hc => ?_) (fun hc => ?_)
          · replace hT33 := bq_t hc hT33
            clear hc
            obtain rfl := Option.some.inj hT33
            replace hR33 := bq_lk_r hR33
            subst hR33
            exact X70 H locs ls w (lv_sub hl [0, 1, 2] rfl)
          · replace hT33 := bq_f hc hT33
            clear hc
            refine lv_aload_n hx hb dX6_matches_43 rfl (lv_at hl 0 rfl) ?_
            refine gt_X6_9 E K w 0 rfl rfl dX6_matches_44 ?_
            refine lv_iload_n hx hb dX6_matches_47 rfl (lv_at hl 3 rfl) ?_
            obtain ⟨hI, hT33⟩ := bq_ci_el hT33
            refine bq_ald E K w 1 rfl hI dX6_matches_48 ?_
            refine lv_aload_n hx hb dX6_matches_49 rfl (lv_at hl 1 rfl) ?_
            refine gt_X6_18 E K w 3 rfl rfl dX6_matches_50 ?_
            refine lv_iload_n hx hb dX6_matches_53 rfl (lv_at hl 3 rfl) ?_
            obtain ⟨hI, hT33⟩ := bq_ci_el hT33
            refine bq_ald E K w 5 rfl hI dX6_matches_54 ?_
            obtain ⟨v10, hT63, hT33⟩ := bq_let_el hT33
            have K63 : ∀ (H : Heap) (locs : List Loc) (ls : Array Slot), bq_w D A s.heap (wdX6_matches cI a_t a_t_positions a_t_timers a_p1 a_p1_circuit a_p1_positions a_p1_timers u_p1_sequence u_p1_log u_p1_score u_p1_strokes u_p1_faults t t_positions t_timers p1 p1_circuit p1_positions p1_timers) H locs → lv_has ls 4 [(0, .ref a_t), (1, .ref a_p1), (3, .int i2)] → W p l e rmX6_matches s m av9 below meth c H locs 0 0 Q (F0 m 63 ls [.int v10]) := by
              intro H locs ls w hl
              refine lv_istore_n (lv' := [(2, .int v10), (0, .ref a_t), (1, .ref a_p1), (3, .int i2)]) hx hb dX6_matches_63 rfl hl (by decide) rfl (fun ls hl => ?_)
              obtain ⟨v11, e9, hT33⟩ := bq_let_el hT33
              refine lv_iinc (v := v11) (lv' := [(3, .int v11), (2, .int v10), (0, .ref a_t), (1, .ref a_p1)]) hx hb dX6_matches_64 hl (k := 3) rfl (by rw [e9]; rfl) (by decide) rfl (fun ls hl => ?_)
              clear e9
              refine lv_goto (tgt := 33) hx hb dX6_matches_67 (by decide) ?_
              obtain rfl := Option.some.inj hT33
              exact ih v11 v10 H locs ls hR33 w (lv_sub hl [2, 3, 1, 0] rfl)
            clear hT33
            refine lv_icmp_ne (tgt := 62) hx hb dX6_matches_55 (by decide) (fun hc => ?_) (fun hc => ?_)
            · replace hT63 := bq_ef hc hT63
              clear hc
              refine lv_iconst (v := 0) hx hb dX6_matches_62 (by decide) ?_
              subst hT63
              exact K63 H locs ls w (lv_sub hl [0, 1, 3] rfl)
            · replace hT63 := bq_et hc hT63
              clear hc
              refine lv_iconst (v := 1) hx hb dX6_matches_58 (by decide) ?_
              refine lv_goto (tgt := 63) hx hb dX6_matches_59 (by decide) ?_
              subst hT63
              exact K63 H locs ls w (lv_sub hl [0, 1, 3] rfl)
    exact L33 nn 0 v1 H locs ls hL w (lv_sub hl [2, 3, 1, 0] rfl)
  clear hm
  refine lv_icmp_ne (tgt := 29) hx hb dX6_matches_8 (by decide) (fun hc => ?_) (fun hc => ?_)
  · replace hT30 := bq_ef hc hT30
    clear hc
    refine lv_iconst (v := 0) hx hb dX6_matches_29 (by decide) ?_
    subst hT30
    exact K30 H locs ls w (lv_sub hl [0, 1] rfl)
  · replace hT30 := bq_et hc hT30
    clear hc
    refine lv_aload_n hx hb dX6_matches_11 rfl (lv_at hl 0 rfl) ?_
    refine gt_X6_42 E K w 0 rfl rfl dX6_matches_12 ?_
    refine lv_aload_n hx hb dX6_matches_15 rfl (lv_at hl 1 rfl) ?_
    refine gt_X6_33 E K w 3 rfl rfl dX6_matches_16 ?_
    refine gt_X6_37 E K w 4 rfl rfl dX6_matches_19 ?_
    refine lv_icmp_ne (tgt := 29) hx hb dX6_matches_22 (by decide) (fun hc => ?_) (fun hc => ?_)
    · replace hT30 := bq_ef hc hT30
      clear hc
      refine lv_iconst (v := 0) hx hb dX6_matches_29 (by decide) ?_
      subst hT30
      exact K30 H locs ls w (lv_sub hl [0, 1] rfl)
    · replace hT30 := bq_et hc hT30
      clear hc
      refine lv_iconst (v := 1) hx hb dX6_matches_25 (by decide) ?_
      refine lv_goto (tgt := 30) hx hb dX6_matches_26 (by decide) ?_
      subst hT30
      exact K30 H locs ls w (lv_sub hl [0, 1] rfl)
