abbrev wdX3_bringToRest (cI : ClassId) (a_t a_t_circuit a_t_log a_t_positions a_t_score a_t_sequence a_t_sequence_minus a_t_sequence_plus a_t_timers u_t_strokes u_t_faults u_t_log_times u_t_log_moves u_t_sequence_pauses u_t_sequence_outBefore u_t_sequence_cuts u_t_sequence_groupOfStep : Nat) (t : Nat → Int32) (t_circuit : Nat → Int32) (t_log : Nat → Int32) (t_positions : Nat → Int32) (t_score : Nat → Int32) (t_sequence : Nat → Int32) (t_sequence_minus : Nat → Int32) (t_sequence_plus : Nat → Int32) (t_timers : Nat → Int32) : va_W := [(a_t, oX3 a_t_sequence a_t_circuit a_t_log a_t_score u_t_strokes a_t_positions a_t_timers u_t_faults t), (a_t_circuit, oX0 t_circuit), (a_t_log, oX1 u_t_log_times u_t_log_moves t_log), (a_t_positions, oA cI 6 t_positions), (a_t_score, oX4 t_score), (a_t_sequence, oX5 a_t_sequence_plus a_t_sequence_minus u_t_sequence_pauses u_t_sequence_outBefore u_t_sequence_cuts u_t_sequence_groupOfStep t_sequence), (a_t_sequence_minus, oA cI 16 t_sequence_minus), (a_t_sequence_plus, oA cI 16 t_sequence_plus), (a_t_timers, oA cI 16 t_timers)]
abbrev rmX3_bringToRest : Room := { frames := 2, cells := 0, slots := 0, locals := 44 }
theorem hd_X3_bringToRest : yX3_bringToRest.cls = RX3 ∧ yX3_bringToRest.cls ≠ "java/lang/invoke/MethodHandle" ∧ yX3_bringToRest.cls ≠ "java/lang/invoke/VarHandle" ∧ (parseMethodDescriptor yX3_bringToRest.desc).map (fun d => d.parameters.length) = some 0 := by decide +kernel
set_option maxHeartbeats 4000000 in
set_option maxRecDepth 100000 in
theorem kX3_bringToRest (l : Launch) (D : va_G) (cI cJ : ClassId) (a_t a_t_circuit a_t_log a_t_positions a_t_score a_t_sequence a_t_sequence_minus a_t_sequence_plus a_t_timers u_t_strokes u_t_faults u_t_log_times u_t_log_moves u_t_sequence_pauses u_t_sequence_outBefore u_t_sequence_cuts u_t_sequence_groupOfStep : Nat) (t t_circuit t_log t_positions t_score t_sequence t_sequence_minus t_sequence_plus t_timers : Nat → Int32) (t_o : Nat → Int32) (t_circuit_o : Nat → Int32) (t_log_o : Nat → Int32) (t_positions_o : Nat → Int32) (t_score_o : Nat → Int32) (t_timers_o : Nat → Int32) (hm : mX3_bringToRest t t_circuit t_log t_positions t_score t_sequence t_sequence_minus t_sequence_plus t_timers = some (t_o, t_circuit_o, t_log_o, t_positions_o, t_score_o, t_timers_o)) : bq_M l D cI cJ yX3_bringToRest cX3_bringToRest 1 none rmX3_bringToRest [.ref a_t] (wdX3_bringToRest cI a_t a_t_circuit a_t_log a_t_positions a_t_score a_t_sequence a_t_sequence_minus a_t_sequence_plus a_t_timers u_t_strokes u_t_faults u_t_log_times u_t_log_moves u_t_sequence_pauses u_t_sequence_outBefore u_t_sequence_cuts u_t_sequence_groupOfStep t t_circuit t_log t_positions t_score t_sequence t_sequence_minus t_sequence_plus t_timers) (wdX3_bringToRest cI a_t a_t_circuit a_t_log a_t_positions a_t_score a_t_sequence a_t_sequence_minus a_t_sequence_plus a_t_timers u_t_strokes u_t_faults u_t_log_times u_t_log_moves u_t_sequence_pauses u_t_sequence_outBefore u_t_sequence_cuts u_t_sequence_groupOfStep t_o t_circuit_o t_log_o t_positions_o t_score_o t_sequence t_sequence_minus t_sequence_plus t_timers_o) none := by
  refine bq_start (by decide) (Nat.le_of_ble_eq_true rfl) ?_
  intro p e s m av9 below meth c A ls Q H locs E K w hA hr hk hn hQ hl
  have E : bq_E p m c cX3_bringToRest 1 s av9 RX3 := E
  have hx := E.1
  have hb := E.2.1
  have hl : lv_has ls 1 [(0, .ref a_t)] := hl
  unfold mX3_bringToRest at hm
  refine lv_aload_n hx hb dX3_bringToRest_0 rfl (lv_at hl 0 rfl) ?_
  refine gt_X3_36 E K w 0 rfl rfl dX3_bringToRest_1 ?_
  refine lv_iconst (v := 0) hx hb dX3_bringToRest_4 (by decide) ?_
  obtain ⟨t_positions_1, hC, hm⟩ := bq_bd_el hm
  refine bq_S (As := [.ref a_t_positions, .int 0]) (rest := []) (st1 := []) (ws' := wdX3_bringToRest cI a_t a_t_circuit a_t_log a_t_positions a_t_score a_t_sequence a_t_sequence_minus a_t_sequence_plus a_t_timers u_t_strokes u_t_faults u_t_log_times u_t_log_moves u_t_sequence_pauses u_t_sequence_outBefore u_t_sequence_cuts u_t_sequence_groupOfStep t t_circuit t_log t_positions_1 t_score t_sequence t_sequence_minus t_sequence_plus t_timers) E K w hA (kJ7_fill_53178 l D cI cJ a_t_positions 6 t_positions 0 t_positions_1 hC) cd_J7_fill_53178 ml_X3_53 in_J7 st_J7_fill_53178 hs_J7_fill_53178 ⟨Nat.le_of_ble_eq_true rfl, Nat.le_of_ble_eq_true rfl⟩ ⟨Nat.le_of_ble_eq_true rfl, Nat.le_of_ble_eq_true rfl⟩ ⟨[3], [0, 1, 2, 4, 5, 6, 7, 8], [0, 1, 2, 8, 3, 4, 5, 6, 7], rfl, rfl, rfl, rfl, rfl, rfl, rfl, rfl, rfl⟩ rfl hl.1 rfl (Nat.le_of_ble_eq_true rfl) rfl dX3_bringToRest_5 (fun H locs w => bq_z ⟨rfl, rfl⟩ ?_)
  clear hC
  refine lv_aload_n hx hb dX3_bringToRest_8 rfl (lv_at hl 0 rfl) ?_
  refine gt_X3_39 E K w 0 rfl rfl dX3_bringToRest_9 ?_
  refine lv_iconst (v := 0) hx hb dX3_bringToRest_12 (by decide) ?_
  obtain ⟨t_timers_2, hC, hm⟩ := bq_bd_el hm
  refine bq_S (As := [.ref a_t_timers, .int 0]) (rest := []) (st1 := []) (ws' := wdX3_bringToRest cI a_t a_t_circuit a_t_log a_t_positions a_t_score a_t_sequence a_t_sequence_minus a_t_sequence_plus a_t_timers u_t_strokes u_t_faults u_t_log_times u_t_log_moves u_t_sequence_pauses u_t_sequence_outBefore u_t_sequence_cuts u_t_sequence_groupOfStep t t_circuit t_log t_positions_1 t_score t_sequence t_sequence_minus t_sequence_plus t_timers_2) E K w hA (kJ7_fill_53178 l D cI cJ a_t_timers 16 t_timers 0 t_timers_2 hC) cd_J7_fill_53178 ml_X3_53 in_J7 st_J7_fill_53178 hs_J7_fill_53178 ⟨Nat.le_of_ble_eq_true rfl, Nat.le_of_ble_eq_true rfl⟩ ⟨Nat.le_of_ble_eq_true rfl, Nat.le_of_ble_eq_true rfl⟩ ⟨[8], [0, 1, 2, 3, 4, 5, 6, 7], [0, 1, 2, 3, 4, 5, 6, 7, 8], rfl, rfl, rfl, rfl, rfl, rfl, rfl, rfl, rfl⟩ rfl hl.1 rfl (Nat.le_of_ble_eq_true rfl) rfl dX3_bringToRest_13 (fun H locs w => bq_z ⟨rfl, rfl⟩ ?_)
  clear hC
  refine lv_aload_n hx hb dX3_bringToRest_16 rfl (lv_at hl 0 rfl) ?_
  refine lv_iconst (v := 0) hx hb dX3_bringToRest_17 (by decide) ?_
  obtain ⟨t_3, e9, hm⟩ := bq_let_el hm
  refine pt_X3_59 E K w 0 rfl (Nat.le_of_ble_eq_true rfl) dX3_bringToRest_18 (fun H locs w => ?_)
  replace w : bq_w D A s.heap (wdX3_bringToRest cI a_t a_t_circuit a_t_log a_t_positions a_t_score a_t_sequence a_t_sequence_minus a_t_sequence_plus a_t_timers u_t_strokes u_t_faults u_t_log_times u_t_log_moves u_t_sequence_pauses u_t_sequence_outBefore u_t_sequence_cuts u_t_sequence_groupOfStep t_3 t_circuit t_log t_positions_1 t_score t_sequence t_sequence_minus t_sequence_plus t_timers_2) H locs := by rw [e9]; exact w
  clear e9
  refine lv_aload_n hx hb dX3_bringToRest_21 rfl (lv_at hl 0 rfl) ?_
  refine lv_iconst (v := 0) hx hb dX3_bringToRest_22 (by decide) ?_
  obtain ⟨t_4, e9, hm⟩ := bq_let_el hm
  refine pt_X3_63 E K w 0 rfl (Nat.le_of_ble_eq_true rfl) dX3_bringToRest_23 (fun H locs w => ?_)
  replace w : bq_w D A s.heap (wdX3_bringToRest cI a_t a_t_circuit a_t_log a_t_positions a_t_score a_t_sequence a_t_sequence_minus a_t_sequence_plus a_t_timers u_t_strokes u_t_faults u_t_log_times u_t_log_moves u_t_sequence_pauses u_t_sequence_outBefore u_t_sequence_cuts u_t_sequence_groupOfStep t_4 t_circuit t_log t_positions_1 t_score t_sequence t_sequence_minus t_sequence_plus t_timers_2) H locs := by rw [e9]; exact w
  clear e9
  refine lv_aload_n hx hb dX3_bringToRest_26 rfl (lv_at hl 0 rfl) ?_
  refine lv_iconst (v := 0) hx hb dX3_bringToRest_27 (by decide) ?_
  obtain ⟨t_5, e9, hm⟩ := bq_let_el hm
  refine pt_X3_66 E K w 0 rfl (Nat.le_of_ble_eq_true rfl) dX3_bringToRest_28 (fun H locs w => ?_)
  replace w : bq_w D A s.heap (wdX3_bringToRest cI a_t a_t_circuit a_t_log a_t_positions a_t_score a_t_sequence a_t_sequence_minus a_t_sequence_plus a_t_timers u_t_strokes u_t_faults u_t_log_times u_t_log_moves u_t_sequence_pauses u_t_sequence_outBefore u_t_sequence_cuts u_t_sequence_groupOfStep t_5 t_circuit t_log t_positions_1 t_score t_sequence t_sequence_minus t_sequence_plus t_timers_2) H locs := by rw [e9]; exact w
  clear e9
  refine lv_aload_n hx hb dX3_bringToRest_31 rfl (lv_at hl 0 rfl) ?_
  refine lv_iconst (v := 0) hx hb dX3_bringToRest_32 (by decide) ?_
  obtain ⟨t_6, e9, hm⟩ := bq_let_el hm
  refine pt_X3_69 E K w 0 rfl (Nat.le_of_ble_eq_true rfl) (by decide) dX3_bringToRest_33 (fun H locs w => ?_)
  replace w : bq_w D A s.heap (wdX3_bringToRest cI a_t a_t_circuit a_t_log a_t_positions a_t_score a_t_sequence a_t_sequence_minus a_t_sequence_plus a_t_timers u_t_strokes u_t_faults u_t_log_times u_t_log_moves u_t_sequence_pauses u_t_sequence_outBefore u_t_sequence_cuts u_t_sequence_groupOfStep t_6 t_circuit t_log t_positions_1 t_score t_sequence t_sequence_minus t_sequence_plus t_timers_2) H locs := by rw [e9]; exact w
  clear e9
  refine lv_aload_n hx hb dX3_bringToRest_36 rfl (lv_at hl 0 rfl) ?_
  refine gt_X3_12 E K w 0 rfl rfl dX3_bringToRest_37 ?_
  refine lv_aload_n hx hb dX3_bringToRest_40 rfl (lv_at hl 0 rfl) ?_
  refine gt_X3_49 E K w 0 rfl rfl dX3_bringToRest_41 ?_
  obtain ⟨t_circuit_7, hC, hm⟩ := bq_bd_el hm
  refine bq_V (As := [.ref a_t_sequence]) (rest := []) (st1 := []) (ws' := wdX3_bringToRest cI a_t a_t_circuit a_t_log a_t_positions a_t_score a_t_sequence a_t_sequence_minus a_t_sequence_plus a_t_timers u_t_strokes u_t_faults u_t_log_times u_t_log_moves u_t_sequence_pauses u_t_sequence_outBefore u_t_sequence_cuts u_t_sequence_groupOfStep t_6 t_circuit_7 t_log t_positions_1 t_score t_sequence t_sequence_minus t_sequence_plus t_timers_2) E K w hA (kX0_reset l D cI cJ a_t_circuit a_t_sequence a_t_sequence_plus a_t_sequence_minus u_t_sequence_pauses u_t_sequence_outBefore u_t_sequence_cuts u_t_sequence_groupOfStep t_circuit t_sequence t_circuit_7 hC) (bq_gV ml_X3_72 im_X0_reset sl_X0_reset in_X0 cd_X0_reset) hd_X0_reset ⟨Nat.le_of_ble_eq_true rfl, Nat.le_of_ble_eq_true rfl⟩ ⟨Nat.le_of_ble_eq_true rfl, Nat.le_of_ble_eq_true rfl⟩ ⟨[1, 5], [0, 2, 3, 4, 6, 7, 8], [0, 7, 1, 2, 3, 8, 4, 5, 6], rfl, rfl, rfl, rfl, rfl, rfl, rfl, rfl, rfl⟩ 1 rfl rfl rfl hl.1 rfl (Nat.le_of_ble_eq_true rfl) rfl dX3_bringToRest_44 (fun H locs w => bq_z ⟨rfl, rfl⟩ ?_)
  clear hC
  refine lv_aload_n hx hb dX3_bringToRest_47 rfl (lv_at hl 0 rfl) ?_
  refine gt_X3_21 E K w 0 rfl rfl dX3_bringToRest_48 ?_
  obtain ⟨t_log_8, hC, hm⟩ := bq_bd_el hm
  refine bq_V (As := []) (rest := []) (st1 := []) (ws' := wdX3_bringToRest cI a_t a_t_circuit a_t_log a_t_positions a_t_score a_t_sequence a_t_sequence_minus a_t_sequence_plus a_t_timers u_t_strokes u_t_faults u_t_log_times u_t_log_moves u_t_sequence_pauses u_t_sequence_outBefore u_t_sequence_cuts u_t_sequence_groupOfStep t_6 t_circuit_7 t_log_8 t_positions_1 t_score t_sequence t_sequence_minus t_sequence_plus t_timers_2) E K w hA (kX1_reset l D cI cJ a_t_log u_t_log_times u_t_log_moves t_log t_log_8 hC) (bq_gV ml_X3_76 im_X1_reset sl_X1_reset in_X1 cd_X1_reset) hd_X1_reset ⟨Nat.le_of_ble_eq_true rfl, Nat.le_of_ble_eq_true rfl⟩ ⟨Nat.le_of_ble_eq_true rfl, Nat.le_of_ble_eq_true rfl⟩ ⟨[2], [0, 1, 3, 4, 5, 6, 7, 8], [0, 1, 8, 2, 3, 4, 5, 6, 7], rfl, rfl, rfl, rfl, rfl, rfl, rfl, rfl, rfl⟩ 2 rfl rfl rfl hl.1 rfl (Nat.le_of_ble_eq_true rfl) rfl dX3_bringToRest_51 (fun H locs w => bq_z ⟨rfl, rfl⟩ ?_)
  clear hC
  refine lv_aload_n hx hb dX3_bringToRest_54 rfl (lv_at hl 0 rfl) ?_
  refine gt_X3_28 E K w 0 rfl rfl dX3_bringToRest_55 ?_
  refine lv_aload_n hx hb dX3_bringToRest_58 rfl (lv_at hl 0 rfl) ?_
  refine gt_X3_49 E K w 0 rfl rfl dX3_bringToRest_59 ?_
  obtain ⟨t_score_9, hC, hm⟩ := bq_bd_el hm
  refine bq_V (As := [.ref a_t_sequence]) (rest := []) (st1 := []) (ws' := wdX3_bringToRest cI a_t a_t_circuit a_t_log a_t_positions a_t_score a_t_sequence a_t_sequence_minus a_t_sequence_plus a_t_timers u_t_strokes u_t_faults u_t_log_times u_t_log_moves u_t_sequence_pauses u_t_sequence_outBefore u_t_sequence_cuts u_t_sequence_groupOfStep t_6 t_circuit_7 t_log_8 t_positions_1 t_score_9 t_sequence t_sequence_minus t_sequence_plus t_timers_2) E K w hA (kX4_reset l D cI cJ a_t_score a_t_sequence a_t_sequence_minus a_t_sequence_plus u_t_sequence_pauses u_t_sequence_outBefore u_t_sequence_cuts u_t_sequence_groupOfStep t_score t_sequence t_sequence_minus t_sequence_plus t_score_9 hC) (bq_gV ml_X3_78 im_X4_reset sl_X4_reset in_X4 cd_X4_reset) hd_X4_reset ⟨Nat.le_of_ble_eq_true rfl, Nat.le_of_ble_eq_true rfl⟩ ⟨Nat.le_of_ble_eq_true rfl, Nat.le_of_ble_eq_true rfl⟩ ⟨[4, 5, 6, 7], [0, 1, 2, 3, 8], [0, 1, 2, 3, 5, 6, 7, 8, 4], rfl, rfl, rfl, rfl, rfl, rfl, rfl, rfl, rfl⟩ 4 rfl rfl rfl hl.1 rfl (Nat.le_of_ble_eq_true rfl) rfl dX3_bringToRest_62 (fun H locs w => bq_z ⟨rfl, rfl⟩ ?_)
  clear hC
  obtain ⟨rfl, rfl, rfl, rfl, rfl, rfl⟩ := bq_in6 (Option.some.inj hm)
  exact bq_vret E w hr hk dX3_bringToRest_65 hQ
abbrev wdX3_putFault (cI : ClassId) (a_t a_t_faults u_t_sequence u_t_circuit u_t_log u_t_score u_t_strokes u_t_positions u_t_timers : Nat) (t : Nat → Int32) (t_faults : Nat → Int32) : va_W := [(a_t, oX3 u_t_sequence u_t_circuit u_t_log u_t_score u_t_strokes u_t_positions u_t_timers a_t_faults t), (a_t_faults, oA cI 5 t_faults)]
abbrev rmX3_putFault : Room := { frames := 0, cells := 0, slots := 0, locals := 0 }
theorem hd_X3_putFault : yX3_putFault.cls = RX3 ∧ yX3_putFault.cls ≠ "java/lang/invoke/MethodHandle" ∧ yX3_putFault.cls ≠ "java/lang/invoke/VarHandle" ∧ (parseMethodDescriptor yX3_putFault.desc).map (fun d => d.parameters.length) = some 3 := by decide +kernel
set_option maxHeartbeats 4000000 in
set_option maxRecDepth 100000 in
theorem kX3_putFault (l : Launch) (D : va_G) (cI cJ : ClassId) (a_t a_t_faults u_t_sequence u_t_circuit u_t_log u_t_score u_t_strokes u_t_positions u_t_timers : Nat) (t t_faults : Nat → Int32) (x1 : Int32) (x2 : Int32) (x3 : Int32) (t_faults_o : Nat → Int32) (hm : mX3_putFault t_faults x1 x2 x3 = some t_faults_o) : bq_M l D cI cJ yX3_putFault cX3_putFault 4 none rmX3_putFault [.ref a_t, .int x1, .int x2, .int x3] (wdX3_putFault cI a_t a_t_faults u_t_sequence u_t_circuit u_t_log u_t_score u_t_strokes u_t_positions u_t_timers t t_faults) (wdX3_putFault cI a_t a_t_faults u_t_sequence u_t_circuit u_t_log u_t_score u_t_strokes u_t_positions u_t_timers t t_faults_o) none := by
  refine bq_start (by decide) (Nat.le_of_ble_eq_true rfl) ?_
  intro p e s m av9 below meth c A ls Q H locs E K w hA hr hk hn hQ hl
  have E : bq_E p m c cX3_putFault 4 s av9 RX3 := E
  have hx := E.1
  have hb := E.2.1
  have hl : lv_has ls 4 [(0, .ref a_t), (1, .int x1), (2, .int x2), (3, .int x3)] := hl
  unfold mX3_putFault at hm
  refine lv_iload_n hx hb dX3_putFault_0 rfl (lv_at hl 3 rfl) ?_
  obtain ⟨t_faults_1, hT33, hm⟩ := bq_bd_el hm
  have K33 : ∀ (H : Heap) (locs : List Loc) (ls : Array Slot), bq_w D A s.heap (wdX3_putFault cI a_t a_t_faults u_t_sequence u_t_circuit u_t_log u_t_score u_t_strokes u_t_positions u_t_timers t t_faults_1) H locs → lv_has ls 4 [] → W p l e rmX3_putFault s m av9 below meth c H locs 0 0 Q (F0 m 33 ls []) := by
    intro H locs ls w hl
    obtain rfl := Option.some.inj hm
    exact bq_vret E w hr hk dX3_putFault_33 hQ
  clear hm
  refine lv_if_eq (tgt := 19) hx hb dX3_putFault_1 (by decide) (fun hc => ?_) (fun hc => ?_)
  · replace hT33 := bq_t hc hT33
    clear hc
    refine lv_aload_n hx hb dX3_putFault_19 rfl (lv_at hl 0 rfl) ?_
    refine gt_X3_42 E K w 0 rfl rfl dX3_putFault_20 ?_
    refine lv_iload_n hx hb dX3_putFault_23 rfl (lv_at hl 2 rfl) ?_
    refine lv_dup2_11 hx hb dX3_putFault_24 rfl rfl ?_
    obtain ⟨hI, hT33⟩ := bq_ci_el hT33
    refine bq_ald E K w 1 rfl hI dX3_putFault_25 ?_
    refine lv_iconst (v := 1) hx hb dX3_putFault_26 (by decide) ?_
    refine lv_iload_n hx hb dX3_putFault_27 rfl (lv_at hl 1 rfl) ?_
    refine lv_ishl hx hb dX3_putFault_28 ?_
    refine lv_iconst (v := (-1)) hx hb dX3_putFault_29 (by decide) ?_
    refine lv_ixor hx hb dX3_putFault_30 ?_
    refine lv_iand hx hb dX3_putFault_31 ?_
    obtain ⟨hI, hT33⟩ := bq_ci_el hT33
    obtain ⟨t_faults_2, e9, hT33⟩ := bq_let_el hT33
    refine bq_ast E K w 1 rfl hI dX3_putFault_32 (fun H locs w => ?_)
    replace w : bq_w D A s.heap (wdX3_putFault cI a_t a_t_faults u_t_sequence u_t_circuit u_t_log u_t_score u_t_strokes u_t_positions u_t_timers t t_faults_2) H locs := by rw [e9]; exact w
    clear e9
    obtain rfl := Option.some.inj hT33
    exact K33 H locs ls w (lv_sub hl [] rfl)
  · replace hT33 := bq_f hc hT33
    clear hc
    refine lv_aload_n hx hb dX3_putFault_4 rfl (lv_at hl 0 rfl) ?_
    refine gt_X3_42 E K w 0 rfl rfl dX3_putFault_5 ?_
    refine lv_iload_n hx hb dX3_putFault_8 rfl (lv_at hl 2 rfl) ?_
    refine lv_dup2_11 hx hb dX3_putFault_9 rfl rfl ?_
    obtain ⟨hI, hT33⟩ := bq_ci_el hT33
    refine bq_ald E K w 1 rfl hI dX3_putFault_10 ?_
    refine lv_iconst (v := 1) hx hb dX3_putFault_11 (by decide) ?_
    refine lv_iload_n hx hb dX3_putFault_12 rfl (lv_at hl 1 rfl) ?_
    refine lv_ishl hx hb dX3_putFault_13 ?_
    refine lv_ior hx hb dX3_putFault_14 ?_
    obtain ⟨hI, hT33⟩ := bq_ci_el hT33
    obtain ⟨t_faults_3, e9, hT33⟩ := bq_let_el hT33
    refine bq_ast E K w 1 rfl hI dX3_putFault_15 (fun H locs w => ?_)
    replace w : bq_w D A s.heap (wdX3_putFault cI a_t a_t_faults u_t_sequence u_t_circuit u_t_log u_t_score u_t_strokes u_t_positions u_t_timers t t_faults_3) H locs := by rw [e9]; exact w
    clear e9
    refine lv_goto (tgt := 33) hx hb dX3_putFault_16 (by decide) ?_
    obtain rfl := Option.some.inj hT33
    exact K33 H locs ls w (lv_sub hl [] rfl)
abbrev wdX3_sensedRetracted (cI : ClassId) (a_t a_t_faults a_t_positions u_t_sequence u_t_circuit u_t_log u_t_score u_t_strokes u_t_timers : Nat) (t : Nat → Int32) (t_faults : Nat → Int32) (t_positions : Nat → Int32) : va_W := [(a_t, oX3 u_t_sequence u_t_circuit u_t_log u_t_score u_t_strokes a_t_positions u_t_timers a_t_faults t), (a_t_faults, oA cI 5 t_faults), (a_t_positions, oA cI 6 t_positions)]
abbrev rmX3_sensedRetracted : Room := { frames := 0, cells := 0, slots := 0, locals := 0 }
theorem hd_X3_sensedRetracted : yX3_sensedRetracted.cls = RX3 ∧ yX3_sensedRetracted.cls ≠ "java/lang/invoke/MethodHandle" ∧ yX3_sensedRetracted.cls ≠ "java/lang/invoke/VarHandle" ∧ (parseMethodDescriptor yX3_sensedRetracted.desc).map (fun d => d.parameters.length) = some 0 := by decide +kernel
set_option maxHeartbeats 4000000 in
set_option maxRecDepth 100000 in
theorem kX3_sensedRetracted (l : Launch) (D : va_G) (cI cJ : ClassId) (a_t a_t_faults a_t_positions u_t_sequence u_t_circuit u_t_log u_t_score u_t_strokes u_t_timers : Nat) (t t_faults t_positions : Nat → Int32) (r : Int32) (hm : mX3_sensedRetracted t_faults t_positions = some r) : bq_M l D cI cJ yX3_sensedRetracted cX3_sensedRetracted 3 (some .int) rmX3_sensedRetracted [.ref a_t] (wdX3_sensedRetracted cI a_t a_t_faults a_t_positions u_t_sequence u_t_circuit u_t_log u_t_score u_t_strokes u_t_timers t t_faults t_positions) (wdX3_sensedRetracted cI a_t a_t_faults a_t_positions u_t_sequence u_t_circuit u_t_log u_t_score u_t_strokes u_t_timers t t_faults t_positions) (some (.int r)) := by
  refine bq_start (by decide) (Nat.le_of_ble_eq_true rfl) ?_
  intro p e s m av9 below meth c A ls Q H locs E K w hA hr hk hn hQ hl
  have E : bq_E p m c cX3_sensedRetracted 3 s av9 RX3 := E
  have hx := E.1
  have hb := E.2.1
  have hl : lv_has ls 3 [(0, .ref a_t)] := hl
  unfold mX3_sensedRetracted at hm
  refine lv_iconst (v := 0) hx hb dX3_sensedRetracted_0 (by decide) ?_
  refine lv_istore_n (lv' := [(1, .int 0), (0, .ref a_t)]) hx hb dX3_sensedRetracted_1 rfl hl (by decide) rfl (fun ls hl => ?_)
  refine lv_iconst (v := 0) hx hb dX3_sensedRetracted_2 (by decide) ?_
  refine lv_istore_n (lv' := [(2, .int 0), (1, .int 0), (0, .ref a_t)]) hx hb dX3_sensedRetracted_3 rfl hl (by decide) rfl (fun ls hl => ?_)
  obtain ⟨v3, hL, hm⟩ := bq_bd_el hm
  obtain ⟨B, eB, nn, hL⟩ := bq_loop_B hL
  have X31 : ∀ (H : Heap) (locs : List Loc) (ls : Array Slot), bq_w D A s.heap (wdX3_sensedRetracted cI a_t a_t_faults a_t_positions u_t_sequence u_t_circuit u_t_log u_t_score u_t_strokes u_t_timers t t_faults t_positions) H locs → lv_has ls 3 [(0, .ref a_t), (1, .int v3)] → W p l e rmX3_sensedRetracted s m av9 below meth c H locs 0 0 Q (F0 m 31 ls []) := by
    intro H locs ls w hl
    refine lv_iload_n hx hb dX3_sensedRetracted_31 rfl (lv_at hl 1 rfl) ?_
    refine lv_aload_n hx hb dX3_sensedRetracted_32 rfl (lv_at hl 0 rfl) ?_
    refine gt_X3_42 E K w 0 rfl rfl dX3_sensedRetracted_33 ?_
    refine lv_iconst (v := 2) hx hb dX3_sensedRetracted_36 (by decide) ?_
    refine bq_aldk E K w 1 rfl 2 (by decide) (by unfold vp_in; decide) dX3_sensedRetracted_37 ?_
    refine lv_ior hx hb dX3_sensedRetracted_38 ?_
    refine lv_aload_n hx hb dX3_sensedRetracted_39 rfl (lv_at hl 0 rfl) ?_
    refine gt_X3_42 E K w 0 rfl rfl dX3_sensedRetracted_40 ?_
    refine lv_iconst (v := 1) hx hb dX3_sensedRetracted_43 (by decide) ?_
    refine bq_aldk E K w 1 rfl 1 (by decide) (by unfold vp_in; decide) dX3_sensedRetracted_44 ?_
    refine lv_iconst (v := (-1)) hx hb dX3_sensedRetracted_45 (by decide) ?_
    refine lv_ixor hx hb dX3_sensedRetracted_46 ?_
    refine lv_iand hx hb dX3_sensedRetracted_47 ?_
    obtain rfl := Option.some.inj hm
    exact bq_iret E w hr hk dX3_sensedRetracted_48 hQ
  clear hm
  have L4 : ∀ (nn : Nat) (i1 : Int32) (i2 : Int32) (H : Heap) (locs : List Loc) (ls : Array Slot), bq_lp B nn (i1, i2) = some v3 → bq_w D A s.heap (wdX3_sensedRetracted cI a_t a_t_faults a_t_positions u_t_sequence u_t_circuit u_t_log u_t_score u_t_strokes u_t_timers t t_faults t_positions) H locs → lv_has ls 3 [(0, .ref a_t), (1, .int i2), (2, .int i1)] → W p l e rmX3_sensedRetracted s m av9 below meth c H locs 0 0 Q (F0 m 4 ls []) := by
    intro nn
    induction nn with
    | zero =>
      intro i1 i2 H locs ls hL w hl
      exact bq_lp_0 hL
    | succ nn ih =>
      intro i1 i2 H locs ls hL w hl
      obtain ⟨oo4, hT4, hR4⟩ := bq_lp_el hL
      clear hL
      replace hT4 := bq_u2_el eB hT4
      unfold bX3_sensedRetracted_4 at hT4
      refine lv_iload_n hx hb dX3_sensedRetracted_4 rfl (lv_at hl 2 rfl) ?_
      refine lv_bipush (v := 6) hx hb dX3_sensedRetracted_5 (by decide) ?_
      refine lv_icmp_ge (tgt := 31) hx hb dX3_sensedRetracted_7 (by decide) (fun hc => ?_) (fun hc => ?_)
      · replace hT4 := bq_t hc hT4
        clear hc
        obtain rfl := Option.some.inj hT4
        replace hR4 := bq_lk_r hR4
        subst hR4
        exact X31 H locs ls w (lv_sub hl [0, 1] rfl)
      · replace hT4 := bq_f hc hT4
        clear hc
        refine lv_aload_n hx hb dX3_sensedRetracted_10 rfl (lv_at hl 0 rfl) ?_
        refine gt_X3_36 E K w 0 rfl rfl dX3_sensedRetracted_11 ?_
        refine lv_iload_n hx hb dX3_sensedRetracted_14 rfl (lv_at hl 2 rfl) ?_
        obtain ⟨hI, hT4⟩ := bq_ci_el hT4
        refine bq_ald E K w 2 rfl hI dX3_sensedRetracted_15 ?_
        obtain ⟨v4, hT25, hT4⟩ := bq_let_el hT4
        have K25 : ∀ (H : Heap) (locs : List Loc) (ls : Array Slot), bq_w D A s.heap (wdX3_sensedRetracted cI a_t a_t_faults a_t_positions u_t_sequence u_t_circuit u_t_log u_t_score u_t_strokes u_t_timers t t_faults t_positions) H locs → lv_has ls 3 [(0, .ref a_t), (1, .int v4), (2, .int i1)] → W p l e rmX3_sensedRetracted s m av9 below meth c H locs 0 0 Q (F0 m 25 ls []) := by
          intro H locs ls w hl
          obtain ⟨v5, e9, hT4⟩ := bq_let_el hT4
          refine lv_iinc (v := v5) (lv' := [(2, .int v5), (0, .ref a_t), (1, .int v4)]) hx hb dX3_sensedRetracted_25 hl (k := 2) rfl (by rw [e9]; rfl) (by decide) rfl (fun ls hl => ?_)
          clear e9
          refine lv_goto (tgt := 4) hx hb dX3_sensedRetracted_28 (by decide) ?_
          obtain rfl := Option.some.inj hT4
          exact ih v5 v4 H locs ls hR4 w (lv_sub hl [1, 2, 0] rfl)
        clear hT4
        refine lv_if_ne (tgt := 25) hx hb dX3_sensedRetracted_16 (by decide) (fun hc => ?_) (fun hc => ?_)
        · replace hT25 := bq_ef hc hT25
          clear hc
          subst hT25
          exact K25 H locs ls w (lv_sub hl [0, 1, 2] rfl)
        · replace hT25 := bq_et hc hT25
          clear hc
          refine lv_iload_n hx hb dX3_sensedRetracted_19 rfl (lv_at hl 1 rfl) ?_
          refine lv_iconst (v := 1) hx hb dX3_sensedRetracted_20 (by decide) ?_
          refine lv_iload_n hx hb dX3_sensedRetracted_21 rfl (lv_at hl 2 rfl) ?_
          refine lv_ishl hx hb dX3_sensedRetracted_22 ?_
          refine lv_ior hx hb dX3_sensedRetracted_23 ?_
          refine lv_istore_n (lv' := [(1, .int (i2 ||| (1 <<< (i1 &&& 31)))), (0, .ref a_t), (2, .int i1)]) hx hb dX3_sensedRetracted_24 rfl hl (by decide) rfl (fun ls hl => ?_)
          subst hT25
          exact K25 H locs ls w (lv_sub hl [1, 0, 2] rfl)
  exact L4 nn 0 0 H locs ls hL w (lv_sub hl [2, 1, 0] rfl)
abbrev wdX3_sensedExtended (cI : ClassId) (a_t a_t_faults a_t_positions a_t_strokes u_t_sequence u_t_circuit u_t_log u_t_score u_t_timers : Nat) (t : Nat → Int32) (t_faults : Nat → Int32) (t_positions : Nat → Int32) (t_strokes : Nat → Int32) : va_W := [(a_t, oX3 u_t_sequence u_t_circuit u_t_log u_t_score a_t_strokes a_t_positions u_t_timers a_t_faults t), (a_t_faults, oA cI 5 t_faults), (a_t_positions, oA cI 6 t_positions), (a_t_strokes, oA cI 6 t_strokes)]
abbrev rmX3_sensedExtended : Room := { frames := 0, cells := 0, slots := 0, locals := 0 }
theorem hd_X3_sensedExtended : yX3_sensedExtended.cls = RX3 ∧ yX3_sensedExtended.cls ≠ "java/lang/invoke/MethodHandle" ∧ yX3_sensedExtended.cls ≠ "java/lang/invoke/VarHandle" ∧ (parseMethodDescriptor yX3_sensedExtended.desc).map (fun d => d.parameters.length) = some 0 := by decide +kernel
set_option maxHeartbeats 4000000 in
set_option maxRecDepth 100000 in
theorem kX3_sensedExtended (l : Launch) (D : va_G) (cI cJ : ClassId) (a_t a_t_faults a_t_positions a_t_strokes u_t_sequence u_t_circuit u_t_log u_t_score u_t_timers : Nat) (t t_faults t_positions t_strokes : Nat → Int32) (r : Int32) (hm : mX3_sensedExtended t_faults t_positions t_strokes = some r) : bq_M l D cI cJ yX3_sensedExtended cX3_sensedExtended 3 (some .int) rmX3_sensedExtended [.ref a_t] (wdX3_sensedExtended cI a_t a_t_faults a_t_positions a_t_strokes u_t_sequence u_t_circuit u_t_log u_t_score u_t_timers t t_faults t_positions t_strokes) (wdX3_sensedExtended cI a_t a_t_faults a_t_positions a_t_strokes u_t_sequence u_t_circuit u_t_log u_t_score u_t_timers t t_faults t_positions t_strokes) (some (.int r)) := by
  refine bq_start (by decide) (Nat.le_of_ble_eq_true rfl) ?_
  intro p e s m av9 below meth c A ls Q H locs E K w hA hr hk hn hQ hl
  have E : bq_E p m c cX3_sensedExtended 3 s av9 RX3 := E
  have hx := E.1
  have hb := E.2.1
  have hl : lv_has ls 3 [(0, .ref a_t)] := hl
  unfold mX3_sensedExtended at hm
  refine lv_iconst (v := 0) hx hb dX3_sensedExtended_0 (by decide) ?_
  refine lv_istore_n (lv' := [(1, .int 0), (0, .ref a_t)]) hx hb dX3_sensedExtended_1 rfl hl (by decide) rfl (fun ls hl => ?_)
  refine lv_iconst (v := 0) hx hb dX3_sensedExtended_2 (by decide) ?_
  refine lv_istore_n (lv' := [(2, .int 0), (1, .int 0), (0, .ref a_t)]) hx hb dX3_sensedExtended_3 rfl hl (by decide) rfl (fun ls hl => ?_)
  obtain ⟨v3, hL, hm⟩ := bq_bd_el hm
  obtain ⟨B, eB, nn, hL⟩ := bq_loop_B hL
  have X37 : ∀ (H : Heap) (locs : List Loc) (ls : Array Slot), bq_w D A s.heap (wdX3_sensedExtended cI a_t a_t_faults a_t_positions a_t_strokes u_t_sequence u_t_circuit u_t_log u_t_score u_t_timers t t_faults t_positions t_strokes) H locs → lv_has ls 3 [(0, .ref a_t), (1, .int v3)] → W p l e rmX3_sensedExtended s m av9 below meth c H locs 0 0 Q (F0 m 37 ls []) := by
    intro H locs ls w hl
    refine lv_iload_n hx hb dX3_sensedExtended_37 rfl (lv_at hl 1 rfl) ?_
    refine lv_aload_n hx hb dX3_sensedExtended_38 rfl (lv_at hl 0 rfl) ?_
    refine gt_X3_42 E K w 0 rfl rfl dX3_sensedExtended_39 ?_
    refine lv_iconst (v := 4) hx hb dX3_sensedExtended_42 (by decide) ?_
    refine bq_aldk E K w 1 rfl 4 (by decide) (by unfold vp_in; decide) dX3_sensedExtended_43 ?_
    refine lv_ior hx hb dX3_sensedExtended_44 ?_
    refine lv_aload_n hx hb dX3_sensedExtended_45 rfl (lv_at hl 0 rfl) ?_
    refine gt_X3_42 E K w 0 rfl rfl dX3_sensedExtended_46 ?_
    refine lv_iconst (v := 3) hx hb dX3_sensedExtended_49 (by decide) ?_
    refine bq_aldk E K w 1 rfl 3 (by decide) (by unfold vp_in; decide) dX3_sensedExtended_50 ?_
    refine lv_iconst (v := (-1)) hx hb dX3_sensedExtended_51 (by decide) ?_
    refine lv_ixor hx hb dX3_sensedExtended_52 ?_
    refine lv_iand hx hb dX3_sensedExtended_53 ?_
    obtain rfl := Option.some.inj hm
    exact bq_iret E w hr hk dX3_sensedExtended_54 hQ
  clear hm
  have L4 : ∀ (nn : Nat) (i1 : Int32) (i2 : Int32) (H : Heap) (locs : List Loc) (ls : Array Slot), bq_lp B nn (i1, i2) = some v3 → bq_w D A s.heap (wdX3_sensedExtended cI a_t a_t_faults a_t_positions a_t_strokes u_t_sequence u_t_circuit u_t_log u_t_score u_t_timers t t_faults t_positions t_strokes) H locs → lv_has ls 3 [(0, .ref a_t), (1, .int i2), (2, .int i1)] → W p l e rmX3_sensedExtended s m av9 below meth c H locs 0 0 Q (F0 m 4 ls []) := by
    intro nn
    induction nn with
    | zero =>
      intro i1 i2 H locs ls hL w hl
      exact bq_lp_0 hL
    | succ nn ih =>
      intro i1 i2 H locs ls hL w hl
      obtain ⟨oo4, hT4, hR4⟩ := bq_lp_el hL
      clear hL
      replace hT4 := bq_u2_el eB hT4
      unfold bX3_sensedExtended_4 at hT4
      refine lv_iload_n hx hb dX3_sensedExtended_4 rfl (lv_at hl 2 rfl) ?_
      refine lv_bipush (v := 6) hx hb dX3_sensedExtended_5 (by decide) ?_
      refine lv_icmp_ge (tgt := 37) hx hb dX3_sensedExtended_7 (by decide) (fun hc => ?_) (fun hc => ?_)
      · replace hT4 := bq_t hc hT4
        clear hc
        obtain rfl := Option.some.inj hT4
        replace hR4 := bq_lk_r hR4
        subst hR4
        exact X37 H locs ls w (lv_sub hl [0, 1] rfl)
      · replace hT4 := bq_f hc hT4
        clear hc
        refine lv_aload_n hx hb dX3_sensedExtended_10 rfl (lv_at hl 0 rfl) ?_
        refine gt_X3_36 E K w 0 rfl rfl dX3_sensedExtended_11 ?_
        refine lv_iload_n hx hb dX3_sensedExtended_14 rfl (lv_at hl 2 rfl) ?_
        obtain ⟨hI, hT4⟩ := bq_ci_el hT4
        refine bq_ald E K w 2 rfl hI dX3_sensedExtended_15 ?_
        refine lv_aload_n hx hb dX3_sensedExtended_16 rfl (lv_at hl 0 rfl) ?_
        refine gt_X3_32 E K w 0 rfl rfl dX3_sensedExtended_17 ?_
        refine lv_iload_n hx hb dX3_sensedExtended_20 rfl (lv_at hl 2 rfl) ?_
        obtain ⟨hI, hT4⟩ := bq_ci_el hT4
        refine bq_ald E K w 3 rfl hI dX3_sensedExtended_21 ?_
        obtain ⟨v4, hT31, hT4⟩ := bq_let_el hT4
        have K31 : ∀ (H : Heap) (locs : List Loc) (ls : Array Slot), bq_w D A s.heap (wdX3_sensedExtended cI a_t a_t_faults a_t_positions a_t_strokes u_t_sequence u_t_circuit u_t_log u_t_score u_t_timers t t_faults t_positions t_strokes) H locs → lv_has ls 3 [(0, .ref a_t), (1, .int v4), (2, .int i1)] → W p l e rmX3_sensedExtended s m av9 below meth c H locs 0 0 Q (F0 m 31 ls []) := by
          intro H locs ls w hl
          obtain ⟨v5, e9, hT4⟩ := bq_let_el hT4
          refine lv_iinc (v := v5) (lv' := [(2, .int v5), (0, .ref a_t), (1, .int v4)]) hx hb dX3_sensedExtended_31 hl (k := 2) rfl (by rw [e9]; rfl) (by decide) rfl (fun ls hl => ?_)
          clear e9
          refine lv_goto (tgt := 4) hx hb dX3_sensedExtended_34 (by decide) ?_
          obtain rfl := Option.some.inj hT4
          exact ih v5 v4 H locs ls hR4 w (lv_sub hl [1, 2, 0] rfl)
        clear hT4
        refine lv_icmp_ne (tgt := 31) hx hb dX3_sensedExtended_22 (by decide) (fun hc => ?_) (fun hc => ?_)
        · replace hT31 := bq_ef hc hT31
          clear hc
          subst hT31
          exact K31 H locs ls w (lv_sub hl [0, 1, 2] rfl)
        · replace hT31 := bq_et hc hT31
          clear hc
          refine lv_iload_n hx hb dX3_sensedExtended_25 rfl (lv_at hl 1 rfl) ?_
          refine lv_iconst (v := 1) hx hb dX3_sensedExtended_26 (by decide) ?_
          refine lv_iload_n hx hb dX3_sensedExtended_27 rfl (lv_at hl 2 rfl) ?_
          refine lv_ishl hx hb dX3_sensedExtended_28 ?_
          refine lv_ior hx hb dX3_sensedExtended_29 ?_
          refine lv_istore_n (lv' := [(1, .int (i2 ||| (1 <<< (i1 &&& 31)))), (0, .ref a_t), (2, .int i1)]) hx hb dX3_sensedExtended_30 rfl hl (by decide) rfl (fun ls hl => ?_)
          subst hT31
          exact K31 H locs ls w (lv_sub hl [1, 0, 2] rfl)
  exact L4 nn 0 0 H locs ls hL w (lv_sub hl [2, 1, 0] rfl)
abbrev wdX3_completeSteps (cI : ClassId) (a_t a_t_faults a_t_positions a_t_sequence a_t_sequence_minus a_t_sequence_pauses a_t_sequence_plus a_t_strokes a_t_timers u_t_circuit u_t_log u_t_score u_t_sequence_outBefore u_t_sequence_cuts u_t_sequence_groupOfStep : Nat) (t : Nat → Int32) (t_faults : Nat → Int32) (t_positions : Nat → Int32) (t_sequence : Nat → Int32) (t_sequence_minus : Nat → Int32) (t_sequence_pauses : Nat → Int32) (t_sequence_plus : Nat → Int32) (t_strokes : Nat → Int32) (t_timers : Nat → Int32) : va_W := [(a_t, oX3 a_t_sequence u_t_circuit u_t_log u_t_score a_t_strokes a_t_positions a_t_timers a_t_faults t), (a_t_faults, oA cI 5 t_faults), (a_t_positions, oA cI 6 t_positions), (a_t_sequence, oX5 a_t_sequence_plus a_t_sequence_minus a_t_sequence_pauses u_t_sequence_outBefore u_t_sequence_cuts u_t_sequence_groupOfStep t_sequence), (a_t_sequence_minus, oA cI 16 t_sequence_minus), (a_t_sequence_pauses, oA cI 16 t_sequence_pauses), (a_t_sequence_plus, oA cI 16 t_sequence_plus), (a_t_strokes, oA cI 6 t_strokes), (a_t_timers, oA cI 16 t_timers)]
abbrev rmX3_completeSteps : Room := { frames := 1, cells := 0, slots := 0, locals := 22 }
theorem hd_X3_completeSteps : yX3_completeSteps.cls = RX3 ∧ yX3_completeSteps.cls ≠ "java/lang/invoke/MethodHandle" ∧ yX3_completeSteps.cls ≠ "java/lang/invoke/VarHandle" ∧ (parseMethodDescriptor yX3_completeSteps.desc).map (fun d => d.parameters.length) = some 0 := by decide +kernel
set_option maxHeartbeats 4000000 in
set_option maxRecDepth 100000 in
theorem kX3_completeSteps (l : Launch) (D : va_G) (cI cJ : ClassId) (a_t a_t_faults a_t_positions a_t_sequence a_t_sequence_minus a_t_sequence_pauses a_t_sequence_plus a_t_strokes a_t_timers u_t_circuit u_t_log u_t_score u_t_sequence_outBefore u_t_sequence_cuts u_t_sequence_groupOfStep : Nat) (t t_faults t_positions t_sequence t_sequence_minus t_sequence_pauses t_sequence_plus t_strokes t_timers : Nat → Int32) (r : Int32) (hm : mX3_completeSteps t_faults t_positions t_sequence t_sequence_minus t_sequence_pauses t_sequence_plus t_strokes t_timers = some r) : bq_M l D cI cJ yX3_completeSteps cX3_completeSteps 5 (some .int) rmX3_completeSteps [.ref a_t] (wdX3_completeSteps cI a_t a_t_faults a_t_positions a_t_sequence a_t_sequence_minus a_t_sequence_pauses a_t_sequence_plus a_t_strokes a_t_timers u_t_circuit u_t_log u_t_score u_t_sequence_outBefore u_t_sequence_cuts u_t_sequence_groupOfStep t t_faults t_positions t_sequence t_sequence_minus t_sequence_pauses t_sequence_plus t_strokes t_timers) (wdX3_completeSteps cI a_t a_t_faults a_t_positions a_t_sequence a_t_sequence_minus a_t_sequence_pauses a_t_sequence_plus a_t_strokes a_t_timers u_t_circuit u_t_log u_t_score u_t_sequence_outBefore u_t_sequence_cuts u_t_sequence_groupOfStep t t_faults t_positions t_sequence t_sequence_minus t_sequence_pauses t_sequence_plus t_strokes t_timers) (some (.int r)) := by
  refine bq_start (by decide) (Nat.le_of_ble_eq_true rfl) ?_
  intro p e s m av9 below meth c A ls Q H locs E K w hA hr hk hn hQ hl
  have E : bq_E p m c cX3_completeSteps 5 s av9 RX3 := E
  have hx := E.1
  have hb := E.2.1
  have hl : lv_has ls 5 [(0, .ref a_t)] := hl
  unfold mX3_completeSteps at hm
  refine lv_aload_n hx hb dX3_completeSteps_0 rfl (lv_at hl 0 rfl) ?_
  obtain ⟨v1, hC, hm⟩ := bq_bd_el hm
  refine bq_V (As := []) (rest := []) (st1 := [.int v1]) (ws' := wdX3_completeSteps cI a_t a_t_faults a_t_positions a_t_sequence a_t_sequence_minus a_t_sequence_pauses a_t_sequence_plus a_t_strokes a_t_timers u_t_circuit u_t_log u_t_score u_t_sequence_outBefore u_t_sequence_cuts u_t_sequence_groupOfStep t t_faults t_positions t_sequence t_sequence_minus t_sequence_pauses t_sequence_plus t_strokes t_timers) E K w hA (kX3_sensedRetracted l D cI cJ a_t a_t_faults a_t_positions a_t_sequence u_t_circuit u_t_log u_t_score a_t_strokes a_t_timers t t_faults t_positions v1 hC) (bq_gV ml_X3_115 im_X3_sensedRetracted sl_X3_sensedRetracted in_X3 cd_X3_sensedRetracted) hd_X3_sensedRetracted ⟨Nat.le_of_ble_eq_true rfl, Nat.le_of_ble_eq_true rfl⟩ ⟨Nat.le_of_ble_eq_true rfl, Nat.le_of_ble_eq_true rfl⟩ ⟨[0, 1, 2], [3, 4, 5, 6, 7, 8], [6, 7, 8, 0, 1, 2, 3, 4, 5], rfl, rfl, rfl, rfl, rfl, rfl, rfl, rfl, rfl⟩ 0 rfl rfl rfl hl.1 rfl (Nat.le_of_ble_eq_true rfl) rfl dX3_completeSteps_1 (fun H locs w => bq_z ⟨rfl, rfl⟩ ?_)
  clear hC
  refine lv_iconst (v := (-1)) hx hb dX3_completeSteps_4 (by decide) ?_
  refine lv_ixor hx hb dX3_completeSteps_5 ?_
  obtain ⟨v2, e9, hm⟩ := bq_let_el hm
  refine bq_nmi e9 ?_
  clear e9
  refine lv_istore_n (lv' := [(1, .int v2), (0, .ref a_t)]) hx hb dX3_completeSteps_6 rfl hl (by decide) rfl (fun ls hl => ?_)
  refine lv_aload_n hx hb dX3_completeSteps_7 rfl (lv_at hl 1 rfl) ?_
  obtain ⟨v3, hC, hm⟩ := bq_bd_el hm
  refine bq_V (As := []) (rest := []) (st1 := [.int v3]) (ws' := wdX3_completeSteps cI a_t a_t_faults a_t_positions a_t_sequence a_t_sequence_minus a_t_sequence_pauses a_t_sequence_plus a_t_strokes a_t_timers u_t_circuit u_t_log u_t_score u_t_sequence_outBefore u_t_sequence_cuts u_t_sequence_groupOfStep t t_faults t_positions t_sequence t_sequence_minus t_sequence_pauses t_sequence_plus t_strokes t_timers) E K w hA (kX3_sensedExtended l D cI cJ a_t a_t_faults a_t_positions a_t_strokes a_t_sequence u_t_circuit u_t_log u_t_score a_t_timers t t_faults t_positions t_strokes v3 hC) (bq_gV ml_X3_118 im_X3_sensedExtended sl_X3_sensedExtended in_X3 cd_X3_sensedExtended) hd_X3_sensedExtended ⟨Nat.le_of_ble_eq_true rfl, Nat.le_of_ble_eq_true rfl⟩ ⟨Nat.le_of_ble_eq_true rfl, Nat.le_of_ble_eq_true rfl⟩ ⟨[0, 1, 2, 7], [3, 4, 5, 6, 8], [5, 6, 7, 0, 1, 2, 3, 8, 4], rfl, rfl, rfl, rfl, rfl, rfl, rfl, rfl, rfl⟩ 0 rfl rfl rfl hl.1 rfl (Nat.le_of_ble_eq_true rfl) rfl dX3_completeSteps_8 (fun H locs w => bq_z ⟨rfl, rfl⟩ ?_)
  clear hC
  refine lv_iconst (v := (-1)) hx hb dX3_completeSteps_11 (by decide) ?_
  refine lv_ixor hx hb dX3_completeSteps_12 ?_
  obtain ⟨v4, e9, hm⟩ := bq_let_el hm
  refine bq_nmi e9 ?_
  clear e9
  refine lv_istore_n (lv' := [(2, .int v4), (1, .int v2), (0, .ref a_t)]) hx hb dX3_completeSteps_13 rfl hl (by decide) rfl (fun ls hl => ?_)
  refine lv_iconst (v := 0) hx hb dX3_completeSteps_14 (by decide) ?_
  refine lv_istore_n (lv' := [(3, .int 0), (2, .int v4), (1, .int v2), (0, .ref a_t)]) hx hb dX3_completeSteps_15 rfl hl (by decide) rfl (fun ls hl => ?_)
  refine lv_iconst (v := 0) hx hb dX3_completeSteps_16 (by decide) ?_
  refine lv_istore (lv' := [(4, .int 0), (3, .int 0), (2, .int v4), (1, .int v2), (0, .ref a_t)]) hx hb dX3_completeSteps_17 hl (by decide) rfl (fun ls hl => ?_)
  obtain ⟨v7, hL, hm⟩ := bq_bd_el hm
  obtain ⟨B, eB, nn, hL⟩ := bq_loop_B hL
  have X94 : ∀ (H : Heap) (locs : List Loc) (ls : Array Slot), bq_w D A s.heap (wdX3_completeSteps cI a_t a_t_faults a_t_positions a_t_sequence a_t_sequence_minus a_t_sequence_pauses a_t_sequence_plus a_t_strokes a_t_timers u_t_circuit u_t_log u_t_score u_t_sequence_outBefore u_t_sequence_cuts u_t_sequence_groupOfStep t t_faults t_positions t_sequence t_sequence_minus t_sequence_pauses t_sequence_plus t_strokes t_timers) H locs → lv_has ls 5 [(3, .int v7)] → W p l e rmX3_completeSteps s m av9 below meth c H locs 0 0 Q (F0 m 94 ls []) := by
    intro H locs ls w hl
    refine lv_iload_n hx hb dX3_completeSteps_94 rfl (lv_at hl 0 rfl) ?_
    obtain rfl := Option.some.inj hm
    exact bq_iret E w hr hk dX3_completeSteps_95 hQ
  clear hm
  have L19 : ∀ (nn : Nat) (i5 : Int32) (i6 : Int32) (H : Heap) (locs : List Loc) (ls : Array Slot), bq_lp B nn (i5, i6) = some v7 → bq_w D A s.heap (wdX3_completeSteps cI a_t a_t_faults a_t_positions a_t_sequence a_t_sequence_minus a_t_sequence_pauses a_t_sequence_plus a_t_strokes a_t_timers u_t_circuit u_t_log u_t_score u_t_sequence_outBefore u_t_sequence_cuts u_t_sequence_groupOfStep t t_faults t_positions t_sequence t_sequence_minus t_sequence_pauses t_sequence_plus t_strokes t_timers) H locs → lv_has ls 5 [(0, .ref a_t), (1, .int v2), (2, .int v4), (3, .int i6), (4, .int i5)] → W p l e rmX3_completeSteps s m av9 below meth c H locs 0 0 Q (F0 m 19 ls []) := by
    intro nn
    induction nn with
    | zero =>
      intro i5 i6 H locs ls hL w hl
      exact bq_lp_0 hL
    | succ nn ih =>
      intro i5 i6 H locs ls hL w hl
      obtain ⟨oo19, hT19, hR19⟩ := bq_lp_el hL
      clear hL
      replace hT19 := bq_u2_el eB hT19
      unfold bX3_completeSteps_19 at hT19
      refine lv_iload hx hb dX3_completeSteps_19 (lv_at hl 4 rfl) ?_
      refine lv_aload_n hx hb dX3_completeSteps_21 rfl (lv_at hl 0 rfl) ?_
      refine gt_X3_49 E K w 0 rfl rfl dX3_completeSteps_22 ?_
      refine gt_X3_121 E K w 3 rfl rfl dX3_completeSteps_25 ?_
      refine lv_icmp_ge (tgt := 94) hx hb dX3_completeSteps_28 (by decide) (fun hc => ?_) (fun hc => ?_)
      · replace hT19 := bq_t hc hT19
        clear hc
        obtain rfl := Option.some.inj hT19
        replace hR19 := bq_lk_r hR19
        subst hR19
        exact X94 H locs ls w (lv_sub hl [3] rfl)
      · replace hT19 := bq_f hc hT19
        clear hc
        refine lv_aload_n hx hb dX3_completeSteps_31 rfl (lv_at hl 0 rfl) ?_
        refine gt_X3_49 E K w 0 rfl rfl dX3_completeSteps_32 ?_
        refine gt_X3_126 E K w 3 rfl rfl dX3_completeSteps_35 ?_
        refine lv_iload hx hb dX3_completeSteps_38 (lv_at hl 4 rfl) ?_
        obtain ⟨hI, hT19⟩ := bq_ci_el hT19
        refine bq_ald E K w 6 rfl hI dX3_completeSteps_40 ?_
        refine lv_iload_n hx hb dX3_completeSteps_41 rfl (lv_at hl 2 rfl) ?_
        refine lv_iand hx hb dX3_completeSteps_42 ?_
        obtain ⟨v8, hT88, hT19⟩ := bq_bd_el hT19
        have K88 : ∀ (H : Heap) (locs : List Loc) (ls : Array Slot), bq_w D A s.heap (wdX3_completeSteps cI a_t a_t_faults a_t_positions a_t_sequence a_t_sequence_minus a_t_sequence_pauses a_t_sequence_plus a_t_strokes a_t_timers u_t_circuit u_t_log u_t_score u_t_sequence_outBefore u_t_sequence_cuts u_t_sequence_groupOfStep t t_faults t_positions t_sequence t_sequence_minus t_sequence_pauses t_sequence_plus t_strokes t_timers) H locs → lv_has ls 5 [(0, .ref a_t), (1, .int v2), (2, .int v4), (3, .int v8), (4, .int i5)] → W p l e rmX3_completeSteps s m av9 below meth c H locs 0 0 Q (F0 m 88 ls []) := by
          intro H locs ls w hl
          obtain ⟨v10, e9, hT19⟩ := bq_let_el hT19
          refine lv_iinc (v := v10) (lv' := [(4, .int v10), (0, .ref a_t), (1, .int v2), (2, .int v4), (3, .int v8)]) hx hb dX3_completeSteps_88 hl (k := 4) rfl (by rw [e9]; rfl) (by decide) rfl (fun ls hl => ?_)
          clear e9
          refine lv_goto (tgt := 19) hx hb dX3_completeSteps_91 (by decide) ?_
          obtain rfl := Option.some.inj hT19
          exact ih v10 v8 H locs ls hR19 w (lv_sub hl [1, 2, 3, 4, 0] rfl)
        clear hT19
        refine lv_if_ne (tgt := 88) hx hb dX3_completeSteps_43 (by decide) (fun hc => ?_) (fun hc => ?_)
        · replace hT88 := bq_f hc hT88
          clear hc
          obtain rfl := Option.some.inj hT88
          exact K88 H locs ls w (lv_sub hl [0, 1, 2, 3, 4] rfl)
        · replace hT88 := bq_t hc hT88
          clear hc
          refine lv_aload_n hx hb dX3_completeSteps_46 rfl (lv_at hl 0 rfl) ?_
          refine gt_X3_49 E K w 0 rfl rfl dX3_completeSteps_47 ?_
          refine gt_X3_129 E K w 3 rfl rfl dX3_completeSteps_50 ?_
          refine lv_iload hx hb dX3_completeSteps_53 (lv_at hl 4 rfl) ?_
          obtain ⟨hI, hT88⟩ := bq_ci_el hT88
          refine bq_ald E K w 4 rfl hI dX3_completeSteps_55 ?_
          refine lv_iload_n hx hb dX3_completeSteps_56 rfl (lv_at hl 1 rfl) ?_
          refine lv_iand hx hb dX3_completeSteps_57 ?_
          refine lv_if_ne (tgt := 88) hx hb dX3_completeSteps_58 (by decide) (fun hc => ?_) (fun hc => ?_)
          · replace hT88 := bq_f hc hT88
            clear hc
            obtain rfl := Option.some.inj hT88
            exact K88 H locs ls w (lv_sub hl [0, 1, 2, 3, 4] rfl)
          · replace hT88 := bq_t hc hT88
            clear hc
            refine lv_aload_n hx hb dX3_completeSteps_61 rfl (lv_at hl 0 rfl) ?_
            refine gt_X3_39 E K w 0 rfl rfl dX3_completeSteps_62 ?_
            refine lv_iload hx hb dX3_completeSteps_65 (lv_at hl 4 rfl) ?_
            obtain ⟨hI, hT88⟩ := bq_ci_el hT88
            refine bq_ald E K w 8 rfl hI dX3_completeSteps_67 ?_
            refine lv_aload_n hx hb dX3_completeSteps_68 rfl (lv_at hl 0 rfl) ?_
            refine gt_X3_49 E K w 0 rfl rfl dX3_completeSteps_69 ?_
            refine gt_X3_132 E K w 3 rfl rfl dX3_completeSteps_72 ?_
            refine lv_iload hx hb dX3_completeSteps_75 (lv_at hl 4 rfl) ?_
            obtain ⟨hI, hT88⟩ := bq_ci_el hT88
            refine bq_ald E K w 5 rfl hI dX3_completeSteps_77 ?_
            refine lv_icmp_lt (tgt := 88) hx hb dX3_completeSteps_78 (by decide) (fun hc => ?_) (fun hc => ?_)
            · replace hT88 := bq_t hc hT88
              clear hc
              obtain rfl := Option.some.inj hT88
              exact K88 H locs ls w (lv_sub hl [0, 1, 2, 3, 4] rfl)
            · replace hT88 := bq_f hc hT88
              clear hc
              refine lv_iload_n hx hb dX3_completeSteps_81 rfl (lv_at hl 3 rfl) ?_
              refine lv_iconst (v := 1) hx hb dX3_completeSteps_82 (by decide) ?_
              refine lv_iload hx hb dX3_completeSteps_83 (lv_at hl 4 rfl) ?_
              refine lv_ishl hx hb dX3_completeSteps_85 ?_
              refine lv_ior hx hb dX3_completeSteps_86 ?_
              obtain ⟨v9, e9, hT88⟩ := bq_let_el hT88
              refine bq_nmi e9 ?_
              clear e9
              refine lv_istore_n (lv' := [(3, .int v9), (0, .ref a_t), (1, .int v2), (2, .int v4), (4, .int i5)]) hx hb dX3_completeSteps_87 rfl hl (by decide) rfl (fun ls hl => ?_)
              obtain rfl := Option.some.inj hT88
              exact K88 H locs ls w (lv_sub hl [1, 2, 3, 0, 4] rfl)
  exact L19 nn 0 0 H locs ls hL w (lv_sub hl [4, 3, 2, 1, 0] rfl)
abbrev wdX3_shiftValves (cI : ClassId) (a_t a_t_circuit a_t_log a_t_log_moves a_t_log_times a_t_score a_t_sequence a_t_sequence_minus a_t_sequence_plus u_t_strokes u_t_positions u_t_timers u_t_faults u_t_sequence_pauses u_t_sequence_outBefore u_t_sequence_cuts u_t_sequence_groupOfStep : Nat) (t : Nat → Int32) (t_circuit : Nat → Int32) (t_log : Nat → Int32) (t_log_moves : Nat → Int32) (t_log_times : Nat → Int32) (t_score : Nat → Int32) (t_sequence : Nat → Int32) (t_sequence_minus : Nat → Int32) (t_sequence_plus : Nat → Int32) : va_W := [(a_t, oX3 a_t_sequence a_t_circuit a_t_log a_t_score u_t_strokes u_t_positions u_t_timers u_t_faults t), (a_t_circuit, oX0 t_circuit), (a_t_log, oX1 a_t_log_times a_t_log_moves t_log), (a_t_log_moves, oA cI 40 t_log_moves), (a_t_log_times, oA cI 40 t_log_times), (a_t_score, oX4 t_score), (a_t_sequence, oX5 a_t_sequence_plus a_t_sequence_minus u_t_sequence_pauses u_t_sequence_outBefore u_t_sequence_cuts u_t_sequence_groupOfStep t_sequence), (a_t_sequence_minus, oA cI 16 t_sequence_minus), (a_t_sequence_plus, oA cI 16 t_sequence_plus)]
abbrev rmX3_shiftValves : Room := { frames := 2, cells := 0, slots := 0, locals := 47 }
theorem hd_X3_shiftValves : yX3_shiftValves.cls = RX3 ∧ yX3_shiftValves.cls ≠ "java/lang/invoke/MethodHandle" ∧ yX3_shiftValves.cls ≠ "java/lang/invoke/VarHandle" ∧ (parseMethodDescriptor yX3_shiftValves.desc).map (fun d => d.parameters.length) = some 0 := by decide +kernel
set_option maxHeartbeats 4000000 in
set_option maxRecDepth 100000 in
theorem kX3_shiftValves (l : Launch) (D : va_G) (cI cJ : ClassId) (a_t a_t_circuit a_t_log a_t_log_moves a_t_log_times a_t_score a_t_sequence a_t_sequence_minus a_t_sequence_plus u_t_strokes u_t_positions u_t_timers u_t_faults u_t_sequence_pauses u_t_sequence_outBefore u_t_sequence_cuts u_t_sequence_groupOfStep : Nat) (t t_circuit t_log t_log_moves t_log_times t_score t_sequence t_sequence_minus t_sequence_plus : Nat → Int32) (r : Int32) (t_o : Nat → Int32) (t_log_o : Nat → Int32) (t_log_moves_o : Nat → Int32) (t_log_times_o : Nat → Int32) (t_score_o : Nat → Int32) (hm : mX3_shiftValves t t_circuit t_log t_log_moves t_log_times t_score t_sequence t_sequence_minus t_sequence_plus = some (r, t_o, t_log_o, t_log_moves_o, t_log_times_o, t_score_o)) : bq_M l D cI cJ yX3_shiftValves cX3_shiftValves 6 (some .boolean) rmX3_shiftValves [.ref a_t] (wdX3_shiftValves cI a_t a_t_circuit a_t_log a_t_log_moves a_t_log_times a_t_score a_t_sequence a_t_sequence_minus a_t_sequence_plus u_t_strokes u_t_positions u_t_timers u_t_faults u_t_sequence_pauses u_t_sequence_outBefore u_t_sequence_cuts u_t_sequence_groupOfStep t t_circuit t_log t_log_moves t_log_times t_score t_sequence t_sequence_minus t_sequence_plus) (wdX3_shiftValves cI a_t a_t_circuit a_t_log a_t_log_moves a_t_log_times a_t_score a_t_sequence a_t_sequence_minus a_t_sequence_plus u_t_strokes u_t_positions u_t_timers u_t_faults u_t_sequence_pauses u_t_sequence_outBefore u_t_sequence_cuts u_t_sequence_groupOfStep t_o t_circuit t_log_o t_log_moves_o t_log_times_o t_score_o t_sequence t_sequence_minus t_sequence_plus) (some (.int r)) := by
  refine bq_start (by decide) (Nat.le_of_ble_eq_true rfl) ?_
  intro p e s m av9 below meth c A ls Q H locs E K w hA hr hk hn hQ hl
  have E : bq_E p m c cX3_shiftValves 6 s av9 RX3 := E
  have hx := E.1
  have hb := E.2.1
  have hl : lv_has ls 6 [(0, .ref a_t)] := hl
  unfold mX3_shiftValves at hm
  refine lv_aload_n hx hb dX3_shiftValves_0 rfl (lv_at hl 0 rfl) ?_
  refine gt_X3_12 E K w 0 rfl rfl dX3_shiftValves_1 ?_
  refine gt_X3_135 E K w 1 rfl rfl dX3_shiftValves_4 ?_
  refine lv_aload_n hx hb dX3_shiftValves_7 rfl (lv_at hl 0 rfl) ?_
  refine gt_X3_12 E K w 0 rfl rfl dX3_shiftValves_8 ?_
  refine gt_X3_138 E K w 1 rfl rfl dX3_shiftValves_11 ?_
  refine lv_iconst (v := (-1)) hx hb dX3_shiftValves_14 (by decide) ?_
  refine lv_ixor hx hb dX3_shiftValves_15 ?_
  refine lv_iand hx hb dX3_shiftValves_16 ?_
  refine lv_aload_n hx hb dX3_shiftValves_17 rfl (lv_at hl 0 rfl) ?_
  refine gt_X3_59 E K w 0 rfl rfl dX3_shiftValves_18 ?_
  refine lv_iconst (v := (-1)) hx hb dX3_shiftValves_21 (by decide) ?_
  refine lv_ixor hx hb dX3_shiftValves_22 ?_
  refine lv_iand hx hb dX3_shiftValves_23 ?_
  obtain ⟨v1, e9, hm⟩ := bq_let_el hm
  refine bq_nmi e9 ?_
  clear e9
  refine lv_istore_n (lv' := [(1, .int v1), (0, .ref a_t)]) hx hb dX3_shiftValves_24 rfl hl (by decide) rfl (fun ls hl => ?_)
  refine lv_aload_n hx hb dX3_shiftValves_25 rfl (lv_at hl 1 rfl) ?_
  refine gt_X3_12 E K w 0 rfl rfl dX3_shiftValves_26 ?_
  refine gt_X3_138 E K w 1 rfl rfl dX3_shiftValves_29 ?_
  refine lv_aload_n hx hb dX3_shiftValves_32 rfl (lv_at hl 1 rfl) ?_
  refine gt_X3_12 E K w 0 rfl rfl dX3_shiftValves_33 ?_
  refine gt_X3_135 E K w 1 rfl rfl dX3_shiftValves_36 ?_
  refine lv_iconst (v := (-1)) hx hb dX3_shiftValves_39 (by decide) ?_
  refine lv_ixor hx hb dX3_shiftValves_40 ?_
  refine lv_iand hx hb dX3_shiftValves_41 ?_
  refine lv_aload_n hx hb dX3_shiftValves_42 rfl (lv_at hl 1 rfl) ?_
  refine gt_X3_59 E K w 0 rfl rfl dX3_shiftValves_43 ?_
  refine lv_iand hx hb dX3_shiftValves_46 ?_
  obtain ⟨v2, e9, hm⟩ := bq_let_el hm
  refine bq_nmi e9 ?_
  clear e9
  refine lv_istore_n (lv' := [(2, .int v2), (1, .int v1), (0, .ref a_t)]) hx hb dX3_shiftValves_47 rfl hl (by decide) rfl (fun ls hl => ?_)
  refine lv_iload_n hx hb dX3_shiftValves_48 rfl (lv_at hl 1 rfl) ?_
  refine lv_iload_n hx hb dX3_shiftValves_49 rfl (lv_at hl 0 rfl) ?_
  refine lv_ior hx hb dX3_shiftValves_50 ?_
  obtain ⟨v3, e9, hm⟩ := bq_let_el hm
  refine bq_nmi e9 ?_
  clear e9
  refine lv_istore_n (lv' := [(3, .int v3), (2, .int v2), (1, .int v1), (0, .ref a_t)]) hx hb dX3_shiftValves_51 rfl hl (by decide) rfl (fun ls hl => ?_)
  refine lv_iconst (v := 0) hx hb dX3_shiftValves_52 (by decide) ?_
  refine lv_istore (lv' := [(4, .int 0), (3, .int v3), (2, .int v2), (1, .int v1), (0, .ref a_t)]) hx hb dX3_shiftValves_53 hl (by decide) rfl (fun ls hl => ?_)
  obtain ⟨t_log_9, t_log_moves_10, t_log_times_11, t_score_12, hL, hm⟩ := bq_b4_el hm
  obtain ⟨B, eB, nn, hL⟩ := bq_loop_B hL
  have X130 : ∀ (H : Heap) (locs : List Loc) (ls : Array Slot), bq_w D A s.heap (wdX3_shiftValves cI a_t a_t_circuit a_t_log a_t_log_moves a_t_log_times a_t_score a_t_sequence a_t_sequence_minus a_t_sequence_plus u_t_strokes u_t_positions u_t_timers u_t_faults u_t_sequence_pauses u_t_sequence_outBefore u_t_sequence_cuts u_t_sequence_groupOfStep t t_circuit t_log_9 t_log_moves_10 t_log_times_11 t_score_12 t_sequence t_sequence_minus t_sequence_plus) H locs → lv_has ls 6 [(0, .ref a_t), (1, .int v1), (2, .int v2), (3, .int v3)] → W p l e rmX3_shiftValves s m av9 below meth c H locs 0 0 Q (F0 m 130 ls []) := by
    intro H locs ls w hl
    refine lv_aload_n hx hb dX3_shiftValves_130 rfl (lv_at hl 0 rfl) ?_
    refine lv_aload_n hx hb dX3_shiftValves_131 rfl (lv_at hl 0 rfl) ?_
    refine gt_X3_59 E K w 0 rfl rfl dX3_shiftValves_132 ?_
    refine lv_iload_n hx hb dX3_shiftValves_135 rfl (lv_at hl 1 rfl) ?_
    refine lv_ior hx hb dX3_shiftValves_136 ?_
    refine lv_iload_n hx hb dX3_shiftValves_137 rfl (lv_at hl 2 rfl) ?_
    refine lv_iconst (v := (-1)) hx hb dX3_shiftValves_138 (by decide) ?_
    refine lv_ixor hx hb dX3_shiftValves_139 ?_
    refine lv_iand hx hb dX3_shiftValves_140 ?_
    obtain ⟨t_13, e9, hm⟩ := bq_let_el hm
    refine pt_X3_59 E K w 0 rfl (Nat.le_of_ble_eq_true rfl) dX3_shiftValves_141 (fun H locs w => ?_)
    replace w : bq_w D A s.heap (wdX3_shiftValves cI a_t a_t_circuit a_t_log a_t_log_moves a_t_log_times a_t_score a_t_sequence a_t_sequence_minus a_t_sequence_plus u_t_strokes u_t_positions u_t_timers u_t_faults u_t_sequence_pauses u_t_sequence_outBefore u_t_sequence_cuts u_t_sequence_groupOfStep t_13 t_circuit t_log_9 t_log_moves_10 t_log_times_11 t_score_12 t_sequence t_sequence_minus t_sequence_plus) H locs := by rw [e9]; exact w
    clear e9
    refine lv_iload_n hx hb dX3_shiftValves_144 rfl (lv_at hl 3 rfl) ?_
    obtain ⟨v14, hT153, hm⟩ := bq_let_el hm
    have K153 : ∀ (H : Heap) (locs : List Loc) (ls : Array Slot), bq_w D A s.heap (wdX3_shiftValves cI a_t a_t_circuit a_t_log a_t_log_moves a_t_log_times a_t_score a_t_sequence a_t_sequence_minus a_t_sequence_plus u_t_strokes u_t_positions u_t_timers u_t_faults u_t_sequence_pauses u_t_sequence_outBefore u_t_sequence_cuts u_t_sequence_groupOfStep t_13 t_circuit t_log_9 t_log_moves_10 t_log_times_11 t_score_12 t_sequence t_sequence_minus t_sequence_plus) H locs → lv_has ls 6 [] → W p l e rmX3_shiftValves s m av9 below meth c H locs 0 0 Q (F0 m 153 ls [.int v14]) := by
      intro H locs ls w hl
      obtain ⟨hB, hm⟩ := bq_cb_el hm
      obtain ⟨rfl, rfl, rfl, rfl, rfl, rfl⟩ := bq_in6 (Option.some.inj hm)
      exact bq_zret E w hr hk hB dX3_shiftValves_153 hQ
    clear hm
    refine lv_if_eq (tgt := 152) hx hb dX3_shiftValves_145 (by decide) (fun hc => ?_) (fun hc => ?_)
    · replace hT153 := bq_et hc hT153
      clear hc
      refine lv_iconst (v := 0) hx hb dX3_shiftValves_152 (by decide) ?_
      subst hT153
      exact K153 H locs ls w (lv_sub hl [] rfl)
    · replace hT153 := bq_ef hc hT153
      clear hc
      refine lv_iconst (v := 1) hx hb dX3_shiftValves_148 (by decide) ?_
      refine lv_goto (tgt := 153) hx hb dX3_shiftValves_149 (by decide) ?_
      subst hT153
      exact K153 H locs ls w (lv_sub hl [] rfl)
  clear hm
  have L55 : ∀ (nn : Nat) (i4 : Int32) (t_log_5 : Nat → Int32) (t_log_moves_6 : Nat → Int32) (t_log_times_7 : Nat → Int32) (t_score_8 : Nat → Int32) (H : Heap) (locs : List Loc) (ls : Array Slot), bq_lp B nn (i4, t_log_5, t_log_moves_6, t_log_times_7, t_score_8) = some (t_log_9, t_log_moves_10, t_log_times_11, t_score_12) → bq_w D A s.heap (wdX3_shiftValves cI a_t a_t_circuit a_t_log a_t_log_moves a_t_log_times a_t_score a_t_sequence a_t_sequence_minus a_t_sequence_plus u_t_strokes u_t_positions u_t_timers u_t_faults u_t_sequence_pauses u_t_sequence_outBefore u_t_sequence_cuts u_t_sequence_groupOfStep t t_circuit t_log_5 t_log_moves_6 t_log_times_7 t_score_8 t_sequence t_sequence_minus t_sequence_plus) H locs → lv_has ls 6 [(0, .ref a_t), (1, .int v1), (2, .int v2), (3, .int v3), (4, .int i4)] → W p l e rmX3_shiftValves s m av9 below meth c H locs 0 0 Q (F0 m 55 ls []) := by
    intro nn
    induction nn with
    | zero =>
      intro i4 t_log_5 t_log_moves_6 t_log_times_7 t_score_8 H locs ls hL w hl
      exact bq_lp_0 hL
    | succ nn ih =>
      intro i4 t_log_5 t_log_moves_6 t_log_times_7 t_score_8 H locs ls hL w hl
      obtain ⟨oo55, hT55, hR55⟩ := bq_lp_el hL
      clear hL
      replace hT55 := bq_u5_el eB hT55
      unfold bX3_shiftValves_55 at hT55
      refine lv_iload hx hb dX3_shiftValves_55 (lv_at hl 4 rfl) ?_
      refine lv_bipush (v := 6) hx hb dX3_shiftValves_57 (by decide) ?_
      refine lv_icmp_ge (tgt := 130) hx hb dX3_shiftValves_59 (by decide) (fun hc => ?_) (fun hc => ?_)
      · replace hT55 := bq_t hc hT55
        clear hc
        obtain rfl := Option.some.inj hT55
        replace hR55 := bq_lk_r hR55
        obtain ⟨rfl, rfl, rfl, rfl⟩ := bq_in4 hR55
        exact X130 H locs ls w (lv_sub hl [0, 1, 2, 3] rfl)
      · replace hT55 := bq_f hc hT55
        clear hc
        refine lv_iload_n hx hb dX3_shiftValves_62 rfl (lv_at hl 3 rfl) ?_
        refine lv_if_eq (tgt := 130) hx hb dX3_shiftValves_63 (by decide) (fun hc => ?_) (fun hc => ?_)
        · replace hT55 := bq_t hc hT55
          clear hc
          obtain rfl := Option.some.inj hT55
          replace hR55 := bq_lk_r hR55
          obtain ⟨rfl, rfl, rfl, rfl⟩ := bq_in4 hR55
          exact X130 H locs ls w (lv_sub hl [0, 1, 2, 3] rfl)
        · replace hT55 := bq_f hc hT55
          clear hc
          refine lv_iload_n hx hb dX3_shiftValves_66 rfl (lv_at hl 3 rfl) ?_
          refine lv_iload hx hb dX3_shiftValves_67 (lv_at hl 4 rfl) ?_
          obtain ⟨v15, hC, hT55⟩ := bq_bd_el hT55
          refine bq_SN0 (As := [.int v3, .int i4]) (rest := []) (st1 := [.int v15]) E K w hA (kX7_holds l D cI cJ v3 i4 v15 hC) cd_X7_holds mn_X3_141 in_X7 st_X7_holds hs_X7_holds ⟨Nat.le_of_ble_eq_true rfl, Nat.le_of_ble_eq_true rfl⟩ ⟨Nat.le_of_ble_eq_true rfl, Nat.le_of_ble_eq_true rfl⟩ rfl hl.1 rfl (Nat.le_of_ble_eq_true rfl) rfl dX3_shiftValves_69 (fun H locs w => bq_z ⟨rfl, rfl⟩ ?_)
          clear hC
          obtain ⟨t_log_16, t_log_moves_17, t_log_times_18, t_score_19, hT124, hT55⟩ := bq_b4_el hT55
          have K124 : ∀ (H : Heap) (locs : List Loc) (ls : Array Slot), bq_w D A s.heap (wdX3_shiftValves cI a_t a_t_circuit a_t_log a_t_log_moves a_t_log_times a_t_score a_t_sequence a_t_sequence_minus a_t_sequence_plus u_t_strokes u_t_positions u_t_timers u_t_faults u_t_sequence_pauses u_t_sequence_outBefore u_t_sequence_cuts u_t_sequence_groupOfStep t t_circuit t_log_16 t_log_moves_17 t_log_times_18 t_score_19 t_sequence t_sequence_minus t_sequence_plus) H locs → lv_has ls 6 [(0, .ref a_t), (1, .int v1), (2, .int v2), (3, .int v3), (4, .int i4)] → W p l e rmX3_shiftValves s m av9 below meth c H locs 0 0 Q (F0 m 124 ls []) := by
            intro H locs ls w hl
            obtain ⟨v26, e9, hT55⟩ := bq_let_el hT55
            refine lv_iinc (v := v26) (lv' := [(4, .int v26), (0, .ref a_t), (1, .int v1), (2, .int v2), (3, .int v3)]) hx hb dX3_shiftValves_124 hl (k := 4) rfl (by rw [e9]; rfl) (by decide) rfl (fun ls hl => ?_)
            clear e9
            refine lv_goto (tgt := 55) hx hb dX3_shiftValves_127 (by decide) ?_
            obtain rfl := Option.some.inj hT55
            exact ih v26 t_log_16 t_log_moves_17 t_log_times_18 t_score_19 H locs ls hR55 w (lv_sub hl [1, 2, 3, 4, 0] rfl)
          clear hT55
          refine lv_if_eq (tgt := 124) hx hb dX3_shiftValves_72 (by decide) (fun hc => ?_) (fun hc => ?_)
          · replace hT124 := bq_t hc hT124
            clear hc
            obtain ⟨rfl, rfl, rfl, rfl⟩ := bq_in4 (Option.some.inj hT124)
            exact K124 H locs ls w (lv_sub hl [0, 1, 2, 3, 4] rfl)
          · replace hT124 := bq_f hc hT124
            clear hc
            refine lv_iload_n hx hb dX3_shiftValves_75 rfl (lv_at hl 1 rfl) ?_
            refine lv_iload hx hb dX3_shiftValves_76 (lv_at hl 4 rfl) ?_
            obtain ⟨v20, hC, hT124⟩ := bq_bd_el hT124
            refine bq_SN0 (As := [.int v1, .int i4]) (rest := []) (st1 := [.int v20]) E K w hA (kX7_holds l D cI cJ v1 i4 v20 hC) cd_X7_holds mn_X3_141 in_X7 st_X7_holds hs_X7_holds ⟨Nat.le_of_ble_eq_true rfl, Nat.le_of_ble_eq_true rfl⟩ ⟨Nat.le_of_ble_eq_true rfl, Nat.le_of_ble_eq_true rfl⟩ rfl hl.1 rfl (Nat.le_of_ble_eq_true rfl) rfl dX3_shiftValves_78 (fun H locs w => bq_z ⟨rfl, rfl⟩ ?_)
            clear hC
            refine lv_istore (lv' := [(5, .int v20), (0, .ref a_t), (1, .int v1), (2, .int v2), (3, .int v3), (4, .int i4)]) hx hb dX3_shiftValves_81 hl (by decide) rfl (fun ls hl => ?_)
            refine lv_aload_n hx hb dX3_shiftValves_83 rfl (lv_at hl 1 rfl) ?_
            refine gt_X3_21 E K w 0 rfl rfl dX3_shiftValves_84 ?_
            refine lv_aload_n hx hb dX3_shiftValves_87 rfl (lv_at hl 1 rfl) ?_
            refine gt_X3_63 E K w 0 rfl rfl dX3_shiftValves_88 ?_
            refine lv_iconst (v := 2) hx hb dX3_shiftValves_91 (by decide) ?_
            refine lv_iload hx hb dX3_shiftValves_92 (lv_at hl 5 rfl) ?_
            refine lv_imul hx hb dX3_shiftValves_94 ?_
            refine lv_iload hx hb dX3_shiftValves_95 (lv_at hl 0 rfl) ?_
            obtain ⟨v21, hT105, hT124⟩ := bq_let_el hT124
            have K105 : ∀ (H : Heap) (locs : List Loc) (ls : Array Slot), bq_w D A s.heap (wdX3_shiftValves cI a_t a_t_circuit a_t_log a_t_log_moves a_t_log_times a_t_score a_t_sequence a_t_sequence_minus a_t_sequence_plus u_t_strokes u_t_positions u_t_timers u_t_faults u_t_sequence_pauses u_t_sequence_outBefore u_t_sequence_cuts u_t_sequence_groupOfStep t t_circuit t_log_5 t_log_moves_6 t_log_times_7 t_score_8 t_sequence t_sequence_minus t_sequence_plus) H locs → lv_has ls 6 [(0, .ref a_t), (1, .int v1), (2, .int v2), (3, .int v3), (4, .int i4), (5, .int v20)] → W p l e rmX3_shiftValves s m av9 below meth c H locs 0 0 Q (F0 m 105 ls [.int v21, .int (2 * i4), .int (t 10), .ref a_t_log]) := by
              intro H locs ls w hl
              refine lv_iadd hx hb dX3_shiftValves_105 ?_
              obtain ⟨t_log_22, t_log_moves_23, t_log_times_24, hC, hT124⟩ := bq_b3_el hT124
              refine bq_V (As := [.int (t 10), .int ((2 * i4) + v21)]) (rest := []) (st1 := []) (ws' := wdX3_shiftValves cI a_t a_t_circuit a_t_log a_t_log_moves a_t_log_times a_t_score a_t_sequence a_t_sequence_minus a_t_sequence_plus u_t_strokes u_t_positions u_t_timers u_t_faults u_t_sequence_pauses u_t_sequence_outBefore u_t_sequence_cuts u_t_sequence_groupOfStep t t_circuit t_log_22 t_log_moves_23 t_log_times_24 t_score_8 t_sequence t_sequence_minus t_sequence_plus) E K w hA (kX1_note l D cI cJ a_t_log a_t_log_moves a_t_log_times t_log_5 t_log_moves_6 t_log_times_7 (t 10) ((2 * i4) + v21) t_log_22 t_log_moves_23 t_log_times_24 hC) (bq_gV ml_X3_145 im_X1_note sl_X1_note in_X1 cd_X1_note) hd_X1_note ⟨Nat.le_of_ble_eq_true rfl, Nat.le_of_ble_eq_true rfl⟩ ⟨Nat.le_of_ble_eq_true rfl, Nat.le_of_ble_eq_true rfl⟩ ⟨[2, 3, 4], [0, 1, 5, 6, 7, 8], [0, 1, 6, 7, 8, 2, 3, 4, 5], rfl, rfl, rfl, rfl, rfl, rfl, rfl, rfl, rfl⟩ 2 rfl rfl rfl hl.1 rfl (Nat.le_of_ble_eq_true rfl) rfl dX3_shiftValves_106 (fun H locs w => bq_z ⟨rfl, rfl⟩ ?_)
              clear hC
              refine lv_aload_n hx hb dX3_shiftValves_109 rfl (lv_at hl 0 rfl) ?_
              refine gt_X3_28 E K w 0 rfl rfl dX3_shiftValves_110 ?_
              refine lv_aload_n hx hb dX3_shiftValves_113 rfl (lv_at hl 0 rfl) ?_
              refine gt_X3_49 E K w 0 rfl rfl dX3_shiftValves_114 ?_
              refine lv_iload hx hb dX3_shiftValves_117 (lv_at hl 4 rfl) ?_
              refine lv_iload hx hb dX3_shiftValves_119 (lv_at hl 5 rfl) ?_
              obtain ⟨t_score_25, hC, hT124⟩ := bq_bd_el hT124
              refine bq_V (As := [.ref a_t_sequence, .int i4, .int v20]) (rest := []) (st1 := []) (ws' := wdX3_shiftValves cI a_t a_t_circuit a_t_log a_t_log_moves a_t_log_times a_t_score a_t_sequence a_t_sequence_minus a_t_sequence_plus u_t_strokes u_t_positions u_t_timers u_t_faults u_t_sequence_pauses u_t_sequence_outBefore u_t_sequence_cuts u_t_sequence_groupOfStep t t_circuit t_log_22 t_log_moves_23 t_log_times_24 t_score_25 t_sequence t_sequence_minus t_sequence_plus) E K w hA (kX4_judge l D cI cJ a_t_score a_t_sequence a_t_sequence_minus a_t_sequence_plus u_t_sequence_pauses u_t_sequence_outBefore u_t_sequence_cuts u_t_sequence_groupOfStep t_score_8 t_sequence t_sequence_minus t_sequence_plus i4 v20 t_score_25 hC) (bq_gV ml_X3_149 im_X4_judge sl_X4_judge in_X4 cd_X4_judge) hd_X4_judge ⟨Nat.le_of_ble_eq_true rfl, Nat.le_of_ble_eq_true rfl⟩ ⟨Nat.le_of_ble_eq_true rfl, Nat.le_of_ble_eq_true rfl⟩ ⟨[5, 6, 7, 8], [0, 1, 2, 3, 4], [0, 1, 2, 3, 4, 5, 6, 7, 8], rfl, rfl, rfl, rfl, rfl, rfl, rfl, rfl, rfl⟩ 5 rfl rfl rfl hl.1 rfl (Nat.le_of_ble_eq_true rfl) rfl dX3_shiftValves_121 (fun H locs w => bq_z ⟨rfl, rfl⟩ ?_)
              clear hC
              obtain ⟨rfl, rfl, rfl, rfl⟩ := bq_in4 (Option.some.inj hT124)
              exact K124 H locs ls w (lv_sub hl [0, 1, 2, 3, 4] rfl)
            clear hT124
            refine lv_if_eq (tgt := 104) hx hb dX3_shiftValves_97 (by decide) (fun hc => ?_) (fun hc => ?_)
            · replace hT105 := bq_et hc hT105
              clear hc
              refine lv_iconst (v := 0) hx hb dX3_shiftValves_104 (by decide) ?_
              subst hT105
              exact K105 H locs ls w (lv_sub hl [1, 2, 3, 4, 5, 0] rfl)
            · replace hT105 := bq_ef hc hT105
              clear hc
              refine lv_iconst (v := 1) hx hb dX3_shiftValves_100 (by decide) ?_
              refine lv_goto (tgt := 105) hx hb dX3_shiftValves_101 (by decide) ?_
              subst hT105
              exact K105 H locs ls w (lv_sub hl [1, 2, 3, 4, 5, 0] rfl)
  exact L55 nn 0 t_log t_log_moves t_log_times t_score H locs ls hL w (lv_sub hl [4, 3, 2, 1, 0] rfl)
abbrev wdX3_movePistons (cI : ClassId) (a_t a_t_faults a_t_positions a_t_strokes u_t_sequence u_t_circuit u_t_log u_t_score u_t_timers : Nat) (t : Nat → Int32) (t_faults : Nat → Int32) (t_positions : Nat → Int32) (t_strokes : Nat → Int32) : va_W := [(a_t, oX3 u_t_sequence u_t_circuit u_t_log u_t_score a_t_strokes a_t_positions u_t_timers a_t_faults t), (a_t_faults, oA cI 5 t_faults), (a_t_positions, oA cI 6 t_positions), (a_t_strokes, oA cI 6 t_strokes)]
abbrev rmX3_movePistons : Room := { frames := 1, cells := 0, slots := 0, locals := 21 }
theorem hd_X3_movePistons : yX3_movePistons.cls = RX3 ∧ yX3_movePistons.cls ≠ "java/lang/invoke/MethodHandle" ∧ yX3_movePistons.cls ≠ "java/lang/invoke/VarHandle" ∧ (parseMethodDescriptor yX3_movePistons.desc).map (fun d => d.parameters.length) = some 0 := by decide +kernel
set_option maxHeartbeats 4000000 in
set_option maxRecDepth 100000 in
theorem kX3_movePistons (l : Launch) (D : va_G) (cI cJ : ClassId) (a_t a_t_faults a_t_positions a_t_strokes u_t_sequence u_t_circuit u_t_log u_t_score u_t_timers : Nat) (t t_faults t_positions t_strokes : Nat → Int32) (r : Int32) (t_positions_o : Nat → Int32) (hm : mX3_movePistons t t_faults t_positions t_strokes = some (r, t_positions_o)) : bq_M l D cI cJ yX3_movePistons cX3_movePistons 4 (some .boolean) rmX3_movePistons [.ref a_t] (wdX3_movePistons cI a_t a_t_faults a_t_positions a_t_strokes u_t_sequence u_t_circuit u_t_log u_t_score u_t_timers t t_faults t_positions t_strokes) (wdX3_movePistons cI a_t a_t_faults a_t_positions a_t_strokes u_t_sequence u_t_circuit u_t_log u_t_score u_t_timers t t_faults t_positions_o t_strokes) (some (.int r)) := by
  refine bq_start (by decide) (Nat.le_of_ble_eq_true rfl) ?_
  intro p e s m av9 below meth c A ls Q H locs E K w hA hr hk hn hQ hl
  have E : bq_E p m c cX3_movePistons 4 s av9 RX3 := E
  have hx := E.1
  have hb := E.2.1
  have hl : lv_has ls 4 [(0, .ref a_t)] := hl
  unfold mX3_movePistons at hm
  refine lv_iconst (v := 0) hx hb dX3_movePistons_0 (by decide) ?_
  refine lv_istore_n (lv' := [(1, .int 0), (0, .ref a_t)]) hx hb dX3_movePistons_1 rfl hl (by decide) rfl (fun ls hl => ?_)
  refine lv_iconst (v := 0) hx hb dX3_movePistons_2 (by decide) ?_
  refine lv_istore_n (lv' := [(2, .int 0), (1, .int 0), (0, .ref a_t)]) hx hb dX3_movePistons_3 rfl hl (by decide) rfl (fun ls hl => ?_)
  obtain ⟨v4, t_positions_5, hL, hm⟩ := bq_b2_el hm
  obtain ⟨B, eB, nn, hL⟩ := bq_loop_B hL
  have X87 : ∀ (H : Heap) (locs : List Loc) (ls : Array Slot), bq_w D A s.heap (wdX3_movePistons cI a_t a_t_faults a_t_positions a_t_strokes u_t_sequence u_t_circuit u_t_log u_t_score u_t_timers t t_faults t_positions_5 t_strokes) H locs → lv_has ls 4 [(1, .int v4)] → W p l e rmX3_movePistons s m av9 below meth c H locs 0 0 Q (F0 m 87 ls []) := by
    intro H locs ls w hl
    refine lv_iload_n hx hb dX3_movePistons_87 rfl (lv_at hl 0 rfl) ?_
    obtain ⟨hB, hm⟩ := bq_cb_el hm
    obtain ⟨rfl, rfl⟩ := bq_in2 (Option.some.inj hm)
    exact bq_zret E w hr hk hB dX3_movePistons_88 hQ
  clear hm
  have L4 : ∀ (nn : Nat) (i1 : Int32) (i2 : Int32) (t_positions_3 : Nat → Int32) (H : Heap) (locs : List Loc) (ls : Array Slot), bq_lp B nn (i1, i2, t_positions_3) = some (v4, t_positions_5) → bq_w D A s.heap (wdX3_movePistons cI a_t a_t_faults a_t_positions a_t_strokes u_t_sequence u_t_circuit u_t_log u_t_score u_t_timers t t_faults t_positions_3 t_strokes) H locs → lv_has ls 4 [(0, .ref a_t), (1, .int i2), (2, .int i1)] → W p l e rmX3_movePistons s m av9 below meth c H locs 0 0 Q (F0 m 4 ls []) := by
    intro nn
    induction nn with
    | zero =>
      intro i1 i2 t_positions_3 H locs ls hL w hl
      exact bq_lp_0 hL
    | succ nn ih =>
      intro i1 i2 t_positions_3 H locs ls hL w hl
      obtain ⟨oo4, hT4, hR4⟩ := bq_lp_el hL
      clear hL
      replace hT4 := bq_u3_el eB hT4
      unfold bX3_movePistons_4 at hT4
      refine lv_iload_n hx hb dX3_movePistons_4 rfl (lv_at hl 2 rfl) ?_
      refine lv_bipush (v := 6) hx hb dX3_movePistons_5 (by decide) ?_
      refine lv_icmp_ge (tgt := 87) hx hb dX3_movePistons_7 (by decide) (fun hc => ?_) (fun hc => ?_)
      · replace hT4 := bq_t hc hT4
        clear hc
        obtain rfl := Option.some.inj hT4
        replace hR4 := bq_lk_r hR4
        obtain ⟨rfl, rfl⟩ := bq_in2 hR4
        exact X87 H locs ls w (lv_sub hl [1] rfl)
      · replace hT4 := bq_f hc hT4
        clear hc
        refine lv_aload_n hx hb dX3_movePistons_10 rfl (lv_at hl 0 rfl) ?_
        refine gt_X3_59 E K w 0 rfl rfl dX3_movePistons_11 ?_
        refine lv_iload_n hx hb dX3_movePistons_14 rfl (lv_at hl 2 rfl) ?_
        obtain ⟨v6, hC, hT4⟩ := bq_bd_el hT4
        refine bq_SN0 (As := [.int (t 9), .int i1]) (rest := []) (st1 := [.int v6]) E K w hA (kX7_holds l D cI cJ (t 9) i1 v6 hC) cd_X7_holds mn_X3_141 in_X7 st_X7_holds hs_X7_holds ⟨Nat.le_of_ble_eq_true rfl, Nat.le_of_ble_eq_true rfl⟩ ⟨Nat.le_of_ble_eq_true rfl, Nat.le_of_ble_eq_true rfl⟩ rfl hl.1 rfl (Nat.le_of_ble_eq_true rfl) rfl dX3_movePistons_15 (fun H locs w => bq_z ⟨rfl, rfl⟩ ?_)
        clear hC
        obtain ⟨v7, hT31, hT4⟩ := bq_bd_el hT4
        have K31 : ∀ (H : Heap) (locs : List Loc) (ls : Array Slot), bq_w D A s.heap (wdX3_movePistons cI a_t a_t_faults a_t_positions a_t_strokes u_t_sequence u_t_circuit u_t_log u_t_score u_t_timers t t_faults t_positions_3 t_strokes) H locs → lv_has ls 4 [(0, .ref a_t), (1, .int i2), (2, .int i1)] → W p l e rmX3_movePistons s m av9 below meth c H locs 0 0 Q (F0 m 31 ls [.int v7]) := by
          intro H locs ls w hl
          refine lv_istore_n (lv' := [(3, .int v7), (0, .ref a_t), (1, .int i2), (2, .int i1)]) hx hb dX3_movePistons_31 rfl hl (by decide) rfl (fun ls hl => ?_)
          refine lv_aload_n hx hb dX3_movePistons_32 rfl (lv_at hl 1 rfl) ?_
          refine gt_X3_36 E K w 0 rfl rfl dX3_movePistons_33 ?_
          refine lv_iload_n hx hb dX3_movePistons_36 rfl (lv_at hl 3 rfl) ?_
          obtain ⟨hI, hT4⟩ := bq_ci_el hT4
          refine bq_ald E K w 2 rfl hI dX3_movePistons_37 ?_
          refine lv_iload_n hx hb dX3_movePistons_38 rfl (lv_at hl 0 rfl) ?_
          obtain ⟨v8, t_positions_9, hT81, hT4⟩ := bq_b2_el hT4
          have K81 : ∀ (H : Heap) (locs : List Loc) (ls : Array Slot), bq_w D A s.heap (wdX3_movePistons cI a_t a_t_faults a_t_positions a_t_strokes u_t_sequence u_t_circuit u_t_log u_t_score u_t_timers t t_faults t_positions_9 t_strokes) H locs → lv_has ls 4 [(0, .ref a_t), (1, .int v8), (2, .int i1)] → W p l e rmX3_movePistons s m av9 below meth c H locs 0 0 Q (F0 m 81 ls []) := by
            intro H locs ls w hl
            obtain ⟨v13, e9, hT4⟩ := bq_let_el hT4
            refine lv_iinc (v := v13) (lv' := [(2, .int v13), (0, .ref a_t), (1, .int v8)]) hx hb dX3_movePistons_81 hl (k := 2) rfl (by rw [e9]; rfl) (by decide) rfl (fun ls hl => ?_)
            clear e9
            refine lv_goto (tgt := 4) hx hb dX3_movePistons_84 (by decide) ?_
            obtain rfl := Option.some.inj hT4
            exact ih v13 v8 t_positions_9 H locs ls hR4 w (lv_sub hl [1, 2, 0] rfl)
          clear hT4
          refine lv_icmp_eq (tgt := 81) hx hb dX3_movePistons_39 (by decide) (fun hc => ?_) (fun hc => ?_)
          · replace hT81 := bq_t hc hT81
            clear hc
            obtain ⟨rfl, rfl⟩ := bq_in2 (Option.some.inj hT81)
            exact K81 H locs ls w (lv_sub hl [1, 2, 3] rfl)
          · replace hT81 := bq_f hc hT81
            clear hc
            refine lv_aload_n hx hb dX3_movePistons_42 rfl (lv_at hl 1 rfl) ?_
            refine gt_X3_42 E K w 0 rfl rfl dX3_movePistons_43 ?_
            refine lv_iconst (v := 0) hx hb dX3_movePistons_46 (by decide) ?_
            refine bq_aldk E K w 1 rfl 0 (by decide) (by unfold vp_in; decide) dX3_movePistons_47 ?_
            refine lv_iload_n hx hb dX3_movePistons_48 rfl (lv_at hl 3 rfl) ?_
            obtain ⟨v10, hC, hT81⟩ := bq_bd_el hT81
            refine bq_SN0 (As := [.int (t_faults 0), .int i1]) (rest := []) (st1 := [.int v10]) E K w hA (kX7_holds l D cI cJ (t_faults 0) i1 v10 hC) cd_X7_holds mn_X3_141 in_X7 st_X7_holds hs_X7_holds ⟨Nat.le_of_ble_eq_true rfl, Nat.le_of_ble_eq_true rfl⟩ ⟨Nat.le_of_ble_eq_true rfl, Nat.le_of_ble_eq_true rfl⟩ rfl hl.1 rfl (Nat.le_of_ble_eq_true rfl) rfl dX3_movePistons_49 (fun H locs w => bq_z ⟨rfl, rfl⟩ ?_)
            clear hC
            refine lv_if_ne (tgt := 81) hx hb dX3_movePistons_52 (by decide) (fun hc => ?_) (fun hc => ?_)
            · replace hT81 := bq_f hc hT81
              clear hc
              obtain ⟨rfl, rfl⟩ := bq_in2 (Option.some.inj hT81)
              exact K81 H locs ls w (lv_sub hl [1, 2, 3] rfl)
            · replace hT81 := bq_t hc hT81
              clear hc
              refine lv_aload_n hx hb dX3_movePistons_55 rfl (lv_at hl 1 rfl) ?_
              refine gt_X3_36 E K w 0 rfl rfl dX3_movePistons_56 ?_
              refine lv_iload_n hx hb dX3_movePistons_59 rfl (lv_at hl 3 rfl) ?_
              refine lv_dup2_11 hx hb dX3_movePistons_60 rfl rfl ?_
              obtain ⟨hI, hT81⟩ := bq_ci_el hT81
              refine bq_ald E K w 2 rfl hI dX3_movePistons_61 ?_
              refine lv_aload_n hx hb dX3_movePistons_62 rfl (lv_at hl 1 rfl) ?_
              refine gt_X3_36 E K w 0 rfl rfl dX3_movePistons_63 ?_
              refine lv_iload_n hx hb dX3_movePistons_66 rfl (lv_at hl 3 rfl) ?_
              obtain ⟨hI, hT81⟩ := bq_ci_el hT81
              refine bq_ald E K w 2 rfl hI dX3_movePistons_67 ?_
              refine lv_iload_n hx hb dX3_movePistons_68 rfl (lv_at hl 0 rfl) ?_
              obtain ⟨v11, hT77, hT81⟩ := bq_let_el hT81
              have K77 : ∀ (H : Heap) (locs : List Loc) (ls : Array Slot), bq_w D A s.heap (wdX3_movePistons cI a_t a_t_faults a_t_positions a_t_strokes u_t_sequence u_t_circuit u_t_log u_t_score u_t_timers t t_faults t_positions_3 t_strokes) H locs → lv_has ls 4 [(0, .ref a_t), (2, .int i1)] → W p l e rmX3_movePistons s m av9 below meth c H locs 0 0 Q (F0 m 77 ls [.int v11, .int (t_positions_3 (i1 : Int32).toNatClampNeg), .int i1, .ref a_t_positions]) := by
                intro H locs ls w hl
                refine lv_iadd hx hb dX3_movePistons_77 ?_
                obtain ⟨hI, hT81⟩ := bq_ci_el hT81
                obtain ⟨t_positions_12, e9, hT81⟩ := bq_let_el hT81
                refine bq_ast E K w 2 rfl hI dX3_movePistons_78 (fun H locs w => ?_)
                replace w : bq_w D A s.heap (wdX3_movePistons cI a_t a_t_faults a_t_positions a_t_strokes u_t_sequence u_t_circuit u_t_log u_t_score u_t_timers t t_faults t_positions_12 t_strokes) H locs := by rw [e9]; exact w
                clear e9
                refine lv_iconst (v := 1) hx hb dX3_movePistons_79 (by decide) ?_
                refine lv_istore_n (lv' := [(1, .int 1), (0, .ref a_t), (2, .int i1)]) hx hb dX3_movePistons_80 rfl hl (by decide) rfl (fun ls hl => ?_)
                obtain ⟨rfl, rfl⟩ := bq_in2 (Option.some.inj hT81)
                exact K81 H locs ls w (lv_sub hl [1, 0, 2] rfl)
              clear hT81
              refine lv_icmp_ge (tgt := 76) hx hb dX3_movePistons_69 (by decide) (fun hc => ?_) (fun hc => ?_)
              · replace hT77 := bq_et hc hT77
                clear hc
                refine lv_iconst (v := (-1)) hx hb dX3_movePistons_76 (by decide) ?_
                subst hT77
                exact K77 H locs ls w (lv_sub hl [1, 3] rfl)
              · replace hT77 := bq_ef hc hT77
                clear hc
                refine lv_iconst (v := 1) hx hb dX3_movePistons_72 (by decide) ?_
                refine lv_goto (tgt := 77) hx hb dX3_movePistons_73 (by decide) ?_
                subst hT77
                exact K77 H locs ls w (lv_sub hl [1, 3] rfl)
        clear hT4
        refine lv_if_eq (tgt := 30) hx hb dX3_movePistons_18 (by decide) (fun hc => ?_) (fun hc => ?_)
        · replace hT31 := bq_t hc hT31
          clear hc
          refine lv_iconst (v := 0) hx hb dX3_movePistons_30 (by decide) ?_
          obtain rfl := Option.some.inj hT31
          exact K31 H locs ls w (lv_sub hl [0, 1, 2] rfl)
        · replace hT31 := bq_f hc hT31
          clear hc
          refine lv_aload_n hx hb dX3_movePistons_21 rfl (lv_at hl 0 rfl) ?_
          refine gt_X3_32 E K w 0 rfl rfl dX3_movePistons_22 ?_
          refine lv_iload_n hx hb dX3_movePistons_25 rfl (lv_at hl 2 rfl) ?_
          obtain ⟨hI, hT31⟩ := bq_ci_el hT31
          refine bq_ald E K w 3 rfl hI dX3_movePistons_26 ?_
          refine lv_goto (tgt := 31) hx hb dX3_movePistons_27 (by decide) ?_
          obtain rfl := Option.some.inj hT31
          exact K31 H locs ls w (lv_sub hl [0, 1, 2] rfl)
  exact L4 nn 0 0 t_positions H locs ls hL w (lv_sub hl [2, 1, 0] rfl)
abbrev wdX3_advanceTimers (cI : ClassId) (a_t a_t_circuit a_t_sequence a_t_timers u_t_log u_t_score u_t_strokes u_t_positions u_t_faults u_t_sequence_plus u_t_sequence_minus u_t_sequence_pauses u_t_sequence_outBefore u_t_sequence_cuts u_t_sequence_groupOfStep : Nat) (t : Nat → Int32) (t_circuit : Nat → Int32) (t_sequence : Nat → Int32) (t_timers : Nat → Int32) : va_W := [(a_t, oX3 a_t_sequence a_t_circuit u_t_log u_t_score u_t_strokes u_t_positions a_t_timers u_t_faults t), (a_t_circuit, oX0 t_circuit), (a_t_sequence, oX5 u_t_sequence_plus u_t_sequence_minus u_t_sequence_pauses u_t_sequence_outBefore u_t_sequence_cuts u_t_sequence_groupOfStep t_sequence), (a_t_timers, oA cI 16 t_timers)]
abbrev rmX3_advanceTimers : Room := { frames := 1, cells := 0, slots := 0, locals := 21 }
theorem hd_X3_advanceTimers : yX3_advanceTimers.cls = RX3 ∧ yX3_advanceTimers.cls ≠ "java/lang/invoke/MethodHandle" ∧ yX3_advanceTimers.cls ≠ "java/lang/invoke/VarHandle" ∧ (parseMethodDescriptor yX3_advanceTimers.desc).map (fun d => d.parameters.length) = some 0 := by decide +kernel
set_option maxHeartbeats 4000000 in
set_option maxRecDepth 100000 in
theorem kX3_advanceTimers (l : Launch) (D : va_G) (cI cJ : ClassId) (a_t a_t_circuit a_t_sequence a_t_timers u_t_log u_t_score u_t_strokes u_t_positions u_t_faults u_t_sequence_plus u_t_sequence_minus u_t_sequence_pauses u_t_sequence_outBefore u_t_sequence_cuts u_t_sequence_groupOfStep : Nat) (t t_circuit t_sequence t_timers : Nat → Int32) (r : Int32) (t_timers_o : Nat → Int32) (hm : mX3_advanceTimers t_circuit t_sequence t_timers = some (r, t_timers_o)) : bq_M l D cI cJ yX3_advanceTimers cX3_advanceTimers 4 (some .boolean) rmX3_advanceTimers [.ref a_t] (wdX3_advanceTimers cI a_t a_t_circuit a_t_sequence a_t_timers u_t_log u_t_score u_t_strokes u_t_positions u_t_faults u_t_sequence_plus u_t_sequence_minus u_t_sequence_pauses u_t_sequence_outBefore u_t_sequence_cuts u_t_sequence_groupOfStep t t_circuit t_sequence t_timers) (wdX3_advanceTimers cI a_t a_t_circuit a_t_sequence a_t_timers u_t_log u_t_score u_t_strokes u_t_positions u_t_faults u_t_sequence_plus u_t_sequence_minus u_t_sequence_pauses u_t_sequence_outBefore u_t_sequence_cuts u_t_sequence_groupOfStep t t_circuit t_sequence t_timers_o) (some (.int r)) := by
  refine bq_start (by decide) (Nat.le_of_ble_eq_true rfl) ?_
  intro p e s m av9 below meth c A ls Q H locs E K w hA hr hk hn hQ hl
  have E : bq_E p m c cX3_advanceTimers 4 s av9 RX3 := E
  have hx := E.1
  have hb := E.2.1
  have hl : lv_has ls 4 [(0, .ref a_t)] := hl
  unfold mX3_advanceTimers at hm
  refine lv_iconst (v := 0) hx hb dX3_advanceTimers_0 (by decide) ?_
  refine lv_istore_n (lv' := [(1, .int 0), (0, .ref a_t)]) hx hb dX3_advanceTimers_1 rfl hl (by decide) rfl (fun ls hl => ?_)
  refine lv_iconst (v := 0) hx hb dX3_advanceTimers_2 (by decide) ?_
  refine lv_istore_n (lv' := [(2, .int 0), (1, .int 0), (0, .ref a_t)]) hx hb dX3_advanceTimers_3 rfl hl (by decide) rfl (fun ls hl => ?_)
  obtain ⟨v4, t_timers_5, hL, hm⟩ := bq_b2_el hm
  obtain ⟨B, eB, nn, hL⟩ := bq_loop_B hL
  have X80 : ∀ (H : Heap) (locs : List Loc) (ls : Array Slot), bq_w D A s.heap (wdX3_advanceTimers cI a_t a_t_circuit a_t_sequence a_t_timers u_t_log u_t_score u_t_strokes u_t_positions u_t_faults u_t_sequence_plus u_t_sequence_minus u_t_sequence_pauses u_t_sequence_outBefore u_t_sequence_cuts u_t_sequence_groupOfStep t t_circuit t_sequence t_timers_5) H locs → lv_has ls 4 [(1, .int v4)] → W p l e rmX3_advanceTimers s m av9 below meth c H locs 0 0 Q (F0 m 80 ls []) := by
    intro H locs ls w hl
    refine lv_iload_n hx hb dX3_advanceTimers_80 rfl (lv_at hl 0 rfl) ?_
    obtain ⟨hB, hm⟩ := bq_cb_el hm
    obtain ⟨rfl, rfl⟩ := bq_in2 (Option.some.inj hm)
    exact bq_zret E w hr hk hB dX3_advanceTimers_81 hQ
  clear hm
  have L4 : ∀ (nn : Nat) (i1 : Int32) (i2 : Int32) (t_timers_3 : Nat → Int32) (H : Heap) (locs : List Loc) (ls : Array Slot), bq_lp B nn (i1, i2, t_timers_3) = some (v4, t_timers_5) → bq_w D A s.heap (wdX3_advanceTimers cI a_t a_t_circuit a_t_sequence a_t_timers u_t_log u_t_score u_t_strokes u_t_positions u_t_faults u_t_sequence_plus u_t_sequence_minus u_t_sequence_pauses u_t_sequence_outBefore u_t_sequence_cuts u_t_sequence_groupOfStep t t_circuit t_sequence t_timers_3) H locs → lv_has ls 4 [(0, .ref a_t), (1, .int i2), (2, .int i1)] → W p l e rmX3_advanceTimers s m av9 below meth c H locs 0 0 Q (F0 m 4 ls []) := by
    intro nn
    induction nn with
    | zero =>
      intro i1 i2 t_timers_3 H locs ls hL w hl
      exact bq_lp_0 hL
    | succ nn ih =>
      intro i1 i2 t_timers_3 H locs ls hL w hl
      obtain ⟨oo4, hT4, hR4⟩ := bq_lp_el hL
      clear hL
      replace hT4 := bq_u3_el eB hT4
      unfold bX3_advanceTimers_4 at hT4
      refine lv_iload_n hx hb dX3_advanceTimers_4 rfl (lv_at hl 2 rfl) ?_
      refine lv_aload_n hx hb dX3_advanceTimers_5 rfl (lv_at hl 0 rfl) ?_
      refine gt_X3_49 E K w 0 rfl rfl dX3_advanceTimers_6 ?_
      refine gt_X3_121 E K w 2 rfl rfl dX3_advanceTimers_9 ?_
      refine lv_icmp_ge (tgt := 80) hx hb dX3_advanceTimers_12 (by decide) (fun hc => ?_) (fun hc => ?_)
      · replace hT4 := bq_t hc hT4
        clear hc
        obtain rfl := Option.some.inj hT4
        replace hR4 := bq_lk_r hR4
        obtain ⟨rfl, rfl⟩ := bq_in2 hR4
        exact X80 H locs ls w (lv_sub hl [1] rfl)
      · replace hT4 := bq_f hc hT4
        clear hc
        refine lv_aload_n hx hb dX3_advanceTimers_15 rfl (lv_at hl 0 rfl) ?_
        refine gt_X3_12 E K w 0 rfl rfl dX3_advanceTimers_16 ?_
        refine gt_X3_152 E K w 1 rfl rfl dX3_advanceTimers_19 ?_
        refine lv_iload_n hx hb dX3_advanceTimers_22 rfl (lv_at hl 2 rfl) ?_
        obtain ⟨v6, hC, hT4⟩ := bq_bd_el hT4
        refine bq_SN0 (As := [.int (t_circuit 4), .int i1]) (rest := []) (st1 := [.int v6]) E K w hA (kX7_holds l D cI cJ (t_circuit 4) i1 v6 hC) cd_X7_holds mn_X3_141 in_X7 st_X7_holds hs_X7_holds ⟨Nat.le_of_ble_eq_true rfl, Nat.le_of_ble_eq_true rfl⟩ ⟨Nat.le_of_ble_eq_true rfl, Nat.le_of_ble_eq_true rfl⟩ rfl hl.1 rfl (Nat.le_of_ble_eq_true rfl) rfl dX3_advanceTimers_23 (fun H locs w => bq_z ⟨rfl, rfl⟩ ?_)
        clear hC
        obtain ⟨v7, hT46, hT4⟩ := bq_bd_el hT4
        have K46 : ∀ (H : Heap) (locs : List Loc) (ls : Array Slot), bq_w D A s.heap (wdX3_advanceTimers cI a_t a_t_circuit a_t_sequence a_t_timers u_t_log u_t_score u_t_strokes u_t_positions u_t_faults u_t_sequence_plus u_t_sequence_minus u_t_sequence_pauses u_t_sequence_outBefore u_t_sequence_cuts u_t_sequence_groupOfStep t t_circuit t_sequence t_timers_3) H locs → lv_has ls 4 [(0, .ref a_t), (1, .int i2), (2, .int i1)] → W p l e rmX3_advanceTimers s m av9 below meth c H locs 0 0 Q (F0 m 46 ls [.int v7]) := by
          intro H locs ls w hl
          refine lv_istore_n (lv' := [(3, .int v7), (0, .ref a_t), (1, .int i2), (2, .int i1)]) hx hb dX3_advanceTimers_46 rfl hl (by decide) rfl (fun ls hl => ?_)
          refine lv_iload_n hx hb dX3_advanceTimers_47 rfl (lv_at hl 2 rfl) ?_
          obtain ⟨v8, hT66, hT4⟩ := bq_bd_el hT4
          have K66 : ∀ (H : Heap) (locs : List Loc) (ls : Array Slot), bq_w D A s.heap (wdX3_advanceTimers cI a_t a_t_circuit a_t_sequence a_t_timers u_t_log u_t_score u_t_strokes u_t_positions u_t_faults u_t_sequence_plus u_t_sequence_minus u_t_sequence_pauses u_t_sequence_outBefore u_t_sequence_cuts u_t_sequence_groupOfStep t t_circuit t_sequence t_timers_3) H locs → lv_has ls 4 [(0, .ref a_t), (2, .int i1), (3, .int v7)] → W p l e rmX3_advanceTimers s m av9 below meth c H locs 0 0 Q (F0 m 66 ls [.int v8]) := by
            intro H locs ls w hl
            refine lv_istore_n (lv' := [(1, .int v8), (0, .ref a_t), (2, .int i1), (3, .int v7)]) hx hb dX3_advanceTimers_66 rfl hl (by decide) rfl (fun ls hl => ?_)
            refine lv_aload_n hx hb dX3_advanceTimers_67 rfl (lv_at hl 1 rfl) ?_
            refine gt_X3_39 E K w 0 rfl rfl dX3_advanceTimers_68 ?_
            refine lv_iload_n hx hb dX3_advanceTimers_71 rfl (lv_at hl 2 rfl) ?_
            refine lv_iload_n hx hb dX3_advanceTimers_72 rfl (lv_at hl 3 rfl) ?_
            obtain ⟨hI, hT4⟩ := bq_ci_el hT4
            obtain ⟨t_timers_9, e9, hT4⟩ := bq_let_el hT4
            refine bq_ast E K w 3 rfl hI dX3_advanceTimers_73 (fun H locs w => ?_)
            replace w : bq_w D A s.heap (wdX3_advanceTimers cI a_t a_t_circuit a_t_sequence a_t_timers u_t_log u_t_score u_t_strokes u_t_positions u_t_faults u_t_sequence_plus u_t_sequence_minus u_t_sequence_pauses u_t_sequence_outBefore u_t_sequence_cuts u_t_sequence_groupOfStep t t_circuit t_sequence t_timers_9) H locs := by rw [e9]; exact w
            clear e9
            obtain ⟨v10, e9, hT4⟩ := bq_let_el hT4
            refine lv_iinc (v := v10) (lv' := [(2, .int v10), (1, .int v8), (0, .ref a_t), (3, .int v7)]) hx hb dX3_advanceTimers_74 hl (k := 2) rfl (by rw [e9]; rfl) (by decide) rfl (fun ls hl => ?_)
            clear e9
            refine lv_goto (tgt := 4) hx hb dX3_advanceTimers_77 (by decide) ?_
            obtain rfl := Option.some.inj hT4
            exact ih v10 v8 t_timers_9 H locs ls hR4 w (lv_sub hl [2, 1, 0] rfl)
          clear hT4
          refine lv_if_ne (tgt := 61) hx hb dX3_advanceTimers_48 (by decide) (fun hc => ?_) (fun hc => ?_)
          · replace hT66 := bq_f hc hT66
            clear hc
            refine lv_iconst (v := 1) hx hb dX3_advanceTimers_61 (by decide) ?_
            refine lv_goto (tgt := 66) hx hb dX3_advanceTimers_62 (by decide) ?_
            obtain rfl := Option.some.inj hT66
            exact K66 H locs ls w (lv_sub hl [1, 3, 0] rfl)
          · replace hT66 := bq_t hc hT66
            clear hc
            refine lv_iload_n hx hb dX3_advanceTimers_51 rfl (lv_at hl 0 rfl) ?_
            refine lv_aload_n hx hb dX3_advanceTimers_52 rfl (lv_at hl 1 rfl) ?_
            refine gt_X3_39 E K w 0 rfl rfl dX3_advanceTimers_53 ?_
            refine lv_iload_n hx hb dX3_advanceTimers_56 rfl (lv_at hl 3 rfl) ?_
            obtain ⟨hI, hT66⟩ := bq_ci_el hT66
            refine bq_ald E K w 3 rfl hI dX3_advanceTimers_57 ?_
            refine lv_icmp_eq (tgt := 65) hx hb dX3_advanceTimers_58 (by decide) (fun hc => ?_) (fun hc => ?_)
            · replace hT66 := bq_t hc hT66
              clear hc
              refine lv_iconst (v := 0) hx hb dX3_advanceTimers_65 (by decide) ?_
              obtain rfl := Option.some.inj hT66
              exact K66 H locs ls w (lv_sub hl [1, 3, 0] rfl)
            · replace hT66 := bq_f hc hT66
              clear hc
              refine lv_iconst (v := 1) hx hb dX3_advanceTimers_61 (by decide) ?_
              refine lv_goto (tgt := 66) hx hb dX3_advanceTimers_62 (by decide) ?_
              obtain rfl := Option.some.inj hT66
              exact K66 H locs ls w (lv_sub hl [1, 3, 0] rfl)
        clear hT4
        refine lv_if_eq (tgt := 45) hx hb dX3_advanceTimers_26 (by decide) (fun hc => ?_) (fun hc => ?_)
        · replace hT46 := bq_t hc hT46
          clear hc
          refine lv_iconst (v := 0) hx hb dX3_advanceTimers_45 (by decide) ?_
          obtain rfl := Option.some.inj hT46
          exact K46 H locs ls w (lv_sub hl [0, 1, 2] rfl)
        · replace hT46 := bq_f hc hT46
          clear hc
          refine lv_aload_n hx hb dX3_advanceTimers_29 rfl (lv_at hl 0 rfl) ?_
          refine gt_X3_39 E K w 0 rfl rfl dX3_advanceTimers_30 ?_
          refine lv_iload_n hx hb dX3_advanceTimers_33 rfl (lv_at hl 2 rfl) ?_
          obtain ⟨hI, hT46⟩ := bq_ci_el hT46
          refine bq_ald E K w 3 rfl hI dX3_advanceTimers_34 ?_
          refine lv_iconst (v := 1) hx hb dX3_advanceTimers_35 (by decide) ?_
          refine lv_iadd hx hb dX3_advanceTimers_36 ?_
          refine lv_bipush (v := 60) hx hb dX3_advanceTimers_37 (by decide) ?_
          refine bq_min E ml_X3_155 hl.1 (Nat.le_of_ble_eq_true rfl) (Nat.le_of_ble_eq_true rfl) (Nat.le_of_ble_eq_true rfl) (Nat.le_of_ble_eq_true rfl) dX3_advanceTimers_39 ?_
          refine lv_goto (tgt := 46) hx hb dX3_advanceTimers_42 (by decide) ?_
          obtain rfl := Option.some.inj hT46
          exact K46 H locs ls w (lv_sub hl [0, 1, 2] rfl)
  exact L4 nn 0 0 t_timers H locs ls hL w (lv_sub hl [2, 1, 0] rfl)
