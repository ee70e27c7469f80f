abbrev wdL_type (cI : ClassId) (cJ : ClassId) (a_t a_t_reader a_t_reader_signs a_p2 u_t_rig u_t_trial u_t_snapshot u_t_spare : Nat) (t : Nat → Int32) (t_reader : Nat → Int32) (t_reader_signs : Nat → Int32) (p2 : Nat → Int64) : va_W := [(a_t, oX7 a_t_reader u_t_rig u_t_trial u_t_snapshot u_t_spare t), (a_t_reader, oX2 a_t_reader_signs t_reader), (a_t_reader_signs, oA cI 80 t_reader_signs), (a_p2, oJ cJ 1 p2)]
abbrev rmL_type : Room := { frames := 2, cells := 0, slots := 0, locals := 42 }
theorem hs_L_type : yL_type.cls ≠ "java/lang/invoke/MethodHandle" ∧ yL_type.cls ≠ "java/lang/invoke/VarHandle" ∧ (parseMethodDescriptor yL_type.desc).map (fun d => d.parameters.length) = some 3 := by decide +kernel
set_option maxHeartbeats 4000000 in
set_option maxRecDepth 100000 in
theorem kL_type (l : Launch) (D : va_G) (cI cJ : ClassId) (a_t a_t_reader a_t_reader_signs a_p2 u_t_rig u_t_trial u_t_snapshot u_t_spare : Nat) (t : Nat → Int32) (t_reader : Nat → Int32) (t_reader_signs : Nat → Int32) (p2 : Nat → Int64) (x1 : Int32) (r : Int32) (t_reader_o : Nat → Int32) (t_reader_signs_o : Nat → Int32) (p2_o : Nat → Int64) (hm : mL_type t_reader t_reader_signs p2 x1 = some (r, t_reader_o, t_reader_signs_o, p2_o)) : bq_MH l D cI cJ yL_type cL_type 4 (some .int) [(0, 9, 12, 13), (0, 9, 15, 15)] rmL_type [.ref a_t, .int x1, .ref a_p2] (wdL_type cI cJ a_t a_t_reader a_t_reader_signs a_p2 u_t_rig u_t_trial u_t_snapshot u_t_spare t t_reader t_reader_signs p2) (wdL_type cI cJ a_t a_t_reader a_t_reader_signs a_p2 u_t_rig u_t_trial u_t_snapshot u_t_spare t t_reader_o t_reader_signs_o p2_o) (some (.int r)) := by
  refine bq_startH (by decide) (Nat.le_of_ble_eq_true rfl) ?_
  intro p e s m av9 below meth c A ls Q H locs E K w hA hr hk hX htab hQ hl
  have E : bq_E p m c cL_type 4 s av9 RL := E
  have hx := E.1
  have hb := E.2.1
  have hl : lv_has ls 4 [(0, .ref a_t), (1, .int x1), (2, .ref a_p2)] := hl
  unfold mL_type at hm
  refine lv_aload_n hx hb dL_type_0 rfl (lv_at hl 2 rfl) ?_
  refine lv_iconst (v := 0) hx hb dL_type_1 (by decide) ?_
  refine lv_aload_n hx hb dL_type_2 rfl (lv_at hl 0 rfl) ?_
  refine lv_iload_n hx hb dL_type_3 rfl (lv_at hl 1 rfl) ?_
  obtain ⟨v1, t_reader_2, t_reader_signs_3, hC, hm⟩ := bq_b3_el hm
  refine bq_V (As := [.int x1]) (rest := [.int 0, .ref a_p2]) (st1 := [.int v1, .int 0, .ref a_p2]) (ws' := wdL_type cI cJ a_t a_t_reader a_t_reader_signs a_p2 u_t_rig u_t_trial u_t_snapshot u_t_spare t t_reader_2 t_reader_signs_3 p2) E K w hA (kX7_type l D cI cJ a_t a_t_reader a_t_reader_signs u_t_rig u_t_trial u_t_snapshot u_t_spare t t_reader t_reader_signs x1 v1 t_reader_2 t_reader_signs_3 hC) (bq_gV ml_L_7 im_X7_type sl_X7_type in_X7 cd_X7_type) hd_X7_type ⟨Nat.le_of_ble_eq_true rfl, Nat.le_of_ble_eq_true rfl⟩ ⟨Nat.le_of_ble_eq_true rfl, Nat.le_of_ble_eq_true rfl⟩ ⟨[0, 1, 2], [3], [1, 2, 3, 0], rfl, rfl, rfl, rfl, rfl, rfl, rfl, rfl, rfl⟩ 0 rfl rfl rfl hl.1 rfl (Nat.le_of_ble_eq_true rfl) rfl dL_type_4 (fun H locs w => bq_z ⟨rfl, rfl⟩ ?_)
  clear hC
  refine lv_i2l hx hb dL_type_7 rfl ?_
  obtain ⟨p2_4, e9, hm⟩ := bq_let_el hm
  refine bq_lastk E K w 3 rfl 0 (by decide) (by unfold vp_in; decide) dL_type_8 (fun H locs w => ?_)
  replace w : bq_w D A s.heap (wdL_type cI cJ a_t a_t_reader a_t_reader_signs a_p2 u_t_rig u_t_trial u_t_snapshot u_t_spare t t_reader_2 t_reader_signs_3 p2_4) H locs := by rw [e9]; exact w
  clear e9
  refine lv_goto (tgt := 18) hx hb dL_type_9 (by decide) ?_
  refine lv_iconst (v := 0) hx hb dL_type_18 (by decide) ?_
  obtain ⟨rfl, rfl, rfl, rfl⟩ := bq_in4 (Option.some.inj hm)
  exact bq_hret E w hr hk dL_type_19 hQ
abbrev rmTL_type : Room := { frames := 7, cells := 1, slots := 6, locals := 121 }
set_option maxHeartbeats 4000000 in
set_option maxRecDepth 100000 in
theorem tkL_type {l : Launch} (hlf : l.stackTraces = false) (D : va_G) (cI cJ : ClassId) (a_t a_t_reader a_t_reader_signs a_p2 u_t_rig u_t_trial u_t_snapshot u_t_spare : Nat) (t : Nat → Int32) (t_reader : Nat → Int32) (t_reader_signs : Nat → Int32) (p2 : Nat → Int64) (x1 : Int32) (r : Int32) (hm : tL_type t_reader t_reader_signs p2 x1 = some r) : bq_MH l D cI cJ yL_type cL_type 4 (some .int) [(0, 9, 12, 13), (0, 9, 15, 15)] rmTL_type [.ref a_t, .int x1, .ref a_p2] (wdL_type cI cJ a_t a_t_reader a_t_reader_signs a_p2 u_t_rig u_t_trial u_t_snapshot u_t_spare t t_reader t_reader_signs p2) (wdL_type cI cJ a_t a_t_reader a_t_reader_signs a_p2 u_t_rig u_t_trial u_t_snapshot u_t_spare t t_reader t_reader_signs p2) (some (.int r)) := by
  refine bq_startH (by decide) (Nat.le_of_ble_eq_true rfl) ?_
  intro p e s m av9 below meth c A ls Q H locs E K w hA hr hk hX htab hQ hl
  have E : bq_E p m c cL_type 4 s av9 RL := E
  have hx := E.1
  have hb := E.2.1
  have hl : lv_has ls 4 [(0, .ref a_t), (1, .int x1), (2, .ref a_p2)] := hl
  unfold tL_type at hm
  refine lv_aload_n hx hb dL_type_0 rfl (lv_at hl 2 rfl) ?_
  refine lv_iconst (v := 0) hx hb dL_type_1 (by decide) ?_
  refine lv_aload_n hx hb dL_type_2 rfl (lv_at hl 0 rfl) ?_
  refine lv_iload_n hx hb dL_type_3 rfl (lv_at hl 1 rfl) ?_
  obtain ⟨k9, hC, hm⟩ := bq_bd_el hm
  by_cases hq : k9 = 0
  · subst hq
    replace hm := bq_t rfl hm
    obtain rfl := Option.some.inj hm
    refine bq_HV (As := [.int x1]) (rest := [.int 0, .ref a_p2]) E K w hA hX ⟨rfl, rfl⟩ (tkX7_type hlf D cI cJ a_t a_t_reader a_t_reader_signs u_t_rig u_t_trial u_t_snapshot u_t_spare t t_reader t_reader_signs x1 _ hC) (bq_gV ml_L_7 im_X7_type sl_X7_type in_X7 cd_X7_type) hd_X7_type ⟨Nat.le_of_ble_eq_true rfl, Nat.le_of_ble_eq_true rfl⟩ ⟨Nat.le_of_ble_eq_true rfl, Nat.le_of_ble_eq_true rfl⟩ ⟨[0, 1, 2], [3], [1, 2, 3, 0], rfl, rfl, rfl, rfl, rfl, rfl, rfl, rfl, rfl⟩ 0 rfl rfl rfl hl.1 rfl (Nat.le_of_ble_eq_true rfl) dL_type_4 (fun q9 ce H locs w h1 h2 h3 => ?_)
    refine vx_catch (E := "java/lang/IllegalArgumentException") (name := "java/lang/IllegalArgumentException") E.2.2.2.1 [] ⟨0, 9, 12, 13⟩ [⟨0, 9, 15, 15⟩] (by rw [htab]; rfl) (fun z h => by cases h) (by decide) (by decide) (E.2.2.2.2 _ cl_L_13) (va_Nw.use rfl (K.2 _ mc_IllegalArgumentException)) h1 h2 h3 ?_
    refine lv_astore_n (lv' := [(3, .ref q9), (0, .ref a_t), (1, .int x1), (2, .ref a_p2)]) hx hb dL_type_12 rfl hl (by decide) rfl (fun ls hl => ?_)
    refine lv_iconst (v := 1) hx hb dL_type_13 (by decide) ?_
    exact bq_hret E w hr hk dL_type_14 hQ
  replace hm := bq_f hq hm
  by_cases hq : k9 = 1
  · subst hq
    replace hm := bq_t rfl hm
    obtain rfl := Option.some.inj hm
    refine bq_HV (As := [.int x1]) (rest := [.int 0, .ref a_p2]) E K w hA hX ⟨rfl, rfl⟩ (tkX7_type hlf D cI cJ a_t a_t_reader a_t_reader_signs u_t_rig u_t_trial u_t_snapshot u_t_spare t t_reader t_reader_signs x1 _ hC) (bq_gV ml_L_7 im_X7_type sl_X7_type in_X7 cd_X7_type) hd_X7_type ⟨Nat.le_of_ble_eq_true rfl, Nat.le_of_ble_eq_true rfl⟩ ⟨Nat.le_of_ble_eq_true rfl, Nat.le_of_ble_eq_true rfl⟩ ⟨[0, 1, 2], [3], [1, 2, 3, 0], rfl, rfl, rfl, rfl, rfl, rfl, rfl, rfl, rfl⟩ 0 rfl rfl rfl hl.1 rfl (Nat.le_of_ble_eq_true rfl) dL_type_4 (fun q9 ce H locs w h1 h2 h3 => ?_)
    refine vx_catch (E := "java/lang/IllegalStateException") (name := "java/lang/IllegalStateException") E.2.2.2.1 [⟨0, 9, 12, 13⟩] ⟨0, 9, 15, 15⟩ [] (by rw [htab]; rfl) (fun z h => by rw [List.mem_singleton.mp h]; exact Or.inr ⟨by decide, "java/lang/IllegalArgumentException", E.2.2.2.2 _ cl_L_13, hX.2.2.2.1⟩) (by decide) (by decide) (E.2.2.2.2 _ cl_L_15) (va_Nw.use rfl (K.2 _ mc_IllegalStateException)) h1 h2 h3 ?_
    refine lv_astore_n (lv' := [(3, .ref q9), (0, .ref a_t), (1, .int x1), (2, .ref a_p2)]) hx hb dL_type_15 rfl hl (by decide) rfl (fun ls hl => ?_)
    refine lv_iconst (v := 2) hx hb dL_type_16 (by decide) ?_
    exact bq_hret E w hr hk dL_type_17 hQ
  replace hm := bq_f hq hm
  cases hm
abbrev wdL_moves (cI : ClassId) (cJ : ClassId) (a_t a_t_rig a_t_rig_sequence a_t_rig_sequence_minus a_t_rig_sequence_plus a_p2 u_t_reader u_t_trial u_t_snapshot u_t_spare u_t_rig_circuit u_t_rig_log u_t_rig_score u_t_rig_strokes u_t_rig_positions u_t_rig_timers u_t_rig_faults u_t_rig_sequence_pauses u_t_rig_sequence_outBefore u_t_rig_sequence_cuts u_t_rig_sequence_groupOfStep : Nat) (t : Nat → Int32) (t_rig : Nat → Int32) (t_rig_sequence : Nat → Int32) (t_rig_sequence_minus : Nat → Int32) (t_rig_sequence_plus : Nat → Int32) (p2 : Nat → Int64) : va_W := [(a_t, oX7 u_t_reader a_t_rig u_t_trial u_t_snapshot u_t_spare t), (a_t_rig, oX3 a_t_rig_sequence u_t_rig_circuit u_t_rig_log u_t_rig_score u_t_rig_strokes u_t_rig_positions u_t_rig_timers u_t_rig_faults t_rig), (a_t_rig_sequence, oX5 a_t_rig_sequence_plus a_t_rig_sequence_minus u_t_rig_sequence_pauses u_t_rig_sequence_outBefore u_t_rig_sequence_cuts u_t_rig_sequence_groupOfStep t_rig_sequence), (a_t_rig_sequence_minus, oA cI 16 t_rig_sequence_minus), (a_t_rig_sequence_plus, oA cI 16 t_rig_sequence_plus), (a_p2, oJ cJ 1 p2)]
abbrev rmL_moves : Room := { frames := 2, cells := 0, slots := 0, locals := 42 }
theorem hs_L_moves : yL_moves.cls ≠ "java/lang/invoke/MethodHandle" ∧ yL_moves.cls ≠ "java/lang/invoke/VarHandle" ∧ (parseMethodDescriptor yL_moves.desc).map (fun d => d.parameters.length) = some 3 := by decide +kernel
set_option maxHeartbeats 4000000 in
set_option maxRecDepth 100000 in
theorem kL_moves (l : Launch) (D : va_G) (cI cJ : ClassId) (a_t a_t_rig a_t_rig_sequence a_t_rig_sequence_minus a_t_rig_sequence_plus a_p2 u_t_reader u_t_trial u_t_snapshot u_t_spare u_t_rig_circuit u_t_rig_log u_t_rig_score u_t_rig_strokes u_t_rig_positions u_t_rig_timers u_t_rig_faults u_t_rig_sequence_pauses u_t_rig_sequence_outBefore u_t_rig_sequence_cuts u_t_rig_sequence_groupOfStep : Nat) (t : Nat → Int32) (t_rig : Nat → Int32) (t_rig_sequence : Nat → Int32) (t_rig_sequence_minus : Nat → Int32) (t_rig_sequence_plus : Nat → Int32) (p2 : Nat → Int64) (x1 : Int32) (r : Int32) (p2_o : Nat → Int64) (hm : mL_moves t_rig_sequence t_rig_sequence_minus t_rig_sequence_plus p2 x1 = some (r, p2_o)) : bq_MH l D cI cJ yL_moves cL_moves 4 (some .int) [(0, 9, 12, 20)] rmL_moves [.ref a_t, .int x1, .ref a_p2] (wdL_moves cI cJ a_t a_t_rig a_t_rig_sequence a_t_rig_sequence_minus a_t_rig_sequence_plus a_p2 u_t_reader u_t_trial u_t_snapshot u_t_spare u_t_rig_circuit u_t_rig_log u_t_rig_score u_t_rig_strokes u_t_rig_positions u_t_rig_timers u_t_rig_faults u_t_rig_sequence_pauses u_t_rig_sequence_outBefore u_t_rig_sequence_cuts u_t_rig_sequence_groupOfStep t t_rig t_rig_sequence t_rig_sequence_minus t_rig_sequence_plus p2) (wdL_moves cI cJ a_t a_t_rig a_t_rig_sequence a_t_rig_sequence_minus a_t_rig_sequence_plus a_p2 u_t_reader u_t_trial u_t_snapshot u_t_spare u_t_rig_circuit u_t_rig_log u_t_rig_score u_t_rig_strokes u_t_rig_positions u_t_rig_timers u_t_rig_faults u_t_rig_sequence_pauses u_t_rig_sequence_outBefore u_t_rig_sequence_cuts u_t_rig_sequence_groupOfStep t t_rig t_rig_sequence t_rig_sequence_minus t_rig_sequence_plus p2_o) (some (.int r)) := by
  refine bq_startH (by decide) (Nat.le_of_ble_eq_true rfl) ?_
  intro p e s m av9 below meth c A ls Q H locs E K w hA hr hk hX htab hQ hl
  have E : bq_E p m c cL_moves 4 s av9 RL := E
  have hx := E.1
  have hb := E.2.1
  have hl : lv_has ls 4 [(0, .ref a_t), (1, .int x1), (2, .ref a_p2)] := hl
  unfold mL_moves at hm
  refine lv_aload_n hx hb dL_moves_0 rfl (lv_at hl 2 rfl) ?_
  refine lv_iconst (v := 0) hx hb dL_moves_1 (by decide) ?_
  refine lv_aload_n hx hb dL_moves_2 rfl (lv_at hl 0 rfl) ?_
  refine lv_iload_n hx hb dL_moves_3 rfl (lv_at hl 1 rfl) ?_
  obtain ⟨v1, hC, hm⟩ := bq_bd_el hm
  refine bq_V (As := [.int x1]) (rest := [.int 0, .ref a_p2]) (st1 := [.int v1, .int 0, .ref a_p2]) (ws' := wdL_moves cI cJ a_t a_t_rig a_t_rig_sequence a_t_rig_sequence_minus a_t_rig_sequence_plus a_p2 u_t_reader u_t_trial u_t_snapshot u_t_spare u_t_rig_circuit u_t_rig_log u_t_rig_score u_t_rig_strokes u_t_rig_positions u_t_rig_timers u_t_rig_faults u_t_rig_sequence_pauses u_t_rig_sequence_outBefore u_t_rig_sequence_cuts u_t_rig_sequence_groupOfStep t t_rig t_rig_sequence t_rig_sequence_minus t_rig_sequence_plus p2) E K w hA (kX7_moves l D cI cJ a_t a_t_rig a_t_rig_sequence a_t_rig_sequence_minus a_t_rig_sequence_plus u_t_reader u_t_trial u_t_snapshot u_t_spare u_t_rig_circuit u_t_rig_log u_t_rig_score u_t_rig_strokes u_t_rig_positions u_t_rig_timers u_t_rig_faults u_t_rig_sequence_pauses u_t_rig_sequence_outBefore u_t_rig_sequence_cuts u_t_rig_sequence_groupOfStep t t_rig t_rig_sequence t_rig_sequence_minus t_rig_sequence_plus x1 v1 hC) (bq_gV ml_L_17 im_X7_moves sl_X7_moves in_X7 cd_X7_moves) hd_X7_moves ⟨Nat.le_of_ble_eq_true rfl, Nat.le_of_ble_eq_true rfl⟩ ⟨Nat.le_of_ble_eq_true rfl, Nat.le_of_ble_eq_true rfl⟩ ⟨[0, 1, 2, 3, 4], [5], [1, 2, 3, 4, 5, 0], rfl, rfl, rfl, rfl, rfl, rfl, rfl, rfl, rfl⟩ 0 rfl rfl rfl hl.1 rfl (Nat.le_of_ble_eq_true rfl) rfl dL_moves_4 (fun H locs w => bq_z ⟨rfl, rfl⟩ ?_)
  clear hC
  refine lv_i2l hx hb dL_moves_7 rfl ?_
  obtain ⟨p2_2, e9, hm⟩ := bq_let_el hm
  refine bq_lastk E K w 5 rfl 0 (by decide) (by unfold vp_in; decide) dL_moves_8 (fun H locs w => ?_)
  replace w : bq_w D A s.heap (wdL_moves cI cJ a_t a_t_rig a_t_rig_sequence a_t_rig_sequence_minus a_t_rig_sequence_plus a_p2 u_t_reader u_t_trial u_t_snapshot u_t_spare u_t_rig_circuit u_t_rig_log u_t_rig_score u_t_rig_strokes u_t_rig_positions u_t_rig_timers u_t_rig_faults u_t_rig_sequence_pauses u_t_rig_sequence_outBefore u_t_rig_sequence_cuts u_t_rig_sequence_groupOfStep t t_rig t_rig_sequence t_rig_sequence_minus t_rig_sequence_plus p2_2) H locs := by rw [e9]; exact w
  clear e9
  refine lv_goto (tgt := 15) hx hb dL_moves_9 (by decide) ?_
  refine lv_iconst (v := 0) hx hb dL_moves_15 (by decide) ?_
  obtain ⟨rfl, rfl⟩ := bq_in2 (Option.some.inj hm)
  exact bq_hret E w hr hk dL_moves_16 hQ
abbrev rmTL_moves : Room := { frames := 8, cells := 1, slots := 6, locals := 142 }
set_option maxHeartbeats 4000000 in
set_option maxRecDepth 100000 in
theorem tkL_moves {l : Launch} (hlf : l.stackTraces = false) (D : va_G) (cI cJ : ClassId) (a_t a_t_rig a_t_rig_sequence a_t_rig_sequence_minus a_t_rig_sequence_plus a_p2 u_t_reader u_t_trial u_t_snapshot u_t_spare u_t_rig_circuit u_t_rig_log u_t_rig_score u_t_rig_strokes u_t_rig_positions u_t_rig_timers u_t_rig_faults u_t_rig_sequence_pauses u_t_rig_sequence_outBefore u_t_rig_sequence_cuts u_t_rig_sequence_groupOfStep : Nat) (t : Nat → Int32) (t_rig : Nat → Int32) (t_rig_sequence : Nat → Int32) (t_rig_sequence_minus : Nat → Int32) (t_rig_sequence_plus : Nat → Int32) (p2 : Nat → Int64) (x1 : Int32) (r : Int32) (hm : tL_moves t_rig_sequence t_rig_sequence_minus t_rig_sequence_plus p2 x1 = some r) : bq_MH l D cI cJ yL_moves cL_moves 4 (some .int) [(0, 9, 12, 20)] rmTL_moves [.ref a_t, .int x1, .ref a_p2] (wdL_moves cI cJ a_t a_t_rig a_t_rig_sequence a_t_rig_sequence_minus a_t_rig_sequence_plus a_p2 u_t_reader u_t_trial u_t_snapshot u_t_spare u_t_rig_circuit u_t_rig_log u_t_rig_score u_t_rig_strokes u_t_rig_positions u_t_rig_timers u_t_rig_faults u_t_rig_sequence_pauses u_t_rig_sequence_outBefore u_t_rig_sequence_cuts u_t_rig_sequence_groupOfStep t t_rig t_rig_sequence t_rig_sequence_minus t_rig_sequence_plus p2) (wdL_moves cI cJ a_t a_t_rig a_t_rig_sequence a_t_rig_sequence_minus a_t_rig_sequence_plus a_p2 u_t_reader u_t_trial u_t_snapshot u_t_spare u_t_rig_circuit u_t_rig_log u_t_rig_score u_t_rig_strokes u_t_rig_positions u_t_rig_timers u_t_rig_faults u_t_rig_sequence_pauses u_t_rig_sequence_outBefore u_t_rig_sequence_cuts u_t_rig_sequence_groupOfStep t t_rig t_rig_sequence t_rig_sequence_minus t_rig_sequence_plus p2) (some (.int r)) := by
  refine bq_startH (by decide) (Nat.le_of_ble_eq_true rfl) ?_
  intro p e s m av9 below meth c A ls Q H locs E K w hA hr hk hX htab hQ hl
  have E : bq_E p m c cL_moves 4 s av9 RL := E
  have hx := E.1
  have hb := E.2.1
  have hl : lv_has ls 4 [(0, .ref a_t), (1, .int x1), (2, .ref a_p2)] := hl
  unfold tL_moves at hm
  refine lv_aload_n hx hb dL_moves_0 rfl (lv_at hl 2 rfl) ?_
  refine lv_iconst (v := 0) hx hb dL_moves_1 (by decide) ?_
  refine lv_aload_n hx hb dL_moves_2 rfl (lv_at hl 0 rfl) ?_
  refine lv_iload_n hx hb dL_moves_3 rfl (lv_at hl 1 rfl) ?_
  obtain ⟨k9, hC, hm⟩ := bq_bd_el hm
  by_cases hq : k9 = 2
  · subst hq
    replace hm := bq_t rfl hm
    obtain rfl := Option.some.inj hm
    refine bq_HV (As := [.int x1]) (rest := [.int 0, .ref a_p2]) E K w hA hX ⟨rfl, rfl⟩ (tkX7_moves hlf D cI cJ a_t a_t_rig a_t_rig_sequence a_t_rig_sequence_minus a_t_rig_sequence_plus u_t_reader u_t_trial u_t_snapshot u_t_spare u_t_rig_circuit u_t_rig_log u_t_rig_score u_t_rig_strokes u_t_rig_positions u_t_rig_timers u_t_rig_faults u_t_rig_sequence_pauses u_t_rig_sequence_outBefore u_t_rig_sequence_cuts u_t_rig_sequence_groupOfStep t t_rig t_rig_sequence t_rig_sequence_minus t_rig_sequence_plus x1 _ hC) (bq_gV ml_L_17 im_X7_moves sl_X7_moves in_X7 cd_X7_moves) hd_X7_moves ⟨Nat.le_of_ble_eq_true rfl, Nat.le_of_ble_eq_true rfl⟩ ⟨Nat.le_of_ble_eq_true rfl, Nat.le_of_ble_eq_true rfl⟩ ⟨[0, 1, 2, 3, 4], [5], [1, 2, 3, 4, 5, 0], rfl, rfl, rfl, rfl, rfl, rfl, rfl, rfl, rfl⟩ 0 rfl rfl rfl hl.1 rfl (Nat.le_of_ble_eq_true rfl) dL_moves_4 (fun q9 ce H locs w h1 h2 h3 => ?_)
    refine vx_catch (E := "java/lang/IndexOutOfBoundsException") (name := "java/lang/IndexOutOfBoundsException") E.2.2.2.1 [] ⟨0, 9, 12, 20⟩ [] (by rw [htab]; rfl) (fun z h => by cases h) (by decide) (by decide) (E.2.2.2.2 _ cl_L_20) (va_Nw.use rfl (K.2 _ mc_IndexOutOfBoundsException)) h1 h2 h3 ?_
    refine lv_astore_n (lv' := [(3, .ref q9), (0, .ref a_t), (1, .int x1), (2, .ref a_p2)]) hx hb dL_moves_12 rfl hl (by decide) rfl (fun ls hl => ?_)
    refine lv_iconst (v := 1) hx hb dL_moves_13 (by decide) ?_
    exact bq_hret E w hr hk dL_moves_14 hQ
  replace hm := bq_f hq hm
  cases hm
abbrev wdL_direction (cI : ClassId) (cJ : ClassId) (a_t a_t_rig a_t_rig_sequence a_t_rig_sequence_minus a_t_rig_sequence_plus a_p3 u_t_reader u_t_trial u_t_snapshot u_t_spare u_t_rig_circuit u_t_rig_log u_t_rig_score u_t_rig_strokes u_t_rig_positions u_t_rig_timers u_t_rig_faults u_t_rig_sequence_pauses u_t_rig_sequence_outBefore u_t_rig_sequence_cuts u_t_rig_sequence_groupOfStep : Nat) (t : Nat → Int32) (t_rig : Nat → Int32) (t_rig_sequence : Nat → Int32) (t_rig_sequence_minus : Nat → Int32) (t_rig_sequence_plus : Nat → Int32) (p3 : Nat → Int64) : va_W := [(a_t, oX7 u_t_reader a_t_rig u_t_trial u_t_snapshot u_t_spare t), (a_t_rig, oX3 a_t_rig_sequence u_t_rig_circuit u_t_rig_log u_t_rig_score u_t_rig_strokes u_t_rig_positions u_t_rig_timers u_t_rig_faults t_rig), (a_t_rig_sequence, oX5 a_t_rig_sequence_plus a_t_rig_sequence_minus u_t_rig_sequence_pauses u_t_rig_sequence_outBefore u_t_rig_sequence_cuts u_t_rig_sequence_groupOfStep t_rig_sequence), (a_t_rig_sequence_minus, oA cI 16 t_rig_sequence_minus), (a_t_rig_sequence_plus, oA cI 16 t_rig_sequence_plus), (a_p3, oJ cJ 1 p3)]
abbrev rmL_direction : Room := { frames := 2, cells := 0, slots := 0, locals := 43 }
theorem hs_L_direction : yL_direction.cls ≠ "java/lang/invoke/MethodHandle" ∧ yL_direction.cls ≠ "java/lang/invoke/VarHandle" ∧ (parseMethodDescriptor yL_direction.desc).map (fun d => d.parameters.length) = some 4 := by decide +kernel
set_option maxHeartbeats 4000000 in
set_option maxRecDepth 100000 in
theorem kL_direction (l : Launch) (D : va_G) (cI cJ : ClassId) (a_t a_t_rig a_t_rig_sequence a_t_rig_sequence_minus a_t_rig_sequence_plus a_p3 u_t_reader u_t_trial u_t_snapshot u_t_spare u_t_rig_circuit u_t_rig_log u_t_rig_score u_t_rig_strokes u_t_rig_positions u_t_rig_timers u_t_rig_faults u_t_rig_sequence_pauses u_t_rig_sequence_outBefore u_t_rig_sequence_cuts u_t_rig_sequence_groupOfStep : Nat) (t : Nat → Int32) (t_rig : Nat → Int32) (t_rig_sequence : Nat → Int32) (t_rig_sequence_minus : Nat → Int32) (t_rig_sequence_plus : Nat → Int32) (p3 : Nat → Int64) (x1 : Int32) (x2 : Int32) (r : Int32) (p3_o : Nat → Int64) (hm : mL_direction t_rig_sequence t_rig_sequence_minus t_rig_sequence_plus p3 x1 x2 = some (r, p3_o)) : bq_MH l D cI cJ yL_direction cL_direction 5 (some .int) [(0, 10, 13, 20)] rmL_direction [.ref a_t, .int x1, .int x2, .ref a_p3] (wdL_direction cI cJ a_t a_t_rig a_t_rig_sequence a_t_rig_sequence_minus a_t_rig_sequence_plus a_p3 u_t_reader u_t_trial u_t_snapshot u_t_spare u_t_rig_circuit u_t_rig_log u_t_rig_score u_t_rig_strokes u_t_rig_positions u_t_rig_timers u_t_rig_faults u_t_rig_sequence_pauses u_t_rig_sequence_outBefore u_t_rig_sequence_cuts u_t_rig_sequence_groupOfStep t t_rig t_rig_sequence t_rig_sequence_minus t_rig_sequence_plus p3) (wdL_direction cI cJ a_t a_t_rig a_t_rig_sequence a_t_rig_sequence_minus a_t_rig_sequence_plus a_p3 u_t_reader u_t_trial u_t_snapshot u_t_spare u_t_rig_circuit u_t_rig_log u_t_rig_score u_t_rig_strokes u_t_rig_positions u_t_rig_timers u_t_rig_faults u_t_rig_sequence_pauses u_t_rig_sequence_outBefore u_t_rig_sequence_cuts u_t_rig_sequence_groupOfStep t t_rig t_rig_sequence t_rig_sequence_minus t_rig_sequence_plus p3_o) (some (.int r)) := by
  refine bq_startH (by decide) (Nat.le_of_ble_eq_true rfl) ?_
  intro p e s m av9 below meth c A ls Q H locs E K w hA hr hk hX htab hQ hl
  have E : bq_E p m c cL_direction 5 s av9 RL := E
  have hx := E.1
  have hb := E.2.1
  have hl : lv_has ls 5 [(0, .ref a_t), (1, .int x1), (2, .int x2), (3, .ref a_p3)] := hl
  unfold mL_direction at hm
  refine lv_aload_n hx hb dL_direction_0 rfl (lv_at hl 3 rfl) ?_
  refine lv_iconst (v := 0) hx hb dL_direction_1 (by decide) ?_
  refine lv_aload_n hx hb dL_direction_2 rfl (lv_at hl 0 rfl) ?_
  refine lv_iload_n hx hb dL_direction_3 rfl (lv_at hl 1 rfl) ?_
  refine lv_iload_n hx hb dL_direction_4 rfl (lv_at hl 2 rfl) ?_
  obtain ⟨v1, hC, hm⟩ := bq_bd_el hm
  refine bq_V (As := [.int x1, .int x2]) (rest := [.int 0, .ref a_p3]) (st1 := [.int v1, .int 0, .ref a_p3]) (ws' := wdL_direction cI cJ a_t a_t_rig a_t_rig_sequence a_t_rig_sequence_minus a_t_rig_sequence_plus a_p3 u_t_reader u_t_trial u_t_snapshot u_t_spare u_t_rig_circuit u_t_rig_log u_t_rig_score u_t_rig_strokes u_t_rig_positions u_t_rig_timers u_t_rig_faults u_t_rig_sequence_pauses u_t_rig_sequence_outBefore u_t_rig_sequence_cuts u_t_rig_sequence_groupOfStep t t_rig t_rig_sequence t_rig_sequence_minus t_rig_sequence_plus p3) E K w hA (kX7_direction l D cI cJ a_t a_t_rig a_t_rig_sequence a_t_rig_sequence_minus a_t_rig_sequence_plus u_t_reader u_t_trial u_t_snapshot u_t_spare u_t_rig_circuit u_t_rig_log u_t_rig_score u_t_rig_strokes u_t_rig_positions u_t_rig_timers u_t_rig_faults u_t_rig_sequence_pauses u_t_rig_sequence_outBefore u_t_rig_sequence_cuts u_t_rig_sequence_groupOfStep t t_rig t_rig_sequence t_rig_sequence_minus t_rig_sequence_plus x1 x2 v1 hC) (bq_gV ml_L_22 im_X7_direction sl_X7_direction in_X7 cd_X7_direction) hd_X7_direction ⟨Nat.le_of_ble_eq_true rfl, Nat.le_of_ble_eq_true rfl⟩ ⟨Nat.le_of_ble_eq_true rfl, Nat.le_of_ble_eq_true rfl⟩ ⟨[0, 1, 2, 3, 4], [5], [1, 2, 3, 4, 5, 0], rfl, rfl, rfl, rfl, rfl, rfl, rfl, rfl, rfl⟩ 0 rfl rfl rfl hl.1 rfl (Nat.le_of_ble_eq_true rfl) rfl dL_direction_5 (fun H locs w => bq_z ⟨rfl, rfl⟩ ?_)
  clear hC
  refine lv_i2l hx hb dL_direction_8 rfl ?_
  obtain ⟨p3_2, e9, hm⟩ := bq_let_el hm
  refine bq_lastk E K w 5 rfl 0 (by decide) (by unfold vp_in; decide) dL_direction_9 (fun H locs w => ?_)
  replace w : bq_w D A s.heap (wdL_direction cI cJ a_t a_t_rig a_t_rig_sequence a_t_rig_sequence_minus a_t_rig_sequence_plus a_p3 u_t_reader u_t_trial u_t_snapshot u_t_spare u_t_rig_circuit u_t_rig_log u_t_rig_score u_t_rig_strokes u_t_rig_positions u_t_rig_timers u_t_rig_faults u_t_rig_sequence_pauses u_t_rig_sequence_outBefore u_t_rig_sequence_cuts u_t_rig_sequence_groupOfStep t t_rig t_rig_sequence t_rig_sequence_minus t_rig_sequence_plus p3_2) H locs := by rw [e9]; exact w
  clear e9
  refine lv_goto (tgt := 17) hx hb dL_direction_10 (by decide) ?_
  refine lv_iconst (v := 0) hx hb dL_direction_17 (by decide) ?_
  obtain ⟨rfl, rfl⟩ := bq_in2 (Option.some.inj hm)
  exact bq_hret E w hr hk dL_direction_18 hQ
abbrev rmTL_direction : Room := { frames := 8, cells := 1, slots := 6, locals := 143 }
set_option maxHeartbeats 4000000 in
set_option maxRecDepth 100000 in
theorem tkL_direction {l : Launch} (hlf : l.stackTraces = false) (D : va_G) (cI cJ : ClassId) (a_t a_t_rig a_t_rig_sequence a_t_rig_sequence_minus a_t_rig_sequence_plus a_p3 u_t_reader u_t_trial u_t_snapshot u_t_spare u_t_rig_circuit u_t_rig_log u_t_rig_score u_t_rig_strokes u_t_rig_positions u_t_rig_timers u_t_rig_faults u_t_rig_sequence_pauses u_t_rig_sequence_outBefore u_t_rig_sequence_cuts u_t_rig_sequence_groupOfStep : Nat) (t : Nat → Int32) (t_rig : Nat → Int32) (t_rig_sequence : Nat → Int32) (t_rig_sequence_minus : Nat → Int32) (t_rig_sequence_plus : Nat → Int32) (p3 : Nat → Int64) (x1 : Int32) (x2 : Int32) (r : Int32) (hm : tL_direction t_rig_sequence t_rig_sequence_minus t_rig_sequence_plus p3 x1 x2 = some r) : bq_MH l D cI cJ yL_direction cL_direction 5 (some .int) [(0, 10, 13, 20)] rmTL_direction [.ref a_t, .int x1, .int x2, .ref a_p3] (wdL_direction cI cJ a_t a_t_rig a_t_rig_sequence a_t_rig_sequence_minus a_t_rig_sequence_plus a_p3 u_t_reader u_t_trial u_t_snapshot u_t_spare u_t_rig_circuit u_t_rig_log u_t_rig_score u_t_rig_strokes u_t_rig_positions u_t_rig_timers u_t_rig_faults u_t_rig_sequence_pauses u_t_rig_sequence_outBefore u_t_rig_sequence_cuts u_t_rig_sequence_groupOfStep t t_rig t_rig_sequence t_rig_sequence_minus t_rig_sequence_plus p3) (wdL_direction cI cJ a_t a_t_rig a_t_rig_sequence a_t_rig_sequence_minus a_t_rig_sequence_plus a_p3 u_t_reader u_t_trial u_t_snapshot u_t_spare u_t_rig_circuit u_t_rig_log u_t_rig_score u_t_rig_strokes u_t_rig_positions u_t_rig_timers u_t_rig_faults u_t_rig_sequence_pauses u_t_rig_sequence_outBefore u_t_rig_sequence_cuts u_t_rig_sequence_groupOfStep t t_rig t_rig_sequence t_rig_sequence_minus t_rig_sequence_plus p3) (some (.int r)) := by
  refine bq_startH (by decide) (Nat.le_of_ble_eq_true rfl) ?_
  intro p e s m av9 below meth c A ls Q H locs E K w hA hr hk hX htab hQ hl
  have E : bq_E p m c cL_direction 5 s av9 RL := E
  have hx := E.1
  have hb := E.2.1
  have hl : lv_has ls 5 [(0, .ref a_t), (1, .int x1), (2, .int x2), (3, .ref a_p3)] := hl
  unfold tL_direction at hm
  refine lv_aload_n hx hb dL_direction_0 rfl (lv_at hl 3 rfl) ?_
  refine lv_iconst (v := 0) hx hb dL_direction_1 (by decide) ?_
  refine lv_aload_n hx hb dL_direction_2 rfl (lv_at hl 0 rfl) ?_
  refine lv_iload_n hx hb dL_direction_3 rfl (lv_at hl 1 rfl) ?_
  refine lv_iload_n hx hb dL_direction_4 rfl (lv_at hl 2 rfl) ?_
  obtain ⟨k9, hC, hm⟩ := bq_bd_el hm
  by_cases hq : k9 = 2
  · subst hq
    replace hm := bq_t rfl hm
    obtain rfl := Option.some.inj hm
    refine bq_HV (As := [.int x1, .int x2]) (rest := [.int 0, .ref a_p3]) E K w hA hX ⟨rfl, rfl⟩ (tkX7_direction hlf D cI cJ a_t a_t_rig a_t_rig_sequence a_t_rig_sequence_minus a_t_rig_sequence_plus u_t_reader u_t_trial u_t_snapshot u_t_spare u_t_rig_circuit u_t_rig_log u_t_rig_score u_t_rig_strokes u_t_rig_positions u_t_rig_timers u_t_rig_faults u_t_rig_sequence_pauses u_t_rig_sequence_outBefore u_t_rig_sequence_cuts u_t_rig_sequence_groupOfStep t t_rig t_rig_sequence t_rig_sequence_minus t_rig_sequence_plus x1 x2 _ hC) (bq_gV ml_L_22 im_X7_direction sl_X7_direction in_X7 cd_X7_direction) hd_X7_direction ⟨Nat.le_of_ble_eq_true rfl, Nat.le_of_ble_eq_true rfl⟩ ⟨Nat.le_of_ble_eq_true rfl, Nat.le_of_ble_eq_true rfl⟩ ⟨[0, 1, 2, 3, 4], [5], [1, 2, 3, 4, 5, 0], rfl, rfl, rfl, rfl, rfl, rfl, rfl, rfl, rfl⟩ 0 rfl rfl rfl hl.1 rfl (Nat.le_of_ble_eq_true rfl) dL_direction_5 (fun q9 ce H locs w h1 h2 h3 => ?_)
    refine vx_catch (E := "java/lang/IndexOutOfBoundsException") (name := "java/lang/IndexOutOfBoundsException") E.2.2.2.1 [] ⟨0, 10, 13, 20⟩ [] (by rw [htab]; rfl) (fun z h => by cases h) (by decide) (by decide) (E.2.2.2.2 _ cl_L_20) (va_Nw.use rfl (K.2 _ mc_IndexOutOfBoundsException)) h1 h2 h3 ?_
    refine lv_astore (lv' := [(4, .ref q9), (0, .ref a_t), (1, .int x1), (2, .int x2), (3, .ref a_p3)]) hx hb dL_direction_13 hl (by decide) rfl (fun ls hl => ?_)
    refine lv_iconst (v := 1) hx hb dL_direction_15 (by decide) ?_
    exact bq_hret E w hr hk dL_direction_16 hQ
  replace hm := bq_f hq hm
  cases hm
abbrev wdL_pause (cI : ClassId) (cJ : ClassId) (a_t a_t_rig a_t_rig_sequence a_t_rig_sequence_pauses a_p2 u_t_reader u_t_trial u_t_snapshot u_t_spare u_t_rig_circuit u_t_rig_log u_t_rig_score u_t_rig_strokes u_t_rig_positions u_t_rig_timers u_t_rig_faults u_t_rig_sequence_plus u_t_rig_sequence_minus u_t_rig_sequence_outBefore u_t_rig_sequence_cuts u_t_rig_sequence_groupOfStep : Nat) (t : Nat → Int32) (t_rig : Nat → Int32) (t_rig_sequence : Nat → Int32) (t_rig_sequence_pauses : Nat → Int32) (p2 : Nat → Int64) : va_W := [(a_t, oX7 u_t_reader a_t_rig u_t_trial u_t_snapshot u_t_spare t), (a_t_rig, oX3 a_t_rig_sequence u_t_rig_circuit u_t_rig_log u_t_rig_score u_t_rig_strokes u_t_rig_positions u_t_rig_timers u_t_rig_faults t_rig), (a_t_rig_sequence, oX5 u_t_rig_sequence_plus u_t_rig_sequence_minus a_t_rig_sequence_pauses u_t_rig_sequence_outBefore u_t_rig_sequence_cuts u_t_rig_sequence_groupOfStep t_rig_sequence), (a_t_rig_sequence_pauses, oA cI 16 t_rig_sequence_pauses), (a_p2, oJ cJ 1 p2)]
abbrev rmL_pause : Room := { frames := 2, cells := 0, slots := 0, locals := 42 }
theorem hs_L_pause : yL_pause.cls ≠ "java/lang/invoke/MethodHandle" ∧ yL_pause.cls ≠ "java/lang/invoke/VarHandle" ∧ (parseMethodDescriptor yL_pause.desc).map (fun d => d.parameters.length) = some 3 := by decide +kernel
set_option maxHeartbeats 4000000 in
set_option maxRecDepth 100000 in
theorem kL_pause (l : Launch) (D : va_G) (cI cJ : ClassId) (a_t a_t_rig a_t_rig_sequence a_t_rig_sequence_pauses a_p2 u_t_reader u_t_trial u_t_snapshot u_t_spare u_t_rig_circuit u_t_rig_log u_t_rig_score u_t_rig_strokes u_t_rig_positions u_t_rig_timers u_t_rig_faults u_t_rig_sequence_plus u_t_rig_sequence_minus u_t_rig_sequence_outBefore u_t_rig_sequence_cuts u_t_rig_sequence_groupOfStep : Nat) (t : Nat → Int32) (t_rig : Nat → Int32) (t_rig_sequence : Nat → Int32) (t_rig_sequence_pauses : Nat → Int32) (p2 : Nat → Int64) (x1 : Int32) (r : Int32) (p2_o : Nat → Int64) (hm : mL_pause t_rig_sequence t_rig_sequence_pauses p2 x1 = some (r, p2_o)) : bq_MH l D cI cJ yL_pause cL_pause 4 (some .int) [(0, 9, 12, 20)] rmL_pause [.ref a_t, .int x1, .ref a_p2] (wdL_pause cI cJ a_t a_t_rig a_t_rig_sequence a_t_rig_sequence_pauses a_p2 u_t_reader u_t_trial u_t_snapshot u_t_spare u_t_rig_circuit u_t_rig_log u_t_rig_score u_t_rig_strokes u_t_rig_positions u_t_rig_timers u_t_rig_faults u_t_rig_sequence_plus u_t_rig_sequence_minus u_t_rig_sequence_outBefore u_t_rig_sequence_cuts u_t_rig_sequence_groupOfStep t t_rig t_rig_sequence t_rig_sequence_pauses p2) (wdL_pause cI cJ a_t a_t_rig a_t_rig_sequence a_t_rig_sequence_pauses a_p2 u_t_reader u_t_trial u_t_snapshot u_t_spare u_t_rig_circuit u_t_rig_log u_t_rig_score u_t_rig_strokes u_t_rig_positions u_t_rig_timers u_t_rig_faults u_t_rig_sequence_plus u_t_rig_sequence_minus u_t_rig_sequence_outBefore u_t_rig_sequence_cuts u_t_rig_sequence_groupOfStep t t_rig t_rig_sequence t_rig_sequence_pauses p2_o) (some (.int r)) := by
  refine bq_startH (by decide) (Nat.le_of_ble_eq_true rfl) ?_
  intro p e s m av9 below meth c A ls Q H locs E K w hA hr hk hX htab hQ hl
  have E : bq_E p m c cL_pause 4 s av9 RL := E
  have hx := E.1
  have hb := E.2.1
  have hl : lv_has ls 4 [(0, .ref a_t), (1, .int x1), (2, .ref a_p2)] := hl
  unfold mL_pause at hm
  refine lv_aload_n hx hb dL_pause_0 rfl (lv_at hl 2 rfl) ?_
  refine lv_iconst (v := 0) hx hb dL_pause_1 (by decide) ?_
  refine lv_aload_n hx hb dL_pause_2 rfl (lv_at hl 0 rfl) ?_
  refine lv_iload_n hx hb dL_pause_3 rfl (lv_at hl 1 rfl) ?_
  obtain ⟨v1, hC, hm⟩ := bq_bd_el hm
  refine bq_V (As := [.int x1]) (rest := [.int 0, .ref a_p2]) (st1 := [.int v1, .int 0, .ref a_p2]) (ws' := wdL_pause cI cJ a_t a_t_rig a_t_rig_sequence a_t_rig_sequence_pauses a_p2 u_t_reader u_t_trial u_t_snapshot u_t_spare u_t_rig_circuit u_t_rig_log u_t_rig_score u_t_rig_strokes u_t_rig_positions u_t_rig_timers u_t_rig_faults u_t_rig_sequence_plus u_t_rig_sequence_minus u_t_rig_sequence_outBefore u_t_rig_sequence_cuts u_t_rig_sequence_groupOfStep t t_rig t_rig_sequence t_rig_sequence_pauses p2) E K w hA (kX7_pause l D cI cJ a_t a_t_rig a_t_rig_sequence a_t_rig_sequence_pauses u_t_reader u_t_trial u_t_snapshot u_t_spare u_t_rig_circuit u_t_rig_log u_t_rig_score u_t_rig_strokes u_t_rig_positions u_t_rig_timers u_t_rig_faults u_t_rig_sequence_plus u_t_rig_sequence_minus u_t_rig_sequence_outBefore u_t_rig_sequence_cuts u_t_rig_sequence_groupOfStep t t_rig t_rig_sequence t_rig_sequence_pauses x1 v1 hC) (bq_gV ml_L_26 im_X7_pause sl_X7_pause in_X7 cd_X7_pause) hd_X7_pause ⟨Nat.le_of_ble_eq_true rfl, Nat.le_of_ble_eq_true rfl⟩ ⟨Nat.le_of_ble_eq_true rfl, Nat.le_of_ble_eq_true rfl⟩ ⟨[0, 1, 2, 3], [4], [1, 2, 3, 4, 0], rfl, rfl, rfl, rfl, rfl, rfl, rfl, rfl, rfl⟩ 0 rfl rfl rfl hl.1 rfl (Nat.le_of_ble_eq_true rfl) rfl dL_pause_4 (fun H locs w => bq_z ⟨rfl, rfl⟩ ?_)
  clear hC
  refine lv_i2l hx hb dL_pause_7 rfl ?_
  obtain ⟨p2_2, e9, hm⟩ := bq_let_el hm
  refine bq_lastk E K w 4 rfl 0 (by decide) (by unfold vp_in; decide) dL_pause_8 (fun H locs w => ?_)
  replace w : bq_w D A s.heap (wdL_pause cI cJ a_t a_t_rig a_t_rig_sequence a_t_rig_sequence_pauses a_p2 u_t_reader u_t_trial u_t_snapshot u_t_spare u_t_rig_circuit u_t_rig_log u_t_rig_score u_t_rig_strokes u_t_rig_positions u_t_rig_timers u_t_rig_faults u_t_rig_sequence_plus u_t_rig_sequence_minus u_t_rig_sequence_outBefore u_t_rig_sequence_cuts u_t_rig_sequence_groupOfStep t t_rig t_rig_sequence t_rig_sequence_pauses p2_2) H locs := by rw [e9]; exact w
  clear e9
  refine lv_goto (tgt := 15) hx hb dL_pause_9 (by decide) ?_
  refine lv_iconst (v := 0) hx hb dL_pause_15 (by decide) ?_
  obtain ⟨rfl, rfl⟩ := bq_in2 (Option.some.inj hm)
  exact bq_hret E w hr hk dL_pause_16 hQ
abbrev rmTL_pause : Room := { frames := 8, cells := 1, slots := 6, locals := 142 }
set_option maxHeartbeats 4000000 in
set_option maxRecDepth 100000 in
theorem tkL_pause {l : Launch} (hlf : l.stackTraces = false) (D : va_G) (cI cJ : ClassId) (a_t a_t_rig a_t_rig_sequence a_t_rig_sequence_pauses a_p2 u_t_reader u_t_trial u_t_snapshot u_t_spare u_t_rig_circuit u_t_rig_log u_t_rig_score u_t_rig_strokes u_t_rig_positions u_t_rig_timers u_t_rig_faults u_t_rig_sequence_plus u_t_rig_sequence_minus u_t_rig_sequence_outBefore u_t_rig_sequence_cuts u_t_rig_sequence_groupOfStep : Nat) (t : Nat → Int32) (t_rig : Nat → Int32) (t_rig_sequence : Nat → Int32) (t_rig_sequence_pauses : Nat → Int32) (p2 : Nat → Int64) (x1 : Int32) (r : Int32) (hm : tL_pause t_rig_sequence t_rig_sequence_pauses p2 x1 = some r) : bq_MH l D cI cJ yL_pause cL_pause 4 (some .int) [(0, 9, 12, 20)] rmTL_pause [.ref a_t, .int x1, .ref a_p2] (wdL_pause cI cJ a_t a_t_rig a_t_rig_sequence a_t_rig_sequence_pauses a_p2 u_t_reader u_t_trial u_t_snapshot u_t_spare u_t_rig_circuit u_t_rig_log u_t_rig_score u_t_rig_strokes u_t_rig_positions u_t_rig_timers u_t_rig_faults u_t_rig_sequence_plus u_t_rig_sequence_minus u_t_rig_sequence_outBefore u_t_rig_sequence_cuts u_t_rig_sequence_groupOfStep t t_rig t_rig_sequence t_rig_sequence_pauses p2) (wdL_pause cI cJ a_t a_t_rig a_t_rig_sequence a_t_rig_sequence_pauses a_p2 u_t_reader u_t_trial u_t_snapshot u_t_spare u_t_rig_circuit u_t_rig_log u_t_rig_score u_t_rig_strokes u_t_rig_positions u_t_rig_timers u_t_rig_faults u_t_rig_sequence_plus u_t_rig_sequence_minus u_t_rig_sequence_outBefore u_t_rig_sequence_cuts u_t_rig_sequence_groupOfStep t t_rig t_rig_sequence t_rig_sequence_pauses p2) (some (.int r)) := by
  refine bq_startH (by decide) (Nat.le_of_ble_eq_true rfl) ?_
  intro p e s m av9 below meth c A ls Q H locs E K w hA hr hk hX htab hQ hl
  have E : bq_E p m c cL_pause 4 s av9 RL := E
  have hx := E.1
  have hb := E.2.1
  have hl : lv_has ls 4 [(0, .ref a_t), (1, .int x1), (2, .ref a_p2)] := hl
  unfold tL_pause at hm
  refine lv_aload_n hx hb dL_pause_0 rfl (lv_at hl 2 rfl) ?_
  refine lv_iconst (v := 0) hx hb dL_pause_1 (by decide) ?_
  refine lv_aload_n hx hb dL_pause_2 rfl (lv_at hl 0 rfl) ?_
  refine lv_iload_n hx hb dL_pause_3 rfl (lv_at hl 1 rfl) ?_
  obtain ⟨k9, hC, hm⟩ := bq_bd_el hm
  by_cases hq : k9 = 2
  · subst hq
    replace hm := bq_t rfl hm
    obtain rfl := Option.some.inj hm
    refine bq_HV (As := [.int x1]) (rest := [.int 0, .ref a_p2]) E K w hA hX ⟨rfl, rfl⟩ (tkX7_pause hlf D cI cJ a_t a_t_rig a_t_rig_sequence a_t_rig_sequence_pauses u_t_reader u_t_trial u_t_snapshot u_t_spare u_t_rig_circuit u_t_rig_log u_t_rig_score u_t_rig_strokes u_t_rig_positions u_t_rig_timers u_t_rig_faults u_t_rig_sequence_plus u_t_rig_sequence_minus u_t_rig_sequence_outBefore u_t_rig_sequence_cuts u_t_rig_sequence_groupOfStep t t_rig t_rig_sequence t_rig_sequence_pauses x1 _ hC) (bq_gV ml_L_26 im_X7_pause sl_X7_pause in_X7 cd_X7_pause) hd_X7_pause ⟨Nat.le_of_ble_eq_true rfl, Nat.le_of_ble_eq_true rfl⟩ ⟨Nat.le_of_ble_eq_true rfl, Nat.le_of_ble_eq_true rfl⟩ ⟨[0, 1, 2, 3], [4], [1, 2, 3, 4, 0], rfl, rfl, rfl, rfl, rfl, rfl, rfl, rfl, rfl⟩ 0 rfl rfl rfl hl.1 rfl (Nat.le_of_ble_eq_true rfl) dL_pause_4 (fun q9 ce H locs w h1 h2 h3 => ?_)
    refine vx_catch (E := "java/lang/IndexOutOfBoundsException") (name := "java/lang/IndexOutOfBoundsException") E.2.2.2.1 [] ⟨0, 9, 12, 20⟩ [] (by rw [htab]; rfl) (fun z h => by cases h) (by decide) (by decide) (E.2.2.2.2 _ cl_L_20) (va_Nw.use rfl (K.2 _ mc_IndexOutOfBoundsException)) h1 h2 h3 ?_
    refine lv_astore_n (lv' := [(3, .ref q9), (0, .ref a_t), (1, .int x1), (2, .ref a_p2)]) hx hb dL_pause_12 rfl hl (by decide) rfl (fun ls hl => ?_)
    refine lv_iconst (v := 1) hx hb dL_pause_13 (by decide) ?_
    exact bq_hret E w hr hk dL_pause_14 hQ
  replace hm := bq_f hq hm
  cases hm
abbrev wdL_clashes (cI : ClassId) (cJ : ClassId) (a_t a_t_rig a_t_rig_sequence a_t_rig_sequence_minus a_t_rig_sequence_outBefore a_t_rig_sequence_pauses a_t_rig_sequence_plus a_p1 u_t_reader u_t_trial u_t_snapshot u_t_spare u_t_rig_circuit u_t_rig_log u_t_rig_score u_t_rig_strokes u_t_rig_positions u_t_rig_timers u_t_rig_faults u_t_rig_sequence_cuts u_t_rig_sequence_groupOfStep : Nat) (t : Nat → Int32) (t_rig : Nat → Int32) (t_rig_sequence : Nat → Int32) (t_rig_sequence_minus : Nat → Int32) (t_rig_sequence_outBefore : Nat → Int32) (t_rig_sequence_pauses : Nat → Int32) (t_rig_sequence_plus : Nat → Int32) (p1 : Nat → Int64) : va_W := [(a_t, oX7 u_t_reader a_t_rig u_t_trial u_t_snapshot u_t_spare t), (a_t_rig, oX3 a_t_rig_sequence u_t_rig_circuit u_t_rig_log u_t_rig_score u_t_rig_strokes u_t_rig_positions u_t_rig_timers u_t_rig_faults t_rig), (a_t_rig_sequence, oX5 a_t_rig_sequence_plus a_t_rig_sequence_minus a_t_rig_sequence_pauses a_t_rig_sequence_outBefore u_t_rig_sequence_cuts u_t_rig_sequence_groupOfStep t_rig_sequence), (a_t_rig_sequence_minus, oA cI 16 t_rig_sequence_minus), (a_t_rig_sequence_outBefore, oA cI 16 t_rig_sequence_outBefore), (a_t_rig_sequence_pauses, oA cI 16 t_rig_sequence_pauses), (a_t_rig_sequence_plus, oA cI 16 t_rig_sequence_plus), (a_p1, oJ cJ 1 p1)]
abbrev rmL_clashes : Room := { frames := 3, cells := 0, slots := 0, locals := 70 }
theorem hs_L_clashes : yL_clashes.cls ≠ "java/lang/invoke/MethodHandle" ∧ yL_clashes.cls ≠ "java/lang/invoke/VarHandle" ∧ (parseMethodDescriptor yL_clashes.desc).map (fun d => d.parameters.length) = some 2 := by decide +kernel
set_option maxHeartbeats 4000000 in
set_option maxRecDepth 100000 in
theorem kL_clashes (l : Launch) (D : va_G) (cI cJ : ClassId) (a_t a_t_rig a_t_rig_sequence a_t_rig_sequence_minus a_t_rig_sequence_outBefore a_t_rig_sequence_pauses a_t_rig_sequence_plus a_p1 u_t_reader u_t_trial u_t_snapshot u_t_spare u_t_rig_circuit u_t_rig_log u_t_rig_score u_t_rig_strokes u_t_rig_positions u_t_rig_timers u_t_rig_faults u_t_rig_sequence_cuts u_t_rig_sequence_groupOfStep : Nat) (t : Nat → Int32) (t_rig : Nat → Int32) (t_rig_sequence : Nat → Int32) (t_rig_sequence_minus : Nat → Int32) (t_rig_sequence_outBefore : Nat → Int32) (t_rig_sequence_pauses : Nat → Int32) (t_rig_sequence_plus : Nat → Int32) (p1 : Nat → Int64) (r : Int32) (p1_o : Nat → Int64) (hm : mL_clashes t_rig_sequence t_rig_sequence_minus t_rig_sequence_outBefore t_rig_sequence_pauses t_rig_sequence_plus p1 = some (r, p1_o)) : bq_MH l D cI cJ yL_clashes cL_clashes 3 (some .int) [(0, 8, 11, 15)] rmL_clashes [.ref a_t, .ref a_p1] (wdL_clashes cI cJ a_t a_t_rig a_t_rig_sequence a_t_rig_sequence_minus a_t_rig_sequence_outBefore a_t_rig_sequence_pauses a_t_rig_sequence_plus a_p1 u_t_reader u_t_trial u_t_snapshot u_t_spare u_t_rig_circuit u_t_rig_log u_t_rig_score u_t_rig_strokes u_t_rig_positions u_t_rig_timers u_t_rig_faults u_t_rig_sequence_cuts u_t_rig_sequence_groupOfStep t t_rig t_rig_sequence t_rig_sequence_minus t_rig_sequence_outBefore t_rig_sequence_pauses t_rig_sequence_plus p1) (wdL_clashes cI cJ a_t a_t_rig a_t_rig_sequence a_t_rig_sequence_minus a_t_rig_sequence_outBefore a_t_rig_sequence_pauses a_t_rig_sequence_plus a_p1 u_t_reader u_t_trial u_t_snapshot u_t_spare u_t_rig_circuit u_t_rig_log u_t_rig_score u_t_rig_strokes u_t_rig_positions u_t_rig_timers u_t_rig_faults u_t_rig_sequence_cuts u_t_rig_sequence_groupOfStep t t_rig t_rig_sequence t_rig_sequence_minus t_rig_sequence_outBefore t_rig_sequence_pauses t_rig_sequence_plus p1_o) (some (.int r)) := by
  refine bq_startH (by decide) (Nat.le_of_ble_eq_true rfl) ?_
  intro p e s m av9 below meth c A ls Q H locs E K w hA hr hk hX htab hQ hl
  have E : bq_E p m c cL_clashes 3 s av9 RL := E
  have hx := E.1
  have hb := E.2.1
  have hl : lv_has ls 3 [(0, .ref a_t), (1, .ref a_p1)] := hl
  unfold mL_clashes at hm
  refine lv_aload_n hx hb dL_clashes_0 rfl (lv_at hl 1 rfl) ?_
  refine lv_iconst (v := 0) hx hb dL_clashes_1 (by decide) ?_
  refine lv_aload_n hx hb dL_clashes_2 rfl (lv_at hl 0 rfl) ?_
  obtain ⟨v1, hC, hm⟩ := bq_bd_el hm
  refine bq_V (As := []) (rest := [.int 0, .ref a_p1]) (st1 := [.int v1, .int 0, .ref a_p1]) (ws' := wdL_clashes cI cJ a_t a_t_rig a_t_rig_sequence a_t_rig_sequence_minus a_t_rig_sequence_outBefore a_t_rig_sequence_pauses a_t_rig_sequence_plus a_p1 u_t_reader u_t_trial u_t_snapshot u_t_spare u_t_rig_circuit u_t_rig_log u_t_rig_score u_t_rig_strokes u_t_rig_positions u_t_rig_timers u_t_rig_faults u_t_rig_sequence_cuts u_t_rig_sequence_groupOfStep t t_rig t_rig_sequence t_rig_sequence_minus t_rig_sequence_outBefore t_rig_sequence_pauses t_rig_sequence_plus p1) E K w hA (kX7_clashes l D cI cJ a_t a_t_rig a_t_rig_sequence a_t_rig_sequence_minus a_t_rig_sequence_outBefore a_t_rig_sequence_pauses a_t_rig_sequence_plus u_t_reader u_t_trial u_t_snapshot u_t_spare u_t_rig_circuit u_t_rig_log u_t_rig_score u_t_rig_strokes u_t_rig_positions u_t_rig_timers u_t_rig_faults u_t_rig_sequence_cuts u_t_rig_sequence_groupOfStep t t_rig t_rig_sequence t_rig_sequence_minus t_rig_sequence_outBefore t_rig_sequence_pauses t_rig_sequence_plus v1 hC) (bq_gV ml_L_29 im_X7_clashes sl_X7_clashes in_X7 cd_X7_clashes) hd_X7_clashes ⟨Nat.le_of_ble_eq_true rfl, Nat.le_of_ble_eq_true rfl⟩ ⟨Nat.le_of_ble_eq_true rfl, Nat.le_of_ble_eq_true rfl⟩ ⟨[0, 1, 2, 3, 4, 5, 6], [7], [1, 2, 3, 4, 5, 6, 7, 0], rfl, rfl, rfl, rfl, rfl, rfl, rfl, rfl, rfl⟩ 0 rfl rfl rfl hl.1 rfl (Nat.le_of_ble_eq_true rfl) rfl dL_clashes_3 (fun H locs w => bq_z ⟨rfl, rfl⟩ ?_)
  clear hC
  refine lv_i2l hx hb dL_clashes_6 rfl ?_
  obtain ⟨p1_2, e9, hm⟩ := bq_let_el hm
  refine bq_lastk E K w 7 rfl 0 (by decide) (by unfold vp_in; decide) dL_clashes_7 (fun H locs w => ?_)
  replace w : bq_w D A s.heap (wdL_clashes cI cJ a_t a_t_rig a_t_rig_sequence a_t_rig_sequence_minus a_t_rig_sequence_outBefore a_t_rig_sequence_pauses a_t_rig_sequence_plus a_p1 u_t_reader u_t_trial u_t_snapshot u_t_spare u_t_rig_circuit u_t_rig_log u_t_rig_score u_t_rig_strokes u_t_rig_positions u_t_rig_timers u_t_rig_faults u_t_rig_sequence_cuts u_t_rig_sequence_groupOfStep t t_rig t_rig_sequence t_rig_sequence_minus t_rig_sequence_outBefore t_rig_sequence_pauses t_rig_sequence_plus p1_2) H locs := by rw [e9]; exact w
  clear e9
  refine lv_goto (tgt := 14) hx hb dL_clashes_8 (by decide) ?_
  refine lv_iconst (v := 0) hx hb dL_clashes_14 (by decide) ?_
  obtain ⟨rfl, rfl⟩ := bq_in2 (Option.some.inj hm)
  exact bq_hret E w hr hk dL_clashes_15 hQ
abbrev rmTL_clashes : Room := { frames := 8, cells := 1, slots := 6, locals := 143 }
set_option maxHeartbeats 4000000 in
set_option maxRecDepth 100000 in
theorem tkL_clashes {l : Launch} (hlf : l.stackTraces = false) (D : va_G) (cI cJ : ClassId) (a_t a_t_rig a_t_rig_sequence a_t_rig_sequence_minus a_t_rig_sequence_outBefore a_t_rig_sequence_pauses a_t_rig_sequence_plus a_p1 u_t_reader u_t_trial u_t_snapshot u_t_spare u_t_rig_circuit u_t_rig_log u_t_rig_score u_t_rig_strokes u_t_rig_positions u_t_rig_timers u_t_rig_faults u_t_rig_sequence_cuts u_t_rig_sequence_groupOfStep : Nat) (t : Nat → Int32) (t_rig : Nat → Int32) (t_rig_sequence : Nat → Int32) (t_rig_sequence_minus : Nat → Int32) (t_rig_sequence_outBefore : Nat → Int32) (t_rig_sequence_pauses : Nat → Int32) (t_rig_sequence_plus : Nat → Int32) (p1 : Nat → Int64) (r : Int32) (hm : tL_clashes t_rig_sequence t_rig_sequence_minus t_rig_sequence_outBefore t_rig_sequence_pauses t_rig_sequence_plus p1 = some r) : bq_MH l D cI cJ yL_clashes cL_clashes 3 (some .int) [(0, 8, 11, 15)] rmTL_clashes [.ref a_t, .ref a_p1] (wdL_clashes cI cJ a_t a_t_rig a_t_rig_sequence a_t_rig_sequence_minus a_t_rig_sequence_outBefore a_t_rig_sequence_pauses a_t_rig_sequence_plus a_p1 u_t_reader u_t_trial u_t_snapshot u_t_spare u_t_rig_circuit u_t_rig_log u_t_rig_score u_t_rig_strokes u_t_rig_positions u_t_rig_timers u_t_rig_faults u_t_rig_sequence_cuts u_t_rig_sequence_groupOfStep t t_rig t_rig_sequence t_rig_sequence_minus t_rig_sequence_outBefore t_rig_sequence_pauses t_rig_sequence_plus p1) (wdL_clashes cI cJ a_t a_t_rig a_t_rig_sequence a_t_rig_sequence_minus a_t_rig_sequence_outBefore a_t_rig_sequence_pauses a_t_rig_sequence_plus a_p1 u_t_reader u_t_trial u_t_snapshot u_t_spare u_t_rig_circuit u_t_rig_log u_t_rig_score u_t_rig_strokes u_t_rig_positions u_t_rig_timers u_t_rig_faults u_t_rig_sequence_cuts u_t_rig_sequence_groupOfStep t t_rig t_rig_sequence t_rig_sequence_minus t_rig_sequence_outBefore t_rig_sequence_pauses t_rig_sequence_plus p1) (some (.int r)) := by
  refine bq_startH (by decide) (Nat.le_of_ble_eq_true rfl) ?_
  intro p e s m av9 below meth c A ls Q H locs E K w hA hr hk hX htab hQ hl
  have E : bq_E p m c cL_clashes 3 s av9 RL := E
  have hx := E.1
  have hb := E.2.1
  have hl : lv_has ls 3 [(0, .ref a_t), (1, .ref a_p1)] := hl
  unfold tL_clashes at hm
  refine lv_aload_n hx hb dL_clashes_0 rfl (lv_at hl 1 rfl) ?_
  refine lv_iconst (v := 0) hx hb dL_clashes_1 (by decide) ?_
  refine lv_aload_n hx hb dL_clashes_2 rfl (lv_at hl 0 rfl) ?_
  obtain ⟨k9, hC, hm⟩ := bq_bd_el hm
  by_cases hq : k9 = 1
  · subst hq
    replace hm := bq_t rfl hm
    obtain rfl := Option.some.inj hm
    refine bq_HV (As := []) (rest := [.int 0, .ref a_p1]) E K w hA hX ⟨rfl, rfl⟩ (tkX7_clashes hlf D cI cJ a_t a_t_rig a_t_rig_sequence a_t_rig_sequence_minus a_t_rig_sequence_outBefore a_t_rig_sequence_pauses a_t_rig_sequence_plus u_t_reader u_t_trial u_t_snapshot u_t_spare u_t_rig_circuit u_t_rig_log u_t_rig_score u_t_rig_strokes u_t_rig_positions u_t_rig_timers u_t_rig_faults u_t_rig_sequence_cuts u_t_rig_sequence_groupOfStep t t_rig t_rig_sequence t_rig_sequence_minus t_rig_sequence_outBefore t_rig_sequence_pauses t_rig_sequence_plus _ hC) (bq_gV ml_L_29 im_X7_clashes sl_X7_clashes in_X7 cd_X7_clashes) hd_X7_clashes ⟨Nat.le_of_ble_eq_true rfl, Nat.le_of_ble_eq_true rfl⟩ ⟨Nat.le_of_ble_eq_true rfl, Nat.le_of_ble_eq_true rfl⟩ ⟨[0, 1, 2, 3, 4, 5, 6], [7], [1, 2, 3, 4, 5, 6, 7, 0], rfl, rfl, rfl, rfl, rfl, rfl, rfl, rfl, rfl⟩ 0 rfl rfl rfl hl.1 rfl (Nat.le_of_ble_eq_true rfl) dL_clashes_3 (fun q9 ce H locs w h1 h2 h3 => ?_)
    refine vx_catch (E := "java/lang/IllegalStateException") (name := "java/lang/IllegalStateException") E.2.2.2.1 [] ⟨0, 8, 11, 15⟩ [] (by rw [htab]; rfl) (fun z h => by cases h) (by decide) (by decide) (E.2.2.2.2 _ cl_L_15) (va_Nw.use rfl (K.2 _ mc_IllegalStateException)) h1 h2 h3 ?_
    refine lv_astore_n (lv' := [(2, .ref q9), (0, .ref a_t), (1, .ref a_p1)]) hx hb dL_clashes_11 rfl hl (by decide) rfl (fun ls hl => ?_)
    refine lv_iconst (v := 1) hx hb dL_clashes_12 (by decide) ?_
    exact bq_hret E w hr hk dL_clashes_13 hQ
  replace hm := bq_f hq hm
  cases hm
abbrev wdL_clash (cI : ClassId) (cJ : ClassId) (a_t a_t_rig a_t_rig_sequence a_t_rig_sequence_minus a_t_rig_sequence_outBefore a_t_rig_sequence_pauses a_t_rig_sequence_plus a_p3 u_t_reader u_t_trial u_t_snapshot u_t_spare u_t_rig_circuit u_t_rig_log u_t_rig_score u_t_rig_strokes u_t_rig_positions u_t_rig_timers u_t_rig_faults u_t_rig_sequence_cuts u_t_rig_sequence_groupOfStep : Nat) (t : Nat → Int32) (t_rig : Nat → Int32) (t_rig_sequence : Nat → Int32) (t_rig_sequence_minus : Nat → Int32) (t_rig_sequence_outBefore : Nat → Int32) (t_rig_sequence_pauses : Nat → Int32) (t_rig_sequence_plus : Nat → Int32) (p3 : Nat → Int64) : va_W := [(a_t, oX7 u_t_reader a_t_rig u_t_trial u_t_snapshot u_t_spare t), (a_t_rig, oX3 a_t_rig_sequence u_t_rig_circuit u_t_rig_log u_t_rig_score u_t_rig_strokes u_t_rig_positions u_t_rig_timers u_t_rig_faults t_rig), (a_t_rig_sequence, oX5 a_t_rig_sequence_plus a_t_rig_sequence_minus a_t_rig_sequence_pauses a_t_rig_sequence_outBefore u_t_rig_sequence_cuts u_t_rig_sequence_groupOfStep t_rig_sequence), (a_t_rig_sequence_minus, oA cI 16 t_rig_sequence_minus), (a_t_rig_sequence_outBefore, oA cI 16 t_rig_sequence_outBefore), (a_t_rig_sequence_pauses, oA cI 16 t_rig_sequence_pauses), (a_t_rig_sequence_plus, oA cI 16 t_rig_sequence_plus), (a_p3, oJ cJ 1 p3)]
abbrev rmL_clash : Room := { frames := 3, cells := 0, slots := 0, locals := 69 }
theorem hs_L_clash : yL_clash.cls ≠ "java/lang/invoke/MethodHandle" ∧ yL_clash.cls ≠ "java/lang/invoke/VarHandle" ∧ (parseMethodDescriptor yL_clash.desc).map (fun d => d.parameters.length) = some 4 := by decide +kernel
set_option maxHeartbeats 4000000 in
set_option maxRecDepth 100000 in
theorem kL_clash (l : Launch) (D : va_G) (cI cJ : ClassId) (a_t a_t_rig a_t_rig_sequence a_t_rig_sequence_minus a_t_rig_sequence_outBefore a_t_rig_sequence_pauses a_t_rig_sequence_plus a_p3 u_t_reader u_t_trial u_t_snapshot u_t_spare u_t_rig_circuit u_t_rig_log u_t_rig_score u_t_rig_strokes u_t_rig_positions u_t_rig_timers u_t_rig_faults u_t_rig_sequence_cuts u_t_rig_sequence_groupOfStep : Nat) (t : Nat → Int32) (t_rig : Nat → Int32) (t_rig_sequence : Nat → Int32) (t_rig_sequence_minus : Nat → Int32) (t_rig_sequence_outBefore : Nat → Int32) (t_rig_sequence_pauses : Nat → Int32) (t_rig_sequence_plus : Nat → Int32) (p3 : Nat → Int64) (x1 : Int32) (x2 : Int32) (r : Int32) (p3_o : Nat → Int64) (hm : mL_clash t_rig_sequence t_rig_sequence_minus t_rig_sequence_outBefore t_rig_sequence_pauses t_rig_sequence_plus p3 x1 x2 = some (r, p3_o)) : bq_MH l D cI cJ yL_clash cL_clash 5 (some .int) [(0, 10, 13, 20)] rmL_clash [.ref a_t, .int x1, .int x2, .ref a_p3] (wdL_clash cI cJ a_t a_t_rig a_t_rig_sequence a_t_rig_sequence_minus a_t_rig_sequence_outBefore a_t_rig_sequence_pauses a_t_rig_sequence_plus a_p3 u_t_reader u_t_trial u_t_snapshot u_t_spare u_t_rig_circuit u_t_rig_log u_t_rig_score u_t_rig_strokes u_t_rig_positions u_t_rig_timers u_t_rig_faults u_t_rig_sequence_cuts u_t_rig_sequence_groupOfStep t t_rig t_rig_sequence t_rig_sequence_minus t_rig_sequence_outBefore t_rig_sequence_pauses t_rig_sequence_plus p3) (wdL_clash cI cJ a_t a_t_rig a_t_rig_sequence a_t_rig_sequence_minus a_t_rig_sequence_outBefore a_t_rig_sequence_pauses a_t_rig_sequence_plus a_p3 u_t_reader u_t_trial u_t_snapshot u_t_spare u_t_rig_circuit u_t_rig_log u_t_rig_score u_t_rig_strokes u_t_rig_positions u_t_rig_timers u_t_rig_faults u_t_rig_sequence_cuts u_t_rig_sequence_groupOfStep t t_rig t_rig_sequence t_rig_sequence_minus t_rig_sequence_outBefore t_rig_sequence_pauses t_rig_sequence_plus p3_o) (some (.int r)) := by
  refine bq_startH (by decide) (Nat.le_of_ble_eq_true rfl) ?_
  intro p e s m av9 below meth c A ls Q H locs E K w hA hr hk hX htab hQ hl
  have E : bq_E p m c cL_clash 5 s av9 RL := E
  have hx := E.1
  have hb := E.2.1
  have hl : lv_has ls 5 [(0, .ref a_t), (1, .int x1), (2, .int x2), (3, .ref a_p3)] := hl
  unfold mL_clash at hm
  refine lv_aload_n hx hb dL_clash_0 rfl (lv_at hl 3 rfl) ?_
  refine lv_iconst (v := 0) hx hb dL_clash_1 (by decide) ?_
  refine lv_aload_n hx hb dL_clash_2 rfl (lv_at hl 0 rfl) ?_
  refine lv_iload_n hx hb dL_clash_3 rfl (lv_at hl 1 rfl) ?_
  refine lv_iload_n hx hb dL_clash_4 rfl (lv_at hl 2 rfl) ?_
  obtain ⟨v1, hC, hm⟩ := bq_bd_el hm
  refine bq_V (As := [.int x1, .int x2]) (rest := [.int 0, .ref a_p3]) (st1 := [.int v1, .int 0, .ref a_p3]) (ws' := wdL_clash cI cJ a_t a_t_rig a_t_rig_sequence a_t_rig_sequence_minus a_t_rig_sequence_outBefore a_t_rig_sequence_pauses a_t_rig_sequence_plus a_p3 u_t_reader u_t_trial u_t_snapshot u_t_spare u_t_rig_circuit u_t_rig_log u_t_rig_score u_t_rig_strokes u_t_rig_positions u_t_rig_timers u_t_rig_faults u_t_rig_sequence_cuts u_t_rig_sequence_groupOfStep t t_rig t_rig_sequence t_rig_sequence_minus t_rig_sequence_outBefore t_rig_sequence_pauses t_rig_sequence_plus p3) E K w hA (kX7_clash l D cI cJ a_t a_t_rig a_t_rig_sequence a_t_rig_sequence_minus a_t_rig_sequence_outBefore a_t_rig_sequence_pauses a_t_rig_sequence_plus u_t_reader u_t_trial u_t_snapshot u_t_spare u_t_rig_circuit u_t_rig_log u_t_rig_score u_t_rig_strokes u_t_rig_positions u_t_rig_timers u_t_rig_faults u_t_rig_sequence_cuts u_t_rig_sequence_groupOfStep t t_rig t_rig_sequence t_rig_sequence_minus t_rig_sequence_outBefore t_rig_sequence_pauses t_rig_sequence_plus x1 x2 v1 hC) (bq_gV ml_L_33 im_X7_clash sl_X7_clash in_X7 cd_X7_clash) hd_X7_clash ⟨Nat.le_of_ble_eq_true rfl, Nat.le_of_ble_eq_true rfl⟩ ⟨Nat.le_of_ble_eq_true rfl, Nat.le_of_ble_eq_true rfl⟩ ⟨[0, 1, 2, 3, 4, 5, 6], [7], [1, 2, 3, 4, 5, 6, 7, 0], rfl, rfl, rfl, rfl, rfl, rfl, rfl, rfl, rfl⟩ 0 rfl rfl rfl hl.1 rfl (Nat.le_of_ble_eq_true rfl) rfl dL_clash_5 (fun H locs w => bq_z ⟨rfl, rfl⟩ ?_)
  clear hC
  refine lv_i2l hx hb dL_clash_8 rfl ?_
  obtain ⟨p3_2, e9, hm⟩ := bq_let_el hm
  refine bq_lastk E K w 7 rfl 0 (by decide) (by unfold vp_in; decide) dL_clash_9 (fun H locs w => ?_)
  replace w : bq_w D A s.heap (wdL_clash cI cJ a_t a_t_rig a_t_rig_sequence a_t_rig_sequence_minus a_t_rig_sequence_outBefore a_t_rig_sequence_pauses a_t_rig_sequence_plus a_p3 u_t_reader u_t_trial u_t_snapshot u_t_spare u_t_rig_circuit u_t_rig_log u_t_rig_score u_t_rig_strokes u_t_rig_positions u_t_rig_timers u_t_rig_faults u_t_rig_sequence_cuts u_t_rig_sequence_groupOfStep t t_rig t_rig_sequence t_rig_sequence_minus t_rig_sequence_outBefore t_rig_sequence_pauses t_rig_sequence_plus p3_2) H locs := by rw [e9]; exact w
  clear e9
  refine lv_goto (tgt := 17) hx hb dL_clash_10 (by decide) ?_
  refine lv_iconst (v := 0) hx hb dL_clash_17 (by decide) ?_
  obtain ⟨rfl, rfl⟩ := bq_in2 (Option.some.inj hm)
  exact bq_hret E w hr hk dL_clash_18 hQ
abbrev rmTL_clash : Room := { frames := 8, cells := 1, slots := 6, locals := 143 }
set_option maxHeartbeats 4000000 in
set_option maxRecDepth 100000 in
theorem tkL_clash {l : Launch} (hlf : l.stackTraces = false) (D : va_G) (cI cJ : ClassId) (a_t a_t_rig a_t_rig_sequence a_t_rig_sequence_minus a_t_rig_sequence_outBefore a_t_rig_sequence_pauses a_t_rig_sequence_plus a_p3 u_t_reader u_t_trial u_t_snapshot u_t_spare u_t_rig_circuit u_t_rig_log u_t_rig_score u_t_rig_strokes u_t_rig_positions u_t_rig_timers u_t_rig_faults u_t_rig_sequence_cuts u_t_rig_sequence_groupOfStep : Nat) (t : Nat → Int32) (t_rig : Nat → Int32) (t_rig_sequence : Nat → Int32) (t_rig_sequence_minus : Nat → Int32) (t_rig_sequence_outBefore : Nat → Int32) (t_rig_sequence_pauses : Nat → Int32) (t_rig_sequence_plus : Nat → Int32) (p3 : Nat → Int64) (x1 : Int32) (x2 : Int32) (r : Int32) (hm : tL_clash t_rig_sequence t_rig_sequence_minus t_rig_sequence_outBefore t_rig_sequence_pauses t_rig_sequence_plus p3 x1 x2 = some r) : bq_MH l D cI cJ yL_clash cL_clash 5 (some .int) [(0, 10, 13, 20)] rmTL_clash [.ref a_t, .int x1, .int x2, .ref a_p3] (wdL_clash cI cJ a_t a_t_rig a_t_rig_sequence a_t_rig_sequence_minus a_t_rig_sequence_outBefore a_t_rig_sequence_pauses a_t_rig_sequence_plus a_p3 u_t_reader u_t_trial u_t_snapshot u_t_spare u_t_rig_circuit u_t_rig_log u_t_rig_score u_t_rig_strokes u_t_rig_positions u_t_rig_timers u_t_rig_faults u_t_rig_sequence_cuts u_t_rig_sequence_groupOfStep t t_rig t_rig_sequence t_rig_sequence_minus t_rig_sequence_outBefore t_rig_sequence_pauses t_rig_sequence_plus p3) (wdL_clash cI cJ a_t a_t_rig a_t_rig_sequence a_t_rig_sequence_minus a_t_rig_sequence_outBefore a_t_rig_sequence_pauses a_t_rig_sequence_plus a_p3 u_t_reader u_t_trial u_t_snapshot u_t_spare u_t_rig_circuit u_t_rig_log u_t_rig_score u_t_rig_strokes u_t_rig_positions u_t_rig_timers u_t_rig_faults u_t_rig_sequence_cuts u_t_rig_sequence_groupOfStep t t_rig t_rig_sequence t_rig_sequence_minus t_rig_sequence_outBefore t_rig_sequence_pauses t_rig_sequence_plus p3) (some (.int r)) := by
  refine bq_startH (by decide) (Nat.le_of_ble_eq_true rfl) ?_
  intro p e s m av9 below meth c A ls Q H locs E K w hA hr hk hX htab hQ hl
  have E : bq_E p m c cL_clash 5 s av9 RL := E
  have hx := E.1
  have hb := E.2.1
  have hl : lv_has ls 5 [(0, .ref a_t), (1, .int x1), (2, .int x2), (3, .ref a_p3)] := hl
  unfold tL_clash at hm
  refine lv_aload_n hx hb dL_clash_0 rfl (lv_at hl 3 rfl) ?_
  refine lv_iconst (v := 0) hx hb dL_clash_1 (by decide) ?_
  refine lv_aload_n hx hb dL_clash_2 rfl (lv_at hl 0 rfl) ?_
  refine lv_iload_n hx hb dL_clash_3 rfl (lv_at hl 1 rfl) ?_
  refine lv_iload_n hx hb dL_clash_4 rfl (lv_at hl 2 rfl) ?_
  obtain ⟨k9, hC, hm⟩ := bq_bd_el hm
  by_cases hq : k9 = 2
  · subst hq
    replace hm := bq_t rfl hm
    obtain rfl := Option.some.inj hm
    refine bq_HV (As := [.int x1, .int x2]) (rest := [.int 0, .ref a_p3]) E K w hA hX ⟨rfl, rfl⟩ (tkX7_clash hlf D cI cJ a_t a_t_rig a_t_rig_sequence a_t_rig_sequence_minus a_t_rig_sequence_outBefore a_t_rig_sequence_pauses a_t_rig_sequence_plus u_t_reader u_t_trial u_t_snapshot u_t_spare u_t_rig_circuit u_t_rig_log u_t_rig_score u_t_rig_strokes u_t_rig_positions u_t_rig_timers u_t_rig_faults u_t_rig_sequence_cuts u_t_rig_sequence_groupOfStep t t_rig t_rig_sequence t_rig_sequence_minus t_rig_sequence_outBefore t_rig_sequence_pauses t_rig_sequence_plus x1 x2 _ hC) (bq_gV ml_L_33 im_X7_clash sl_X7_clash in_X7 cd_X7_clash) hd_X7_clash ⟨Nat.le_of_ble_eq_true rfl, Nat.le_of_ble_eq_true rfl⟩ ⟨Nat.le_of_ble_eq_true rfl, Nat.le_of_ble_eq_true rfl⟩ ⟨[0, 1, 2, 3, 4, 5, 6], [7], [1, 2, 3, 4, 5, 6, 7, 0], rfl, rfl, rfl, rfl, rfl, rfl, rfl, rfl, rfl⟩ 0 rfl rfl rfl hl.1 rfl (Nat.le_of_ble_eq_true rfl) dL_clash_5 (fun q9 ce H locs w h1 h2 h3 => ?_)
    refine vx_catch (E := "java/lang/IndexOutOfBoundsException") (name := "java/lang/IndexOutOfBoundsException") E.2.2.2.1 [] ⟨0, 10, 13, 20⟩ [] (by rw [htab]; rfl) (fun z h => by cases h) (by decide) (by decide) (E.2.2.2.2 _ cl_L_20) (va_Nw.use rfl (K.2 _ mc_IndexOutOfBoundsException)) h1 h2 h3 ?_
    refine lv_astore (lv' := [(4, .ref q9), (0, .ref a_t), (1, .int x1), (2, .int x2), (3, .ref a_p3)]) hx hb dL_clash_13 hl (by decide) rfl (fun ls hl => ?_)
    refine lv_iconst (v := 1) hx hb dL_clash_15 (by decide) ?_
    exact bq_hret E w hr hk dL_clash_16 hQ
  replace hm := bq_f hq hm
  cases hm
abbrev wdL_groups (cI : ClassId) (cJ : ClassId) (a_t a_t_rig a_t_rig_sequence a_p1 u_t_reader u_t_trial u_t_snapshot u_t_spare u_t_rig_circuit u_t_rig_log u_t_rig_score u_t_rig_strokes u_t_rig_positions u_t_rig_timers u_t_rig_faults u_t_rig_sequence_plus u_t_rig_sequence_minus u_t_rig_sequence_pauses u_t_rig_sequence_outBefore u_t_rig_sequence_cuts u_t_rig_sequence_groupOfStep : Nat) (t : Nat → Int32) (t_rig : Nat → Int32) (t_rig_sequence : Nat → Int32) (p1 : Nat → Int64) : va_W := [(a_t, oX7 u_t_reader a_t_rig u_t_trial u_t_snapshot u_t_spare t), (a_t_rig, oX3 a_t_rig_sequence u_t_rig_circuit u_t_rig_log u_t_rig_score u_t_rig_strokes u_t_rig_positions u_t_rig_timers u_t_rig_faults t_rig), (a_t_rig_sequence, oX5 u_t_rig_sequence_plus u_t_rig_sequence_minus u_t_rig_sequence_pauses u_t_rig_sequence_outBefore u_t_rig_sequence_cuts u_t_rig_sequence_groupOfStep t_rig_sequence), (a_p1, oJ cJ 1 p1)]
abbrev rmL_groups : Room := { frames := 2, cells := 0, slots := 0, locals := 40 }
theorem hs_L_groups : yL_groups.cls ≠ "java/lang/invoke/MethodHandle" ∧ yL_groups.cls ≠ "java/lang/invoke/VarHandle" ∧ (parseMethodDescriptor yL_groups.desc).map (fun d => d.parameters.length) = some 2 := by decide +kernel
set_option maxHeartbeats 4000000 in
set_option maxRecDepth 100000 in
theorem kL_groups (l : Launch) (D : va_G) (cI cJ : ClassId) (a_t a_t_rig a_t_rig_sequence a_p1 u_t_reader u_t_trial u_t_snapshot u_t_spare u_t_rig_circuit u_t_rig_log u_t_rig_score u_t_rig_strokes u_t_rig_positions u_t_rig_timers u_t_rig_faults u_t_rig_sequence_plus u_t_rig_sequence_minus u_t_rig_sequence_pauses u_t_rig_sequence_outBefore u_t_rig_sequence_cuts u_t_rig_sequence_groupOfStep : Nat) (t : Nat → Int32) (t_rig : Nat → Int32) (t_rig_sequence : Nat → Int32) (p1 : Nat → Int64) (r : Int32) (p1_o : Nat → Int64) (hm : mL_groups t_rig_sequence p1 = some (r, p1_o)) : bq_MH l D cI cJ yL_groups cL_groups 3 (some .int) [(0, 8, 11, 15)] rmL_groups [.ref a_t, .ref a_p1] (wdL_groups cI cJ a_t a_t_rig a_t_rig_sequence a_p1 u_t_reader u_t_trial u_t_snapshot u_t_spare u_t_rig_circuit u_t_rig_log u_t_rig_score u_t_rig_strokes u_t_rig_positions u_t_rig_timers u_t_rig_faults u_t_rig_sequence_plus u_t_rig_sequence_minus u_t_rig_sequence_pauses u_t_rig_sequence_outBefore u_t_rig_sequence_cuts u_t_rig_sequence_groupOfStep t t_rig t_rig_sequence p1) (wdL_groups cI cJ a_t a_t_rig a_t_rig_sequence a_p1 u_t_reader u_t_trial u_t_snapshot u_t_spare u_t_rig_circuit u_t_rig_log u_t_rig_score u_t_rig_strokes u_t_rig_positions u_t_rig_timers u_t_rig_faults u_t_rig_sequence_plus u_t_rig_sequence_minus u_t_rig_sequence_pauses u_t_rig_sequence_outBefore u_t_rig_sequence_cuts u_t_rig_sequence_groupOfStep t t_rig t_rig_sequence p1_o) (some (.int r)) := by
  refine bq_startH (by decide) (Nat.le_of_ble_eq_true rfl) ?_
  intro p e s m av9 below meth c A ls Q H locs E K w hA hr hk hX htab hQ hl
  have E : bq_E p m c cL_groups 3 s av9 RL := E
  have hx := E.1
  have hb := E.2.1
  have hl : lv_has ls 3 [(0, .ref a_t), (1, .ref a_p1)] := hl
  unfold mL_groups at hm
  refine lv_aload_n hx hb dL_groups_0 rfl (lv_at hl 1 rfl) ?_
  refine lv_iconst (v := 0) hx hb dL_groups_1 (by decide) ?_
  refine lv_aload_n hx hb dL_groups_2 rfl (lv_at hl 0 rfl) ?_
  obtain ⟨v1, hC, hm⟩ := bq_bd_el hm
  refine bq_V (As := []) (rest := [.int 0, .ref a_p1]) (st1 := [.int v1, .int 0, .ref a_p1]) (ws' := wdL_groups cI cJ a_t a_t_rig a_t_rig_sequence a_p1 u_t_reader u_t_trial u_t_snapshot u_t_spare u_t_rig_circuit u_t_rig_log u_t_rig_score u_t_rig_strokes u_t_rig_positions u_t_rig_timers u_t_rig_faults u_t_rig_sequence_plus u_t_rig_sequence_minus u_t_rig_sequence_pauses u_t_rig_sequence_outBefore u_t_rig_sequence_cuts u_t_rig_sequence_groupOfStep t t_rig t_rig_sequence p1) E K w hA (kX7_groups l D cI cJ a_t a_t_rig a_t_rig_sequence u_t_reader u_t_trial u_t_snapshot u_t_spare u_t_rig_circuit u_t_rig_log u_t_rig_score u_t_rig_strokes u_t_rig_positions u_t_rig_timers u_t_rig_faults u_t_rig_sequence_plus u_t_rig_sequence_minus u_t_rig_sequence_pauses u_t_rig_sequence_outBefore u_t_rig_sequence_cuts u_t_rig_sequence_groupOfStep t t_rig t_rig_sequence v1 hC) (bq_gV ml_L_36 im_X7_groups sl_X7_groups in_X7 cd_X7_groups) hd_X7_groups ⟨Nat.le_of_ble_eq_true rfl, Nat.le_of_ble_eq_true rfl⟩ ⟨Nat.le_of_ble_eq_true rfl, Nat.le_of_ble_eq_true rfl⟩ ⟨[0, 1, 2], [3], [1, 2, 3, 0], rfl, rfl, rfl, rfl, rfl, rfl, rfl, rfl, rfl⟩ 0 rfl rfl rfl hl.1 rfl (Nat.le_of_ble_eq_true rfl) rfl dL_groups_3 (fun H locs w => bq_z ⟨rfl, rfl⟩ ?_)
  clear hC
  refine lv_i2l hx hb dL_groups_6 rfl ?_
  obtain ⟨p1_2, e9, hm⟩ := bq_let_el hm
  refine bq_lastk E K w 3 rfl 0 (by decide) (by unfold vp_in; decide) dL_groups_7 (fun H locs w => ?_)
  replace w : bq_w D A s.heap (wdL_groups cI cJ a_t a_t_rig a_t_rig_sequence a_p1 u_t_reader u_t_trial u_t_snapshot u_t_spare u_t_rig_circuit u_t_rig_log u_t_rig_score u_t_rig_strokes u_t_rig_positions u_t_rig_timers u_t_rig_faults u_t_rig_sequence_plus u_t_rig_sequence_minus u_t_rig_sequence_pauses u_t_rig_sequence_outBefore u_t_rig_sequence_cuts u_t_rig_sequence_groupOfStep t t_rig t_rig_sequence p1_2) H locs := by rw [e9]; exact w
  clear e9
  refine lv_goto (tgt := 14) hx hb dL_groups_8 (by decide) ?_
  refine lv_iconst (v := 0) hx hb dL_groups_14 (by decide) ?_
  obtain ⟨rfl, rfl⟩ := bq_in2 (Option.some.inj hm)
  exact bq_hret E w hr hk dL_groups_15 hQ
abbrev rmTL_groups : Room := { frames := 8, cells := 1, slots := 6, locals := 140 }
set_option maxHeartbeats 4000000 in
set_option maxRecDepth 100000 in
theorem tkL_groups {l : Launch} (hlf : l.stackTraces = false) (D : va_G) (cI cJ : ClassId) (a_t a_t_rig a_t_rig_sequence a_p1 u_t_reader u_t_trial u_t_snapshot u_t_spare u_t_rig_circuit u_t_rig_log u_t_rig_score u_t_rig_strokes u_t_rig_positions u_t_rig_timers u_t_rig_faults u_t_rig_sequence_plus u_t_rig_sequence_minus u_t_rig_sequence_pauses u_t_rig_sequence_outBefore u_t_rig_sequence_cuts u_t_rig_sequence_groupOfStep : Nat) (t : Nat → Int32) (t_rig : Nat → Int32) (t_rig_sequence : Nat → Int32) (p1 : Nat → Int64) (r : Int32) (hm : tL_groups t_rig_sequence p1 = some r) : bq_MH l D cI cJ yL_groups cL_groups 3 (some .int) [(0, 8, 11, 15)] rmTL_groups [.ref a_t, .ref a_p1] (wdL_groups cI cJ a_t a_t_rig a_t_rig_sequence a_p1 u_t_reader u_t_trial u_t_snapshot u_t_spare u_t_rig_circuit u_t_rig_log u_t_rig_score u_t_rig_strokes u_t_rig_positions u_t_rig_timers u_t_rig_faults u_t_rig_sequence_plus u_t_rig_sequence_minus u_t_rig_sequence_pauses u_t_rig_sequence_outBefore u_t_rig_sequence_cuts u_t_rig_sequence_groupOfStep t t_rig t_rig_sequence p1) (wdL_groups cI cJ a_t a_t_rig a_t_rig_sequence a_p1 u_t_reader u_t_trial u_t_snapshot u_t_spare u_t_rig_circuit u_t_rig_log u_t_rig_score u_t_rig_strokes u_t_rig_positions u_t_rig_timers u_t_rig_faults u_t_rig_sequence_plus u_t_rig_sequence_minus u_t_rig_sequence_pauses u_t_rig_sequence_outBefore u_t_rig_sequence_cuts u_t_rig_sequence_groupOfStep t t_rig t_rig_sequence p1) (some (.int r)) := by
  refine bq_startH (by decide) (Nat.le_of_ble_eq_true rfl) ?_
  intro p e s m av9 below meth c A ls Q H locs E K w hA hr hk hX htab hQ hl
  have E : bq_E p m c cL_groups 3 s av9 RL := E
  have hx := E.1
  have hb := E.2.1
  have hl : lv_has ls 3 [(0, .ref a_t), (1, .ref a_p1)] := hl
  unfold tL_groups at hm
  refine lv_aload_n hx hb dL_groups_0 rfl (lv_at hl 1 rfl) ?_
  refine lv_iconst (v := 0) hx hb dL_groups_1 (by decide) ?_
  refine lv_aload_n hx hb dL_groups_2 rfl (lv_at hl 0 rfl) ?_
  obtain ⟨k9, hC, hm⟩ := bq_bd_el hm
  by_cases hq : k9 = 1
  · subst hq
    replace hm := bq_t rfl hm
    obtain rfl := Option.some.inj hm
    refine bq_HV (As := []) (rest := [.int 0, .ref a_p1]) E K w hA hX ⟨rfl, rfl⟩ (tkX7_groups hlf D cI cJ a_t a_t_rig a_t_rig_sequence u_t_reader u_t_trial u_t_snapshot u_t_spare u_t_rig_circuit u_t_rig_log u_t_rig_score u_t_rig_strokes u_t_rig_positions u_t_rig_timers u_t_rig_faults u_t_rig_sequence_plus u_t_rig_sequence_minus u_t_rig_sequence_pauses u_t_rig_sequence_outBefore u_t_rig_sequence_cuts u_t_rig_sequence_groupOfStep t t_rig t_rig_sequence _ hC) (bq_gV ml_L_36 im_X7_groups sl_X7_groups in_X7 cd_X7_groups) hd_X7_groups ⟨Nat.le_of_ble_eq_true rfl, Nat.le_of_ble_eq_true rfl⟩ ⟨Nat.le_of_ble_eq_true rfl, Nat.le_of_ble_eq_true rfl⟩ ⟨[0, 1, 2], [3], [1, 2, 3, 0], rfl, rfl, rfl, rfl, rfl, rfl, rfl, rfl, rfl⟩ 0 rfl rfl rfl hl.1 rfl (Nat.le_of_ble_eq_true rfl) dL_groups_3 (fun q9 ce H locs w h1 h2 h3 => ?_)
    refine vx_catch (E := "java/lang/IllegalStateException") (name := "java/lang/IllegalStateException") E.2.2.2.1 [] ⟨0, 8, 11, 15⟩ [] (by rw [htab]; rfl) (fun z h => by cases h) (by decide) (by decide) (E.2.2.2.2 _ cl_L_15) (va_Nw.use rfl (K.2 _ mc_IllegalStateException)) h1 h2 h3 ?_
    refine lv_astore_n (lv' := [(2, .ref q9), (0, .ref a_t), (1, .ref a_p1)]) hx hb dL_groups_11 rfl hl (by decide) rfl (fun ls hl => ?_)
    refine lv_iconst (v := 1) hx hb dL_groups_12 (by decide) ?_
    exact bq_hret E w hr hk dL_groups_13 hQ
  replace hm := bq_f hq hm
  cases hm
abbrev wdL_cut (cI : ClassId) (cJ : ClassId) (a_t a_t_rig a_t_rig_sequence a_t_rig_sequence_cuts a_p2 u_t_reader u_t_trial u_t_snapshot u_t_spare u_t_rig_circuit u_t_rig_log u_t_rig_score u_t_rig_strokes u_t_rig_positions u_t_rig_timers u_t_rig_faults u_t_rig_sequence_plus u_t_rig_sequence_minus u_t_rig_sequence_pauses u_t_rig_sequence_outBefore u_t_rig_sequence_groupOfStep : Nat) (t : Nat → Int32) (t_rig : Nat → Int32) (t_rig_sequence : Nat → Int32) (t_rig_sequence_cuts : Nat → Int32) (p2 : Nat → Int64) : va_W := [(a_t, oX7 u_t_reader a_t_rig u_t_trial u_t_snapshot u_t_spare t), (a_t_rig, oX3 a_t_rig_sequence u_t_rig_circuit u_t_rig_log u_t_rig_score u_t_rig_strokes u_t_rig_positions u_t_rig_timers u_t_rig_faults t_rig), (a_t_rig_sequence, oX5 u_t_rig_sequence_plus u_t_rig_sequence_minus u_t_rig_sequence_pauses u_t_rig_sequence_outBefore a_t_rig_sequence_cuts u_t_rig_sequence_groupOfStep t_rig_sequence), (a_t_rig_sequence_cuts, oA cI 16 t_rig_sequence_cuts), (a_p2, oJ cJ 1 p2)]
abbrev rmL_cut : Room := { frames := 1, cells := 0, slots := 0, locals := 21 }
theorem hs_L_cut : yL_cut.cls ≠ "java/lang/invoke/MethodHandle" ∧ yL_cut.cls ≠ "java/lang/invoke/VarHandle" ∧ (parseMethodDescriptor yL_cut.desc).map (fun d => d.parameters.length) = some 3 := by decide +kernel
set_option maxHeartbeats 4000000 in
set_option maxRecDepth 100000 in
theorem kL_cut (l : Launch) (D : va_G) (cI cJ : ClassId) (a_t a_t_rig a_t_rig_sequence a_t_rig_sequence_cuts a_p2 u_t_reader u_t_trial u_t_snapshot u_t_spare u_t_rig_circuit u_t_rig_log u_t_rig_score u_t_rig_strokes u_t_rig_positions u_t_rig_timers u_t_rig_faults u_t_rig_sequence_plus u_t_rig_sequence_minus u_t_rig_sequence_pauses u_t_rig_sequence_outBefore u_t_rig_sequence_groupOfStep : Nat) (t : Nat → Int32) (t_rig : Nat → Int32) (t_rig_sequence : Nat → Int32) (t_rig_sequence_cuts : Nat → Int32) (p2 : Nat → Int64) (x1 : Int32) (r : Int32) (p2_o : Nat → Int64) (hm : mL_cut t_rig_sequence t_rig_sequence_cuts p2 x1 = some (r, p2_o)) : bq_MH l D cI cJ yL_cut cL_cut 4 (some .int) [(0, 9, 12, 20)] rmL_cut [.ref a_t, .int x1, .ref a_p2] (wdL_cut cI cJ a_t a_t_rig a_t_rig_sequence a_t_rig_sequence_cuts a_p2 u_t_reader u_t_trial u_t_snapshot u_t_spare u_t_rig_circuit u_t_rig_log u_t_rig_score u_t_rig_strokes u_t_rig_positions u_t_rig_timers u_t_rig_faults u_t_rig_sequence_plus u_t_rig_sequence_minus u_t_rig_sequence_pauses u_t_rig_sequence_outBefore u_t_rig_sequence_groupOfStep t t_rig t_rig_sequence t_rig_sequence_cuts p2) (wdL_cut cI cJ a_t a_t_rig a_t_rig_sequence a_t_rig_sequence_cuts a_p2 u_t_reader u_t_trial u_t_snapshot u_t_spare u_t_rig_circuit u_t_rig_log u_t_rig_score u_t_rig_strokes u_t_rig_positions u_t_rig_timers u_t_rig_faults u_t_rig_sequence_plus u_t_rig_sequence_minus u_t_rig_sequence_pauses u_t_rig_sequence_outBefore u_t_rig_sequence_groupOfStep t t_rig t_rig_sequence t_rig_sequence_cuts p2_o) (some (.int r)) := by
  refine bq_startH (by decide) (Nat.le_of_ble_eq_true rfl) ?_
  intro p e s m av9 below meth c A ls Q H locs E K w hA hr hk hX htab hQ hl
  have E : bq_E p m c cL_cut 4 s av9 RL := E
  have hx := E.1
  have hb := E.2.1
  have hl : lv_has ls 4 [(0, .ref a_t), (1, .int x1), (2, .ref a_p2)] := hl
  unfold mL_cut at hm
  refine lv_aload_n hx hb dL_cut_0 rfl (lv_at hl 2 rfl) ?_
  refine lv_iconst (v := 0) hx hb dL_cut_1 (by decide) ?_
  refine lv_aload_n hx hb dL_cut_2 rfl (lv_at hl 0 rfl) ?_
  refine lv_iload_n hx hb dL_cut_3 rfl (lv_at hl 1 rfl) ?_
  obtain ⟨v1, hC, hm⟩ := bq_bd_el hm
  refine bq_V (As := [.int x1]) (rest := [.int 0, .ref a_p2]) (st1 := [.int v1, .int 0, .ref a_p2]) (ws' := wdL_cut cI cJ a_t a_t_rig a_t_rig_sequence a_t_rig_sequence_cuts a_p2 u_t_reader u_t_trial u_t_snapshot u_t_spare u_t_rig_circuit u_t_rig_log u_t_rig_score u_t_rig_strokes u_t_rig_positions u_t_rig_timers u_t_rig_faults u_t_rig_sequence_plus u_t_rig_sequence_minus u_t_rig_sequence_pauses u_t_rig_sequence_outBefore u_t_rig_sequence_groupOfStep t t_rig t_rig_sequence t_rig_sequence_cuts p2) E K w hA (kX7_cut l D cI cJ a_t a_t_rig a_t_rig_sequence a_t_rig_sequence_cuts u_t_reader u_t_trial u_t_snapshot u_t_spare u_t_rig_circuit u_t_rig_log u_t_rig_score u_t_rig_strokes u_t_rig_positions u_t_rig_timers u_t_rig_faults u_t_rig_sequence_plus u_t_rig_sequence_minus u_t_rig_sequence_pauses u_t_rig_sequence_outBefore u_t_rig_sequence_groupOfStep t t_rig t_rig_sequence t_rig_sequence_cuts x1 v1 hC) (bq_gV ml_L_39 im_X7_cut sl_X7_cut in_X7 cd_X7_cut) hd_X7_cut ⟨Nat.le_of_ble_eq_true rfl, Nat.le_of_ble_eq_true rfl⟩ ⟨Nat.le_of_ble_eq_true rfl, Nat.le_of_ble_eq_true rfl⟩ ⟨[0, 1, 2, 3], [4], [1, 2, 3, 4, 0], rfl, rfl, rfl, rfl, rfl, rfl, rfl, rfl, rfl⟩ 0 rfl rfl rfl hl.1 rfl (Nat.le_of_ble_eq_true rfl) rfl dL_cut_4 (fun H locs w => bq_z ⟨rfl, rfl⟩ ?_)
  clear hC
  refine lv_i2l hx hb dL_cut_7 rfl ?_
  obtain ⟨p2_2, e9, hm⟩ := bq_let_el hm
  refine bq_lastk E K w 4 rfl 0 (by decide) (by unfold vp_in; decide) dL_cut_8 (fun H locs w => ?_)
  replace w : bq_w D A s.heap (wdL_cut cI cJ a_t a_t_rig a_t_rig_sequence a_t_rig_sequence_cuts a_p2 u_t_reader u_t_trial u_t_snapshot u_t_spare u_t_rig_circuit u_t_rig_log u_t_rig_score u_t_rig_strokes u_t_rig_positions u_t_rig_timers u_t_rig_faults u_t_rig_sequence_plus u_t_rig_sequence_minus u_t_rig_sequence_pauses u_t_rig_sequence_outBefore u_t_rig_sequence_groupOfStep t t_rig t_rig_sequence t_rig_sequence_cuts p2_2) H locs := by rw [e9]; exact w
  clear e9
  refine lv_goto (tgt := 15) hx hb dL_cut_9 (by decide) ?_
  refine lv_iconst (v := 0) hx hb dL_cut_15 (by decide) ?_
  obtain ⟨rfl, rfl⟩ := bq_in2 (Option.some.inj hm)
  exact bq_hret E w hr hk dL_cut_16 hQ
abbrev rmTL_cut : Room := { frames := 7, cells := 1, slots := 6, locals := 121 }
set_option maxHeartbeats 4000000 in
set_option maxRecDepth 100000 in
theorem tkL_cut {l : Launch} (hlf : l.stackTraces = false) (D : va_G) (cI cJ : ClassId) (a_t a_t_rig a_t_rig_sequence a_t_rig_sequence_cuts a_p2 u_t_reader u_t_trial u_t_snapshot u_t_spare u_t_rig_circuit u_t_rig_log u_t_rig_score u_t_rig_strokes u_t_rig_positions u_t_rig_timers u_t_rig_faults u_t_rig_sequence_plus u_t_rig_sequence_minus u_t_rig_sequence_pauses u_t_rig_sequence_outBefore u_t_rig_sequence_groupOfStep : Nat) (t : Nat → Int32) (t_rig : Nat → Int32) (t_rig_sequence : Nat → Int32) (t_rig_sequence_cuts : Nat → Int32) (p2 : Nat → Int64) (x1 : Int32) (r : Int32) (hm : tL_cut t_rig_sequence t_rig_sequence_cuts p2 x1 = some r) : bq_MH l D cI cJ yL_cut cL_cut 4 (some .int) [(0, 9, 12, 20)] rmTL_cut [.ref a_t, .int x1, .ref a_p2] (wdL_cut cI cJ a_t a_t_rig a_t_rig_sequence a_t_rig_sequence_cuts a_p2 u_t_reader u_t_trial u_t_snapshot u_t_spare u_t_rig_circuit u_t_rig_log u_t_rig_score u_t_rig_strokes u_t_rig_positions u_t_rig_timers u_t_rig_faults u_t_rig_sequence_plus u_t_rig_sequence_minus u_t_rig_sequence_pauses u_t_rig_sequence_outBefore u_t_rig_sequence_groupOfStep t t_rig t_rig_sequence t_rig_sequence_cuts p2) (wdL_cut cI cJ a_t a_t_rig a_t_rig_sequence a_t_rig_sequence_cuts a_p2 u_t_reader u_t_trial u_t_snapshot u_t_spare u_t_rig_circuit u_t_rig_log u_t_rig_score u_t_rig_strokes u_t_rig_positions u_t_rig_timers u_t_rig_faults u_t_rig_sequence_plus u_t_rig_sequence_minus u_t_rig_sequence_pauses u_t_rig_sequence_outBefore u_t_rig_sequence_groupOfStep t t_rig t_rig_sequence t_rig_sequence_cuts p2) (some (.int r)) := by
  refine bq_startH (by decide) (Nat.le_of_ble_eq_true rfl) ?_
  intro p e s m av9 below meth c A ls Q H locs E K w hA hr hk hX htab hQ hl
  have E : bq_E p m c cL_cut 4 s av9 RL := E
  have hx := E.1
  have hb := E.2.1
  have hl : lv_has ls 4 [(0, .ref a_t), (1, .int x1), (2, .ref a_p2)] := hl
  unfold tL_cut at hm
  refine lv_aload_n hx hb dL_cut_0 rfl (lv_at hl 2 rfl) ?_
  refine lv_iconst (v := 0) hx hb dL_cut_1 (by decide) ?_
  refine lv_aload_n hx hb dL_cut_2 rfl (lv_at hl 0 rfl) ?_
  refine lv_iload_n hx hb dL_cut_3 rfl (lv_at hl 1 rfl) ?_
  obtain ⟨k9, hC, hm⟩ := bq_bd_el hm
  by_cases hq : k9 = 2
  · subst hq
    replace hm := bq_t rfl hm
    obtain rfl := Option.some.inj hm
    refine bq_HV (As := [.int x1]) (rest := [.int 0, .ref a_p2]) E K w hA hX ⟨rfl, rfl⟩ (tkX7_cut hlf D cI cJ a_t a_t_rig a_t_rig_sequence a_t_rig_sequence_cuts u_t_reader u_t_trial u_t_snapshot u_t_spare u_t_rig_circuit u_t_rig_log u_t_rig_score u_t_rig_strokes u_t_rig_positions u_t_rig_timers u_t_rig_faults u_t_rig_sequence_plus u_t_rig_sequence_minus u_t_rig_sequence_pauses u_t_rig_sequence_outBefore u_t_rig_sequence_groupOfStep t t_rig t_rig_sequence t_rig_sequence_cuts x1 _ hC) (bq_gV ml_L_39 im_X7_cut sl_X7_cut in_X7 cd_X7_cut) hd_X7_cut ⟨Nat.le_of_ble_eq_true rfl, Nat.le_of_ble_eq_true rfl⟩ ⟨Nat.le_of_ble_eq_true rfl, Nat.le_of_ble_eq_true rfl⟩ ⟨[0, 1, 2, 3], [4], [1, 2, 3, 4, 0], rfl, rfl, rfl, rfl, rfl, rfl, rfl, rfl, rfl⟩ 0 rfl rfl rfl hl.1 rfl (Nat.le_of_ble_eq_true rfl) dL_cut_4 (fun q9 ce H locs w h1 h2 h3 => ?_)
    refine vx_catch (E := "java/lang/IndexOutOfBoundsException") (name := "java/lang/IndexOutOfBoundsException") E.2.2.2.1 [] ⟨0, 9, 12, 20⟩ [] (by rw [htab]; rfl) (fun z h => by cases h) (by decide) (by decide) (E.2.2.2.2 _ cl_L_20) (va_Nw.use rfl (K.2 _ mc_IndexOutOfBoundsException)) h1 h2 h3 ?_
    refine lv_astore_n (lv' := [(3, .ref q9), (0, .ref a_t), (1, .int x1), (2, .ref a_p2)]) hx hb dL_cut_12 rfl hl (by decide) rfl (fun ls hl => ?_)
    refine lv_iconst (v := 1) hx hb dL_cut_13 (by decide) ?_
    exact bq_hret E w hr hk dL_cut_14 hQ
  replace hm := bq_f hq hm
  cases hm
abbrev wdL_groupOf (cI : ClassId) (cJ : ClassId) (a_t a_t_rig a_t_rig_sequence a_t_rig_sequence_groupOfStep a_p2 u_t_reader u_t_trial u_t_snapshot u_t_spare u_t_rig_circuit u_t_rig_log u_t_rig_score u_t_rig_strokes u_t_rig_positions u_t_rig_timers u_t_rig_faults u_t_rig_sequence_plus u_t_rig_sequence_minus u_t_rig_sequence_pauses u_t_rig_sequence_outBefore u_t_rig_sequence_cuts : Nat) (t : Nat → Int32) (t_rig : Nat → Int32) (t_rig_sequence : Nat → Int32) (t_rig_sequence_groupOfStep : Nat → Int32) (p2 : Nat → Int64) : va_W := [(a_t, oX7 u_t_reader a_t_rig u_t_trial u_t_snapshot u_t_spare t), (a_t_rig, oX3 a_t_rig_sequence u_t_rig_circuit u_t_rig_log u_t_rig_score u_t_rig_strokes u_t_rig_positions u_t_rig_timers u_t_rig_faults t_rig), (a_t_rig_sequence, oX5 u_t_rig_sequence_plus u_t_rig_sequence_minus u_t_rig_sequence_pauses u_t_rig_sequence_outBefore u_t_rig_sequence_cuts a_t_rig_sequence_groupOfStep t_rig_sequence), (a_t_rig_sequence_groupOfStep, oA cI 16 t_rig_sequence_groupOfStep), (a_p2, oJ cJ 1 p2)]
abbrev rmL_groupOf : Room := { frames := 2, cells := 0, slots := 0, locals := 42 }
theorem hs_L_groupOf : yL_groupOf.cls ≠ "java/lang/invoke/MethodHandle" ∧ yL_groupOf.cls ≠ "java/lang/invoke/VarHandle" ∧ (parseMethodDescriptor yL_groupOf.desc).map (fun d => d.parameters.length) = some 3 := by decide +kernel
set_option maxHeartbeats 4000000 in
set_option maxRecDepth 100000 in
theorem kL_groupOf (l : Launch) (D : va_G) (cI cJ : ClassId) (a_t a_t_rig a_t_rig_sequence a_t_rig_sequence_groupOfStep a_p2 u_t_reader u_t_trial u_t_snapshot u_t_spare u_t_rig_circuit u_t_rig_log u_t_rig_score u_t_rig_strokes u_t_rig_positions u_t_rig_timers u_t_rig_faults u_t_rig_sequence_plus u_t_rig_sequence_minus u_t_rig_sequence_pauses u_t_rig_sequence_outBefore u_t_rig_sequence_cuts : Nat) (t : Nat → Int32) (t_rig : Nat → Int32) (t_rig_sequence : Nat → Int32) (t_rig_sequence_groupOfStep : Nat → Int32) (p2 : Nat → Int64) (x1 : Int32) (r : Int32) (p2_o : Nat → Int64) (hm : mL_groupOf t_rig_sequence t_rig_sequence_groupOfStep p2 x1 = some (r, p2_o)) : bq_MH l D cI cJ yL_groupOf cL_groupOf 4 (some .int) [(0, 9, 12, 20)] rmL_groupOf [.ref a_t, .int x1, .ref a_p2] (wdL_groupOf cI cJ a_t a_t_rig a_t_rig_sequence a_t_rig_sequence_groupOfStep a_p2 u_t_reader u_t_trial u_t_snapshot u_t_spare u_t_rig_circuit u_t_rig_log u_t_rig_score u_t_rig_strokes u_t_rig_positions u_t_rig_timers u_t_rig_faults u_t_rig_sequence_plus u_t_rig_sequence_minus u_t_rig_sequence_pauses u_t_rig_sequence_outBefore u_t_rig_sequence_cuts t t_rig t_rig_sequence t_rig_sequence_groupOfStep p2) (wdL_groupOf cI cJ a_t a_t_rig a_t_rig_sequence a_t_rig_sequence_groupOfStep a_p2 u_t_reader u_t_trial u_t_snapshot u_t_spare u_t_rig_circuit u_t_rig_log u_t_rig_score u_t_rig_strokes u_t_rig_positions u_t_rig_timers u_t_rig_faults u_t_rig_sequence_plus u_t_rig_sequence_minus u_t_rig_sequence_pauses u_t_rig_sequence_outBefore u_t_rig_sequence_cuts t t_rig t_rig_sequence t_rig_sequence_groupOfStep p2_o) (some (.int r)) := by
  refine bq_startH (by decide) (Nat.le_of_ble_eq_true rfl) ?_
  intro p e s m av9 below meth c A ls Q H locs E K w hA hr hk hX htab hQ hl
  have E : bq_E p m c cL_groupOf 4 s av9 RL := E
  have hx := E.1
  have hb := E.2.1
  have hl : lv_has ls 4 [(0, .ref a_t), (1, .int x1), (2, .ref a_p2)] := hl
  unfold mL_groupOf at hm
  refine lv_aload_n hx hb dL_groupOf_0 rfl (lv_at hl 2 rfl) ?_
  refine lv_iconst (v := 0) hx hb dL_groupOf_1 (by decide) ?_
  refine lv_aload_n hx hb dL_groupOf_2 rfl (lv_at hl 0 rfl) ?_
  refine lv_iload_n hx hb dL_groupOf_3 rfl (lv_at hl 1 rfl) ?_
  obtain ⟨v1, hC, hm⟩ := bq_bd_el hm
  refine bq_V (As := [.int x1]) (rest := [.int 0, .ref a_p2]) (st1 := [.int v1, .int 0, .ref a_p2]) (ws' := wdL_groupOf cI cJ a_t a_t_rig a_t_rig_sequence a_t_rig_sequence_groupOfStep a_p2 u_t_reader u_t_trial u_t_snapshot u_t_spare u_t_rig_circuit u_t_rig_log u_t_rig_score u_t_rig_strokes u_t_rig_positions u_t_rig_timers u_t_rig_faults u_t_rig_sequence_plus u_t_rig_sequence_minus u_t_rig_sequence_pauses u_t_rig_sequence_outBefore u_t_rig_sequence_cuts t t_rig t_rig_sequence t_rig_sequence_groupOfStep p2) E K w hA (kX7_groupOf l D cI cJ a_t a_t_rig a_t_rig_sequence a_t_rig_sequence_groupOfStep u_t_reader u_t_trial u_t_snapshot u_t_spare u_t_rig_circuit u_t_rig_log u_t_rig_score u_t_rig_strokes u_t_rig_positions u_t_rig_timers u_t_rig_faults u_t_rig_sequence_plus u_t_rig_sequence_minus u_t_rig_sequence_pauses u_t_rig_sequence_outBefore u_t_rig_sequence_cuts t t_rig t_rig_sequence t_rig_sequence_groupOfStep x1 v1 hC) (bq_gV ml_L_42 im_X7_groupOf sl_X7_groupOf in_X7 cd_X7_groupOf) hd_X7_groupOf ⟨Nat.le_of_ble_eq_true rfl, Nat.le_of_ble_eq_true rfl⟩ ⟨Nat.le_of_ble_eq_true rfl, Nat.le_of_ble_eq_true rfl⟩ ⟨[0, 1, 2, 3], [4], [1, 2, 3, 4, 0], rfl, rfl, rfl, rfl, rfl, rfl, rfl, rfl, rfl⟩ 0 rfl rfl rfl hl.1 rfl (Nat.le_of_ble_eq_true rfl) rfl dL_groupOf_4 (fun H locs w => bq_z ⟨rfl, rfl⟩ ?_)
  clear hC
  refine lv_i2l hx hb dL_groupOf_7 rfl ?_
  obtain ⟨p2_2, e9, hm⟩ := bq_let_el hm
  refine bq_lastk E K w 4 rfl 0 (by decide) (by unfold vp_in; decide) dL_groupOf_8 (fun H locs w => ?_)
  replace w : bq_w D A s.heap (wdL_groupOf cI cJ a_t a_t_rig a_t_rig_sequence a_t_rig_sequence_groupOfStep a_p2 u_t_reader u_t_trial u_t_snapshot u_t_spare u_t_rig_circuit u_t_rig_log u_t_rig_score u_t_rig_strokes u_t_rig_positions u_t_rig_timers u_t_rig_faults u_t_rig_sequence_plus u_t_rig_sequence_minus u_t_rig_sequence_pauses u_t_rig_sequence_outBefore u_t_rig_sequence_cuts t t_rig t_rig_sequence t_rig_sequence_groupOfStep p2_2) H locs := by rw [e9]; exact w
  clear e9
  refine lv_goto (tgt := 15) hx hb dL_groupOf_9 (by decide) ?_
  refine lv_iconst (v := 0) hx hb dL_groupOf_15 (by decide) ?_
  obtain ⟨rfl, rfl⟩ := bq_in2 (Option.some.inj hm)
  exact bq_hret E w hr hk dL_groupOf_16 hQ
abbrev rmTL_groupOf : Room := { frames := 8, cells := 1, slots := 6, locals := 142 }
set_option maxHeartbeats 4000000 in
set_option maxRecDepth 100000 in
theorem tkL_groupOf {l : Launch} (hlf : l.stackTraces = false) (D : va_G) (cI cJ : ClassId) (a_t a_t_rig a_t_rig_sequence a_t_rig_sequence_groupOfStep a_p2 u_t_reader u_t_trial u_t_snapshot u_t_spare u_t_rig_circuit u_t_rig_log u_t_rig_score u_t_rig_strokes u_t_rig_positions u_t_rig_timers u_t_rig_faults u_t_rig_sequence_plus u_t_rig_sequence_minus u_t_rig_sequence_pauses u_t_rig_sequence_outBefore u_t_rig_sequence_cuts : Nat) (t : Nat → Int32) (t_rig : Nat → Int32) (t_rig_sequence : Nat → Int32) (t_rig_sequence_groupOfStep : Nat → Int32) (p2 : Nat → Int64) (x1 : Int32) (r : Int32) (hm : tL_groupOf t_rig_sequence t_rig_sequence_groupOfStep p2 x1 = some r) : bq_MH l D cI cJ yL_groupOf cL_groupOf 4 (some .int) [(0, 9, 12, 20)] rmTL_groupOf [.ref a_t, .int x1, .ref a_p2] (wdL_groupOf cI cJ a_t a_t_rig a_t_rig_sequence a_t_rig_sequence_groupOfStep a_p2 u_t_reader u_t_trial u_t_snapshot u_t_spare u_t_rig_circuit u_t_rig_log u_t_rig_score u_t_rig_strokes u_t_rig_positions u_t_rig_timers u_t_rig_faults u_t_rig_sequence_plus u_t_rig_sequence_minus u_t_rig_sequence_pauses u_t_rig_sequence_outBefore u_t_rig_sequence_cuts t t_rig t_rig_sequence t_rig_sequence_groupOfStep p2) (wdL_groupOf cI cJ a_t a_t_rig a_t_rig_sequence a_t_rig_sequence_groupOfStep a_p2 u_t_reader u_t_trial u_t_snapshot u_t_spare u_t_rig_circuit u_t_rig_log u_t_rig_score u_t_rig_strokes u_t_rig_positions u_t_rig_timers u_t_rig_faults u_t_rig_sequence_plus u_t_rig_sequence_minus u_t_rig_sequence_pauses u_t_rig_sequence_outBefore u_t_rig_sequence_cuts t t_rig t_rig_sequence t_rig_sequence_groupOfStep p2) (some (.int r)) := by
  refine bq_startH (by decide) (Nat.le_of_ble_eq_true rfl) ?_
  intro p e s m av9 below meth c A ls Q H locs E K w hA hr hk hX htab hQ hl
  have E : bq_E p m c cL_groupOf 4 s av9 RL := E
  have hx := E.1
  have hb := E.2.1
  have hl : lv_has ls 4 [(0, .ref a_t), (1, .int x1), (2, .ref a_p2)] := hl
  unfold tL_groupOf at hm
  refine lv_aload_n hx hb dL_groupOf_0 rfl (lv_at hl 2 rfl) ?_
  refine lv_iconst (v := 0) hx hb dL_groupOf_1 (by decide) ?_
  refine lv_aload_n hx hb dL_groupOf_2 rfl (lv_at hl 0 rfl) ?_
  refine lv_iload_n hx hb dL_groupOf_3 rfl (lv_at hl 1 rfl) ?_
  obtain ⟨k9, hC, hm⟩ := bq_bd_el hm
  by_cases hq : k9 = 2
  · subst hq
    replace hm := bq_t rfl hm
    obtain rfl := Option.some.inj hm
    refine bq_HV (As := [.int x1]) (rest := [.int 0, .ref a_p2]) E K w hA hX ⟨rfl, rfl⟩ (tkX7_groupOf hlf D cI cJ a_t a_t_rig a_t_rig_sequence a_t_rig_sequence_groupOfStep u_t_reader u_t_trial u_t_snapshot u_t_spare u_t_rig_circuit u_t_rig_log u_t_rig_score u_t_rig_strokes u_t_rig_positions u_t_rig_timers u_t_rig_faults u_t_rig_sequence_plus u_t_rig_sequence_minus u_t_rig_sequence_pauses u_t_rig_sequence_outBefore u_t_rig_sequence_cuts t t_rig t_rig_sequence t_rig_sequence_groupOfStep x1 _ hC) (bq_gV ml_L_42 im_X7_groupOf sl_X7_groupOf in_X7 cd_X7_groupOf) hd_X7_groupOf ⟨Nat.le_of_ble_eq_true rfl, Nat.le_of_ble_eq_true rfl⟩ ⟨Nat.le_of_ble_eq_true rfl, Nat.le_of_ble_eq_true rfl⟩ ⟨[0, 1, 2, 3], [4], [1, 2, 3, 4, 0], rfl, rfl, rfl, rfl, rfl, rfl, rfl, rfl, rfl⟩ 0 rfl rfl rfl hl.1 rfl (Nat.le_of_ble_eq_true rfl) dL_groupOf_4 (fun q9 ce H locs w h1 h2 h3 => ?_)
    refine vx_catch (E := "java/lang/IndexOutOfBoundsException") (name := "java/lang/IndexOutOfBoundsException") E.2.2.2.1 [] ⟨0, 9, 12, 20⟩ [] (by rw [htab]; rfl) (fun z h => by cases h) (by decide) (by decide) (E.2.2.2.2 _ cl_L_20) (va_Nw.use rfl (K.2 _ mc_IndexOutOfBoundsException)) h1 h2 h3 ?_
    refine lv_astore_n (lv' := [(3, .ref q9), (0, .ref a_t), (1, .int x1), (2, .ref a_p2)]) hx hb dL_groupOf_12 rfl hl (by decide) rfl (fun ls hl => ?_)
    refine lv_iconst (v := 1) hx hb dL_groupOf_13 (by decide) ?_
    exact bq_hret E w hr hk dL_groupOf_14 hQ
  replace hm := bq_f hq hm
  cases hm
abbrev wdL_valves (cI : ClassId) (cJ : ClassId) (a_t a_t_rig a_t_rig_sequence a_t_rig_sequence_minus a_t_rig_sequence_plus a_p2 u_t_reader u_t_trial u_t_snapshot u_t_spare u_t_rig_circuit u_t_rig_log u_t_rig_score u_t_rig_strokes u_t_rig_positions u_t_rig_timers u_t_rig_faults u_t_rig_sequence_pauses u_t_rig_sequence_outBefore u_t_rig_sequence_cuts u_t_rig_sequence_groupOfStep : Nat) (t : Nat → Int32) (t_rig : Nat → Int32) (t_rig_sequence : Nat → Int32) (t_rig_sequence_minus : Nat → Int32) (t_rig_sequence_plus : Nat → Int32) (p2 : Nat → Int64) : va_W := [(a_t, oX7 u_t_reader a_t_rig u_t_trial u_t_snapshot u_t_spare t), (a_t_rig, oX3 a_t_rig_sequence u_t_rig_circuit u_t_rig_log u_t_rig_score u_t_rig_strokes u_t_rig_positions u_t_rig_timers u_t_rig_faults t_rig), (a_t_rig_sequence, oX5 a_t_rig_sequence_plus a_t_rig_sequence_minus u_t_rig_sequence_pauses u_t_rig_sequence_outBefore u_t_rig_sequence_cuts u_t_rig_sequence_groupOfStep t_rig_sequence), (a_t_rig_sequence_minus, oA cI 16 t_rig_sequence_minus), (a_t_rig_sequence_plus, oA cI 16 t_rig_sequence_plus), (a_p2, oJ cJ 1 p2)]
abbrev rmL_valves : Room := { frames := 4, cells := 0, slots := 0, locals := 86 }
theorem hs_L_valves : yL_valves.cls ≠ "java/lang/invoke/MethodHandle" ∧ yL_valves.cls ≠ "java/lang/invoke/VarHandle" ∧ (parseMethodDescriptor yL_valves.desc).map (fun d => d.parameters.length) = some 3 := by decide +kernel
set_option maxHeartbeats 4000000 in
set_option maxRecDepth 100000 in
theorem kL_valves (l : Launch) (D : va_G) (cI cJ : ClassId) (a_t a_t_rig a_t_rig_sequence a_t_rig_sequence_minus a_t_rig_sequence_plus a_p2 u_t_reader u_t_trial u_t_snapshot u_t_spare u_t_rig_circuit u_t_rig_log u_t_rig_score u_t_rig_strokes u_t_rig_positions u_t_rig_timers u_t_rig_faults u_t_rig_sequence_pauses u_t_rig_sequence_outBefore u_t_rig_sequence_cuts u_t_rig_sequence_groupOfStep : Nat) (t : Nat → Int32) (t_rig : Nat → Int32) (t_rig_sequence : Nat → Int32) (t_rig_sequence_minus : Nat → Int32) (t_rig_sequence_plus : Nat → Int32) (p2 : Nat → Int64) (x1 : Int32) (r : Int32) (p2_o : Nat → Int64) (hm : mL_valves t_rig_sequence t_rig_sequence_minus t_rig_sequence_plus p2 x1 = some (r, p2_o)) : bq_MH l D cI cJ yL_valves cL_valves 4 (some .int) [(0, 9, 12, 13), (0, 9, 15, 15)] rmL_valves [.ref a_t, .int x1, .ref a_p2] (wdL_valves cI cJ a_t a_t_rig a_t_rig_sequence a_t_rig_sequence_minus a_t_rig_sequence_plus a_p2 u_t_reader u_t_trial u_t_snapshot u_t_spare u_t_rig_circuit u_t_rig_log u_t_rig_score u_t_rig_strokes u_t_rig_positions u_t_rig_timers u_t_rig_faults u_t_rig_sequence_pauses u_t_rig_sequence_outBefore u_t_rig_sequence_cuts u_t_rig_sequence_groupOfStep t t_rig t_rig_sequence t_rig_sequence_minus t_rig_sequence_plus p2) (wdL_valves cI cJ a_t a_t_rig a_t_rig_sequence a_t_rig_sequence_minus a_t_rig_sequence_plus a_p2 u_t_reader u_t_trial u_t_snapshot u_t_spare u_t_rig_circuit u_t_rig_log u_t_rig_score u_t_rig_strokes u_t_rig_positions u_t_rig_timers u_t_rig_faults u_t_rig_sequence_pauses u_t_rig_sequence_outBefore u_t_rig_sequence_cuts u_t_rig_sequence_groupOfStep t t_rig t_rig_sequence t_rig_sequence_minus t_rig_sequence_plus p2_o) (some (.int r)) := by
  refine bq_startH (by decide) (Nat.le_of_ble_eq_true rfl) ?_
  intro p e s m av9 below meth c A ls Q H locs E K w hA hr hk hX htab hQ hl
  have E : bq_E p m c cL_valves 4 s av9 RL := E
  have hx := E.1
  have hb := E.2.1
  have hl : lv_has ls 4 [(0, .ref a_t), (1, .int x1), (2, .ref a_p2)] := hl
  unfold mL_valves at hm
  refine lv_aload_n hx hb dL_valves_0 rfl (lv_at hl 2 rfl) ?_
  refine lv_iconst (v := 0) hx hb dL_valves_1 (by decide) ?_
  refine lv_aload_n hx hb dL_valves_2 rfl (lv_at hl 0 rfl) ?_
  refine lv_iload_n hx hb dL_valves_3 rfl (lv_at hl 1 rfl) ?_
  obtain ⟨v1, hC, hm⟩ := bq_bd_el hm
  refine bq_V (As := [.int x1]) (rest := [.int 0, .ref a_p2]) (st1 := [.int v1, .int 0, .ref a_p2]) (ws' := wdL_valves cI cJ a_t a_t_rig a_t_rig_sequence a_t_rig_sequence_minus a_t_rig_sequence_plus a_p2 u_t_reader u_t_trial u_t_snapshot u_t_spare u_t_rig_circuit u_t_rig_log u_t_rig_score u_t_rig_strokes u_t_rig_positions u_t_rig_timers u_t_rig_faults u_t_rig_sequence_pauses u_t_rig_sequence_outBefore u_t_rig_sequence_cuts u_t_rig_sequence_groupOfStep t t_rig t_rig_sequence t_rig_sequence_minus t_rig_sequence_plus p2) E K w hA (kX7_valves l D cI cJ a_t a_t_rig a_t_rig_sequence a_t_rig_sequence_minus a_t_rig_sequence_plus u_t_reader u_t_trial u_t_snapshot u_t_spare u_t_rig_circuit u_t_rig_log u_t_rig_score u_t_rig_strokes u_t_rig_positions u_t_rig_timers u_t_rig_faults u_t_rig_sequence_pauses u_t_rig_sequence_outBefore u_t_rig_sequence_cuts u_t_rig_sequence_groupOfStep t t_rig t_rig_sequence t_rig_sequence_minus t_rig_sequence_plus x1 v1 hC) (bq_gV ml_L_45 im_X7_valves sl_X7_valves in_X7 cd_X7_valves) hd_X7_valves ⟨Nat.le_of_ble_eq_true rfl, Nat.le_of_ble_eq_true rfl⟩ ⟨Nat.le_of_ble_eq_true rfl, Nat.le_of_ble_eq_true rfl⟩ ⟨[0, 1, 2, 3, 4], [5], [1, 2, 3, 4, 5, 0], rfl, rfl, rfl, rfl, rfl, rfl, rfl, rfl, rfl⟩ 0 rfl rfl rfl hl.1 rfl (Nat.le_of_ble_eq_true rfl) rfl dL_valves_4 (fun H locs w => bq_z ⟨rfl, rfl⟩ ?_)
  clear hC
  refine lv_i2l hx hb dL_valves_7 rfl ?_
  obtain ⟨p2_2, e9, hm⟩ := bq_let_el hm
  refine bq_lastk E K w 5 rfl 0 (by decide) (by unfold vp_in; decide) dL_valves_8 (fun H locs w => ?_)
  replace w : bq_w D A s.heap (wdL_valves cI cJ a_t a_t_rig a_t_rig_sequence a_t_rig_sequence_minus a_t_rig_sequence_plus a_p2 u_t_reader u_t_trial u_t_snapshot u_t_spare u_t_rig_circuit u_t_rig_log u_t_rig_score u_t_rig_strokes u_t_rig_positions u_t_rig_timers u_t_rig_faults u_t_rig_sequence_pauses u_t_rig_sequence_outBefore u_t_rig_sequence_cuts u_t_rig_sequence_groupOfStep t t_rig t_rig_sequence t_rig_sequence_minus t_rig_sequence_plus p2_2) H locs := by rw [e9]; exact w
  clear e9
  refine lv_goto (tgt := 18) hx hb dL_valves_9 (by decide) ?_
  refine lv_iconst (v := 0) hx hb dL_valves_18 (by decide) ?_
  obtain ⟨rfl, rfl⟩ := bq_in2 (Option.some.inj hm)
  exact bq_hret E w hr hk dL_valves_19 hQ
abbrev rmTL_valves : Room := { frames := 8, cells := 1, slots := 6, locals := 141 }
set_option maxHeartbeats 4000000 in
set_option maxRecDepth 100000 in
theorem tkL_valves {l : Launch} (hlf : l.stackTraces = false) (D : va_G) (cI cJ : ClassId) (a_t a_t_rig a_t_rig_sequence a_t_rig_sequence_minus a_t_rig_sequence_plus a_p2 u_t_reader u_t_trial u_t_snapshot u_t_spare u_t_rig_circuit u_t_rig_log u_t_rig_score u_t_rig_strokes u_t_rig_positions u_t_rig_timers u_t_rig_faults u_t_rig_sequence_pauses u_t_rig_sequence_outBefore u_t_rig_sequence_cuts u_t_rig_sequence_groupOfStep : Nat) (t : Nat → Int32) (t_rig : Nat → Int32) (t_rig_sequence : Nat → Int32) (t_rig_sequence_minus : Nat → Int32) (t_rig_sequence_plus : Nat → Int32) (p2 : Nat → Int64) (x1 : Int32) (r : Int32) (hm : tL_valves t_rig_sequence t_rig_sequence_minus t_rig_sequence_plus p2 x1 = some r) : bq_MH l D cI cJ yL_valves cL_valves 4 (some .int) [(0, 9, 12, 13), (0, 9, 15, 15)] rmTL_valves [.ref a_t, .int x1, .ref a_p2] (wdL_valves cI cJ a_t a_t_rig a_t_rig_sequence a_t_rig_sequence_minus a_t_rig_sequence_plus a_p2 u_t_reader u_t_trial u_t_snapshot u_t_spare u_t_rig_circuit u_t_rig_log u_t_rig_score u_t_rig_strokes u_t_rig_positions u_t_rig_timers u_t_rig_faults u_t_rig_sequence_pauses u_t_rig_sequence_outBefore u_t_rig_sequence_cuts u_t_rig_sequence_groupOfStep t t_rig t_rig_sequence t_rig_sequence_minus t_rig_sequence_plus p2) (wdL_valves cI cJ a_t a_t_rig a_t_rig_sequence a_t_rig_sequence_minus a_t_rig_sequence_plus a_p2 u_t_reader u_t_trial u_t_snapshot u_t_spare u_t_rig_circuit u_t_rig_log u_t_rig_score u_t_rig_strokes u_t_rig_positions u_t_rig_timers u_t_rig_faults u_t_rig_sequence_pauses u_t_rig_sequence_outBefore u_t_rig_sequence_cuts u_t_rig_sequence_groupOfStep t t_rig t_rig_sequence t_rig_sequence_minus t_rig_sequence_plus p2) (some (.int r)) := by
  refine bq_startH (by decide) (Nat.le_of_ble_eq_true rfl) ?_
  intro p e s m av9 below meth c A ls Q H locs E K w hA hr hk hX htab hQ hl
  have E : bq_E p m c cL_valves 4 s av9 RL := E
  have hx := E.1
  have hb := E.2.1
  have hl : lv_has ls 4 [(0, .ref a_t), (1, .int x1), (2, .ref a_p2)] := hl
  unfold tL_valves at hm
  refine lv_aload_n hx hb dL_valves_0 rfl (lv_at hl 2 rfl) ?_
  refine lv_iconst (v := 0) hx hb dL_valves_1 (by decide) ?_
  refine lv_aload_n hx hb dL_valves_2 rfl (lv_at hl 0 rfl) ?_
  refine lv_iload_n hx hb dL_valves_3 rfl (lv_at hl 1 rfl) ?_
  obtain ⟨k9, hC, hm⟩ := bq_bd_el hm
  by_cases hq : k9 = 0
  · subst hq
    replace hm := bq_t rfl hm
    obtain rfl := Option.some.inj hm
    refine bq_HV (As := [.int x1]) (rest := [.int 0, .ref a_p2]) E K w hA hX ⟨rfl, rfl⟩ (tkX7_valves hlf D cI cJ a_t a_t_rig a_t_rig_sequence a_t_rig_sequence_minus a_t_rig_sequence_plus u_t_reader u_t_trial u_t_snapshot u_t_spare u_t_rig_circuit u_t_rig_log u_t_rig_score u_t_rig_strokes u_t_rig_positions u_t_rig_timers u_t_rig_faults u_t_rig_sequence_pauses u_t_rig_sequence_outBefore u_t_rig_sequence_cuts u_t_rig_sequence_groupOfStep t t_rig t_rig_sequence t_rig_sequence_minus t_rig_sequence_plus x1 _ hC) (bq_gV ml_L_45 im_X7_valves sl_X7_valves in_X7 cd_X7_valves) hd_X7_valves ⟨Nat.le_of_ble_eq_true rfl, Nat.le_of_ble_eq_true rfl⟩ ⟨Nat.le_of_ble_eq_true rfl, Nat.le_of_ble_eq_true rfl⟩ ⟨[0, 1, 2, 3, 4], [5], [1, 2, 3, 4, 5, 0], rfl, rfl, rfl, rfl, rfl, rfl, rfl, rfl, rfl⟩ 0 rfl rfl rfl hl.1 rfl (Nat.le_of_ble_eq_true rfl) dL_valves_4 (fun q9 ce H locs w h1 h2 h3 => ?_)
    refine vx_catch (E := "java/lang/IllegalArgumentException") (name := "java/lang/IllegalArgumentException") E.2.2.2.1 [] ⟨0, 9, 12, 13⟩ [⟨0, 9, 15, 15⟩] (by rw [htab]; rfl) (fun z h => by cases h) (by decide) (by decide) (E.2.2.2.2 _ cl_L_13) (va_Nw.use rfl (K.2 _ mc_IllegalArgumentException)) h1 h2 h3 ?_
    refine lv_astore_n (lv' := [(3, .ref q9), (0, .ref a_t), (1, .int x1), (2, .ref a_p2)]) hx hb dL_valves_12 rfl hl (by decide) rfl (fun ls hl => ?_)
    refine lv_iconst (v := 1) hx hb dL_valves_13 (by decide) ?_
    exact bq_hret E w hr hk dL_valves_14 hQ
  replace hm := bq_f hq hm
  by_cases hq : k9 = 1
  · subst hq
    replace hm := bq_t rfl hm
    obtain rfl := Option.some.inj hm
    refine bq_HV (As := [.int x1]) (rest := [.int 0, .ref a_p2]) E K w hA hX ⟨rfl, rfl⟩ (tkX7_valves hlf D cI cJ a_t a_t_rig a_t_rig_sequence a_t_rig_sequence_minus a_t_rig_sequence_plus u_t_reader u_t_trial u_t_snapshot u_t_spare u_t_rig_circuit u_t_rig_log u_t_rig_score u_t_rig_strokes u_t_rig_positions u_t_rig_timers u_t_rig_faults u_t_rig_sequence_pauses u_t_rig_sequence_outBefore u_t_rig_sequence_cuts u_t_rig_sequence_groupOfStep t t_rig t_rig_sequence t_rig_sequence_minus t_rig_sequence_plus x1 _ hC) (bq_gV ml_L_45 im_X7_valves sl_X7_valves in_X7 cd_X7_valves) hd_X7_valves ⟨Nat.le_of_ble_eq_true rfl, Nat.le_of_ble_eq_true rfl⟩ ⟨Nat.le_of_ble_eq_true rfl, Nat.le_of_ble_eq_true rfl⟩ ⟨[0, 1, 2, 3, 4], [5], [1, 2, 3, 4, 5, 0], rfl, rfl, rfl, rfl, rfl, rfl, rfl, rfl, rfl⟩ 0 rfl rfl rfl hl.1 rfl (Nat.le_of_ble_eq_true rfl) dL_valves_4 (fun q9 ce H locs w h1 h2 h3 => ?_)
    refine vx_catch (E := "java/lang/IllegalStateException") (name := "java/lang/IllegalStateException") E.2.2.2.1 [⟨0, 9, 12, 13⟩] ⟨0, 9, 15, 15⟩ [] (by rw [htab]; rfl) (fun z h => by rw [List.mem_singleton.mp h]; exact Or.inr ⟨by decide, "java/lang/IllegalArgumentException", E.2.2.2.2 _ cl_L_13, hX.2.2.2.1⟩) (by decide) (by decide) (E.2.2.2.2 _ cl_L_15) (va_Nw.use rfl (K.2 _ mc_IllegalStateException)) h1 h2 h3 ?_
    refine lv_astore_n (lv' := [(3, .ref q9), (0, .ref a_t), (1, .int x1), (2, .ref a_p2)]) hx hb dL_valves_15 rfl hl (by decide) rfl (fun ls hl => ?_)
    refine lv_iconst (v := 2) hx hb dL_valves_16 (by decide) ?_
    exact bq_hret E w hr hk dL_valves_17 hQ
  replace hm := bq_f hq hm
  cases hm
abbrev wdL_setMethod (cI : ClassId) (cJ : ClassId) (a_t a_t_rig a_t_rig_circuit a_t_rig_log a_t_rig_positions a_t_rig_score a_t_rig_sequence a_t_rig_sequence_minus a_t_rig_sequence_plus a_t_rig_timers a_p2 u_t_reader u_t_trial u_t_snapshot u_t_spare u_t_rig_strokes u_t_rig_faults u_t_rig_log_times u_t_rig_log_moves u_t_rig_sequence_pauses u_t_rig_sequence_outBefore u_t_rig_sequence_cuts u_t_rig_sequence_groupOfStep : Nat) (t : Nat → Int32) (t_rig : Nat → Int32) (t_rig_circuit : Nat → Int32) (t_rig_log : Nat → Int32) (t_rig_positions : Nat → Int32) (t_rig_score : Nat → Int32) (t_rig_sequence : Nat → Int32) (t_rig_sequence_minus : Nat → Int32) (t_rig_sequence_plus : Nat → Int32) (t_rig_timers : Nat → Int32) (p2 : Nat → Int64) : va_W := [(a_t, oX7 u_t_reader a_t_rig u_t_trial u_t_snapshot u_t_spare t), (a_t_rig, oX3 a_t_rig_sequence a_t_rig_circuit a_t_rig_log a_t_rig_score u_t_rig_strokes a_t_rig_positions a_t_rig_timers u_t_rig_faults t_rig), (a_t_rig_circuit, oX0 t_rig_circuit), (a_t_rig_log, oX1 u_t_rig_log_times u_t_rig_log_moves t_rig_log), (a_t_rig_positions, oA cI 6 t_rig_positions), (a_t_rig_score, oX4 t_rig_score), (a_t_rig_sequence, oX5 a_t_rig_sequence_plus a_t_rig_sequence_minus u_t_rig_sequence_pauses u_t_rig_sequence_outBefore u_t_rig_sequence_cuts u_t_rig_sequence_groupOfStep t_rig_sequence), (a_t_rig_sequence_minus, oA cI 16 t_rig_sequence_minus), (a_t_rig_sequence_plus, oA cI 16 t_rig_sequence_plus), (a_t_rig_timers, oA cI 16 t_rig_timers), (a_p2, oJ cJ 1 p2)]
abbrev rmL_setMethod : Room := { frames := 4, cells := 0, slots := 0, locals := 86 }
theorem hs_L_setMethod : yL_setMethod.cls ≠ "java/lang/invoke/MethodHandle" ∧ yL_setMethod.cls ≠ "java/lang/invoke/VarHandle" ∧ (parseMethodDescriptor yL_setMethod.desc).map (fun d => d.parameters.length) = some 3 := by decide +kernel
set_option maxHeartbeats 4000000 in
set_option maxRecDepth 100000 in
theorem kL_setMethod (l : Launch) (D : va_G) (cI cJ : ClassId) (a_t a_t_rig a_t_rig_circuit a_t_rig_log a_t_rig_positions a_t_rig_score a_t_rig_sequence a_t_rig_sequence_minus a_t_rig_sequence_plus a_t_rig_timers a_p2 u_t_reader u_t_trial u_t_snapshot u_t_spare u_t_rig_strokes u_t_rig_faults u_t_rig_log_times u_t_rig_log_moves u_t_rig_sequence_pauses u_t_rig_sequence_outBefore u_t_rig_sequence_cuts u_t_rig_sequence_groupOfStep : Nat) (t : Nat → Int32) (t_rig : Nat → Int32) (t_rig_circuit : Nat → Int32) (t_rig_log : Nat → Int32) (t_rig_positions : Nat → Int32) (t_rig_score : Nat → Int32) (t_rig_sequence : Nat → Int32) (t_rig_sequence_minus : Nat → Int32) (t_rig_sequence_plus : Nat → Int32) (t_rig_timers : Nat → Int32) (p2 : Nat → Int64) (x1 : Int32) (r : Int32) (t_rig_o : Nat → Int32) (t_rig_circuit_o : Nat → Int32) (t_rig_log_o : Nat → Int32) (t_rig_positions_o : Nat → Int32) (t_rig_score_o : Nat → Int32) (t_rig_timers_o : Nat → Int32) (p2_o : Nat → Int64) (hm : mL_setMethod t_rig t_rig_circuit t_rig_log t_rig_positions t_rig_score t_rig_sequence t_rig_sequence_minus t_rig_sequence_plus t_rig_timers p2 x1 = some (r, t_rig_o, t_rig_circuit_o, t_rig_log_o, t_rig_positions_o, t_rig_score_o, t_rig_timers_o, p2_o)) : bq_MH l D cI cJ yL_setMethod cL_setMethod 4 (some .int) [(0, 9, 12, 13)] rmL_setMethod [.ref a_t, .int x1, .ref a_p2] (wdL_setMethod cI cJ a_t a_t_rig a_t_rig_circuit a_t_rig_log a_t_rig_positions a_t_rig_score a_t_rig_sequence a_t_rig_sequence_minus a_t_rig_sequence_plus a_t_rig_timers a_p2 u_t_reader u_t_trial u_t_snapshot u_t_spare u_t_rig_strokes u_t_rig_faults u_t_rig_log_times u_t_rig_log_moves u_t_rig_sequence_pauses u_t_rig_sequence_outBefore u_t_rig_sequence_cuts u_t_rig_sequence_groupOfStep t t_rig t_rig_circuit t_rig_log t_rig_positions t_rig_score t_rig_sequence t_rig_sequence_minus t_rig_sequence_plus t_rig_timers p2) (wdL_setMethod cI cJ a_t a_t_rig a_t_rig_circuit a_t_rig_log a_t_rig_positions a_t_rig_score a_t_rig_sequence a_t_rig_sequence_minus a_t_rig_sequence_plus a_t_rig_timers a_p2 u_t_reader u_t_trial u_t_snapshot u_t_spare u_t_rig_strokes u_t_rig_faults u_t_rig_log_times u_t_rig_log_moves u_t_rig_sequence_pauses u_t_rig_sequence_outBefore u_t_rig_sequence_cuts u_t_rig_sequence_groupOfStep t t_rig_o t_rig_circuit_o t_rig_log_o t_rig_positions_o t_rig_score_o t_rig_sequence t_rig_sequence_minus t_rig_sequence_plus t_rig_timers_o p2_o) (some (.int r)) := by
  refine bq_startH (by decide) (Nat.le_of_ble_eq_true rfl) ?_
  intro p e s m av9 below meth c A ls Q H locs E K w hA hr hk hX htab hQ hl
  have E : bq_E p m c cL_setMethod 4 s av9 RL := E
  have hx := E.1
  have hb := E.2.1
  have hl : lv_has ls 4 [(0, .ref a_t), (1, .int x1), (2, .ref a_p2)] := hl
  unfold mL_setMethod at hm
  refine lv_aload_n hx hb dL_setMethod_0 rfl (lv_at hl 2 rfl) ?_
  refine lv_iconst (v := 0) hx hb dL_setMethod_1 (by decide) ?_
  refine lv_aload_n hx hb dL_setMethod_2 rfl (lv_at hl 0 rfl) ?_
  refine lv_iload_n hx hb dL_setMethod_3 rfl (lv_at hl 1 rfl) ?_
  obtain ⟨v1, t_rig_2, t_rig_circuit_3, t_rig_log_4, t_rig_positions_5, t_rig_score_6, t_rig_timers_7, hC, hm⟩ := bq_b7_el hm
  refine bq_V (As := [.int x1]) (rest := [.int 0, .ref a_p2]) (st1 := [.int v1, .int 0, .ref a_p2]) (ws' := wdL_setMethod cI cJ a_t a_t_rig a_t_rig_circuit a_t_rig_log a_t_rig_positions a_t_rig_score a_t_rig_sequence a_t_rig_sequence_minus a_t_rig_sequence_plus a_t_rig_timers a_p2 u_t_reader u_t_trial u_t_snapshot u_t_spare u_t_rig_strokes u_t_rig_faults u_t_rig_log_times u_t_rig_log_moves u_t_rig_sequence_pauses u_t_rig_sequence_outBefore u_t_rig_sequence_cuts u_t_rig_sequence_groupOfStep t t_rig_2 t_rig_circuit_3 t_rig_log_4 t_rig_positions_5 t_rig_score_6 t_rig_sequence t_rig_sequence_minus t_rig_sequence_plus t_rig_timers_7 p2) E K w hA (kX7_setMethod l D cI cJ a_t a_t_rig a_t_rig_circuit a_t_rig_log a_t_rig_positions a_t_rig_score a_t_rig_sequence a_t_rig_sequence_minus a_t_rig_sequence_plus a_t_rig_timers u_t_reader u_t_trial u_t_snapshot u_t_spare u_t_rig_strokes u_t_rig_faults u_t_rig_log_times u_t_rig_log_moves u_t_rig_sequence_pauses u_t_rig_sequence_outBefore u_t_rig_sequence_cuts u_t_rig_sequence_groupOfStep t t_rig t_rig_circuit t_rig_log t_rig_positions t_rig_score t_rig_sequence t_rig_sequence_minus t_rig_sequence_plus t_rig_timers x1 v1 t_rig_2 t_rig_circuit_3 t_rig_log_4 t_rig_positions_5 t_rig_score_6 t_rig_timers_7 hC) (bq_gV ml_L_48 im_X7_setMethod sl_X7_setMethod in_X7 cd_X7_setMethod) hd_X7_setMethod ⟨Nat.le_of_ble_eq_true rfl, Nat.le_of_ble_eq_true rfl⟩ ⟨Nat.le_of_ble_eq_true rfl, Nat.le_of_ble_eq_true rfl⟩ ⟨[0, 1, 2, 3, 4, 5, 6, 7, 8, 9], [10], [1, 2, 3, 4, 5, 6, 7, 8, 9, 10, 0], rfl, rfl, rfl, rfl, rfl, rfl, rfl, rfl, rfl⟩ 0 rfl rfl rfl hl.1 rfl (Nat.le_of_ble_eq_true rfl) rfl dL_setMethod_4 (fun H locs w => bq_z ⟨rfl, rfl⟩ ?_)
  clear hC
  refine lv_i2l hx hb dL_setMethod_7 rfl ?_
  obtain ⟨p2_8, e9, hm⟩ := bq_let_el hm
  refine bq_lastk E K w 10 rfl 0 (by decide) (by unfold vp_in; decide) dL_setMethod_8 (fun H locs w => ?_)
  replace w : bq_w D A s.heap (wdL_setMethod cI cJ a_t a_t_rig a_t_rig_circuit a_t_rig_log a_t_rig_positions a_t_rig_score a_t_rig_sequence a_t_rig_sequence_minus a_t_rig_sequence_plus a_t_rig_timers a_p2 u_t_reader u_t_trial u_t_snapshot u_t_spare u_t_rig_strokes u_t_rig_faults u_t_rig_log_times u_t_rig_log_moves u_t_rig_sequence_pauses u_t_rig_sequence_outBefore u_t_rig_sequence_cuts u_t_rig_sequence_groupOfStep t t_rig_2 t_rig_circuit_3 t_rig_log_4 t_rig_positions_5 t_rig_score_6 t_rig_sequence t_rig_sequence_minus t_rig_sequence_plus t_rig_timers_7 p2_8) H locs := by rw [e9]; exact w
  clear e9
  refine lv_goto (tgt := 15) hx hb dL_setMethod_9 (by decide) ?_
  refine lv_iconst (v := 0) hx hb dL_setMethod_15 (by decide) ?_
  obtain ⟨rfl, rfl, rfl, rfl, rfl, rfl, rfl, rfl⟩ := bq_in8 (Option.some.inj hm)
  exact bq_hret E w hr hk dL_setMethod_16 hQ
abbrev rmTL_setMethod : Room := { frames := 8, cells := 1, slots := 6, locals := 142 }
set_option maxHeartbeats 4000000 in
set_option maxRecDepth 100000 in
theorem tkL_setMethod {l : Launch} (hlf : l.stackTraces = false) (D : va_G) (cI cJ : ClassId) (a_t a_t_rig a_t_rig_circuit a_t_rig_log a_t_rig_positions a_t_rig_score a_t_rig_sequence a_t_rig_sequence_minus a_t_rig_sequence_plus a_t_rig_timers a_p2 u_t_reader u_t_trial u_t_snapshot u_t_spare u_t_rig_strokes u_t_rig_faults u_t_rig_log_times u_t_rig_log_moves u_t_rig_sequence_pauses u_t_rig_sequence_outBefore u_t_rig_sequence_cuts u_t_rig_sequence_groupOfStep : Nat) (t : Nat → Int32) (t_rig : Nat → Int32) (t_rig_circuit : Nat → Int32) (t_rig_log : Nat → Int32) (t_rig_positions : Nat → Int32) (t_rig_score : Nat → Int32) (t_rig_sequence : Nat → Int32) (t_rig_sequence_minus : Nat → Int32) (t_rig_sequence_plus : Nat → Int32) (t_rig_timers : Nat → Int32) (p2 : Nat → Int64) (x1 : Int32) (r : Int32) (hm : tL_setMethod t_rig t_rig_circuit t_rig_log t_rig_positions t_rig_score t_rig_sequence t_rig_sequence_minus t_rig_sequence_plus t_rig_timers p2 x1 = some r) : bq_MH l D cI cJ yL_setMethod cL_setMethod 4 (some .int) [(0, 9, 12, 13)] rmTL_setMethod [.ref a_t, .int x1, .ref a_p2] (wdL_setMethod cI cJ a_t a_t_rig a_t_rig_circuit a_t_rig_log a_t_rig_positions a_t_rig_score a_t_rig_sequence a_t_rig_sequence_minus a_t_rig_sequence_plus a_t_rig_timers a_p2 u_t_reader u_t_trial u_t_snapshot u_t_spare u_t_rig_strokes u_t_rig_faults u_t_rig_log_times u_t_rig_log_moves u_t_rig_sequence_pauses u_t_rig_sequence_outBefore u_t_rig_sequence_cuts u_t_rig_sequence_groupOfStep t t_rig t_rig_circuit t_rig_log t_rig_positions t_rig_score t_rig_sequence t_rig_sequence_minus t_rig_sequence_plus t_rig_timers p2) (wdL_setMethod cI cJ a_t a_t_rig a_t_rig_circuit a_t_rig_log a_t_rig_positions a_t_rig_score a_t_rig_sequence a_t_rig_sequence_minus a_t_rig_sequence_plus a_t_rig_timers a_p2 u_t_reader u_t_trial u_t_snapshot u_t_spare u_t_rig_strokes u_t_rig_faults u_t_rig_log_times u_t_rig_log_moves u_t_rig_sequence_pauses u_t_rig_sequence_outBefore u_t_rig_sequence_cuts u_t_rig_sequence_groupOfStep t t_rig t_rig_circuit t_rig_log t_rig_positions t_rig_score t_rig_sequence t_rig_sequence_minus t_rig_sequence_plus t_rig_timers p2) (some (.int r)) := by
  refine bq_startH (by decide) (Nat.le_of_ble_eq_true rfl) ?_
  intro p e s m av9 below meth c A ls Q H locs E K w hA hr hk hX htab hQ hl
  have E : bq_E p m c cL_setMethod 4 s av9 RL := E
  have hx := E.1
  have hb := E.2.1
  have hl : lv_has ls 4 [(0, .ref a_t), (1, .int x1), (2, .ref a_p2)] := hl
  unfold tL_setMethod at hm
  refine lv_aload_n hx hb dL_setMethod_0 rfl (lv_at hl 2 rfl) ?_
  refine lv_iconst (v := 0) hx hb dL_setMethod_1 (by decide) ?_
  refine lv_aload_n hx hb dL_setMethod_2 rfl (lv_at hl 0 rfl) ?_
  refine lv_iload_n hx hb dL_setMethod_3 rfl (lv_at hl 1 rfl) ?_
  obtain ⟨k9, hC, hm⟩ := bq_bd_el hm
  by_cases hq : k9 = 0
  · subst hq
    replace hm := bq_t rfl hm
    obtain rfl := Option.some.inj hm
    refine bq_HV (As := [.int x1]) (rest := [.int 0, .ref a_p2]) E K w hA hX ⟨rfl, rfl⟩ (tkX7_setMethod hlf D cI cJ a_t a_t_rig a_t_rig_circuit a_t_rig_log a_t_rig_positions a_t_rig_score a_t_rig_sequence a_t_rig_sequence_minus a_t_rig_sequence_plus a_t_rig_timers u_t_reader u_t_trial u_t_snapshot u_t_spare u_t_rig_strokes u_t_rig_faults u_t_rig_log_times u_t_rig_log_moves u_t_rig_sequence_pauses u_t_rig_sequence_outBefore u_t_rig_sequence_cuts u_t_rig_sequence_groupOfStep t t_rig t_rig_circuit t_rig_log t_rig_positions t_rig_score t_rig_sequence t_rig_sequence_minus t_rig_sequence_plus t_rig_timers x1 _ hC) (bq_gV ml_L_48 im_X7_setMethod sl_X7_setMethod in_X7 cd_X7_setMethod) hd_X7_setMethod ⟨Nat.le_of_ble_eq_true rfl, Nat.le_of_ble_eq_true rfl⟩ ⟨Nat.le_of_ble_eq_true rfl, Nat.le_of_ble_eq_true rfl⟩ ⟨[0, 1, 2, 3, 4, 5, 6, 7, 8, 9], [10], [1, 2, 3, 4, 5, 6, 7, 8, 9, 10, 0], rfl, rfl, rfl, rfl, rfl, rfl, rfl, rfl, rfl⟩ 0 rfl rfl rfl hl.1 rfl (Nat.le_of_ble_eq_true rfl) dL_setMethod_4 (fun q9 ce H locs w h1 h2 h3 => ?_)
    refine vx_catch (E := "java/lang/IllegalArgumentException") (name := "java/lang/IllegalArgumentException") E.2.2.2.1 [] ⟨0, 9, 12, 13⟩ [] (by rw [htab]; rfl) (fun z h => by cases h) (by decide) (by decide) (E.2.2.2.2 _ cl_L_13) (va_Nw.use rfl (K.2 _ mc_IllegalArgumentException)) h1 h2 h3 ?_
    refine lv_astore_n (lv' := [(3, .ref q9), (0, .ref a_t), (1, .int x1), (2, .ref a_p2)]) hx hb dL_setMethod_12 rfl hl (by decide) rfl (fun ls hl => ?_)
    refine lv_iconst (v := 1) hx hb dL_setMethod_13 (by decide) ?_
    exact bq_hret E w hr hk dL_setMethod_14 hQ
  replace hm := bq_f hq hm
  cases hm
abbrev wdL_setStroke (cI : ClassId) (cJ : ClassId) (a_t a_t_rig a_t_rig_circuit a_t_rig_log a_t_rig_positions a_t_rig_score a_t_rig_sequence a_t_rig_sequence_minus a_t_rig_sequence_plus a_t_rig_strokes a_t_rig_timers a_p3 u_t_reader u_t_trial u_t_snapshot u_t_spare u_t_rig_faults u_t_rig_log_times u_t_rig_log_moves u_t_rig_sequence_pauses u_t_rig_sequence_outBefore u_t_rig_sequence_cuts u_t_rig_sequence_groupOfStep : Nat) (t : Nat → Int32) (t_rig : Nat → Int32) (t_rig_circuit : Nat → Int32) (t_rig_log : Nat → Int32) (t_rig_positions : Nat → Int32) (t_rig_score : Nat → Int32) (t_rig_sequence : Nat → Int32) (t_rig_sequence_minus : Nat → Int32) (t_rig_sequence_plus : Nat → Int32) (t_rig_strokes : Nat → Int32) (t_rig_timers : Nat → Int32) (p3 : Nat → Int64) : va_W := [(a_t, oX7 u_t_reader a_t_rig u_t_trial u_t_snapshot u_t_spare t), (a_t_rig, oX3 a_t_rig_sequence a_t_rig_circuit a_t_rig_log a_t_rig_score a_t_rig_strokes a_t_rig_positions a_t_rig_timers u_t_rig_faults t_rig), (a_t_rig_circuit, oX0 t_rig_circuit), (a_t_rig_log, oX1 u_t_rig_log_times u_t_rig_log_moves t_rig_log), (a_t_rig_positions, oA cI 6 t_rig_positions), (a_t_rig_score, oX4 t_rig_score), (a_t_rig_sequence, oX5 a_t_rig_sequence_plus a_t_rig_sequence_minus u_t_rig_sequence_pauses u_t_rig_sequence_outBefore u_t_rig_sequence_cuts u_t_rig_sequence_groupOfStep t_rig_sequence), (a_t_rig_sequence_minus, oA cI 16 t_rig_sequence_minus), (a_t_rig_sequence_plus, oA cI 16 t_rig_sequence_plus), (a_t_rig_strokes, oA cI 6 t_rig_strokes), (a_t_rig_timers, oA cI 16 t_rig_timers), (a_p3, oJ cJ 1 p3)]
abbrev rmL_setStroke : Room := { frames := 4, cells := 0, slots := 0, locals := 87 }
theorem hs_L_setStroke : yL_setStroke.cls ≠ "java/lang/invoke/MethodHandle" ∧ yL_setStroke.cls ≠ "java/lang/invoke/VarHandle" ∧ (parseMethodDescriptor yL_setStroke.desc).map (fun d => d.parameters.length) = some 4 := by decide +kernel
set_option maxHeartbeats 4000000 in
set_option maxRecDepth 100000 in
theorem kL_setStroke (l : Launch) (D : va_G) (cI cJ : ClassId) (a_t a_t_rig a_t_rig_circuit a_t_rig_log a_t_rig_positions a_t_rig_score a_t_rig_sequence a_t_rig_sequence_minus a_t_rig_sequence_plus a_t_rig_strokes a_t_rig_timers a_p3 u_t_reader u_t_trial u_t_snapshot u_t_spare u_t_rig_faults u_t_rig_log_times u_t_rig_log_moves u_t_rig_sequence_pauses u_t_rig_sequence_outBefore u_t_rig_sequence_cuts u_t_rig_sequence_groupOfStep : Nat) (t : Nat → Int32) (t_rig : Nat → Int32) (t_rig_circuit : Nat → Int32) (t_rig_log : Nat → Int32) (t_rig_positions : Nat → Int32) (t_rig_score : Nat → Int32) (t_rig_sequence : Nat → Int32) (t_rig_sequence_minus : Nat → Int32) (t_rig_sequence_plus : Nat → Int32) (t_rig_strokes : Nat → Int32) (t_rig_timers : Nat → Int32) (p3 : Nat → Int64) (x1 : Int32) (x2 : Int32) (r : Int32) (t_rig_o : Nat → Int32) (t_rig_circuit_o : Nat → Int32) (t_rig_log_o : Nat → Int32) (t_rig_positions_o : Nat → Int32) (t_rig_score_o : Nat → Int32) (t_rig_strokes_o : Nat → Int32) (t_rig_timers_o : Nat → Int32) (p3_o : Nat → Int64) (hm : mL_setStroke t_rig t_rig_circuit t_rig_log t_rig_positions t_rig_score t_rig_sequence t_rig_sequence_minus t_rig_sequence_plus t_rig_strokes t_rig_timers p3 x1 x2 = some (r, t_rig_o, t_rig_circuit_o, t_rig_log_o, t_rig_positions_o, t_rig_score_o, t_rig_strokes_o, t_rig_timers_o, p3_o)) : bq_MH l D cI cJ yL_setStroke cL_setStroke 5 (some .int) [(0, 10, 13, 20), (0, 10, 17, 13)] rmL_setStroke [.ref a_t, .int x1, .int x2, .ref a_p3] (wdL_setStroke cI cJ a_t a_t_rig a_t_rig_circuit a_t_rig_log a_t_rig_positions a_t_rig_score a_t_rig_sequence a_t_rig_sequence_minus a_t_rig_sequence_plus a_t_rig_strokes a_t_rig_timers a_p3 u_t_reader u_t_trial u_t_snapshot u_t_spare u_t_rig_faults u_t_rig_log_times u_t_rig_log_moves u_t_rig_sequence_pauses u_t_rig_sequence_outBefore u_t_rig_sequence_cuts u_t_rig_sequence_groupOfStep t t_rig t_rig_circuit t_rig_log t_rig_positions t_rig_score t_rig_sequence t_rig_sequence_minus t_rig_sequence_plus t_rig_strokes t_rig_timers p3) (wdL_setStroke cI cJ a_t a_t_rig a_t_rig_circuit a_t_rig_log a_t_rig_positions a_t_rig_score a_t_rig_sequence a_t_rig_sequence_minus a_t_rig_sequence_plus a_t_rig_strokes a_t_rig_timers a_p3 u_t_reader u_t_trial u_t_snapshot u_t_spare u_t_rig_faults u_t_rig_log_times u_t_rig_log_moves u_t_rig_sequence_pauses u_t_rig_sequence_outBefore u_t_rig_sequence_cuts u_t_rig_sequence_groupOfStep t t_rig_o t_rig_circuit_o t_rig_log_o t_rig_positions_o t_rig_score_o t_rig_sequence t_rig_sequence_minus t_rig_sequence_plus t_rig_strokes_o t_rig_timers_o p3_o) (some (.int r)) := by
  refine bq_startH (by decide) (Nat.le_of_ble_eq_true rfl) ?_
  intro p e s m av9 below meth c A ls Q H locs E K w hA hr hk hX htab hQ hl
  have E : bq_E p m c cL_setStroke 5 s av9 RL := E
  have hx := E.1
  have hb := E.2.1
  have hl : lv_has ls 5 [(0, .ref a_t), (1, .int x1), (2, .int x2), (3, .ref a_p3)] := hl
  unfold mL_setStroke at hm
  refine lv_aload_n hx hb dL_setStroke_0 rfl (lv_at hl 3 rfl) ?_
  refine lv_iconst (v := 0) hx hb dL_setStroke_1 (by decide) ?_
  refine lv_aload_n hx hb dL_setStroke_2 rfl (lv_at hl 0 rfl) ?_
  refine lv_iload_n hx hb dL_setStroke_3 rfl (lv_at hl 1 rfl) ?_
  refine lv_iload_n hx hb dL_setStroke_4 rfl (lv_at hl 2 rfl) ?_
  obtain ⟨v1, t_rig_2, t_rig_circuit_3, t_rig_log_4, t_rig_positions_5, t_rig_score_6, t_rig_strokes_7, t_rig_timers_8, hC, hm⟩ := bq_b8_el hm
  refine bq_V (As := [.int x1, .int x2]) (rest := [.int 0, .ref a_p3]) (st1 := [.int v1, .int 0, .ref a_p3]) (ws' := wdL_setStroke cI cJ a_t a_t_rig a_t_rig_circuit a_t_rig_log a_t_rig_positions a_t_rig_score a_t_rig_sequence a_t_rig_sequence_minus a_t_rig_sequence_plus a_t_rig_strokes a_t_rig_timers a_p3 u_t_reader u_t_trial u_t_snapshot u_t_spare u_t_rig_faults u_t_rig_log_times u_t_rig_log_moves u_t_rig_sequence_pauses u_t_rig_sequence_outBefore u_t_rig_sequence_cuts u_t_rig_sequence_groupOfStep t t_rig_2 t_rig_circuit_3 t_rig_log_4 t_rig_positions_5 t_rig_score_6 t_rig_sequence t_rig_sequence_minus t_rig_sequence_plus t_rig_strokes_7 t_rig_timers_8 p3) E K w hA (kX7_setStroke l D cI cJ a_t a_t_rig a_t_rig_circuit a_t_rig_log a_t_rig_positions a_t_rig_score a_t_rig_sequence a_t_rig_sequence_minus a_t_rig_sequence_plus a_t_rig_strokes a_t_rig_timers u_t_reader u_t_trial u_t_snapshot u_t_spare u_t_rig_faults u_t_rig_log_times u_t_rig_log_moves u_t_rig_sequence_pauses u_t_rig_sequence_outBefore u_t_rig_sequence_cuts u_t_rig_sequence_groupOfStep t t_rig t_rig_circuit t_rig_log t_rig_positions t_rig_score t_rig_sequence t_rig_sequence_minus t_rig_sequence_plus t_rig_strokes t_rig_timers x1 x2 v1 t_rig_2 t_rig_circuit_3 t_rig_log_4 t_rig_positions_5 t_rig_score_6 t_rig_strokes_7 t_rig_timers_8 hC) (bq_gV ml_L_51 im_X7_setStroke sl_X7_setStroke in_X7 cd_X7_setStroke) hd_X7_setStroke ⟨Nat.le_of_ble_eq_true rfl, Nat.le_of_ble_eq_true rfl⟩ ⟨Nat.le_of_ble_eq_true rfl, Nat.le_of_ble_eq_true rfl⟩ ⟨[0, 1, 2, 3, 4, 5, 6, 7, 8, 9, 10], [11], [1, 2, 3, 4, 5, 6, 7, 8, 9, 10, 11, 0], rfl, rfl, rfl, rfl, rfl, rfl, rfl, rfl, rfl⟩ 0 rfl rfl rfl hl.1 rfl (Nat.le_of_ble_eq_true rfl) rfl dL_setStroke_5 (fun H locs w => bq_z ⟨rfl, rfl⟩ ?_)
  clear hC
  refine lv_i2l hx hb dL_setStroke_8 rfl ?_
  obtain ⟨p3_9, e9, hm⟩ := bq_let_el hm
  refine bq_lastk E K w 11 rfl 0 (by decide) (by unfold vp_in; decide) dL_setStroke_9 (fun H locs w => ?_)
  replace w : bq_w D A s.heap (wdL_setStroke cI cJ a_t a_t_rig a_t_rig_circuit a_t_rig_log a_t_rig_positions a_t_rig_score a_t_rig_sequence a_t_rig_sequence_minus a_t_rig_sequence_plus a_t_rig_strokes a_t_rig_timers a_p3 u_t_reader u_t_trial u_t_snapshot u_t_spare u_t_rig_faults u_t_rig_log_times u_t_rig_log_moves u_t_rig_sequence_pauses u_t_rig_sequence_outBefore u_t_rig_sequence_cuts u_t_rig_sequence_groupOfStep t t_rig_2 t_rig_circuit_3 t_rig_log_4 t_rig_positions_5 t_rig_score_6 t_rig_sequence t_rig_sequence_minus t_rig_sequence_plus t_rig_strokes_7 t_rig_timers_8 p3_9) H locs := by rw [e9]; exact w
  clear e9
  refine lv_goto (tgt := 21) hx hb dL_setStroke_10 (by decide) ?_
  refine lv_iconst (v := 0) hx hb dL_setStroke_21 (by decide) ?_
  obtain ⟨rfl, rfl, rfl, rfl, rfl, rfl, rfl, rfl, rfl⟩ := bq_in9 (Option.some.inj hm)
  exact bq_hret E w hr hk dL_setStroke_22 hQ
abbrev rmTL_setStroke : Room := { frames := 8, cells := 1, slots := 6, locals := 143 }
set_option maxHeartbeats 4000000 in
set_option maxRecDepth 100000 in
theorem tkL_setStroke {l : Launch} (hlf : l.stackTraces = false) (D : va_G) (cI cJ : ClassId) (a_t a_t_rig a_t_rig_circuit a_t_rig_log a_t_rig_positions a_t_rig_score a_t_rig_sequence a_t_rig_sequence_minus a_t_rig_sequence_plus a_t_rig_strokes a_t_rig_timers a_p3 u_t_reader u_t_trial u_t_snapshot u_t_spare u_t_rig_faults u_t_rig_log_times u_t_rig_log_moves u_t_rig_sequence_pauses u_t_rig_sequence_outBefore u_t_rig_sequence_cuts u_t_rig_sequence_groupOfStep : Nat) (t : Nat → Int32) (t_rig : Nat → Int32) (t_rig_circuit : Nat → Int32) (t_rig_log : Nat → Int32) (t_rig_positions : Nat → Int32) (t_rig_score : Nat → Int32) (t_rig_sequence : Nat → Int32) (t_rig_sequence_minus : Nat → Int32) (t_rig_sequence_plus : Nat → Int32) (t_rig_strokes : Nat → Int32) (t_rig_timers : Nat → Int32) (p3 : Nat → Int64) (x1 : Int32) (x2 : Int32) (r : Int32) (hm : tL_setStroke t_rig t_rig_circuit t_rig_log t_rig_positions t_rig_score t_rig_sequence t_rig_sequence_minus t_rig_sequence_plus t_rig_strokes t_rig_timers p3 x1 x2 = some r) : bq_MH l D cI cJ yL_setStroke cL_setStroke 5 (some .int) [(0, 10, 13, 20), (0, 10, 17, 13)] rmTL_setStroke [.ref a_t, .int x1, .int x2, .ref a_p3] (wdL_setStroke cI cJ a_t a_t_rig a_t_rig_circuit a_t_rig_log a_t_rig_positions a_t_rig_score a_t_rig_sequence a_t_rig_sequence_minus a_t_rig_sequence_plus a_t_rig_strokes a_t_rig_timers a_p3 u_t_reader u_t_trial u_t_snapshot u_t_spare u_t_rig_faults u_t_rig_log_times u_t_rig_log_moves u_t_rig_sequence_pauses u_t_rig_sequence_outBefore u_t_rig_sequence_cuts u_t_rig_sequence_groupOfStep t t_rig t_rig_circuit t_rig_log t_rig_positions t_rig_score t_rig_sequence t_rig_sequence_minus t_rig_sequence_plus t_rig_strokes t_rig_timers p3) (wdL_setStroke cI cJ a_t a_t_rig a_t_rig_circuit a_t_rig_log a_t_rig_positions a_t_rig_score a_t_rig_sequence a_t_rig_sequence_minus a_t_rig_sequence_plus a_t_rig_strokes a_t_rig_timers a_p3 u_t_reader u_t_trial u_t_snapshot u_t_spare u_t_rig_faults u_t_rig_log_times u_t_rig_log_moves u_t_rig_sequence_pauses u_t_rig_sequence_outBefore u_t_rig_sequence_cuts u_t_rig_sequence_groupOfStep t t_rig t_rig_circuit t_rig_log t_rig_positions t_rig_score t_rig_sequence t_rig_sequence_minus t_rig_sequence_plus t_rig_strokes t_rig_timers p3) (some (.int r)) := by
  refine bq_startH (by decide) (Nat.le_of_ble_eq_true rfl) ?_
  intro p e s m av9 below meth c A ls Q H locs E K w hA hr hk hX htab hQ hl
  have E : bq_E p m c cL_setStroke 5 s av9 RL := E
  have hx := E.1
  have hb := E.2.1
  have hl : lv_has ls 5 [(0, .ref a_t), (1, .int x1), (2, .int x2), (3, .ref a_p3)] := hl
  unfold tL_setStroke at hm
  refine lv_aload_n hx hb dL_setStroke_0 rfl (lv_at hl 3 rfl) ?_
  refine lv_iconst (v := 0) hx hb dL_setStroke_1 (by decide) ?_
  refine lv_aload_n hx hb dL_setStroke_2 rfl (lv_at hl 0 rfl) ?_
  refine lv_iload_n hx hb dL_setStroke_3 rfl (lv_at hl 1 rfl) ?_
  refine lv_iload_n hx hb dL_setStroke_4 rfl (lv_at hl 2 rfl) ?_
  obtain ⟨k9, hC, hm⟩ := bq_bd_el hm
  by_cases hq : k9 = 2
  · subst hq
    replace hm := bq_t rfl hm
    obtain rfl := Option.some.inj hm
    refine bq_HV (As := [.int x1, .int x2]) (rest := [.int 0, .ref a_p3]) E K w hA hX ⟨rfl, rfl⟩ (tkX7_setStroke hlf D cI cJ a_t a_t_rig a_t_rig_circuit a_t_rig_log a_t_rig_positions a_t_rig_score a_t_rig_sequence a_t_rig_sequence_minus a_t_rig_sequence_plus a_t_rig_strokes a_t_rig_timers u_t_reader u_t_trial u_t_snapshot u_t_spare u_t_rig_faults u_t_rig_log_times u_t_rig_log_moves u_t_rig_sequence_pauses u_t_rig_sequence_outBefore u_t_rig_sequence_cuts u_t_rig_sequence_groupOfStep t t_rig t_rig_circuit t_rig_log t_rig_positions t_rig_score t_rig_sequence t_rig_sequence_minus t_rig_sequence_plus t_rig_strokes t_rig_timers x1 x2 _ hC) (bq_gV ml_L_51 im_X7_setStroke sl_X7_setStroke in_X7 cd_X7_setStroke) hd_X7_setStroke ⟨Nat.le_of_ble_eq_true rfl, Nat.le_of_ble_eq_true rfl⟩ ⟨Nat.le_of_ble_eq_true rfl, Nat.le_of_ble_eq_true rfl⟩ ⟨[0, 1, 2, 3, 4, 5, 6, 7, 8, 9, 10], [11], [1, 2, 3, 4, 5, 6, 7, 8, 9, 10, 11, 0], rfl, rfl, rfl, rfl, rfl, rfl, rfl, rfl, rfl⟩ 0 rfl rfl rfl hl.1 rfl (Nat.le_of_ble_eq_true rfl) dL_setStroke_5 (fun q9 ce H locs w h1 h2 h3 => ?_)
    refine vx_catch (E := "java/lang/IndexOutOfBoundsException") (name := "java/lang/IndexOutOfBoundsException") E.2.2.2.1 [] ⟨0, 10, 13, 20⟩ [⟨0, 10, 17, 13⟩] (by rw [htab]; rfl) (fun z h => by cases h) (by decide) (by decide) (E.2.2.2.2 _ cl_L_20) (va_Nw.use rfl (K.2 _ mc_IndexOutOfBoundsException)) h1 h2 h3 ?_
    refine lv_astore (lv' := [(4, .ref q9), (0, .ref a_t), (1, .int x1), (2, .int x2), (3, .ref a_p3)]) hx hb dL_setStroke_13 hl (by decide) rfl (fun ls hl => ?_)
    refine lv_iconst (v := 1) hx hb dL_setStroke_15 (by decide) ?_
    exact bq_hret E w hr hk dL_setStroke_16 hQ
  replace hm := bq_f hq hm
  by_cases hq : k9 = 0
  · subst hq
    replace hm := bq_t rfl hm
    obtain rfl := Option.some.inj hm
    refine bq_HV (As := [.int x1, .int x2]) (rest := [.int 0, .ref a_p3]) E K w hA hX ⟨rfl, rfl⟩ (tkX7_setStroke hlf D cI cJ a_t a_t_rig a_t_rig_circuit a_t_rig_log a_t_rig_positions a_t_rig_score a_t_rig_sequence a_t_rig_sequence_minus a_t_rig_sequence_plus a_t_rig_strokes a_t_rig_timers u_t_reader u_t_trial u_t_snapshot u_t_spare u_t_rig_faults u_t_rig_log_times u_t_rig_log_moves u_t_rig_sequence_pauses u_t_rig_sequence_outBefore u_t_rig_sequence_cuts u_t_rig_sequence_groupOfStep t t_rig t_rig_circuit t_rig_log t_rig_positions t_rig_score t_rig_sequence t_rig_sequence_minus t_rig_sequence_plus t_rig_strokes t_rig_timers x1 x2 _ hC) (bq_gV ml_L_51 im_X7_setStroke sl_X7_setStroke in_X7 cd_X7_setStroke) hd_X7_setStroke ⟨Nat.le_of_ble_eq_true rfl, Nat.le_of_ble_eq_true rfl⟩ ⟨Nat.le_of_ble_eq_true rfl, Nat.le_of_ble_eq_true rfl⟩ ⟨[0, 1, 2, 3, 4, 5, 6, 7, 8, 9, 10], [11], [1, 2, 3, 4, 5, 6, 7, 8, 9, 10, 11, 0], rfl, rfl, rfl, rfl, rfl, rfl, rfl, rfl, rfl⟩ 0 rfl rfl rfl hl.1 rfl (Nat.le_of_ble_eq_true rfl) dL_setStroke_5 (fun q9 ce H locs w h1 h2 h3 => ?_)
    refine vx_catch (E := "java/lang/IllegalArgumentException") (name := "java/lang/IllegalArgumentException") E.2.2.2.1 [⟨0, 10, 13, 20⟩] ⟨0, 10, 17, 13⟩ [] (by rw [htab]; rfl) (fun z h => by rw [List.mem_singleton.mp h]; exact Or.inr ⟨by decide, "java/lang/IndexOutOfBoundsException", E.2.2.2.2 _ cl_L_20, hX.2.2.2.2.1⟩) (by decide) (by decide) (E.2.2.2.2 _ cl_L_13) (va_Nw.use rfl (K.2 _ mc_IllegalArgumentException)) h1 h2 h3 ?_
    refine lv_astore (lv' := [(4, .ref q9), (0, .ref a_t), (1, .int x1), (2, .int x2), (3, .ref a_p3)]) hx hb dL_setStroke_17 hl (by decide) rfl (fun ls hl => ?_)
    refine lv_iconst (v := 2) hx hb dL_setStroke_19 (by decide) ?_
    exact bq_hret E w hr hk dL_setStroke_20 hQ
  replace hm := bq_f hq hm
  cases hm
abbrev wdL_setFault (cI : ClassId) (cJ : ClassId) (a_t a_t_rig a_t_rig_faults a_p4 u_t_reader u_t_trial u_t_snapshot u_t_spare u_t_rig_sequence u_t_rig_circuit u_t_rig_log u_t_rig_score u_t_rig_strokes u_t_rig_positions u_t_rig_timers : Nat) (t : Nat → Int32) (t_rig : Nat → Int32) (t_rig_faults : Nat → Int32) (p4 : Nat → Int64) : va_W := [(a_t, oX7 u_t_reader a_t_rig u_t_trial u_t_snapshot u_t_spare t), (a_t_rig, oX3 u_t_rig_sequence u_t_rig_circuit u_t_rig_log u_t_rig_score u_t_rig_strokes u_t_rig_positions u_t_rig_timers a_t_rig_faults t_rig), (a_t_rig_faults, oA cI 5 t_rig_faults), (a_p4, oJ cJ 1 p4)]
abbrev rmL_setFault : Room := { frames := 2, cells := 0, slots := 0, locals := 47 }
theorem hs_L_setFault : yL_setFault.cls ≠ "java/lang/invoke/MethodHandle" ∧ yL_setFault.cls ≠ "java/lang/invoke/VarHandle" ∧ (parseMethodDescriptor yL_setFault.desc).map (fun d => d.parameters.length) = some 5 := by decide +kernel
set_option maxHeartbeats 4000000 in
set_option maxRecDepth 100000 in
theorem kL_setFault (l : Launch) (D : va_G) (cI cJ : ClassId) (a_t a_t_rig a_t_rig_faults a_p4 u_t_reader u_t_trial u_t_snapshot u_t_spare u_t_rig_sequence u_t_rig_circuit u_t_rig_log u_t_rig_score u_t_rig_strokes u_t_rig_positions u_t_rig_timers : Nat) (t : Nat → Int32) (t_rig : Nat → Int32) (t_rig_faults : Nat → Int32) (p4 : Nat → Int64) (x1 : Int32) (x2 : Int32) (x3 : Int32) (r : Int32) (t_rig_faults_o : Nat → Int32) (p4_o : Nat → Int64) (hm : mL_setFault t_rig_faults p4 x1 x2 x3 = some (r, t_rig_faults_o, p4_o)) : bq_MH l D cI cJ yL_setFault cL_setFault 6 (some .int) [(0, 19, 22, 20), (0, 19, 26, 13)] rmL_setFault [.ref a_t, .int x1, .int x2, .int x3, .ref a_p4] (wdL_setFault cI cJ a_t a_t_rig a_t_rig_faults a_p4 u_t_reader u_t_trial u_t_snapshot u_t_spare u_t_rig_sequence u_t_rig_circuit u_t_rig_log u_t_rig_score u_t_rig_strokes u_t_rig_positions u_t_rig_timers t t_rig t_rig_faults p4) (wdL_setFault cI cJ a_t a_t_rig a_t_rig_faults a_p4 u_t_reader u_t_trial u_t_snapshot u_t_spare u_t_rig_sequence u_t_rig_circuit u_t_rig_log u_t_rig_score u_t_rig_strokes u_t_rig_positions u_t_rig_timers t t_rig t_rig_faults_o p4_o) (some (.int r)) := by
  refine bq_startH (by decide) (Nat.le_of_ble_eq_true rfl) ?_
  intro p e s m av9 below meth c A ls Q H locs E K w hA hr hk hX htab hQ hl
  have E : bq_E p m c cL_setFault 6 s av9 RL := E
  have hx := E.1
  have hb := E.2.1
  have hl : lv_has ls 6 [(0, .ref a_t), (1, .int x1), (2, .int x2), (3, .int x3), (4, .ref a_p4)] := hl
  unfold mL_setFault at hm
  refine lv_aload hx hb dL_setFault_0 (lv_at hl 4 rfl) ?_
  refine lv_iconst (v := 0) hx hb dL_setFault_2 (by decide) ?_
  refine lv_aload_n hx hb dL_setFault_3 rfl (lv_at hl 0 rfl) ?_
  refine lv_iload_n hx hb dL_setFault_4 rfl (lv_at hl 1 rfl) ?_
  refine lv_iload_n hx hb dL_setFault_5 rfl (lv_at hl 2 rfl) ?_
  refine lv_iload_n hx hb dL_setFault_6 rfl (lv_at hl 3 rfl) ?_
  obtain ⟨v1, t_rig_faults_2, hC, hm⟩ := bq_b2_el hm
  refine bq_V (As := [.int x1, .int x2, .int x3]) (rest := [.int 0, .ref a_p4]) (st1 := [.int v1, .int 0, .ref a_p4]) (ws' := wdL_setFault cI cJ a_t a_t_rig a_t_rig_faults a_p4 u_t_reader u_t_trial u_t_snapshot u_t_spare u_t_rig_sequence u_t_rig_circuit u_t_rig_log u_t_rig_score u_t_rig_strokes u_t_rig_positions u_t_rig_timers t t_rig t_rig_faults_2 p4) E K w hA (kX7_setFault l D cI cJ a_t a_t_rig a_t_rig_faults u_t_reader u_t_trial u_t_snapshot u_t_spare u_t_rig_sequence u_t_rig_circuit u_t_rig_log u_t_rig_score u_t_rig_strokes u_t_rig_positions u_t_rig_timers t t_rig t_rig_faults x1 x2 x3 v1 t_rig_faults_2 hC) (bq_gV ml_L_54 im_X7_setFault sl_X7_setFault in_X7 cd_X7_setFault) hd_X7_setFault ⟨Nat.le_of_ble_eq_true rfl, Nat.le_of_ble_eq_true rfl⟩ ⟨Nat.le_of_ble_eq_true rfl, Nat.le_of_ble_eq_true rfl⟩ ⟨[0, 1, 2], [3], [1, 2, 3, 0], rfl, rfl, rfl, rfl, rfl, rfl, rfl, rfl, rfl⟩ 0 rfl rfl rfl hl.1 rfl (Nat.le_of_ble_eq_true rfl) rfl dL_setFault_7 (fun H locs w => bq_z ⟨rfl, rfl⟩ ?_)
  clear hC
  obtain ⟨v3, hT18, hm⟩ := bq_let_el hm
  have K18 : ∀ (H : Heap) (locs : List Loc) (ls : Array Slot), bq_w D A s.heap (wdL_setFault cI cJ a_t a_t_rig a_t_rig_faults a_p4 u_t_reader u_t_trial u_t_snapshot u_t_spare u_t_rig_sequence u_t_rig_circuit u_t_rig_log u_t_rig_score u_t_rig_strokes u_t_rig_positions u_t_rig_timers t t_rig t_rig_faults_2 p4) H locs → lv_has ls 6 [] → W p l e rmL_setFault s m av9 below meth c H locs 0 0 Q (F0 m 18 ls [.long v3, .int 0, .ref a_p4]) := by
    intro H locs ls w hl
    obtain ⟨p4_4, e9, hm⟩ := bq_let_el hm
    refine bq_lastk E K w 3 rfl 0 (by decide) (by unfold vp_in; decide) dL_setFault_18 (fun H locs w => ?_)
    replace w : bq_w D A s.heap (wdL_setFault cI cJ a_t a_t_rig a_t_rig_faults a_p4 u_t_reader u_t_trial u_t_snapshot u_t_spare u_t_rig_sequence u_t_rig_circuit u_t_rig_log u_t_rig_score u_t_rig_strokes u_t_rig_positions u_t_rig_timers t t_rig t_rig_faults_2 p4_4) H locs := by rw [e9]; exact w
    clear e9
    refine lv_goto (tgt := 30) hx hb dL_setFault_19 (by decide) ?_
    refine lv_iconst (v := 0) hx hb dL_setFault_30 (by decide) ?_
    obtain ⟨rfl, rfl, rfl⟩ := bq_in3 (Option.some.inj hm)
    exact bq_hret E w hr hk dL_setFault_31 hQ
  clear hm
  refine lv_if_eq (tgt := 17) hx hb dL_setFault_10 (by decide) (fun hc => ?_) (fun hc => ?_)
  · replace hT18 := bq_et hc hT18
    clear hc
    refine lv_lconst (v := 0) hx hb dL_setFault_17 (by decide) ?_
    subst hT18
    exact K18 H locs ls w (lv_sub hl [] rfl)
  · replace hT18 := bq_ef hc hT18
    clear hc
    refine lv_lconst (v := 1) hx hb dL_setFault_13 (by decide) ?_
    refine lv_goto (tgt := 18) hx hb dL_setFault_14 (by decide) ?_
    subst hT18
    exact K18 H locs ls w (lv_sub hl [] rfl)
abbrev rmTL_setFault : Room := { frames := 8, cells := 1, slots := 6, locals := 144 }
set_option maxHeartbeats 4000000 in
set_option maxRecDepth 100000 in
theorem tkL_setFault {l : Launch} (hlf : l.stackTraces = false) (D : va_G) (cI cJ : ClassId) (a_t a_t_rig a_t_rig_faults a_p4 u_t_reader u_t_trial u_t_snapshot u_t_spare u_t_rig_sequence u_t_rig_circuit u_t_rig_log u_t_rig_score u_t_rig_strokes u_t_rig_positions u_t_rig_timers : Nat) (t : Nat → Int32) (t_rig : Nat → Int32) (t_rig_faults : Nat → Int32) (p4 : Nat → Int64) (x1 : Int32) (x2 : Int32) (x3 : Int32) (r : Int32) (hm : tL_setFault t_rig_faults p4 x1 x2 x3 = some r) : bq_MH l D cI cJ yL_setFault cL_setFault 6 (some .int) [(0, 19, 22, 20), (0, 19, 26, 13)] rmTL_setFault [.ref a_t, .int x1, .int x2, .int x3, .ref a_p4] (wdL_setFault cI cJ a_t a_t_rig a_t_rig_faults a_p4 u_t_reader u_t_trial u_t_snapshot u_t_spare u_t_rig_sequence u_t_rig_circuit u_t_rig_log u_t_rig_score u_t_rig_strokes u_t_rig_positions u_t_rig_timers t t_rig t_rig_faults p4) (wdL_setFault cI cJ a_t a_t_rig a_t_rig_faults a_p4 u_t_reader u_t_trial u_t_snapshot u_t_spare u_t_rig_sequence u_t_rig_circuit u_t_rig_log u_t_rig_score u_t_rig_strokes u_t_rig_positions u_t_rig_timers t t_rig t_rig_faults p4) (some (.int r)) := by
  refine bq_startH (by decide) (Nat.le_of_ble_eq_true rfl) ?_
  intro p e s m av9 below meth c A ls Q H locs E K w hA hr hk hX htab hQ hl
  have E : bq_E p m c cL_setFault 6 s av9 RL := E
  have hx := E.1
  have hb := E.2.1
  have hl : lv_has ls 6 [(0, .ref a_t), (1, .int x1), (2, .int x2), (3, .int x3), (4, .ref a_p4)] := hl
  unfold tL_setFault at hm
  refine lv_aload hx hb dL_setFault_0 (lv_at hl 4 rfl) ?_
  refine lv_iconst (v := 0) hx hb dL_setFault_2 (by decide) ?_
  refine lv_aload_n hx hb dL_setFault_3 rfl (lv_at hl 0 rfl) ?_
  refine lv_iload_n hx hb dL_setFault_4 rfl (lv_at hl 1 rfl) ?_
  refine lv_iload_n hx hb dL_setFault_5 rfl (lv_at hl 2 rfl) ?_
  refine lv_iload_n hx hb dL_setFault_6 rfl (lv_at hl 3 rfl) ?_
  obtain ⟨k9, hC, hm⟩ := bq_bd_el hm
  by_cases hq : k9 = 2
  · subst hq
    replace hm := bq_t rfl hm
    obtain rfl := Option.some.inj hm
    refine bq_HV (As := [.int x1, .int x2, .int x3]) (rest := [.int 0, .ref a_p4]) E K w hA hX ⟨rfl, rfl⟩ (tkX7_setFault hlf D cI cJ a_t a_t_rig a_t_rig_faults u_t_reader u_t_trial u_t_snapshot u_t_spare u_t_rig_sequence u_t_rig_circuit u_t_rig_log u_t_rig_score u_t_rig_strokes u_t_rig_positions u_t_rig_timers t t_rig t_rig_faults x1 x2 x3 _ hC) (bq_gV ml_L_54 im_X7_setFault sl_X7_setFault in_X7 cd_X7_setFault) hd_X7_setFault ⟨Nat.le_of_ble_eq_true rfl, Nat.le_of_ble_eq_true rfl⟩ ⟨Nat.le_of_ble_eq_true rfl, Nat.le_of_ble_eq_true rfl⟩ ⟨[0, 1, 2], [3], [1, 2, 3, 0], rfl, rfl, rfl, rfl, rfl, rfl, rfl, rfl, rfl⟩ 0 rfl rfl rfl hl.1 rfl (Nat.le_of_ble_eq_true rfl) dL_setFault_7 (fun q9 ce H locs w h1 h2 h3 => ?_)
    refine vx_catch (E := "java/lang/IndexOutOfBoundsException") (name := "java/lang/IndexOutOfBoundsException") E.2.2.2.1 [] ⟨0, 19, 22, 20⟩ [⟨0, 19, 26, 13⟩] (by rw [htab]; rfl) (fun z h => by cases h) (by decide) (by decide) (E.2.2.2.2 _ cl_L_20) (va_Nw.use rfl (K.2 _ mc_IndexOutOfBoundsException)) h1 h2 h3 ?_
    refine lv_astore (lv' := [(5, .ref q9), (0, .ref a_t), (1, .int x1), (2, .int x2), (3, .int x3), (4, .ref a_p4)]) hx hb dL_setFault_22 hl (by decide) rfl (fun ls hl => ?_)
    refine lv_iconst (v := 1) hx hb dL_setFault_24 (by decide) ?_
    exact bq_hret E w hr hk dL_setFault_25 hQ
  replace hm := bq_f hq hm
  by_cases hq : k9 = 0
  · subst hq
    replace hm := bq_t rfl hm
    obtain rfl := Option.some.inj hm
    refine bq_HV (As := [.int x1, .int x2, .int x3]) (rest := [.int 0, .ref a_p4]) E K w hA hX ⟨rfl, rfl⟩ (tkX7_setFault hlf D cI cJ a_t a_t_rig a_t_rig_faults u_t_reader u_t_trial u_t_snapshot u_t_spare u_t_rig_sequence u_t_rig_circuit u_t_rig_log u_t_rig_score u_t_rig_strokes u_t_rig_positions u_t_rig_timers t t_rig t_rig_faults x1 x2 x3 _ hC) (bq_gV ml_L_54 im_X7_setFault sl_X7_setFault in_X7 cd_X7_setFault) hd_X7_setFault ⟨Nat.le_of_ble_eq_true rfl, Nat.le_of_ble_eq_true rfl⟩ ⟨Nat.le_of_ble_eq_true rfl, Nat.le_of_ble_eq_true rfl⟩ ⟨[0, 1, 2], [3], [1, 2, 3, 0], rfl, rfl, rfl, rfl, rfl, rfl, rfl, rfl, rfl⟩ 0 rfl rfl rfl hl.1 rfl (Nat.le_of_ble_eq_true rfl) dL_setFault_7 (fun q9 ce H locs w h1 h2 h3 => ?_)
    refine vx_catch (E := "java/lang/IllegalArgumentException") (name := "java/lang/IllegalArgumentException") E.2.2.2.1 [⟨0, 19, 22, 20⟩] ⟨0, 19, 26, 13⟩ [] (by rw [htab]; rfl) (fun z h => by rw [List.mem_singleton.mp h]; exact Or.inr ⟨by decide, "java/lang/IndexOutOfBoundsException", E.2.2.2.2 _ cl_L_20, hX.2.2.2.2.1⟩) (by decide) (by decide) (E.2.2.2.2 _ cl_L_13) (va_Nw.use rfl (K.2 _ mc_IllegalArgumentException)) h1 h2 h3 ?_
    refine lv_astore (lv' := [(5, .ref q9), (0, .ref a_t), (1, .int x1), (2, .int x2), (3, .int x3), (4, .ref a_p4)]) hx hb dL_setFault_26 hl (by decide) rfl (fun ls hl => ?_)
    refine lv_iconst (v := 2) hx hb dL_setFault_28 (by decide) ?_
    exact bq_hret E w hr hk dL_setFault_29 hQ
  replace hm := bq_f hq hm
  cases hm
abbrev wdL_ticks (cI : ClassId) (cJ : ClassId) (a_t a_t_rig a_t_rig_circuit a_t_rig_faults a_t_rig_log a_t_rig_log_moves a_t_rig_log_times a_t_rig_positions a_t_rig_score a_t_rig_sequence a_t_rig_sequence_cuts a_t_rig_sequence_groupOfStep a_t_rig_sequence_minus a_t_rig_sequence_pauses a_t_rig_sequence_plus a_t_rig_strokes a_t_rig_timers a_p2 u_t_reader u_t_trial u_t_snapshot u_t_spare u_t_rig_sequence_outBefore : Nat) (t : Nat → Int32) (t_rig : Nat → Int32) (t_rig_circuit : Nat → Int32) (t_rig_faults : Nat → Int32) (t_rig_log : Nat → Int32) (t_rig_log_moves : Nat → Int32) (t_rig_log_times : Nat → Int32) (t_rig_positions : Nat → Int32) (t_rig_score : Nat → Int32) (t_rig_sequence : Nat → Int32) (t_rig_sequence_cuts : Nat → Int32) (t_rig_sequence_groupOfStep : Nat → Int32) (t_rig_sequence_minus : Nat → Int32) (t_rig_sequence_pauses : Nat → Int32) (t_rig_sequence_plus : Nat → Int32) (t_rig_strokes : Nat → Int32) (t_rig_timers : Nat → Int32) (p2 : Nat → Int64) : va_W := [(a_t, oX7 u_t_reader a_t_rig u_t_trial u_t_snapshot u_t_spare t), (a_t_rig, oX3 a_t_rig_sequence a_t_rig_circuit a_t_rig_log a_t_rig_score a_t_rig_strokes a_t_rig_positions a_t_rig_timers a_t_rig_faults t_rig), (a_t_rig_circuit, oX0 t_rig_circuit), (a_t_rig_faults, oA cI 5 t_rig_faults), (a_t_rig_log, oX1 a_t_rig_log_times a_t_rig_log_moves t_rig_log), (a_t_rig_log_moves, oA cI 40 t_rig_log_moves), (a_t_rig_log_times, oA cI 40 t_rig_log_times), (a_t_rig_positions, oA cI 6 t_rig_positions), (a_t_rig_score, oX4 t_rig_score), (a_t_rig_sequence, oX5 a_t_rig_sequence_plus a_t_rig_sequence_minus a_t_rig_sequence_pauses u_t_rig_sequence_outBefore a_t_rig_sequence_cuts a_t_rig_sequence_groupOfStep t_rig_sequence), (a_t_rig_sequence_cuts, oA cI 16 t_rig_sequence_cuts), (a_t_rig_sequence_groupOfStep, oA cI 16 t_rig_sequence_groupOfStep), (a_t_rig_sequence_minus, oA cI 16 t_rig_sequence_minus), (a_t_rig_sequence_pauses, oA cI 16 t_rig_sequence_pauses), (a_t_rig_sequence_plus, oA cI 16 t_rig_sequence_plus), (a_t_rig_strokes, oA cI 6 t_rig_strokes), (a_t_rig_timers, oA cI 16 t_rig_timers), (a_p2, oJ cJ 1 p2)]
abbrev rmL_ticks : Room := { frames := 6, cells := 0, slots := 0, locals := 139 }
theorem hs_L_ticks : yL_ticks.cls ≠ "java/lang/invoke/MethodHandle" ∧ yL_ticks.cls ≠ "java/lang/invoke/VarHandle" ∧ (parseMethodDescriptor yL_ticks.desc).map (fun d => d.parameters.length) = some 3 := by decide +kernel
set_option maxHeartbeats 4000000 in
set_option maxRecDepth 100000 in
theorem kL_ticks (l : Launch) (D : va_G) (cI cJ : ClassId) (a_t a_t_rig a_t_rig_circuit a_t_rig_faults a_t_rig_log a_t_rig_log_moves a_t_rig_log_times a_t_rig_positions a_t_rig_score a_t_rig_sequence a_t_rig_sequence_cuts a_t_rig_sequence_groupOfStep a_t_rig_sequence_minus a_t_rig_sequence_pauses a_t_rig_sequence_plus a_t_rig_strokes a_t_rig_timers a_p2 u_t_reader u_t_trial u_t_snapshot u_t_spare u_t_rig_sequence_outBefore : Nat) (t : Nat → Int32) (t_rig : Nat → Int32) (t_rig_circuit : Nat → Int32) (t_rig_faults : Nat → Int32) (t_rig_log : Nat → Int32) (t_rig_log_moves : Nat → Int32) (t_rig_log_times : Nat → Int32) (t_rig_positions : Nat → Int32) (t_rig_score : Nat → Int32) (t_rig_sequence : Nat → Int32) (t_rig_sequence_cuts : Nat → Int32) (t_rig_sequence_groupOfStep : Nat → Int32) (t_rig_sequence_minus : Nat → Int32) (t_rig_sequence_pauses : Nat → Int32) (t_rig_sequence_plus : Nat → Int32) (t_rig_strokes : Nat → Int32) (t_rig_timers : Nat → Int32) (p2 : Nat → Int64) (x1 : Int32) (r : Int32) (t_rig_o : Nat → Int32) (t_rig_circuit_o : Nat → Int32) (t_rig_log_o : Nat → Int32) (t_rig_log_moves_o : Nat → Int32) (t_rig_log_times_o : Nat → Int32) (t_rig_positions_o : Nat → Int32) (t_rig_score_o : Nat → Int32) (t_rig_timers_o : Nat → Int32) (p2_o : Nat → Int64) (hm : mL_ticks t_rig t_rig_circuit t_rig_faults t_rig_log t_rig_log_moves t_rig_log_times t_rig_positions t_rig_score t_rig_sequence t_rig_sequence_cuts t_rig_sequence_groupOfStep t_rig_sequence_minus t_rig_sequence_pauses t_rig_sequence_plus t_rig_strokes t_rig_timers p2 x1 = some (r, t_rig_o, t_rig_circuit_o, t_rig_log_o, t_rig_log_moves_o, t_rig_log_times_o, t_rig_positions_o, t_rig_score_o, t_rig_timers_o, p2_o)) : bq_MH l D cI cJ yL_ticks cL_ticks 4 (some .int) [(0, 9, 12, 13), (0, 9, 15, 15)] rmL_ticks [.ref a_t, .int x1, .ref a_p2] (wdL_ticks cI cJ a_t a_t_rig a_t_rig_circuit a_t_rig_faults a_t_rig_log a_t_rig_log_moves a_t_rig_log_times a_t_rig_positions a_t_rig_score a_t_rig_sequence a_t_rig_sequence_cuts a_t_rig_sequence_groupOfStep a_t_rig_sequence_minus a_t_rig_sequence_pauses a_t_rig_sequence_plus a_t_rig_strokes a_t_rig_timers a_p2 u_t_reader u_t_trial u_t_snapshot u_t_spare u_t_rig_sequence_outBefore t t_rig t_rig_circuit t_rig_faults t_rig_log t_rig_log_moves t_rig_log_times t_rig_positions t_rig_score t_rig_sequence t_rig_sequence_cuts t_rig_sequence_groupOfStep t_rig_sequence_minus t_rig_sequence_pauses t_rig_sequence_plus t_rig_strokes t_rig_timers p2) (wdL_ticks cI cJ a_t a_t_rig a_t_rig_circuit a_t_rig_faults a_t_rig_log a_t_rig_log_moves a_t_rig_log_times a_t_rig_positions a_t_rig_score a_t_rig_sequence a_t_rig_sequence_cuts a_t_rig_sequence_groupOfStep a_t_rig_sequence_minus a_t_rig_sequence_pauses a_t_rig_sequence_plus a_t_rig_strokes a_t_rig_timers a_p2 u_t_reader u_t_trial u_t_snapshot u_t_spare u_t_rig_sequence_outBefore t t_rig_o t_rig_circuit_o t_rig_faults t_rig_log_o t_rig_log_moves_o t_rig_log_times_o t_rig_positions_o t_rig_score_o t_rig_sequence t_rig_sequence_cuts t_rig_sequence_groupOfStep t_rig_sequence_minus t_rig_sequence_pauses t_rig_sequence_plus t_rig_strokes t_rig_timers_o p2_o) (some (.int r)) := by
  refine bq_startH (by decide) (Nat.le_of_ble_eq_true rfl) ?_
  intro p e s m av9 below meth c A ls Q H locs E K w hA hr hk hX htab hQ hl
  have E : bq_E p m c cL_ticks 4 s av9 RL := E
  have hx := E.1
  have hb := E.2.1
  have hl : lv_has ls 4 [(0, .ref a_t), (1, .int x1), (2, .ref a_p2)] := hl
  unfold mL_ticks at hm
  refine lv_aload_n hx hb dL_ticks_0 rfl (lv_at hl 2 rfl) ?_
  refine lv_iconst (v := 0) hx hb dL_ticks_1 (by decide) ?_
  refine lv_aload_n hx hb dL_ticks_2 rfl (lv_at hl 0 rfl) ?_
  refine lv_iload_n hx hb dL_ticks_3 rfl (lv_at hl 1 rfl) ?_
  obtain ⟨v1, t_rig_2, t_rig_circuit_3, t_rig_log_4, t_rig_log_moves_5, t_rig_log_times_6, t_rig_positions_7, t_rig_score_8, t_rig_timers_9, hC, hm⟩ := bq_b9_el hm
  refine bq_V (As := [.int x1]) (rest := [.int 0, .ref a_p2]) (st1 := [.int v1, .int 0, .ref a_p2]) (ws' := wdL_ticks cI cJ a_t a_t_rig a_t_rig_circuit a_t_rig_faults a_t_rig_log a_t_rig_log_moves a_t_rig_log_times a_t_rig_positions a_t_rig_score a_t_rig_sequence a_t_rig_sequence_cuts a_t_rig_sequence_groupOfStep a_t_rig_sequence_minus a_t_rig_sequence_pauses a_t_rig_sequence_plus a_t_rig_strokes a_t_rig_timers a_p2 u_t_reader u_t_trial u_t_snapshot u_t_spare u_t_rig_sequence_outBefore t t_rig_2 t_rig_circuit_3 t_rig_faults t_rig_log_4 t_rig_log_moves_5 t_rig_log_times_6 t_rig_positions_7 t_rig_score_8 t_rig_sequence t_rig_sequence_cuts t_rig_sequence_groupOfStep t_rig_sequence_minus t_rig_sequence_pauses t_rig_sequence_plus t_rig_strokes t_rig_timers_9 p2) E K w hA (kX7_ticks l D cI cJ a_t a_t_rig a_t_rig_circuit a_t_rig_faults a_t_rig_log a_t_rig_log_moves a_t_rig_log_times a_t_rig_positions a_t_rig_score a_t_rig_sequence a_t_rig_sequence_cuts a_t_rig_sequence_groupOfStep a_t_rig_sequence_minus a_t_rig_sequence_pauses a_t_rig_sequence_plus a_t_rig_strokes a_t_rig_timers u_t_reader u_t_trial u_t_snapshot u_t_spare u_t_rig_sequence_outBefore t t_rig t_rig_circuit t_rig_faults t_rig_log t_rig_log_moves t_rig_log_times t_rig_positions t_rig_score t_rig_sequence t_rig_sequence_cuts t_rig_sequence_groupOfStep t_rig_sequence_minus t_rig_sequence_pauses t_rig_sequence_plus t_rig_strokes t_rig_timers x1 v1 t_rig_2 t_rig_circuit_3 t_rig_log_4 t_rig_log_moves_5 t_rig_log_times_6 t_rig_positions_7 t_rig_score_8 t_rig_timers_9 hC) (bq_gV ml_L_58 im_X7_ticks sl_X7_ticks in_X7 cd_X7_ticks) hd_X7_ticks ⟨Nat.le_of_ble_eq_true rfl, Nat.le_of_ble_eq_true rfl⟩ ⟨Nat.le_of_ble_eq_true rfl, Nat.le_of_ble_eq_true rfl⟩ ⟨[0, 1, 2, 3, 4, 5, 6, 7, 8, 9, 10, 11, 12, 13, 14, 15, 16], [17], [1, 2, 3, 4, 5, 6, 7, 8, 9, 10, 11, 12, 13, 14, 15, 16, 17, 0], rfl, rfl, rfl, rfl, rfl, rfl, rfl, rfl, rfl⟩ 0 rfl rfl rfl hl.1 rfl (Nat.le_of_ble_eq_true rfl) rfl dL_ticks_4 (fun H locs w => bq_z ⟨rfl, rfl⟩ ?_)
  clear hC
  refine lv_i2l hx hb dL_ticks_7 rfl ?_
  obtain ⟨p2_10, e9, hm⟩ := bq_let_el hm
  refine bq_lastk E K w 17 rfl 0 (by decide) (by unfold vp_in; decide) dL_ticks_8 (fun H locs w => ?_)
  replace w : bq_w D A s.heap (wdL_ticks cI cJ a_t a_t_rig a_t_rig_circuit a_t_rig_faults a_t_rig_log a_t_rig_log_moves a_t_rig_log_times a_t_rig_positions a_t_rig_score a_t_rig_sequence a_t_rig_sequence_cuts a_t_rig_sequence_groupOfStep a_t_rig_sequence_minus a_t_rig_sequence_pauses a_t_rig_sequence_plus a_t_rig_strokes a_t_rig_timers a_p2 u_t_reader u_t_trial u_t_snapshot u_t_spare u_t_rig_sequence_outBefore t t_rig_2 t_rig_circuit_3 t_rig_faults t_rig_log_4 t_rig_log_moves_5 t_rig_log_times_6 t_rig_positions_7 t_rig_score_8 t_rig_sequence t_rig_sequence_cuts t_rig_sequence_groupOfStep t_rig_sequence_minus t_rig_sequence_pauses t_rig_sequence_plus t_rig_strokes t_rig_timers_9 p2_10) H locs := by rw [e9]; exact w
  clear e9
  refine lv_goto (tgt := 18) hx hb dL_ticks_9 (by decide) ?_
  refine lv_iconst (v := 0) hx hb dL_ticks_18 (by decide) ?_
  obtain ⟨rfl, rfl, rfl, rfl, rfl, rfl, rfl, rfl, rfl, rfl⟩ := bq_in10 (Option.some.inj hm)
  exact bq_hret E w hr hk dL_ticks_19 hQ
abbrev rmTL_ticks : Room := { frames := 8, cells := 1, slots := 6, locals := 142 }
set_option maxHeartbeats 4000000 in
set_option maxRecDepth 100000 in
theorem tkL_ticks {l : Launch} (hlf : l.stackTraces = false) (D : va_G) (cI cJ : ClassId) (a_t a_t_rig a_t_rig_circuit a_t_rig_faults a_t_rig_log a_t_rig_log_moves a_t_rig_log_times a_t_rig_positions a_t_rig_score a_t_rig_sequence a_t_rig_sequence_cuts a_t_rig_sequence_groupOfStep a_t_rig_sequence_minus a_t_rig_sequence_pauses a_t_rig_sequence_plus a_t_rig_strokes a_t_rig_timers a_p2 u_t_reader u_t_trial u_t_snapshot u_t_spare u_t_rig_sequence_outBefore : Nat) (t : Nat → Int32) (t_rig : Nat → Int32) (t_rig_circuit : Nat → Int32) (t_rig_faults : Nat → Int32) (t_rig_log : Nat → Int32) (t_rig_log_moves : Nat → Int32) (t_rig_log_times : Nat → Int32) (t_rig_positions : Nat → Int32) (t_rig_score : Nat → Int32) (t_rig_sequence : Nat → Int32) (t_rig_sequence_cuts : Nat → Int32) (t_rig_sequence_groupOfStep : Nat → Int32) (t_rig_sequence_minus : Nat → Int32) (t_rig_sequence_pauses : Nat → Int32) (t_rig_sequence_plus : Nat → Int32) (t_rig_strokes : Nat → Int32) (t_rig_timers : Nat → Int32) (p2 : Nat → Int64) (x1 : Int32) (r : Int32) (hm : tL_ticks t_rig t_rig_circuit t_rig_faults t_rig_log t_rig_log_moves t_rig_log_times t_rig_positions t_rig_score t_rig_sequence t_rig_sequence_cuts t_rig_sequence_groupOfStep t_rig_sequence_minus t_rig_sequence_pauses t_rig_sequence_plus t_rig_strokes t_rig_timers p2 x1 = some r) : bq_MH l D cI cJ yL_ticks cL_ticks 4 (some .int) [(0, 9, 12, 13), (0, 9, 15, 15)] rmTL_ticks [.ref a_t, .int x1, .ref a_p2] (wdL_ticks cI cJ a_t a_t_rig a_t_rig_circuit a_t_rig_faults a_t_rig_log a_t_rig_log_moves a_t_rig_log_times a_t_rig_positions a_t_rig_score a_t_rig_sequence a_t_rig_sequence_cuts a_t_rig_sequence_groupOfStep a_t_rig_sequence_minus a_t_rig_sequence_pauses a_t_rig_sequence_plus a_t_rig_strokes a_t_rig_timers a_p2 u_t_reader u_t_trial u_t_snapshot u_t_spare u_t_rig_sequence_outBefore t t_rig t_rig_circuit t_rig_faults t_rig_log t_rig_log_moves t_rig_log_times t_rig_positions t_rig_score t_rig_sequence t_rig_sequence_cuts t_rig_sequence_groupOfStep t_rig_sequence_minus t_rig_sequence_pauses t_rig_sequence_plus t_rig_strokes t_rig_timers p2) (wdL_ticks cI cJ a_t a_t_rig a_t_rig_circuit a_t_rig_faults a_t_rig_log a_t_rig_log_moves a_t_rig_log_times a_t_rig_positions a_t_rig_score a_t_rig_sequence a_t_rig_sequence_cuts a_t_rig_sequence_groupOfStep a_t_rig_sequence_minus a_t_rig_sequence_pauses a_t_rig_sequence_plus a_t_rig_strokes a_t_rig_timers a_p2 u_t_reader u_t_trial u_t_snapshot u_t_spare u_t_rig_sequence_outBefore t t_rig t_rig_circuit t_rig_faults t_rig_log t_rig_log_moves t_rig_log_times t_rig_positions t_rig_score t_rig_sequence t_rig_sequence_cuts t_rig_sequence_groupOfStep t_rig_sequence_minus t_rig_sequence_pauses t_rig_sequence_plus t_rig_strokes t_rig_timers p2) (some (.int r)) := by
  refine bq_startH (by decide) (Nat.le_of_ble_eq_true rfl) ?_
  intro p e s m av9 below meth c A ls Q H locs E K w hA hr hk hX htab hQ hl
  have E : bq_E p m c cL_ticks 4 s av9 RL := E
  have hx := E.1
  have hb := E.2.1
  have hl : lv_has ls 4 [(0, .ref a_t), (1, .int x1), (2, .ref a_p2)] := hl
  unfold tL_ticks at hm
  refine lv_aload_n hx hb dL_ticks_0 rfl (lv_at hl 2 rfl) ?_
  refine lv_iconst (v := 0) hx hb dL_ticks_1 (by decide) ?_
  refine lv_aload_n hx hb dL_ticks_2 rfl (lv_at hl 0 rfl) ?_
  refine lv_iload_n hx hb dL_ticks_3 rfl (lv_at hl 1 rfl) ?_
  obtain ⟨k9, hC, hm⟩ := bq_bd_el hm
  by_cases hq : k9 = 0
  · subst hq
    replace hm := bq_t rfl hm
    obtain rfl := Option.some.inj hm
    refine bq_HV (As := [.int x1]) (rest := [.int 0, .ref a_p2]) E K w hA hX ⟨rfl, rfl⟩ (tkX7_ticks hlf D cI cJ a_t a_t_rig a_t_rig_circuit a_t_rig_faults a_t_rig_log a_t_rig_log_moves a_t_rig_log_times a_t_rig_positions a_t_rig_score a_t_rig_sequence a_t_rig_sequence_cuts a_t_rig_sequence_groupOfStep a_t_rig_sequence_minus a_t_rig_sequence_pauses a_t_rig_sequence_plus a_t_rig_strokes a_t_rig_timers u_t_reader u_t_trial u_t_snapshot u_t_spare u_t_rig_sequence_outBefore t t_rig t_rig_circuit t_rig_faults t_rig_log t_rig_log_moves t_rig_log_times t_rig_positions t_rig_score t_rig_sequence t_rig_sequence_cuts t_rig_sequence_groupOfStep t_rig_sequence_minus t_rig_sequence_pauses t_rig_sequence_plus t_rig_strokes t_rig_timers x1 _ hC) (bq_gV ml_L_58 im_X7_ticks sl_X7_ticks in_X7 cd_X7_ticks) hd_X7_ticks ⟨Nat.le_of_ble_eq_true rfl, Nat.le_of_ble_eq_true rfl⟩ ⟨Nat.le_of_ble_eq_true rfl, Nat.le_of_ble_eq_true rfl⟩ ⟨[0, 1, 2, 3, 4, 5, 6, 7, 8, 9, 10, 11, 12, 13, 14, 15, 16], [17], [1, 2, 3, 4, 5, 6, 7, 8, 9, 10, 11, 12, 13, 14, 15, 16, 17, 0], rfl, rfl, rfl, rfl, rfl, rfl, rfl, rfl, rfl⟩ 0 rfl rfl rfl hl.1 rfl (Nat.le_of_ble_eq_true rfl) dL_ticks_4 (fun q9 ce H locs w h1 h2 h3 => ?_)
    refine vx_catch (E := "java/lang/IllegalArgumentException") (name := "java/lang/IllegalArgumentException") E.2.2.2.1 [] ⟨0, 9, 12, 13⟩ [⟨0, 9, 15, 15⟩] (by rw [htab]; rfl) (fun z h => by cases h) (by decide) (by decide) (E.2.2.2.2 _ cl_L_13) (va_Nw.use rfl (K.2 _ mc_IllegalArgumentException)) h1 h2 h3 ?_
    refine lv_astore_n (lv' := [(3, .ref q9), (0, .ref a_t), (1, .int x1), (2, .ref a_p2)]) hx hb dL_ticks_12 rfl hl (by decide) rfl (fun ls hl => ?_)
    refine lv_iconst (v := 1) hx hb dL_ticks_13 (by decide) ?_
    exact bq_hret E w hr hk dL_ticks_14 hQ
  replace hm := bq_f hq hm
  by_cases hq : k9 = 1
  · subst hq
    replace hm := bq_t rfl hm
    obtain rfl := Option.some.inj hm
    refine bq_HV (As := [.int x1]) (rest := [.int 0, .ref a_p2]) E K w hA hX ⟨rfl, rfl⟩ (tkX7_ticks hlf D cI cJ a_t a_t_rig a_t_rig_circuit a_t_rig_faults a_t_rig_log a_t_rig_log_moves a_t_rig_log_times a_t_rig_positions a_t_rig_score a_t_rig_sequence a_t_rig_sequence_cuts a_t_rig_sequence_groupOfStep a_t_rig_sequence_minus a_t_rig_sequence_pauses a_t_rig_sequence_plus a_t_rig_strokes a_t_rig_timers u_t_reader u_t_trial u_t_snapshot u_t_spare u_t_rig_sequence_outBefore t t_rig t_rig_circuit t_rig_faults t_rig_log t_rig_log_moves t_rig_log_times t_rig_positions t_rig_score t_rig_sequence t_rig_sequence_cuts t_rig_sequence_groupOfStep t_rig_sequence_minus t_rig_sequence_pauses t_rig_sequence_plus t_rig_strokes t_rig_timers x1 _ hC) (bq_gV ml_L_58 im_X7_ticks sl_X7_ticks in_X7 cd_X7_ticks) hd_X7_ticks ⟨Nat.le_of_ble_eq_true rfl, Nat.le_of_ble_eq_true rfl⟩ ⟨Nat.le_of_ble_eq_true rfl, Nat.le_of_ble_eq_true rfl⟩ ⟨[0, 1, 2, 3, 4, 5, 6, 7, 8, 9, 10, 11, 12, 13, 14, 15, 16], [17], [1, 2, 3, 4, 5, 6, 7, 8, 9, 10, 11, 12, 13, 14, 15, 16, 17, 0], rfl, rfl, rfl, rfl, rfl, rfl, rfl, rfl, rfl⟩ 0 rfl rfl rfl hl.1 rfl (Nat.le_of_ble_eq_true rfl) dL_ticks_4 (fun q9 ce H locs w h1 h2 h3 => ?_)
    refine vx_catch (E := "java/lang/IllegalStateException") (name := "java/lang/IllegalStateException") E.2.2.2.1 [⟨0, 9, 12, 13⟩] ⟨0, 9, 15, 15⟩ [] (by rw [htab]; rfl) (fun z h => by rw [List.mem_singleton.mp h]; exact Or.inr ⟨by decide, "java/lang/IllegalArgumentException", E.2.2.2.2 _ cl_L_13, hX.2.2.2.1⟩) (by decide) (by decide) (E.2.2.2.2 _ cl_L_15) (va_Nw.use rfl (K.2 _ mc_IllegalStateException)) h1 h2 h3 ?_
    refine lv_astore_n (lv' := [(3, .ref q9), (0, .ref a_t), (1, .int x1), (2, .ref a_p2)]) hx hb dL_ticks_15 rfl hl (by decide) rfl (fun ls hl => ?_)
    refine lv_iconst (v := 2) hx hb dL_ticks_16 (by decide) ?_
    exact bq_hret E w hr hk dL_ticks_17 hQ
  replace hm := bq_f hq hm
  cases hm
abbrev wdL_position (cI : ClassId) (cJ : ClassId) (a_t a_t_rig a_t_rig_positions a_p2 u_t_reader u_t_trial u_t_snapshot u_t_spare u_t_rig_sequence u_t_rig_circuit u_t_rig_log u_t_rig_score u_t_rig_strokes u_t_rig_timers u_t_rig_faults : Nat) (t : Nat → Int32) (t_rig : Nat → Int32) (t_rig_positions : Nat → Int32) (p2 : Nat → Int64) : va_W := [(a_t, oX7 u_t_reader a_t_rig u_t_trial u_t_snapshot u_t_spare t), (a_t_rig, oX3 u_t_rig_sequence u_t_rig_circuit u_t_rig_log u_t_rig_score u_t_rig_strokes a_t_rig_positions u_t_rig_timers u_t_rig_faults t_rig), (a_t_rig_positions, oA cI 6 t_rig_positions), (a_p2, oJ cJ 1 p2)]
abbrev rmL_position : Room := { frames := 2, cells := 0, slots := 0, locals := 41 }
theorem hs_L_position : yL_position.cls ≠ "java/lang/invoke/MethodHandle" ∧ yL_position.cls ≠ "java/lang/invoke/VarHandle" ∧ (parseMethodDescriptor yL_position.desc).map (fun d => d.parameters.length) = some 3 := by decide +kernel
set_option maxHeartbeats 4000000 in
set_option maxRecDepth 100000 in
theorem kL_position (l : Launch) (D : va_G) (cI cJ : ClassId) (a_t a_t_rig a_t_rig_positions a_p2 u_t_reader u_t_trial u_t_snapshot u_t_spare u_t_rig_sequence u_t_rig_circuit u_t_rig_log u_t_rig_score u_t_rig_strokes u_t_rig_timers u_t_rig_faults : Nat) (t : Nat → Int32) (t_rig : Nat → Int32) (t_rig_positions : Nat → Int32) (p2 : Nat → Int64) (x1 : Int32) (r : Int32) (p2_o : Nat → Int64) (hm : mL_position t_rig_positions p2 x1 = some (r, p2_o)) : bq_MH l D cI cJ yL_position cL_position 4 (some .int) [(0, 9, 12, 20)] rmL_position [.ref a_t, .int x1, .ref a_p2] (wdL_position cI cJ a_t a_t_rig a_t_rig_positions a_p2 u_t_reader u_t_trial u_t_snapshot u_t_spare u_t_rig_sequence u_t_rig_circuit u_t_rig_log u_t_rig_score u_t_rig_strokes u_t_rig_timers u_t_rig_faults t t_rig t_rig_positions p2) (wdL_position cI cJ a_t a_t_rig a_t_rig_positions a_p2 u_t_reader u_t_trial u_t_snapshot u_t_spare u_t_rig_sequence u_t_rig_circuit u_t_rig_log u_t_rig_score u_t_rig_strokes u_t_rig_timers u_t_rig_faults t t_rig t_rig_positions p2_o) (some (.int r)) := by
  refine bq_startH (by decide) (Nat.le_of_ble_eq_true rfl) ?_
  intro p e s m av9 below meth c A ls Q H locs E K w hA hr hk hX htab hQ hl
  have E : bq_E p m c cL_position 4 s av9 RL := E
  have hx := E.1
  have hb := E.2.1
  have hl : lv_has ls 4 [(0, .ref a_t), (1, .int x1), (2, .ref a_p2)] := hl
  unfold mL_position at hm
  refine lv_aload_n hx hb dL_position_0 rfl (lv_at hl 2 rfl) ?_
  refine lv_iconst (v := 0) hx hb dL_position_1 (by decide) ?_
  refine lv_aload_n hx hb dL_position_2 rfl (lv_at hl 0 rfl) ?_
  refine lv_iload_n hx hb dL_position_3 rfl (lv_at hl 1 rfl) ?_
  obtain ⟨v1, hC, hm⟩ := bq_bd_el hm
  refine bq_V (As := [.int x1]) (rest := [.int 0, .ref a_p2]) (st1 := [.int v1, .int 0, .ref a_p2]) (ws' := wdL_position cI cJ a_t a_t_rig a_t_rig_positions a_p2 u_t_reader u_t_trial u_t_snapshot u_t_spare u_t_rig_sequence u_t_rig_circuit u_t_rig_log u_t_rig_score u_t_rig_strokes u_t_rig_timers u_t_rig_faults t t_rig t_rig_positions p2) E K w hA (kX7_position l D cI cJ a_t a_t_rig a_t_rig_positions u_t_reader u_t_trial u_t_snapshot u_t_spare u_t_rig_sequence u_t_rig_circuit u_t_rig_log u_t_rig_score u_t_rig_strokes u_t_rig_timers u_t_rig_faults t t_rig t_rig_positions x1 v1 hC) (bq_gV ml_L_61 im_X7_position sl_X7_position in_X7 cd_X7_position) hd_X7_position ⟨Nat.le_of_ble_eq_true rfl, Nat.le_of_ble_eq_true rfl⟩ ⟨Nat.le_of_ble_eq_true rfl, Nat.le_of_ble_eq_true rfl⟩ ⟨[0, 1, 2], [3], [1, 2, 3, 0], rfl, rfl, rfl, rfl, rfl, rfl, rfl, rfl, rfl⟩ 0 rfl rfl rfl hl.1 rfl (Nat.le_of_ble_eq_true rfl) rfl dL_position_4 (fun H locs w => bq_z ⟨rfl, rfl⟩ ?_)
  clear hC
  refine lv_i2l hx hb dL_position_7 rfl ?_
  obtain ⟨p2_2, e9, hm⟩ := bq_let_el hm
  refine bq_lastk E K w 3 rfl 0 (by decide) (by unfold vp_in; decide) dL_position_8 (fun H locs w => ?_)
  replace w : bq_w D A s.heap (wdL_position cI cJ a_t a_t_rig a_t_rig_positions a_p2 u_t_reader u_t_trial u_t_snapshot u_t_spare u_t_rig_sequence u_t_rig_circuit u_t_rig_log u_t_rig_score u_t_rig_strokes u_t_rig_timers u_t_rig_faults t t_rig t_rig_positions p2_2) H locs := by rw [e9]; exact w
  clear e9
  refine lv_goto (tgt := 15) hx hb dL_position_9 (by decide) ?_
  refine lv_iconst (v := 0) hx hb dL_position_15 (by decide) ?_
  obtain ⟨rfl, rfl⟩ := bq_in2 (Option.some.inj hm)
  exact bq_hret E w hr hk dL_position_16 hQ
abbrev rmTL_position : Room := { frames := 8, cells := 1, slots := 6, locals := 141 }
set_option maxHeartbeats 4000000 in
set_option maxRecDepth 100000 in
theorem tkL_position {l : Launch} (hlf : l.stackTraces = false) (D : va_G) (cI cJ : ClassId) (a_t a_t_rig a_t_rig_positions a_p2 u_t_reader u_t_trial u_t_snapshot u_t_spare u_t_rig_sequence u_t_rig_circuit u_t_rig_log u_t_rig_score u_t_rig_strokes u_t_rig_timers u_t_rig_faults : Nat) (t : Nat → Int32) (t_rig : Nat → Int32) (t_rig_positions : Nat → Int32) (p2 : Nat → Int64) (x1 : Int32) (r : Int32) (hm : tL_position t_rig_positions p2 x1 = some r) : bq_MH l D cI cJ yL_position cL_position 4 (some .int) [(0, 9, 12, 20)] rmTL_position [.ref a_t, .int x1, .ref a_p2] (wdL_position cI cJ a_t a_t_rig a_t_rig_positions a_p2 u_t_reader u_t_trial u_t_snapshot u_t_spare u_t_rig_sequence u_t_rig_circuit u_t_rig_log u_t_rig_score u_t_rig_strokes u_t_rig_timers u_t_rig_faults t t_rig t_rig_positions p2) (wdL_position cI cJ a_t a_t_rig a_t_rig_positions a_p2 u_t_reader u_t_trial u_t_snapshot u_t_spare u_t_rig_sequence u_t_rig_circuit u_t_rig_log u_t_rig_score u_t_rig_strokes u_t_rig_timers u_t_rig_faults t t_rig t_rig_positions p2) (some (.int r)) := by
  refine bq_startH (by decide) (Nat.le_of_ble_eq_true rfl) ?_
  intro p e s m av9 below meth c A ls Q H locs E K w hA hr hk hX htab hQ hl
  have E : bq_E p m c cL_position 4 s av9 RL := E
  have hx := E.1
  have hb := E.2.1
  have hl : lv_has ls 4 [(0, .ref a_t), (1, .int x1), (2, .ref a_p2)] := hl
  unfold tL_position at hm
  refine lv_aload_n hx hb dL_position_0 rfl (lv_at hl 2 rfl) ?_
  refine lv_iconst (v := 0) hx hb dL_position_1 (by decide) ?_
  refine lv_aload_n hx hb dL_position_2 rfl (lv_at hl 0 rfl) ?_
  refine lv_iload_n hx hb dL_position_3 rfl (lv_at hl 1 rfl) ?_
  obtain ⟨k9, hC, hm⟩ := bq_bd_el hm
  by_cases hq : k9 = 2
  · subst hq
    replace hm := bq_t rfl hm
    obtain rfl := Option.some.inj hm
    refine bq_HV (As := [.int x1]) (rest := [.int 0, .ref a_p2]) E K w hA hX ⟨rfl, rfl⟩ (tkX7_position hlf D cI cJ a_t a_t_rig a_t_rig_positions u_t_reader u_t_trial u_t_snapshot u_t_spare u_t_rig_sequence u_t_rig_circuit u_t_rig_log u_t_rig_score u_t_rig_strokes u_t_rig_timers u_t_rig_faults t t_rig t_rig_positions x1 _ hC) (bq_gV ml_L_61 im_X7_position sl_X7_position in_X7 cd_X7_position) hd_X7_position ⟨Nat.le_of_ble_eq_true rfl, Nat.le_of_ble_eq_true rfl⟩ ⟨Nat.le_of_ble_eq_true rfl, Nat.le_of_ble_eq_true rfl⟩ ⟨[0, 1, 2], [3], [1, 2, 3, 0], rfl, rfl, rfl, rfl, rfl, rfl, rfl, rfl, rfl⟩ 0 rfl rfl rfl hl.1 rfl (Nat.le_of_ble_eq_true rfl) dL_position_4 (fun q9 ce H locs w h1 h2 h3 => ?_)
    refine vx_catch (E := "java/lang/IndexOutOfBoundsException") (name := "java/lang/IndexOutOfBoundsException") E.2.2.2.1 [] ⟨0, 9, 12, 20⟩ [] (by rw [htab]; rfl) (fun z h => by cases h) (by decide) (by decide) (E.2.2.2.2 _ cl_L_20) (va_Nw.use rfl (K.2 _ mc_IndexOutOfBoundsException)) h1 h2 h3 ?_
    refine lv_astore_n (lv' := [(3, .ref q9), (0, .ref a_t), (1, .int x1), (2, .ref a_p2)]) hx hb dL_position_12 rfl hl (by decide) rfl (fun ls hl => ?_)
    refine lv_iconst (v := 1) hx hb dL_position_13 (by decide) ?_
    exact bq_hret E w hr hk dL_position_14 hQ
  replace hm := bq_f hq hm
  cases hm
abbrev wdL_isOut (cI : ClassId) (cJ : ClassId) (a_t a_t_rig a_p2 u_t_reader u_t_trial u_t_snapshot u_t_spare u_t_rig_sequence u_t_rig_circuit u_t_rig_log u_t_rig_score u_t_rig_strokes u_t_rig_positions u_t_rig_timers u_t_rig_faults : Nat) (t : Nat → Int32) (t_rig : Nat → Int32) (p2 : Nat → Int64) : va_W := [(a_t, oX7 u_t_reader a_t_rig u_t_trial u_t_snapshot u_t_spare t), (a_t_rig, oX3 u_t_rig_sequence u_t_rig_circuit u_t_rig_log u_t_rig_score u_t_rig_strokes u_t_rig_positions u_t_rig_timers u_t_rig_faults t_rig), (a_p2, oJ cJ 1 p2)]
abbrev rmL_isOut : Room := { frames := 2, cells := 0, slots := 0, locals := 42 }
theorem hs_L_isOut : yL_isOut.cls ≠ "java/lang/invoke/MethodHandle" ∧ yL_isOut.cls ≠ "java/lang/invoke/VarHandle" ∧ (parseMethodDescriptor yL_isOut.desc).map (fun d => d.parameters.length) = some 3 := by decide +kernel
set_option maxHeartbeats 4000000 in
set_option maxRecDepth 100000 in
theorem kL_isOut (l : Launch) (D : va_G) (cI cJ : ClassId) (a_t a_t_rig a_p2 u_t_reader u_t_trial u_t_snapshot u_t_spare u_t_rig_sequence u_t_rig_circuit u_t_rig_log u_t_rig_score u_t_rig_strokes u_t_rig_positions u_t_rig_timers u_t_rig_faults : Nat) (t : Nat → Int32) (t_rig : Nat → Int32) (p2 : Nat → Int64) (x1 : Int32) (r : Int32) (p2_o : Nat → Int64) (hm : mL_isOut t_rig p2 x1 = some (r, p2_o)) : bq_MH l D cI cJ yL_isOut cL_isOut 4 (some .int) [(0, 16, 19, 20)] rmL_isOut [.ref a_t, .int x1, .ref a_p2] (wdL_isOut cI cJ a_t a_t_rig a_p2 u_t_reader u_t_trial u_t_snapshot u_t_spare u_t_rig_sequence u_t_rig_circuit u_t_rig_log u_t_rig_score u_t_rig_strokes u_t_rig_positions u_t_rig_timers u_t_rig_faults t t_rig p2) (wdL_isOut cI cJ a_t a_t_rig a_p2 u_t_reader u_t_trial u_t_snapshot u_t_spare u_t_rig_sequence u_t_rig_circuit u_t_rig_log u_t_rig_score u_t_rig_strokes u_t_rig_positions u_t_rig_timers u_t_rig_faults t t_rig p2_o) (some (.int r)) := by
  refine bq_startH (by decide) (Nat.le_of_ble_eq_true rfl) ?_
  intro p e s m av9 below meth c A ls Q H locs E K w hA hr hk hX htab hQ hl
  have E : bq_E p m c cL_isOut 4 s av9 RL := E
  have hx := E.1
  have hb := E.2.1
  have hl : lv_has ls 4 [(0, .ref a_t), (1, .int x1), (2, .ref a_p2)] := hl
  unfold mL_isOut at hm
  refine lv_aload_n hx hb dL_isOut_0 rfl (lv_at hl 2 rfl) ?_
  refine lv_iconst (v := 0) hx hb dL_isOut_1 (by decide) ?_
  refine lv_aload_n hx hb dL_isOut_2 rfl (lv_at hl 0 rfl) ?_
  refine lv_iload_n hx hb dL_isOut_3 rfl (lv_at hl 1 rfl) ?_
  obtain ⟨v1, hC, hm⟩ := bq_bd_el hm
  refine bq_V (As := [.int x1]) (rest := [.int 0, .ref a_p2]) (st1 := [.int v1, .int 0, .ref a_p2]) (ws' := wdL_isOut cI cJ a_t a_t_rig a_p2 u_t_reader u_t_trial u_t_snapshot u_t_spare u_t_rig_sequence u_t_rig_circuit u_t_rig_log u_t_rig_score u_t_rig_strokes u_t_rig_positions u_t_rig_timers u_t_rig_faults t t_rig p2) E K w hA (kX7_isOut l D cI cJ a_t a_t_rig u_t_reader u_t_trial u_t_snapshot u_t_spare u_t_rig_sequence u_t_rig_circuit u_t_rig_log u_t_rig_score u_t_rig_strokes u_t_rig_positions u_t_rig_timers u_t_rig_faults t t_rig x1 v1 hC) (bq_gV ml_L_64 im_X7_isOut sl_X7_isOut in_X7 cd_X7_isOut) hd_X7_isOut ⟨Nat.le_of_ble_eq_true rfl, Nat.le_of_ble_eq_true rfl⟩ ⟨Nat.le_of_ble_eq_true rfl, Nat.le_of_ble_eq_true rfl⟩ ⟨[0, 1], [2], [1, 2, 0], rfl, rfl, rfl, rfl, rfl, rfl, rfl, rfl, rfl⟩ 0 rfl rfl rfl hl.1 rfl (Nat.le_of_ble_eq_true rfl) rfl dL_isOut_4 (fun H locs w => bq_z ⟨rfl, rfl⟩ ?_)
  clear hC
  obtain ⟨v2, hT15, hm⟩ := bq_let_el hm
  have K15 : ∀ (H : Heap) (locs : List Loc) (ls : Array Slot), bq_w D A s.heap (wdL_isOut cI cJ a_t a_t_rig a_p2 u_t_reader u_t_trial u_t_snapshot u_t_spare u_t_rig_sequence u_t_rig_circuit u_t_rig_log u_t_rig_score u_t_rig_strokes u_t_rig_positions u_t_rig_timers u_t_rig_faults t t_rig p2) H locs → lv_has ls 4 [] → W p l e rmL_isOut s m av9 below meth c H locs 0 0 Q (F0 m 15 ls [.long v2, .int 0, .ref a_p2]) := by
    intro H locs ls w hl
    obtain ⟨p2_3, e9, hm⟩ := bq_let_el hm
    refine bq_lastk E K w 2 rfl 0 (by decide) (by unfold vp_in; decide) dL_isOut_15 (fun H locs w => ?_)
    replace w : bq_w D A s.heap (wdL_isOut cI cJ a_t a_t_rig a_p2 u_t_reader u_t_trial u_t_snapshot u_t_spare u_t_rig_sequence u_t_rig_circuit u_t_rig_log u_t_rig_score u_t_rig_strokes u_t_rig_positions u_t_rig_timers u_t_rig_faults t t_rig p2_3) H locs := by rw [e9]; exact w
    clear e9
    refine lv_goto (tgt := 22) hx hb dL_isOut_16 (by decide) ?_
    refine lv_iconst (v := 0) hx hb dL_isOut_22 (by decide) ?_
    obtain ⟨rfl, rfl⟩ := bq_in2 (Option.some.inj hm)
    exact bq_hret E w hr hk dL_isOut_23 hQ
  clear hm
  refine lv_if_eq (tgt := 14) hx hb dL_isOut_7 (by decide) (fun hc => ?_) (fun hc => ?_)
  · replace hT15 := bq_et hc hT15
    clear hc
    refine lv_lconst (v := 0) hx hb dL_isOut_14 (by decide) ?_
    subst hT15
    exact K15 H locs ls w (lv_sub hl [] rfl)
  · replace hT15 := bq_ef hc hT15
    clear hc
    refine lv_lconst (v := 1) hx hb dL_isOut_10 (by decide) ?_
    refine lv_goto (tgt := 15) hx hb dL_isOut_11 (by decide) ?_
    subst hT15
    exact K15 H locs ls w (lv_sub hl [] rfl)
abbrev rmTL_isOut : Room := { frames := 8, cells := 1, slots := 6, locals := 141 }
set_option maxHeartbeats 4000000 in
set_option maxRecDepth 100000 in
theorem tkL_isOut {l : Launch} (hlf : l.stackTraces = false) (D : va_G) (cI cJ : ClassId) (a_t a_t_rig a_p2 u_t_reader u_t_trial u_t_snapshot u_t_spare u_t_rig_sequence u_t_rig_circuit u_t_rig_log u_t_rig_score u_t_rig_strokes u_t_rig_positions u_t_rig_timers u_t_rig_faults : Nat) (t : Nat → Int32) (t_rig : Nat → Int32) (p2 : Nat → Int64) (x1 : Int32) (r : Int32) (hm : tL_isOut t_rig p2 x1 = some r) : bq_MH l D cI cJ yL_isOut cL_isOut 4 (some .int) [(0, 16, 19, 20)] rmTL_isOut [.ref a_t, .int x1, .ref a_p2] (wdL_isOut cI cJ a_t a_t_rig a_p2 u_t_reader u_t_trial u_t_snapshot u_t_spare u_t_rig_sequence u_t_rig_circuit u_t_rig_log u_t_rig_score u_t_rig_strokes u_t_rig_positions u_t_rig_timers u_t_rig_faults t t_rig p2) (wdL_isOut cI cJ a_t a_t_rig a_p2 u_t_reader u_t_trial u_t_snapshot u_t_spare u_t_rig_sequence u_t_rig_circuit u_t_rig_log u_t_rig_score u_t_rig_strokes u_t_rig_positions u_t_rig_timers u_t_rig_faults t t_rig p2) (some (.int r)) := by
  refine bq_startH (by decide) (Nat.le_of_ble_eq_true rfl) ?_
  intro p e s m av9 below meth c A ls Q H locs E K w hA hr hk hX htab hQ hl
  have E : bq_E p m c cL_isOut 4 s av9 RL := E
  have hx := E.1
  have hb := E.2.1
  have hl : lv_has ls 4 [(0, .ref a_t), (1, .int x1), (2, .ref a_p2)] := hl
  unfold tL_isOut at hm
  refine lv_aload_n hx hb dL_isOut_0 rfl (lv_at hl 2 rfl) ?_
  refine lv_iconst (v := 0) hx hb dL_isOut_1 (by decide) ?_
  refine lv_aload_n hx hb dL_isOut_2 rfl (lv_at hl 0 rfl) ?_
  refine lv_iload_n hx hb dL_isOut_3 rfl (lv_at hl 1 rfl) ?_
  obtain ⟨k9, hC, hm⟩ := bq_bd_el hm
  by_cases hq : k9 = 2
  · subst hq
    replace hm := bq_t rfl hm
    obtain rfl := Option.some.inj hm
    refine bq_HV (As := [.int x1]) (rest := [.int 0, .ref a_p2]) E K w hA hX ⟨rfl, rfl⟩ (tkX7_isOut hlf D cI cJ a_t a_t_rig u_t_reader u_t_trial u_t_snapshot u_t_spare u_t_rig_sequence u_t_rig_circuit u_t_rig_log u_t_rig_score u_t_rig_strokes u_t_rig_positions u_t_rig_timers u_t_rig_faults t t_rig x1 _ hC) (bq_gV ml_L_64 im_X7_isOut sl_X7_isOut in_X7 cd_X7_isOut) hd_X7_isOut ⟨Nat.le_of_ble_eq_true rfl, Nat.le_of_ble_eq_true rfl⟩ ⟨Nat.le_of_ble_eq_true rfl, Nat.le_of_ble_eq_true rfl⟩ ⟨[0, 1], [2], [1, 2, 0], rfl, rfl, rfl, rfl, rfl, rfl, rfl, rfl, rfl⟩ 0 rfl rfl rfl hl.1 rfl (Nat.le_of_ble_eq_true rfl) dL_isOut_4 (fun q9 ce H locs w h1 h2 h3 => ?_)
    refine vx_catch (E := "java/lang/IndexOutOfBoundsException") (name := "java/lang/IndexOutOfBoundsException") E.2.2.2.1 [] ⟨0, 16, 19, 20⟩ [] (by rw [htab]; rfl) (fun z h => by cases h) (by decide) (by decide) (E.2.2.2.2 _ cl_L_20) (va_Nw.use rfl (K.2 _ mc_IndexOutOfBoundsException)) h1 h2 h3 ?_
    refine lv_astore_n (lv' := [(3, .ref q9), (0, .ref a_t), (1, .int x1), (2, .ref a_p2)]) hx hb dL_isOut_19 rfl hl (by decide) rfl (fun ls hl => ?_)
    refine lv_iconst (v := 1) hx hb dL_isOut_20 (by decide) ?_
    exact bq_hret E w hr hk dL_isOut_21 hQ
  replace hm := bq_f hq hm
  cases hm
abbrev wdL_sensor (cI : ClassId) (cJ : ClassId) (a_t a_t_rig a_t_rig_faults a_t_rig_positions a_t_rig_strokes a_p3 u_t_reader u_t_trial u_t_snapshot u_t_spare u_t_rig_sequence u_t_rig_circuit u_t_rig_log u_t_rig_score u_t_rig_timers : Nat) (t : Nat → Int32) (t_rig : Nat → Int32) (t_rig_faults : Nat → Int32) (t_rig_positions : Nat → Int32) (t_rig_strokes : Nat → Int32) (p3 : Nat → Int64) : va_W := [(a_t, oX7 u_t_reader a_t_rig u_t_trial u_t_snapshot u_t_spare t), (a_t_rig, oX3 u_t_rig_sequence u_t_rig_circuit u_t_rig_log u_t_rig_score a_t_rig_strokes a_t_rig_positions u_t_rig_timers a_t_rig_faults t_rig), (a_t_rig_faults, oA cI 5 t_rig_faults), (a_t_rig_positions, oA cI 6 t_rig_positions), (a_t_rig_strokes, oA cI 6 t_rig_strokes), (a_p3, oJ cJ 1 p3)]
abbrev rmL_sensor : Room := { frames := 2, cells := 0, slots := 0, locals := 44 }
theorem hs_L_sensor : yL_sensor.cls ≠ "java/lang/invoke/MethodHandle" ∧ yL_sensor.cls ≠ "java/lang/invoke/VarHandle" ∧ (parseMethodDescriptor yL_sensor.desc).map (fun d => d.parameters.length) = some 4 := by decide +kernel
set_option maxHeartbeats 4000000 in
set_option maxRecDepth 100000 in
theorem kL_sensor (l : Launch) (D : va_G) (cI cJ : ClassId) (a_t a_t_rig a_t_rig_faults a_t_rig_positions a_t_rig_strokes a_p3 u_t_reader u_t_trial u_t_snapshot u_t_spare u_t_rig_sequence u_t_rig_circuit u_t_rig_log u_t_rig_score u_t_rig_timers : Nat) (t : Nat → Int32) (t_rig : Nat → Int32) (t_rig_faults : Nat → Int32) (t_rig_positions : Nat → Int32) (t_rig_strokes : Nat → Int32) (p3 : Nat → Int64) (x1 : Int32) (x2 : Int32) (r : Int32) (p3_o : Nat → Int64) (hm : mL_sensor t_rig_faults t_rig_positions t_rig_strokes p3 x1 x2 = some (r, p3_o)) : bq_MH l D cI cJ yL_sensor cL_sensor 5 (some .int) [(0, 17, 20, 20)] rmL_sensor [.ref a_t, .int x1, .int x2, .ref a_p3] (wdL_sensor cI cJ a_t a_t_rig a_t_rig_faults a_t_rig_positions a_t_rig_strokes a_p3 u_t_reader u_t_trial u_t_snapshot u_t_spare u_t_rig_sequence u_t_rig_circuit u_t_rig_log u_t_rig_score u_t_rig_timers t t_rig t_rig_faults t_rig_positions t_rig_strokes p3) (wdL_sensor cI cJ a_t a_t_rig a_t_rig_faults a_t_rig_positions a_t_rig_strokes a_p3 u_t_reader u_t_trial u_t_snapshot u_t_spare u_t_rig_sequence u_t_rig_circuit u_t_rig_log u_t_rig_score u_t_rig_timers t t_rig t_rig_faults t_rig_positions t_rig_strokes p3_o) (some (.int r)) := by
  refine bq_startH (by decide) (Nat.le_of_ble_eq_true rfl) ?_
  intro p e s m av9 below meth c A ls Q H locs E K w hA hr hk hX htab hQ hl
  have E : bq_E p m c cL_sensor 5 s av9 RL := E
  have hx := E.1
  have hb := E.2.1
  have hl : lv_has ls 5 [(0, .ref a_t), (1, .int x1), (2, .int x2), (3, .ref a_p3)] := hl
  unfold mL_sensor at hm
  refine lv_aload_n hx hb dL_sensor_0 rfl (lv_at hl 3 rfl) ?_
  refine lv_iconst (v := 0) hx hb dL_sensor_1 (by decide) ?_
  refine lv_aload_n hx hb dL_sensor_2 rfl (lv_at hl 0 rfl) ?_
  refine lv_iload_n hx hb dL_sensor_3 rfl (lv_at hl 1 rfl) ?_
  refine lv_iload_n hx hb dL_sensor_4 rfl (lv_at hl 2 rfl) ?_
  obtain ⟨v1, hC, hm⟩ := bq_bd_el hm
  refine bq_V (As := [.int x1, .int x2]) (rest := [.int 0, .ref a_p3]) (st1 := [.int v1, .int 0, .ref a_p3]) (ws' := wdL_sensor cI cJ a_t a_t_rig a_t_rig_faults a_t_rig_positions a_t_rig_strokes a_p3 u_t_reader u_t_trial u_t_snapshot u_t_spare u_t_rig_sequence u_t_rig_circuit u_t_rig_log u_t_rig_score u_t_rig_timers t t_rig t_rig_faults t_rig_positions t_rig_strokes p3) E K w hA (kX7_sensor l D cI cJ a_t a_t_rig a_t_rig_faults a_t_rig_positions a_t_rig_strokes u_t_reader u_t_trial u_t_snapshot u_t_spare u_t_rig_sequence u_t_rig_circuit u_t_rig_log u_t_rig_score u_t_rig_timers t t_rig t_rig_faults t_rig_positions t_rig_strokes x1 x2 v1 hC) (bq_gV ml_L_68 im_X7_sensor sl_X7_sensor in_X7 cd_X7_sensor) hd_X7_sensor ⟨Nat.le_of_ble_eq_true rfl, Nat.le_of_ble_eq_true rfl⟩ ⟨Nat.le_of_ble_eq_true rfl, Nat.le_of_ble_eq_true rfl⟩ ⟨[0, 1, 2, 3, 4], [5], [1, 2, 3, 4, 5, 0], rfl, rfl, rfl, rfl, rfl, rfl, rfl, rfl, rfl⟩ 0 rfl rfl rfl hl.1 rfl (Nat.le_of_ble_eq_true rfl) rfl dL_sensor_5 (fun H locs w => bq_z ⟨rfl, rfl⟩ ?_)
  clear hC
  obtain ⟨v2, hT16, hm⟩ := bq_let_el hm
  have K16 : ∀ (H : Heap) (locs : List Loc) (ls : Array Slot), bq_w D A s.heap (wdL_sensor cI cJ a_t a_t_rig a_t_rig_faults a_t_rig_positions a_t_rig_strokes a_p3 u_t_reader u_t_trial u_t_snapshot u_t_spare u_t_rig_sequence u_t_rig_circuit u_t_rig_log u_t_rig_score u_t_rig_timers t t_rig t_rig_faults t_rig_positions t_rig_strokes p3) H locs → lv_has ls 5 [] → W p l e rmL_sensor s m av9 below meth c H locs 0 0 Q (F0 m 16 ls [.long v2, .int 0, .ref a_p3]) := by
    intro H locs ls w hl
    obtain ⟨p3_3, e9, hm⟩ := bq_let_el hm
    refine bq_lastk E K w 5 rfl 0 (by decide) (by unfold vp_in; decide) dL_sensor_16 (fun H locs w => ?_)
    replace w : bq_w D A s.heap (wdL_sensor cI cJ a_t a_t_rig a_t_rig_faults a_t_rig_positions a_t_rig_strokes a_p3 u_t_reader u_t_trial u_t_snapshot u_t_spare u_t_rig_sequence u_t_rig_circuit u_t_rig_log u_t_rig_score u_t_rig_timers t t_rig t_rig_faults t_rig_positions t_rig_strokes p3_3) H locs := by rw [e9]; exact w
    clear e9
    refine lv_goto (tgt := 24) hx hb dL_sensor_17 (by decide) ?_
    refine lv_iconst (v := 0) hx hb dL_sensor_24 (by decide) ?_
    obtain ⟨rfl, rfl⟩ := bq_in2 (Option.some.inj hm)
    exact bq_hret E w hr hk dL_sensor_25 hQ
  clear hm
  refine lv_if_eq (tgt := 15) hx hb dL_sensor_8 (by decide) (fun hc => ?_) (fun hc => ?_)
  · replace hT16 := bq_et hc hT16
    clear hc
    refine lv_lconst (v := 0) hx hb dL_sensor_15 (by decide) ?_
    subst hT16
    exact K16 H locs ls w (lv_sub hl [] rfl)
  · replace hT16 := bq_ef hc hT16
    clear hc
    refine lv_lconst (v := 1) hx hb dL_sensor_11 (by decide) ?_
    refine lv_goto (tgt := 16) hx hb dL_sensor_12 (by decide) ?_
    subst hT16
    exact K16 H locs ls w (lv_sub hl [] rfl)
abbrev rmTL_sensor : Room := { frames := 8, cells := 1, slots := 6, locals := 142 }
set_option maxHeartbeats 4000000 in
set_option maxRecDepth 100000 in
theorem tkL_sensor {l : Launch} (hlf : l.stackTraces = false) (D : va_G) (cI cJ : ClassId) (a_t a_t_rig a_t_rig_faults a_t_rig_positions a_t_rig_strokes a_p3 u_t_reader u_t_trial u_t_snapshot u_t_spare u_t_rig_sequence u_t_rig_circuit u_t_rig_log u_t_rig_score u_t_rig_timers : Nat) (t : Nat → Int32) (t_rig : Nat → Int32) (t_rig_faults : Nat → Int32) (t_rig_positions : Nat → Int32) (t_rig_strokes : Nat → Int32) (p3 : Nat → Int64) (x1 : Int32) (x2 : Int32) (r : Int32) (hm : tL_sensor t_rig_faults t_rig_positions t_rig_strokes p3 x1 x2 = some r) : bq_MH l D cI cJ yL_sensor cL_sensor 5 (some .int) [(0, 17, 20, 20)] rmTL_sensor [.ref a_t, .int x1, .int x2, .ref a_p3] (wdL_sensor cI cJ a_t a_t_rig a_t_rig_faults a_t_rig_positions a_t_rig_strokes a_p3 u_t_reader u_t_trial u_t_snapshot u_t_spare u_t_rig_sequence u_t_rig_circuit u_t_rig_log u_t_rig_score u_t_rig_timers t t_rig t_rig_faults t_rig_positions t_rig_strokes p3) (wdL_sensor cI cJ a_t a_t_rig a_t_rig_faults a_t_rig_positions a_t_rig_strokes a_p3 u_t_reader u_t_trial u_t_snapshot u_t_spare u_t_rig_sequence u_t_rig_circuit u_t_rig_log u_t_rig_score u_t_rig_timers t t_rig t_rig_faults t_rig_positions t_rig_strokes p3) (some (.int r)) := by
  refine bq_startH (by decide) (Nat.le_of_ble_eq_true rfl) ?_
  intro p e s m av9 below meth c A ls Q H locs E K w hA hr hk hX htab hQ hl
  have E : bq_E p m c cL_sensor 5 s av9 RL := E
  have hx := E.1
  have hb := E.2.1
  have hl : lv_has ls 5 [(0, .ref a_t), (1, .int x1), (2, .int x2), (3, .ref a_p3)] := hl
  unfold tL_sensor at hm
  refine lv_aload_n hx hb dL_sensor_0 rfl (lv_at hl 3 rfl) ?_
  refine lv_iconst (v := 0) hx hb dL_sensor_1 (by decide) ?_
  refine lv_aload_n hx hb dL_sensor_2 rfl (lv_at hl 0 rfl) ?_
  refine lv_iload_n hx hb dL_sensor_3 rfl (lv_at hl 1 rfl) ?_
  refine lv_iload_n hx hb dL_sensor_4 rfl (lv_at hl 2 rfl) ?_
  obtain ⟨k9, hC, hm⟩ := bq_bd_el hm
  by_cases hq : k9 = 2
  · subst hq
    replace hm := bq_t rfl hm
    obtain rfl := Option.some.inj hm
    refine bq_HV (As := [.int x1, .int x2]) (rest := [.int 0, .ref a_p3]) E K w hA hX ⟨rfl, rfl⟩ (tkX7_sensor hlf D cI cJ a_t a_t_rig a_t_rig_faults a_t_rig_positions a_t_rig_strokes u_t_reader u_t_trial u_t_snapshot u_t_spare u_t_rig_sequence u_t_rig_circuit u_t_rig_log u_t_rig_score u_t_rig_timers t t_rig t_rig_faults t_rig_positions t_rig_strokes x1 x2 _ hC) (bq_gV ml_L_68 im_X7_sensor sl_X7_sensor in_X7 cd_X7_sensor) hd_X7_sensor ⟨Nat.le_of_ble_eq_true rfl, Nat.le_of_ble_eq_true rfl⟩ ⟨Nat.le_of_ble_eq_true rfl, Nat.le_of_ble_eq_true rfl⟩ ⟨[0, 1, 2, 3, 4], [5], [1, 2, 3, 4, 5, 0], rfl, rfl, rfl, rfl, rfl, rfl, rfl, rfl, rfl⟩ 0 rfl rfl rfl hl.1 rfl (Nat.le_of_ble_eq_true rfl) dL_sensor_5 (fun q9 ce H locs w h1 h2 h3 => ?_)
    refine vx_catch (E := "java/lang/IndexOutOfBoundsException") (name := "java/lang/IndexOutOfBoundsException") E.2.2.2.1 [] ⟨0, 17, 20, 20⟩ [] (by rw [htab]; rfl) (fun z h => by cases h) (by decide) (by decide) (E.2.2.2.2 _ cl_L_20) (va_Nw.use rfl (K.2 _ mc_IndexOutOfBoundsException)) h1 h2 h3 ?_
    refine lv_astore (lv' := [(4, .ref q9), (0, .ref a_t), (1, .int x1), (2, .int x2), (3, .ref a_p3)]) hx hb dL_sensor_20 hl (by decide) rfl (fun ls hl => ?_)
    refine lv_iconst (v := 1) hx hb dL_sensor_22 (by decide) ?_
    exact bq_hret E w hr hk dL_sensor_23 hQ
  replace hm := bq_f hq hm
  cases hm
abbrev wdL_timer (cI : ClassId) (cJ : ClassId) (a_t a_t_rig a_t_rig_sequence a_t_rig_timers a_p2 u_t_reader u_t_trial u_t_snapshot u_t_spare u_t_rig_circuit u_t_rig_log u_t_rig_score u_t_rig_strokes u_t_rig_positions u_t_rig_faults u_t_rig_sequence_plus u_t_rig_sequence_minus u_t_rig_sequence_pauses u_t_rig_sequence_outBefore u_t_rig_sequence_cuts u_t_rig_sequence_groupOfStep : Nat) (t : Nat → Int32) (t_rig : Nat → Int32) (t_rig_sequence : Nat → Int32) (t_rig_timers : Nat → Int32) (p2 : Nat → Int64) : va_W := [(a_t, oX7 u_t_reader a_t_rig u_t_trial u_t_snapshot u_t_spare t), (a_t_rig, oX3 a_t_rig_sequence u_t_rig_circuit u_t_rig_log u_t_rig_score u_t_rig_strokes u_t_rig_positions a_t_rig_timers u_t_rig_faults t_rig), (a_t_rig_sequence, oX5 u_t_rig_sequence_plus u_t_rig_sequence_minus u_t_rig_sequence_pauses u_t_rig_sequence_outBefore u_t_rig_sequence_cuts u_t_rig_sequence_groupOfStep t_rig_sequence), (a_t_rig_timers, oA cI 16 t_rig_timers), (a_p2, oJ cJ 1 p2)]
abbrev rmL_timer : Room := { frames := 2, cells := 0, slots := 0, locals := 42 }
theorem hs_L_timer : yL_timer.cls ≠ "java/lang/invoke/MethodHandle" ∧ yL_timer.cls ≠ "java/lang/invoke/VarHandle" ∧ (parseMethodDescriptor yL_timer.desc).map (fun d => d.parameters.length) = some 3 := by decide +kernel
set_option maxHeartbeats 4000000 in
set_option maxRecDepth 100000 in
theorem kL_timer (l : Launch) (D : va_G) (cI cJ : ClassId) (a_t a_t_rig a_t_rig_sequence a_t_rig_timers a_p2 u_t_reader u_t_trial u_t_snapshot u_t_spare u_t_rig_circuit u_t_rig_log u_t_rig_score u_t_rig_strokes u_t_rig_positions u_t_rig_faults u_t_rig_sequence_plus u_t_rig_sequence_minus u_t_rig_sequence_pauses u_t_rig_sequence_outBefore u_t_rig_sequence_cuts u_t_rig_sequence_groupOfStep : Nat) (t : Nat → Int32) (t_rig : Nat → Int32) (t_rig_sequence : Nat → Int32) (t_rig_timers : Nat → Int32) (p2 : Nat → Int64) (x1 : Int32) (r : Int32) (p2_o : Nat → Int64) (hm : mL_timer t_rig_sequence t_rig_timers p2 x1 = some (r, p2_o)) : bq_MH l D cI cJ yL_timer cL_timer 4 (some .int) [(0, 9, 12, 20)] rmL_timer [.ref a_t, .int x1, .ref a_p2] (wdL_timer cI cJ a_t a_t_rig a_t_rig_sequence a_t_rig_timers a_p2 u_t_reader u_t_trial u_t_snapshot u_t_spare u_t_rig_circuit u_t_rig_log u_t_rig_score u_t_rig_strokes u_t_rig_positions u_t_rig_faults u_t_rig_sequence_plus u_t_rig_sequence_minus u_t_rig_sequence_pauses u_t_rig_sequence_outBefore u_t_rig_sequence_cuts u_t_rig_sequence_groupOfStep t t_rig t_rig_sequence t_rig_timers p2) (wdL_timer cI cJ a_t a_t_rig a_t_rig_sequence a_t_rig_timers a_p2 u_t_reader u_t_trial u_t_snapshot u_t_spare u_t_rig_circuit u_t_rig_log u_t_rig_score u_t_rig_strokes u_t_rig_positions u_t_rig_faults u_t_rig_sequence_plus u_t_rig_sequence_minus u_t_rig_sequence_pauses u_t_rig_sequence_outBefore u_t_rig_sequence_cuts u_t_rig_sequence_groupOfStep t t_rig t_rig_sequence t_rig_timers p2_o) (some (.int r)) := by
  refine bq_startH (by decide) (Nat.le_of_ble_eq_true rfl) ?_
  intro p e s m av9 below meth c A ls Q H locs E K w hA hr hk hX htab hQ hl
  have E : bq_E p m c cL_timer 4 s av9 RL := E
  have hx := E.1
  have hb := E.2.1
  have hl : lv_has ls 4 [(0, .ref a_t), (1, .int x1), (2, .ref a_p2)] := hl
  unfold mL_timer at hm
  refine lv_aload_n hx hb dL_timer_0 rfl (lv_at hl 2 rfl) ?_
  refine lv_iconst (v := 0) hx hb dL_timer_1 (by decide) ?_
  refine lv_aload_n hx hb dL_timer_2 rfl (lv_at hl 0 rfl) ?_
  refine lv_iload_n hx hb dL_timer_3 rfl (lv_at hl 1 rfl) ?_
  obtain ⟨v1, hC, hm⟩ := bq_bd_el hm
  refine bq_V (As := [.int x1]) (rest := [.int 0, .ref a_p2]) (st1 := [.int v1, .int 0, .ref a_p2]) (ws' := wdL_timer cI cJ a_t a_t_rig a_t_rig_sequence a_t_rig_timers a_p2 u_t_reader u_t_trial u_t_snapshot u_t_spare u_t_rig_circuit u_t_rig_log u_t_rig_score u_t_rig_strokes u_t_rig_positions u_t_rig_faults u_t_rig_sequence_plus u_t_rig_sequence_minus u_t_rig_sequence_pauses u_t_rig_sequence_outBefore u_t_rig_sequence_cuts u_t_rig_sequence_groupOfStep t t_rig t_rig_sequence t_rig_timers p2) E K w hA (kX7_timer l D cI cJ a_t a_t_rig a_t_rig_sequence a_t_rig_timers u_t_reader u_t_trial u_t_snapshot u_t_spare u_t_rig_circuit u_t_rig_log u_t_rig_score u_t_rig_strokes u_t_rig_positions u_t_rig_faults u_t_rig_sequence_plus u_t_rig_sequence_minus u_t_rig_sequence_pauses u_t_rig_sequence_outBefore u_t_rig_sequence_cuts u_t_rig_sequence_groupOfStep t t_rig t_rig_sequence t_rig_timers x1 v1 hC) (bq_gV ml_L_72 im_X7_timer sl_X7_timer in_X7 cd_X7_timer) hd_X7_timer ⟨Nat.le_of_ble_eq_true rfl, Nat.le_of_ble_eq_true rfl⟩ ⟨Nat.le_of_ble_eq_true rfl, Nat.le_of_ble_eq_true rfl⟩ ⟨[0, 1, 2, 3], [4], [1, 2, 3, 4, 0], rfl, rfl, rfl, rfl, rfl, rfl, rfl, rfl, rfl⟩ 0 rfl rfl rfl hl.1 rfl (Nat.le_of_ble_eq_true rfl) rfl dL_timer_4 (fun H locs w => bq_z ⟨rfl, rfl⟩ ?_)
  clear hC
  refine lv_i2l hx hb dL_timer_7 rfl ?_
  obtain ⟨p2_2, e9, hm⟩ := bq_let_el hm
  refine bq_lastk E K w 4 rfl 0 (by decide) (by unfold vp_in; decide) dL_timer_8 (fun H locs w => ?_)
  replace w : bq_w D A s.heap (wdL_timer cI cJ a_t a_t_rig a_t_rig_sequence a_t_rig_timers a_p2 u_t_reader u_t_trial u_t_snapshot u_t_spare u_t_rig_circuit u_t_rig_log u_t_rig_score u_t_rig_strokes u_t_rig_positions u_t_rig_faults u_t_rig_sequence_plus u_t_rig_sequence_minus u_t_rig_sequence_pauses u_t_rig_sequence_outBefore u_t_rig_sequence_cuts u_t_rig_sequence_groupOfStep t t_rig t_rig_sequence t_rig_timers p2_2) H locs := by rw [e9]; exact w
  clear e9
  refine lv_goto (tgt := 15) hx hb dL_timer_9 (by decide) ?_
  refine lv_iconst (v := 0) hx hb dL_timer_15 (by decide) ?_
  obtain ⟨rfl, rfl⟩ := bq_in2 (Option.some.inj hm)
  exact bq_hret E w hr hk dL_timer_16 hQ
abbrev rmTL_timer : Room := { frames := 8, cells := 1, slots := 6, locals := 142 }
set_option maxHeartbeats 4000000 in
set_option maxRecDepth 100000 in
theorem tkL_timer {l : Launch} (hlf : l.stackTraces = false) (D : va_G) (cI cJ : ClassId) (a_t a_t_rig a_t_rig_sequence a_t_rig_timers a_p2 u_t_reader u_t_trial u_t_snapshot u_t_spare u_t_rig_circuit u_t_rig_log u_t_rig_score u_t_rig_strokes u_t_rig_positions u_t_rig_faults u_t_rig_sequence_plus u_t_rig_sequence_minus u_t_rig_sequence_pauses u_t_rig_sequence_outBefore u_t_rig_sequence_cuts u_t_rig_sequence_groupOfStep : Nat) (t : Nat → Int32) (t_rig : Nat → Int32) (t_rig_sequence : Nat → Int32) (t_rig_timers : Nat → Int32) (p2 : Nat → Int64) (x1 : Int32) (r : Int32) (hm : tL_timer t_rig_sequence t_rig_timers p2 x1 = some r) : bq_MH l D cI cJ yL_timer cL_timer 4 (some .int) [(0, 9, 12, 20)] rmTL_timer [.ref a_t, .int x1, .ref a_p2] (wdL_timer cI cJ a_t a_t_rig a_t_rig_sequence a_t_rig_timers a_p2 u_t_reader u_t_trial u_t_snapshot u_t_spare u_t_rig_circuit u_t_rig_log u_t_rig_score u_t_rig_strokes u_t_rig_positions u_t_rig_faults u_t_rig_sequence_plus u_t_rig_sequence_minus u_t_rig_sequence_pauses u_t_rig_sequence_outBefore u_t_rig_sequence_cuts u_t_rig_sequence_groupOfStep t t_rig t_rig_sequence t_rig_timers p2) (wdL_timer cI cJ a_t a_t_rig a_t_rig_sequence a_t_rig_timers a_p2 u_t_reader u_t_trial u_t_snapshot u_t_spare u_t_rig_circuit u_t_rig_log u_t_rig_score u_t_rig_strokes u_t_rig_positions u_t_rig_faults u_t_rig_sequence_plus u_t_rig_sequence_minus u_t_rig_sequence_pauses u_t_rig_sequence_outBefore u_t_rig_sequence_cuts u_t_rig_sequence_groupOfStep t t_rig t_rig_sequence t_rig_timers p2) (some (.int r)) := by
  refine bq_startH (by decide) (Nat.le_of_ble_eq_true rfl) ?_
  intro p e s m av9 below meth c A ls Q H locs E K w hA hr hk hX htab hQ hl
  have E : bq_E p m c cL_timer 4 s av9 RL := E
  have hx := E.1
  have hb := E.2.1
  have hl : lv_has ls 4 [(0, .ref a_t), (1, .int x1), (2, .ref a_p2)] := hl
  unfold tL_timer at hm
  refine lv_aload_n hx hb dL_timer_0 rfl (lv_at hl 2 rfl) ?_
  refine lv_iconst (v := 0) hx hb dL_timer_1 (by decide) ?_
  refine lv_aload_n hx hb dL_timer_2 rfl (lv_at hl 0 rfl) ?_
  refine lv_iload_n hx hb dL_timer_3 rfl (lv_at hl 1 rfl) ?_
  obtain ⟨k9, hC, hm⟩ := bq_bd_el hm
  by_cases hq : k9 = 2
  · subst hq
    replace hm := bq_t rfl hm
    obtain rfl := Option.some.inj hm
    refine bq_HV (As := [.int x1]) (rest := [.int 0, .ref a_p2]) E K w hA hX ⟨rfl, rfl⟩ (tkX7_timer hlf D cI cJ a_t a_t_rig a_t_rig_sequence a_t_rig_timers u_t_reader u_t_trial u_t_snapshot u_t_spare u_t_rig_circuit u_t_rig_log u_t_rig_score u_t_rig_strokes u_t_rig_positions u_t_rig_faults u_t_rig_sequence_plus u_t_rig_sequence_minus u_t_rig_sequence_pauses u_t_rig_sequence_outBefore u_t_rig_sequence_cuts u_t_rig_sequence_groupOfStep t t_rig t_rig_sequence t_rig_timers x1 _ hC) (bq_gV ml_L_72 im_X7_timer sl_X7_timer in_X7 cd_X7_timer) hd_X7_timer ⟨Nat.le_of_ble_eq_true rfl, Nat.le_of_ble_eq_true rfl⟩ ⟨Nat.le_of_ble_eq_true rfl, Nat.le_of_ble_eq_true rfl⟩ ⟨[0, 1, 2, 3], [4], [1, 2, 3, 4, 0], rfl, rfl, rfl, rfl, rfl, rfl, rfl, rfl, rfl⟩ 0 rfl rfl rfl hl.1 rfl (Nat.le_of_ble_eq_true rfl) dL_timer_4 (fun q9 ce H locs w h1 h2 h3 => ?_)
    refine vx_catch (E := "java/lang/IndexOutOfBoundsException") (name := "java/lang/IndexOutOfBoundsException") E.2.2.2.1 [] ⟨0, 9, 12, 20⟩ [] (by rw [htab]; rfl) (fun z h => by cases h) (by decide) (by decide) (E.2.2.2.2 _ cl_L_20) (va_Nw.use rfl (K.2 _ mc_IndexOutOfBoundsException)) h1 h2 h3 ?_
    refine lv_astore_n (lv' := [(3, .ref q9), (0, .ref a_t), (1, .int x1), (2, .ref a_p2)]) hx hb dL_timer_12 rfl hl (by decide) rfl (fun ls hl => ?_)
    refine lv_iconst (v := 1) hx hb dL_timer_13 (by decide) ?_
    exact bq_hret E w hr hk dL_timer_14 hQ
  replace hm := bq_f hq hm
  cases hm
abbrev wdL_commands (cI : ClassId) (cJ : ClassId) (a_t a_t_rig a_t_rig_circuit a_p2 u_t_reader u_t_trial u_t_snapshot u_t_spare u_t_rig_sequence u_t_rig_log u_t_rig_score u_t_rig_strokes u_t_rig_positions u_t_rig_timers u_t_rig_faults : Nat) (t : Nat → Int32) (t_rig : Nat → Int32) (t_rig_circuit : Nat → Int32) (p2 : Nat → Int64) : va_W := [(a_t, oX7 u_t_reader a_t_rig u_t_trial u_t_snapshot u_t_spare t), (a_t_rig, oX3 u_t_rig_sequence a_t_rig_circuit u_t_rig_log u_t_rig_score u_t_rig_strokes u_t_rig_positions u_t_rig_timers u_t_rig_faults t_rig), (a_t_rig_circuit, oX0 t_rig_circuit), (a_p2, oJ cJ 1 p2)]
abbrev rmL_commands : Room := { frames := 3, cells := 0, slots := 0, locals := 63 }
theorem hs_L_commands : yL_commands.cls ≠ "java/lang/invoke/MethodHandle" ∧ yL_commands.cls ≠ "java/lang/invoke/VarHandle" ∧ (parseMethodDescriptor yL_commands.desc).map (fun d => d.parameters.length) = some 3 := by decide +kernel
set_option maxHeartbeats 4000000 in
set_option maxRecDepth 100000 in
theorem kL_commands (l : Launch) (D : va_G) (cI cJ : ClassId) (a_t a_t_rig a_t_rig_circuit a_p2 u_t_reader u_t_trial u_t_snapshot u_t_spare u_t_rig_sequence u_t_rig_log u_t_rig_score u_t_rig_strokes u_t_rig_positions u_t_rig_timers u_t_rig_faults : Nat) (t : Nat → Int32) (t_rig : Nat → Int32) (t_rig_circuit : Nat → Int32) (p2 : Nat → Int64) (x1 : Int32) (r : Int32) (p2_o : Nat → Int64) (hm : mL_commands t_rig_circuit p2 x1 = some (r, p2_o)) : bq_MH l D cI cJ yL_commands cL_commands 4 (some .int) [(0, 9, 12, 20)] rmL_commands [.ref a_t, .int x1, .ref a_p2] (wdL_commands cI cJ a_t a_t_rig a_t_rig_circuit a_p2 u_t_reader u_t_trial u_t_snapshot u_t_spare u_t_rig_sequence u_t_rig_log u_t_rig_score u_t_rig_strokes u_t_rig_positions u_t_rig_timers u_t_rig_faults t t_rig t_rig_circuit p2) (wdL_commands cI cJ a_t a_t_rig a_t_rig_circuit a_p2 u_t_reader u_t_trial u_t_snapshot u_t_spare u_t_rig_sequence u_t_rig_log u_t_rig_score u_t_rig_strokes u_t_rig_positions u_t_rig_timers u_t_rig_faults t t_rig t_rig_circuit p2_o) (some (.int r)) := by
  refine bq_startH (by decide) (Nat.le_of_ble_eq_true rfl) ?_
  intro p e s m av9 below meth c A ls Q H locs E K w hA hr hk hX htab hQ hl
  have E : bq_E p m c cL_commands 4 s av9 RL := E
  have hx := E.1
  have hb := E.2.1
  have hl : lv_has ls 4 [(0, .ref a_t), (1, .int x1), (2, .ref a_p2)] := hl
  unfold mL_commands at hm
  refine lv_aload_n hx hb dL_commands_0 rfl (lv_at hl 2 rfl) ?_
  refine lv_iconst (v := 0) hx hb dL_commands_1 (by decide) ?_
  refine lv_aload_n hx hb dL_commands_2 rfl (lv_at hl 0 rfl) ?_
  refine lv_iload_n hx hb dL_commands_3 rfl (lv_at hl 1 rfl) ?_
  obtain ⟨v1, hC, hm⟩ := bq_bd_el hm
  refine bq_V (As := [.int x1]) (rest := [.int 0, .ref a_p2]) (st1 := [.int v1, .int 0, .ref a_p2]) (ws' := wdL_commands cI cJ a_t a_t_rig a_t_rig_circuit a_p2 u_t_reader u_t_trial u_t_snapshot u_t_spare u_t_rig_sequence u_t_rig_log u_t_rig_score u_t_rig_strokes u_t_rig_positions u_t_rig_timers u_t_rig_faults t t_rig t_rig_circuit p2) E K w hA (kX7_commands l D cI cJ a_t a_t_rig a_t_rig_circuit u_t_reader u_t_trial u_t_snapshot u_t_spare u_t_rig_sequence u_t_rig_log u_t_rig_score u_t_rig_strokes u_t_rig_positions u_t_rig_timers u_t_rig_faults t t_rig t_rig_circuit x1 v1 hC) (bq_gV ml_L_75 im_X7_commands sl_X7_commands in_X7 cd_X7_commands) hd_X7_commands ⟨Nat.le_of_ble_eq_true rfl, Nat.le_of_ble_eq_true rfl⟩ ⟨Nat.le_of_ble_eq_true rfl, Nat.le_of_ble_eq_true rfl⟩ ⟨[0, 1, 2], [3], [1, 2, 3, 0], rfl, rfl, rfl, rfl, rfl, rfl, rfl, rfl, rfl⟩ 0 rfl rfl rfl hl.1 rfl (Nat.le_of_ble_eq_true rfl) rfl dL_commands_4 (fun H locs w => bq_z ⟨rfl, rfl⟩ ?_)
  clear hC
  refine lv_i2l hx hb dL_commands_7 rfl ?_
  obtain ⟨p2_2, e9, hm⟩ := bq_let_el hm
  refine bq_lastk E K w 3 rfl 0 (by decide) (by unfold vp_in; decide) dL_commands_8 (fun H locs w => ?_)
  replace w : bq_w D A s.heap (wdL_commands cI cJ a_t a_t_rig a_t_rig_circuit a_p2 u_t_reader u_t_trial u_t_snapshot u_t_spare u_t_rig_sequence u_t_rig_log u_t_rig_score u_t_rig_strokes u_t_rig_positions u_t_rig_timers u_t_rig_faults t t_rig t_rig_circuit p2_2) H locs := by rw [e9]; exact w
  clear e9
  refine lv_goto (tgt := 15) hx hb dL_commands_9 (by decide) ?_
  refine lv_iconst (v := 0) hx hb dL_commands_15 (by decide) ?_
  obtain ⟨rfl, rfl⟩ := bq_in2 (Option.some.inj hm)
  exact bq_hret E w hr hk dL_commands_16 hQ
abbrev rmTL_commands : Room := { frames := 8, cells := 1, slots := 6, locals := 141 }
set_option maxHeartbeats 4000000 in
set_option maxRecDepth 100000 in
theorem tkL_commands {l : Launch} (hlf : l.stackTraces = false) (D : va_G) (cI cJ : ClassId) (a_t a_t_rig a_t_rig_circuit a_p2 u_t_reader u_t_trial u_t_snapshot u_t_spare u_t_rig_sequence u_t_rig_log u_t_rig_score u_t_rig_strokes u_t_rig_positions u_t_rig_timers u_t_rig_faults : Nat) (t : Nat → Int32) (t_rig : Nat → Int32) (t_rig_circuit : Nat → Int32) (p2 : Nat → Int64) (x1 : Int32) (r : Int32) (hm : tL_commands t_rig_circuit p2 x1 = some r) : bq_MH l D cI cJ yL_commands cL_commands 4 (some .int) [(0, 9, 12, 20)] rmTL_commands [.ref a_t, .int x1, .ref a_p2] (wdL_commands cI cJ a_t a_t_rig a_t_rig_circuit a_p2 u_t_reader u_t_trial u_t_snapshot u_t_spare u_t_rig_sequence u_t_rig_log u_t_rig_score u_t_rig_strokes u_t_rig_positions u_t_rig_timers u_t_rig_faults t t_rig t_rig_circuit p2) (wdL_commands cI cJ a_t a_t_rig a_t_rig_circuit a_p2 u_t_reader u_t_trial u_t_snapshot u_t_spare u_t_rig_sequence u_t_rig_log u_t_rig_score u_t_rig_strokes u_t_rig_positions u_t_rig_timers u_t_rig_faults t t_rig t_rig_circuit p2) (some (.int r)) := by
  refine bq_startH (by decide) (Nat.le_of_ble_eq_true rfl) ?_
  intro p e s m av9 below meth c A ls Q H locs E K w hA hr hk hX htab hQ hl
  have E : bq_E p m c cL_commands 4 s av9 RL := E
  have hx := E.1
  have hb := E.2.1
  have hl : lv_has ls 4 [(0, .ref a_t), (1, .int x1), (2, .ref a_p2)] := hl
  unfold tL_commands at hm
  refine lv_aload_n hx hb dL_commands_0 rfl (lv_at hl 2 rfl) ?_
  refine lv_iconst (v := 0) hx hb dL_commands_1 (by decide) ?_
  refine lv_aload_n hx hb dL_commands_2 rfl (lv_at hl 0 rfl) ?_
  refine lv_iload_n hx hb dL_commands_3 rfl (lv_at hl 1 rfl) ?_
  obtain ⟨k9, hC, hm⟩ := bq_bd_el hm
  by_cases hq : k9 = 2
  · subst hq
    replace hm := bq_t rfl hm
    obtain rfl := Option.some.inj hm
    refine bq_HV (As := [.int x1]) (rest := [.int 0, .ref a_p2]) E K w hA hX ⟨rfl, rfl⟩ (tkX7_commands hlf D cI cJ a_t a_t_rig a_t_rig_circuit u_t_reader u_t_trial u_t_snapshot u_t_spare u_t_rig_sequence u_t_rig_log u_t_rig_score u_t_rig_strokes u_t_rig_positions u_t_rig_timers u_t_rig_faults t t_rig t_rig_circuit x1 _ hC) (bq_gV ml_L_75 im_X7_commands sl_X7_commands in_X7 cd_X7_commands) hd_X7_commands ⟨Nat.le_of_ble_eq_true rfl, Nat.le_of_ble_eq_true rfl⟩ ⟨Nat.le_of_ble_eq_true rfl, Nat.le_of_ble_eq_true rfl⟩ ⟨[0, 1, 2], [3], [1, 2, 3, 0], rfl, rfl, rfl, rfl, rfl, rfl, rfl, rfl, rfl⟩ 0 rfl rfl rfl hl.1 rfl (Nat.le_of_ble_eq_true rfl) dL_commands_4 (fun q9 ce H locs w h1 h2 h3 => ?_)
    refine vx_catch (E := "java/lang/IndexOutOfBoundsException") (name := "java/lang/IndexOutOfBoundsException") E.2.2.2.1 [] ⟨0, 9, 12, 20⟩ [] (by rw [htab]; rfl) (fun z h => by cases h) (by decide) (by decide) (E.2.2.2.2 _ cl_L_20) (va_Nw.use rfl (K.2 _ mc_IndexOutOfBoundsException)) h1 h2 h3 ?_
    refine lv_astore_n (lv' := [(3, .ref q9), (0, .ref a_t), (1, .int x1), (2, .ref a_p2)]) hx hb dL_commands_12 rfl hl (by decide) rfl (fun ls hl => ?_)
    refine lv_iconst (v := 1) hx hb dL_commands_13 (by decide) ?_
    exact bq_hret E w hr hk dL_commands_14 hQ
  replace hm := bq_f hq hm
  cases hm
abbrev wdL_eventTime (cI : ClassId) (cJ : ClassId) (a_t a_t_rig a_t_rig_log a_t_rig_log_times a_p2 u_t_reader u_t_trial u_t_snapshot u_t_spare u_t_rig_sequence u_t_rig_circuit u_t_rig_score u_t_rig_strokes u_t_rig_positions u_t_rig_timers u_t_rig_faults u_t_rig_log_moves : Nat) (t : Nat → Int32) (t_rig : Nat → Int32) (t_rig_log : Nat → Int32) (t_rig_log_times : Nat → Int32) (p2 : Nat → Int64) : va_W := [(a_t, oX7 u_t_reader a_t_rig u_t_trial u_t_snapshot u_t_spare t), (a_t_rig, oX3 u_t_rig_sequence u_t_rig_circuit a_t_rig_log u_t_rig_score u_t_rig_strokes u_t_rig_positions u_t_rig_timers u_t_rig_faults t_rig), (a_t_rig_log, oX1 a_t_rig_log_times u_t_rig_log_moves t_rig_log), (a_t_rig_log_times, oA cI 40 t_rig_log_times), (a_p2, oJ cJ 1 p2)]
abbrev rmL_eventTime : Room := { frames := 2, cells := 0, slots := 0, locals := 43 }
theorem hs_L_eventTime : yL_eventTime.cls ≠ "java/lang/invoke/MethodHandle" ∧ yL_eventTime.cls ≠ "java/lang/invoke/VarHandle" ∧ (parseMethodDescriptor yL_eventTime.desc).map (fun d => d.parameters.length) = some 3 := by decide +kernel
set_option maxHeartbeats 4000000 in
set_option maxRecDepth 100000 in
theorem kL_eventTime (l : Launch) (D : va_G) (cI cJ : ClassId) (a_t a_t_rig a_t_rig_log a_t_rig_log_times a_p2 u_t_reader u_t_trial u_t_snapshot u_t_spare u_t_rig_sequence u_t_rig_circuit u_t_rig_score u_t_rig_strokes u_t_rig_positions u_t_rig_timers u_t_rig_faults u_t_rig_log_moves : Nat) (t : Nat → Int32) (t_rig : Nat → Int32) (t_rig_log : Nat → Int32) (t_rig_log_times : Nat → Int32) (p2 : Nat → Int64) (x1 : Int32) (r : Int32) (p2_o : Nat → Int64) (hm : mL_eventTime t_rig_log t_rig_log_times p2 x1 = some (r, p2_o)) : bq_MH l D cI cJ yL_eventTime cL_eventTime 4 (some .int) [(0, 9, 12, 20)] rmL_eventTime [.ref a_t, .int x1, .ref a_p2] (wdL_eventTime cI cJ a_t a_t_rig a_t_rig_log a_t_rig_log_times a_p2 u_t_reader u_t_trial u_t_snapshot u_t_spare u_t_rig_sequence u_t_rig_circuit u_t_rig_score u_t_rig_strokes u_t_rig_positions u_t_rig_timers u_t_rig_faults u_t_rig_log_moves t t_rig t_rig_log t_rig_log_times p2) (wdL_eventTime cI cJ a_t a_t_rig a_t_rig_log a_t_rig_log_times a_p2 u_t_reader u_t_trial u_t_snapshot u_t_spare u_t_rig_sequence u_t_rig_circuit u_t_rig_score u_t_rig_strokes u_t_rig_positions u_t_rig_timers u_t_rig_faults u_t_rig_log_moves t t_rig t_rig_log t_rig_log_times p2_o) (some (.int r)) := by
  refine bq_startH (by decide) (Nat.le_of_ble_eq_true rfl) ?_
  intro p e s m av9 below meth c A ls Q H locs E K w hA hr hk hX htab hQ hl
  have E : bq_E p m c cL_eventTime 4 s av9 RL := E
  have hx := E.1
  have hb := E.2.1
  have hl : lv_has ls 4 [(0, .ref a_t), (1, .int x1), (2, .ref a_p2)] := hl
  unfold mL_eventTime at hm
  refine lv_aload_n hx hb dL_eventTime_0 rfl (lv_at hl 2 rfl) ?_
  refine lv_iconst (v := 0) hx hb dL_eventTime_1 (by decide) ?_
  refine lv_aload_n hx hb dL_eventTime_2 rfl (lv_at hl 0 rfl) ?_
  refine lv_iload_n hx hb dL_eventTime_3 rfl (lv_at hl 1 rfl) ?_
  obtain ⟨v1, hC, hm⟩ := bq_bd_el hm
  refine bq_V (As := [.int x1]) (rest := [.int 0, .ref a_p2]) (st1 := [.int v1, .int 0, .ref a_p2]) (ws' := wdL_eventTime cI cJ a_t a_t_rig a_t_rig_log a_t_rig_log_times a_p2 u_t_reader u_t_trial u_t_snapshot u_t_spare u_t_rig_sequence u_t_rig_circuit u_t_rig_score u_t_rig_strokes u_t_rig_positions u_t_rig_timers u_t_rig_faults u_t_rig_log_moves t t_rig t_rig_log t_rig_log_times p2) E K w hA (kX7_eventTime l D cI cJ a_t a_t_rig a_t_rig_log a_t_rig_log_times u_t_reader u_t_trial u_t_snapshot u_t_spare u_t_rig_sequence u_t_rig_circuit u_t_rig_score u_t_rig_strokes u_t_rig_positions u_t_rig_timers u_t_rig_faults u_t_rig_log_moves t t_rig t_rig_log t_rig_log_times x1 v1 hC) (bq_gV ml_L_78 im_X7_eventTime sl_X7_eventTime in_X7 cd_X7_eventTime) hd_X7_eventTime ⟨Nat.le_of_ble_eq_true rfl, Nat.le_of_ble_eq_true rfl⟩ ⟨Nat.le_of_ble_eq_true rfl, Nat.le_of_ble_eq_true rfl⟩ ⟨[0, 1, 2, 3], [4], [1, 2, 3, 4, 0], rfl, rfl, rfl, rfl, rfl, rfl, rfl, rfl, rfl⟩ 0 rfl rfl rfl hl.1 rfl (Nat.le_of_ble_eq_true rfl) rfl dL_eventTime_4 (fun H locs w => bq_z ⟨rfl, rfl⟩ ?_)
  clear hC
  refine lv_i2l hx hb dL_eventTime_7 rfl ?_
  obtain ⟨p2_2, e9, hm⟩ := bq_let_el hm
  refine bq_lastk E K w 4 rfl 0 (by decide) (by unfold vp_in; decide) dL_eventTime_8 (fun H locs w => ?_)
  replace w : bq_w D A s.heap (wdL_eventTime cI cJ a_t a_t_rig a_t_rig_log a_t_rig_log_times a_p2 u_t_reader u_t_trial u_t_snapshot u_t_spare u_t_rig_sequence u_t_rig_circuit u_t_rig_score u_t_rig_strokes u_t_rig_positions u_t_rig_timers u_t_rig_faults u_t_rig_log_moves t t_rig t_rig_log t_rig_log_times p2_2) H locs := by rw [e9]; exact w
  clear e9
  refine lv_goto (tgt := 15) hx hb dL_eventTime_9 (by decide) ?_
  refine lv_iconst (v := 0) hx hb dL_eventTime_15 (by decide) ?_
  obtain ⟨rfl, rfl⟩ := bq_in2 (Option.some.inj hm)
  exact bq_hret E w hr hk dL_eventTime_16 hQ
abbrev rmTL_eventTime : Room := { frames := 8, cells := 1, slots := 6, locals := 142 }
set_option maxHeartbeats 4000000 in
set_option maxRecDepth 100000 in
theorem tkL_eventTime {l : Launch} (hlf : l.stackTraces = false) (D : va_G) (cI cJ : ClassId) (a_t a_t_rig a_t_rig_log a_t_rig_log_times a_p2 u_t_reader u_t_trial u_t_snapshot u_t_spare u_t_rig_sequence u_t_rig_circuit u_t_rig_score u_t_rig_strokes u_t_rig_positions u_t_rig_timers u_t_rig_faults u_t_rig_log_moves : Nat) (t : Nat → Int32) (t_rig : Nat → Int32) (t_rig_log : Nat → Int32) (t_rig_log_times : Nat → Int32) (p2 : Nat → Int64) (x1 : Int32) (r : Int32) (hm : tL_eventTime t_rig_log t_rig_log_times p2 x1 = some r) : bq_MH l D cI cJ yL_eventTime cL_eventTime 4 (some .int) [(0, 9, 12, 20)] rmTL_eventTime [.ref a_t, .int x1, .ref a_p2] (wdL_eventTime cI cJ a_t a_t_rig a_t_rig_log a_t_rig_log_times a_p2 u_t_reader u_t_trial u_t_snapshot u_t_spare u_t_rig_sequence u_t_rig_circuit u_t_rig_score u_t_rig_strokes u_t_rig_positions u_t_rig_timers u_t_rig_faults u_t_rig_log_moves t t_rig t_rig_log t_rig_log_times p2) (wdL_eventTime cI cJ a_t a_t_rig a_t_rig_log a_t_rig_log_times a_p2 u_t_reader u_t_trial u_t_snapshot u_t_spare u_t_rig_sequence u_t_rig_circuit u_t_rig_score u_t_rig_strokes u_t_rig_positions u_t_rig_timers u_t_rig_faults u_t_rig_log_moves t t_rig t_rig_log t_rig_log_times p2) (some (.int r)) := by
  refine bq_startH (by decide) (Nat.le_of_ble_eq_true rfl) ?_
  intro p e s m av9 below meth c A ls Q H locs E K w hA hr hk hX htab hQ hl
  have E : bq_E p m c cL_eventTime 4 s av9 RL := E
  have hx := E.1
  have hb := E.2.1
  have hl : lv_has ls 4 [(0, .ref a_t), (1, .int x1), (2, .ref a_p2)] := hl
  unfold tL_eventTime at hm
  refine lv_aload_n hx hb dL_eventTime_0 rfl (lv_at hl 2 rfl) ?_
  refine lv_iconst (v := 0) hx hb dL_eventTime_1 (by decide) ?_
  refine lv_aload_n hx hb dL_eventTime_2 rfl (lv_at hl 0 rfl) ?_
  refine lv_iload_n hx hb dL_eventTime_3 rfl (lv_at hl 1 rfl) ?_
  obtain ⟨k9, hC, hm⟩ := bq_bd_el hm
  by_cases hq : k9 = 2
  · subst hq
    replace hm := bq_t rfl hm
    obtain rfl := Option.some.inj hm
    refine bq_HV (As := [.int x1]) (rest := [.int 0, .ref a_p2]) E K w hA hX ⟨rfl, rfl⟩ (tkX7_eventTime hlf D cI cJ a_t a_t_rig a_t_rig_log a_t_rig_log_times u_t_reader u_t_trial u_t_snapshot u_t_spare u_t_rig_sequence u_t_rig_circuit u_t_rig_score u_t_rig_strokes u_t_rig_positions u_t_rig_timers u_t_rig_faults u_t_rig_log_moves t t_rig t_rig_log t_rig_log_times x1 _ hC) (bq_gV ml_L_78 im_X7_eventTime sl_X7_eventTime in_X7 cd_X7_eventTime) hd_X7_eventTime ⟨Nat.le_of_ble_eq_true rfl, Nat.le_of_ble_eq_true rfl⟩ ⟨Nat.le_of_ble_eq_true rfl, Nat.le_of_ble_eq_true rfl⟩ ⟨[0, 1, 2, 3], [4], [1, 2, 3, 4, 0], rfl, rfl, rfl, rfl, rfl, rfl, rfl, rfl, rfl⟩ 0 rfl rfl rfl hl.1 rfl (Nat.le_of_ble_eq_true rfl) dL_eventTime_4 (fun q9 ce H locs w h1 h2 h3 => ?_)
    refine vx_catch (E := "java/lang/IndexOutOfBoundsException") (name := "java/lang/IndexOutOfBoundsException") E.2.2.2.1 [] ⟨0, 9, 12, 20⟩ [] (by rw [htab]; rfl) (fun z h => by cases h) (by decide) (by decide) (E.2.2.2.2 _ cl_L_20) (va_Nw.use rfl (K.2 _ mc_IndexOutOfBoundsException)) h1 h2 h3 ?_
    refine lv_astore_n (lv' := [(3, .ref q9), (0, .ref a_t), (1, .int x1), (2, .ref a_p2)]) hx hb dL_eventTime_12 rfl hl (by decide) rfl (fun ls hl => ?_)
    refine lv_iconst (v := 1) hx hb dL_eventTime_13 (by decide) ?_
    exact bq_hret E w hr hk dL_eventTime_14 hQ
  replace hm := bq_f hq hm
  cases hm
abbrev wdL_eventMove (cI : ClassId) (cJ : ClassId) (a_t a_t_rig a_t_rig_log a_t_rig_log_moves a_p2 u_t_reader u_t_trial u_t_snapshot u_t_spare u_t_rig_sequence u_t_rig_circuit u_t_rig_score u_t_rig_strokes u_t_rig_positions u_t_rig_timers u_t_rig_faults u_t_rig_log_times : Nat) (t : Nat → Int32) (t_rig : Nat → Int32) (t_rig_log : Nat → Int32) (t_rig_log_moves : Nat → Int32) (p2 : Nat → Int64) : va_W := [(a_t, oX7 u_t_reader a_t_rig u_t_trial u_t_snapshot u_t_spare t), (a_t_rig, oX3 u_t_rig_sequence u_t_rig_circuit a_t_rig_log u_t_rig_score u_t_rig_strokes u_t_rig_positions u_t_rig_timers u_t_rig_faults t_rig), (a_t_rig_log, oX1 u_t_rig_log_times a_t_rig_log_moves t_rig_log), (a_t_rig_log_moves, oA cI 40 t_rig_log_moves), (a_p2, oJ cJ 1 p2)]
abbrev rmL_eventMove : Room := { frames := 2, cells := 0, slots := 0, locals := 43 }
theorem hs_L_eventMove : yL_eventMove.cls ≠ "java/lang/invoke/MethodHandle" ∧ yL_eventMove.cls ≠ "java/lang/invoke/VarHandle" ∧ (parseMethodDescriptor yL_eventMove.desc).map (fun d => d.parameters.length) = some 3 := by decide +kernel
set_option maxHeartbeats 4000000 in
set_option maxRecDepth 100000 in
theorem kL_eventMove (l : Launch) (D : va_G) (cI cJ : ClassId) (a_t a_t_rig a_t_rig_log a_t_rig_log_moves a_p2 u_t_reader u_t_trial u_t_snapshot u_t_spare u_t_rig_sequence u_t_rig_circuit u_t_rig_score u_t_rig_strokes u_t_rig_positions u_t_rig_timers u_t_rig_faults u_t_rig_log_times : Nat) (t : Nat → Int32) (t_rig : Nat → Int32) (t_rig_log : Nat → Int32) (t_rig_log_moves : Nat → Int32) (p2 : Nat → Int64) (x1 : Int32) (r : Int32) (p2_o : Nat → Int64) (hm : mL_eventMove t_rig_log t_rig_log_moves p2 x1 = some (r, p2_o)) : bq_MH l D cI cJ yL_eventMove cL_eventMove 4 (some .int) [(0, 9, 12, 20)] rmL_eventMove [.ref a_t, .int x1, .ref a_p2] (wdL_eventMove cI cJ a_t a_t_rig a_t_rig_log a_t_rig_log_moves a_p2 u_t_reader u_t_trial u_t_snapshot u_t_spare u_t_rig_sequence u_t_rig_circuit u_t_rig_score u_t_rig_strokes u_t_rig_positions u_t_rig_timers u_t_rig_faults u_t_rig_log_times t t_rig t_rig_log t_rig_log_moves p2) (wdL_eventMove cI cJ a_t a_t_rig a_t_rig_log a_t_rig_log_moves a_p2 u_t_reader u_t_trial u_t_snapshot u_t_spare u_t_rig_sequence u_t_rig_circuit u_t_rig_score u_t_rig_strokes u_t_rig_positions u_t_rig_timers u_t_rig_faults u_t_rig_log_times t t_rig t_rig_log t_rig_log_moves p2_o) (some (.int r)) := by
  refine bq_startH (by decide) (Nat.le_of_ble_eq_true rfl) ?_
  intro p e s m av9 below meth c A ls Q H locs E K w hA hr hk hX htab hQ hl
  have E : bq_E p m c cL_eventMove 4 s av9 RL := E
  have hx := E.1
  have hb := E.2.1
  have hl : lv_has ls 4 [(0, .ref a_t), (1, .int x1), (2, .ref a_p2)] := hl
  unfold mL_eventMove at hm
  refine lv_aload_n hx hb dL_eventMove_0 rfl (lv_at hl 2 rfl) ?_
  refine lv_iconst (v := 0) hx hb dL_eventMove_1 (by decide) ?_
  refine lv_aload_n hx hb dL_eventMove_2 rfl (lv_at hl 0 rfl) ?_
  refine lv_iload_n hx hb dL_eventMove_3 rfl (lv_at hl 1 rfl) ?_
  obtain ⟨v1, hC, hm⟩ := bq_bd_el hm
  refine bq_V (As := [.int x1]) (rest := [.int 0, .ref a_p2]) (st1 := [.int v1, .int 0, .ref a_p2]) (ws' := wdL_eventMove cI cJ a_t a_t_rig a_t_rig_log a_t_rig_log_moves a_p2 u_t_reader u_t_trial u_t_snapshot u_t_spare u_t_rig_sequence u_t_rig_circuit u_t_rig_score u_t_rig_strokes u_t_rig_positions u_t_rig_timers u_t_rig_faults u_t_rig_log_times t t_rig t_rig_log t_rig_log_moves p2) E K w hA (kX7_eventMove l D cI cJ a_t a_t_rig a_t_rig_log a_t_rig_log_moves u_t_reader u_t_trial u_t_snapshot u_t_spare u_t_rig_sequence u_t_rig_circuit u_t_rig_score u_t_rig_strokes u_t_rig_positions u_t_rig_timers u_t_rig_faults u_t_rig_log_times t t_rig t_rig_log t_rig_log_moves x1 v1 hC) (bq_gV ml_L_81 im_X7_eventMove sl_X7_eventMove in_X7 cd_X7_eventMove) hd_X7_eventMove ⟨Nat.le_of_ble_eq_true rfl, Nat.le_of_ble_eq_true rfl⟩ ⟨Nat.le_of_ble_eq_true rfl, Nat.le_of_ble_eq_true rfl⟩ ⟨[0, 1, 2, 3], [4], [1, 2, 3, 4, 0], rfl, rfl, rfl, rfl, rfl, rfl, rfl, rfl, rfl⟩ 0 rfl rfl rfl hl.1 rfl (Nat.le_of_ble_eq_true rfl) rfl dL_eventMove_4 (fun H locs w => bq_z ⟨rfl, rfl⟩ ?_)
  clear hC
  refine lv_i2l hx hb dL_eventMove_7 rfl ?_
  obtain ⟨p2_2, e9, hm⟩ := bq_let_el hm
  refine bq_lastk E K w 4 rfl 0 (by decide) (by unfold vp_in; decide) dL_eventMove_8 (fun H locs w => ?_)
  replace w : bq_w D A s.heap (wdL_eventMove cI cJ a_t a_t_rig a_t_rig_log a_t_rig_log_moves a_p2 u_t_reader u_t_trial u_t_snapshot u_t_spare u_t_rig_sequence u_t_rig_circuit u_t_rig_score u_t_rig_strokes u_t_rig_positions u_t_rig_timers u_t_rig_faults u_t_rig_log_times t t_rig t_rig_log t_rig_log_moves p2_2) H locs := by rw [e9]; exact w
  clear e9
  refine lv_goto (tgt := 15) hx hb dL_eventMove_9 (by decide) ?_
  refine lv_iconst (v := 0) hx hb dL_eventMove_15 (by decide) ?_
  obtain ⟨rfl, rfl⟩ := bq_in2 (Option.some.inj hm)
  exact bq_hret E w hr hk dL_eventMove_16 hQ
abbrev rmTL_eventMove : Room := { frames := 8, cells := 1, slots := 6, locals := 142 }
set_option maxHeartbeats 4000000 in
set_option maxRecDepth 100000 in
theorem tkL_eventMove {l : Launch} (hlf : l.stackTraces = false) (D : va_G) (cI cJ : ClassId) (a_t a_t_rig a_t_rig_log a_t_rig_log_moves a_p2 u_t_reader u_t_trial u_t_snapshot u_t_spare u_t_rig_sequence u_t_rig_circuit u_t_rig_score u_t_rig_strokes u_t_rig_positions u_t_rig_timers u_t_rig_faults u_t_rig_log_times : Nat) (t : Nat → Int32) (t_rig : Nat → Int32) (t_rig_log : Nat → Int32) (t_rig_log_moves : Nat → Int32) (p2 : Nat → Int64) (x1 : Int32) (r : Int32) (hm : tL_eventMove t_rig_log t_rig_log_moves p2 x1 = some r) : bq_MH l D cI cJ yL_eventMove cL_eventMove 4 (some .int) [(0, 9, 12, 20)] rmTL_eventMove [.ref a_t, .int x1, .ref a_p2] (wdL_eventMove cI cJ a_t a_t_rig a_t_rig_log a_t_rig_log_moves a_p2 u_t_reader u_t_trial u_t_snapshot u_t_spare u_t_rig_sequence u_t_rig_circuit u_t_rig_score u_t_rig_strokes u_t_rig_positions u_t_rig_timers u_t_rig_faults u_t_rig_log_times t t_rig t_rig_log t_rig_log_moves p2) (wdL_eventMove cI cJ a_t a_t_rig a_t_rig_log a_t_rig_log_moves a_p2 u_t_reader u_t_trial u_t_snapshot u_t_spare u_t_rig_sequence u_t_rig_circuit u_t_rig_score u_t_rig_strokes u_t_rig_positions u_t_rig_timers u_t_rig_faults u_t_rig_log_times t t_rig t_rig_log t_rig_log_moves p2) (some (.int r)) := by
  refine bq_startH (by decide) (Nat.le_of_ble_eq_true rfl) ?_
  intro p e s m av9 below meth c A ls Q H locs E K w hA hr hk hX htab hQ hl
  have E : bq_E p m c cL_eventMove 4 s av9 RL := E
  have hx := E.1
  have hb := E.2.1
  have hl : lv_has ls 4 [(0, .ref a_t), (1, .int x1), (2, .ref a_p2)] := hl
  unfold tL_eventMove at hm
  refine lv_aload_n hx hb dL_eventMove_0 rfl (lv_at hl 2 rfl) ?_
  refine lv_iconst (v := 0) hx hb dL_eventMove_1 (by decide) ?_
  refine lv_aload_n hx hb dL_eventMove_2 rfl (lv_at hl 0 rfl) ?_
  refine lv_iload_n hx hb dL_eventMove_3 rfl (lv_at hl 1 rfl) ?_
  obtain ⟨k9, hC, hm⟩ := bq_bd_el hm
  by_cases hq : k9 = 2
  · subst hq
    replace hm := bq_t rfl hm
    obtain rfl := Option.some.inj hm
    refine bq_HV (As := [.int x1]) (rest := [.int 0, .ref a_p2]) E K w hA hX ⟨rfl, rfl⟩ (tkX7_eventMove hlf D cI cJ a_t a_t_rig a_t_rig_log a_t_rig_log_moves u_t_reader u_t_trial u_t_snapshot u_t_spare u_t_rig_sequence u_t_rig_circuit u_t_rig_score u_t_rig_strokes u_t_rig_positions u_t_rig_timers u_t_rig_faults u_t_rig_log_times t t_rig t_rig_log t_rig_log_moves x1 _ hC) (bq_gV ml_L_81 im_X7_eventMove sl_X7_eventMove in_X7 cd_X7_eventMove) hd_X7_eventMove ⟨Nat.le_of_ble_eq_true rfl, Nat.le_of_ble_eq_true rfl⟩ ⟨Nat.le_of_ble_eq_true rfl, Nat.le_of_ble_eq_true rfl⟩ ⟨[0, 1, 2, 3], [4], [1, 2, 3, 4, 0], rfl, rfl, rfl, rfl, rfl, rfl, rfl, rfl, rfl⟩ 0 rfl rfl rfl hl.1 rfl (Nat.le_of_ble_eq_true rfl) dL_eventMove_4 (fun q9 ce H locs w h1 h2 h3 => ?_)
    refine vx_catch (E := "java/lang/IndexOutOfBoundsException") (name := "java/lang/IndexOutOfBoundsException") E.2.2.2.1 [] ⟨0, 9, 12, 20⟩ [] (by rw [htab]; rfl) (fun z h => by cases h) (by decide) (by decide) (E.2.2.2.2 _ cl_L_20) (va_Nw.use rfl (K.2 _ mc_IndexOutOfBoundsException)) h1 h2 h3 ?_
    refine lv_astore_n (lv' := [(3, .ref q9), (0, .ref a_t), (1, .int x1), (2, .ref a_p2)]) hx hb dL_eventMove_12 rfl hl (by decide) rfl (fun ls hl => ?_)
    refine lv_iconst (v := 1) hx hb dL_eventMove_13 (by decide) ?_
    exact bq_hret E w hr hk dL_eventMove_14 hQ
  replace hm := bq_f hq hm
  cases hm
abbrev wdL_works (cI : ClassId) (cJ : ClassId) (a_t a_t_rig a_t_rig_sequence a_t_rig_sequence_cuts a_t_rig_sequence_groupOfStep a_t_rig_sequence_minus a_t_rig_sequence_pauses a_t_rig_sequence_plus a_t_rig_strokes a_t_trial a_t_trial_circuit a_t_trial_faults a_t_trial_log a_t_trial_log_moves a_t_trial_log_times a_t_trial_positions a_t_trial_score a_t_trial_strokes a_t_trial_timers a_p2 u_t_reader u_t_snapshot u_t_spare u_t_rig_circuit u_t_rig_log u_t_rig_score u_t_rig_positions u_t_rig_timers u_t_rig_faults u_t_rig_sequence_outBefore m_0 : Nat) (t : Nat → Int32) (t_rig : Nat → Int32) (t_rig_sequence : Nat → Int32) (t_rig_sequence_cuts : Nat → Int32) (t_rig_sequence_groupOfStep : Nat → Int32) (t_rig_sequence_minus : Nat → Int32) (t_rig_sequence_pauses : Nat → Int32) (t_rig_sequence_plus : Nat → Int32) (t_rig_strokes : Nat → Int32) (t_trial : Nat → Int32) (t_trial_circuit : Nat → Int32) (t_trial_faults : Nat → Int32) (t_trial_log : Nat → Int32) (t_trial_log_moves : Nat → Int32) (t_trial_log_times : Nat → Int32) (t_trial_positions : Nat → Int32) (t_trial_score : Nat → Int32) (t_trial_strokes : Nat → Int32) (t_trial_timers : Nat → Int32) (p2 : Nat → Int64) : va_W := [(a_t, oX7 u_t_reader a_t_rig a_t_trial u_t_snapshot u_t_spare t), (a_t_rig, oX3 a_t_rig_sequence u_t_rig_circuit u_t_rig_log u_t_rig_score a_t_rig_strokes u_t_rig_positions u_t_rig_timers u_t_rig_faults t_rig), (a_t_rig_sequence, oX5 a_t_rig_sequence_plus a_t_rig_sequence_minus a_t_rig_sequence_pauses u_t_rig_sequence_outBefore a_t_rig_sequence_cuts a_t_rig_sequence_groupOfStep t_rig_sequence), (a_t_rig_sequence_cuts, oA cI 16 t_rig_sequence_cuts), (a_t_rig_sequence_groupOfStep, oA cI 16 t_rig_sequence_groupOfStep), (a_t_rig_sequence_minus, oA cI 16 t_rig_sequence_minus), (a_t_rig_sequence_pauses, oA cI 16 t_rig_sequence_pauses), (a_t_rig_sequence_plus, oA cI 16 t_rig_sequence_plus), (a_t_rig_strokes, oA cI 6 t_rig_strokes), (a_t_trial, oX3 m_0 a_t_trial_circuit a_t_trial_log a_t_trial_score a_t_trial_strokes a_t_trial_positions a_t_trial_timers a_t_trial_faults t_trial), (a_t_trial_circuit, oX0 t_trial_circuit), (a_t_trial_faults, oA cI 5 t_trial_faults), (a_t_trial_log, oX1 a_t_trial_log_times a_t_trial_log_moves t_trial_log), (a_t_trial_log_moves, oA cI 40 t_trial_log_moves), (a_t_trial_log_times, oA cI 40 t_trial_log_times), (a_t_trial_positions, oA cI 6 t_trial_positions), (a_t_trial_score, oX4 t_trial_score), (a_t_trial_strokes, oA cI 6 t_trial_strokes), (a_t_trial_timers, oA cI 16 t_trial_timers), (a_p2, oJ cJ 1 p2)]
abbrev rmL_works : Room := { frames := 6, cells := 0, slots := 0, locals := 139 }
theorem hs_L_works : yL_works.cls ≠ "java/lang/invoke/MethodHandle" ∧ yL_works.cls ≠ "java/lang/invoke/VarHandle" ∧ (parseMethodDescriptor yL_works.desc).map (fun d => d.parameters.length) = some 3 := by decide +kernel
set_option maxHeartbeats 4000000 in
set_option maxRecDepth 100000 in
theorem kL_works (l : Launch) (D : va_G) (cI cJ : ClassId) (a_t a_t_rig a_t_rig_sequence a_t_rig_sequence_cuts a_t_rig_sequence_groupOfStep a_t_rig_sequence_minus a_t_rig_sequence_pauses a_t_rig_sequence_plus a_t_rig_strokes a_t_trial a_t_trial_circuit a_t_trial_faults a_t_trial_log a_t_trial_log_moves a_t_trial_log_times a_t_trial_positions a_t_trial_score a_t_trial_strokes a_t_trial_timers a_p2 u_t_reader u_t_snapshot u_t_spare u_t_rig_circuit u_t_rig_log u_t_rig_score u_t_rig_positions u_t_rig_timers u_t_rig_faults u_t_rig_sequence_outBefore r_t_trial_sequence : Nat) (t : Nat → Int32) (t_rig : Nat → Int32) (t_rig_sequence : Nat → Int32) (t_rig_sequence_cuts : Nat → Int32) (t_rig_sequence_groupOfStep : Nat → Int32) (t_rig_sequence_minus : Nat → Int32) (t_rig_sequence_pauses : Nat → Int32) (t_rig_sequence_plus : Nat → Int32) (t_rig_strokes : Nat → Int32) (t_trial : Nat → Int32) (t_trial_circuit : Nat → Int32) (t_trial_faults : Nat → Int32) (t_trial_log : Nat → Int32) (t_trial_log_moves : Nat → Int32) (t_trial_log_times : Nat → Int32) (t_trial_positions : Nat → Int32) (t_trial_score : Nat → Int32) (t_trial_strokes : Nat → Int32) (t_trial_timers : Nat → Int32) (p2 : Nat → Int64) (x1 : Int32) (r : Int32) (t_trial_o : Nat → Int32) (t_trial_circuit_o : Nat → Int32) (t_trial_faults_o : Nat → Int32) (t_trial_log_o : Nat → Int32) (t_trial_log_moves_o : Nat → Int32) (t_trial_log_times_o : Nat → Int32) (t_trial_positions_o : Nat → Int32) (t_trial_score_o : Nat → Int32) (t_trial_strokes_o : Nat → Int32) (t_trial_timers_o : Nat → Int32) (p2_o : Nat → Int64) (hm : mL_works t_rig_sequence t_rig_sequence_cuts t_rig_sequence_groupOfStep t_rig_sequence_minus t_rig_sequence_pauses t_rig_sequence_plus t_rig_strokes t_trial t_trial_circuit t_trial_faults t_trial_log t_trial_log_moves t_trial_log_times t_trial_positions t_trial_score t_trial_strokes t_trial_timers p2 x1 = some (r, t_trial_o, t_trial_circuit_o, t_trial_faults_o, t_trial_log_o, t_trial_log_moves_o, t_trial_log_times_o, t_trial_positions_o, t_trial_score_o, t_trial_strokes_o, t_trial_timers_o, p2_o)) : bq_MH l D cI cJ yL_works cL_works 4 (some .int) [(0, 16, 19, 13), (0, 16, 22, 15)] rmL_works [.ref a_t, .int x1, .ref a_p2] (wdL_works cI cJ a_t a_t_rig a_t_rig_sequence a_t_rig_sequence_cuts a_t_rig_sequence_groupOfStep a_t_rig_sequence_minus a_t_rig_sequence_pauses a_t_rig_sequence_plus a_t_rig_strokes a_t_trial a_t_trial_circuit a_t_trial_faults a_t_trial_log a_t_trial_log_moves a_t_trial_log_times a_t_trial_positions a_t_trial_score a_t_trial_strokes a_t_trial_timers a_p2 u_t_reader u_t_snapshot u_t_spare u_t_rig_circuit u_t_rig_log u_t_rig_score u_t_rig_positions u_t_rig_timers u_t_rig_faults u_t_rig_sequence_outBefore r_t_trial_sequence t t_rig t_rig_sequence t_rig_sequence_cuts t_rig_sequence_groupOfStep t_rig_sequence_minus t_rig_sequence_pauses t_rig_sequence_plus t_rig_strokes t_trial t_trial_circuit t_trial_faults t_trial_log t_trial_log_moves t_trial_log_times t_trial_positions t_trial_score t_trial_strokes t_trial_timers p2) (wdL_works cI cJ a_t a_t_rig a_t_rig_sequence a_t_rig_sequence_cuts a_t_rig_sequence_groupOfStep a_t_rig_sequence_minus a_t_rig_sequence_pauses a_t_rig_sequence_plus a_t_rig_strokes a_t_trial a_t_trial_circuit a_t_trial_faults a_t_trial_log a_t_trial_log_moves a_t_trial_log_times a_t_trial_positions a_t_trial_score a_t_trial_strokes a_t_trial_timers a_p2 u_t_reader u_t_snapshot u_t_spare u_t_rig_circuit u_t_rig_log u_t_rig_score u_t_rig_positions u_t_rig_timers u_t_rig_faults u_t_rig_sequence_outBefore a_t_rig_sequence t t_rig t_rig_sequence t_rig_sequence_cuts t_rig_sequence_groupOfStep t_rig_sequence_minus t_rig_sequence_pauses t_rig_sequence_plus t_rig_strokes t_trial_o t_trial_circuit_o t_trial_faults_o t_trial_log_o t_trial_log_moves_o t_trial_log_times_o t_trial_positions_o t_trial_score_o t_trial_strokes_o t_trial_timers_o p2_o) (some (.int r)) := by
  refine bq_startH (by decide) (Nat.le_of_ble_eq_true rfl) ?_
  intro p e s m av9 below meth c A ls Q H locs E K w hA hr hk hX htab hQ hl
  have E : bq_E p m c cL_works 4 s av9 RL := E
  have hx := E.1
  have hb := E.2.1
  have hl : lv_has ls 4 [(0, .ref a_t), (1, .int x1), (2, .ref a_p2)] := hl
  unfold mL_works at hm
  refine lv_aload_n hx hb dL_works_0 rfl (lv_at hl 2 rfl) ?_
  refine lv_iconst (v := 0) hx hb dL_works_1 (by decide) ?_
  refine lv_aload_n hx hb dL_works_2 rfl (lv_at hl 0 rfl) ?_
  refine lv_iload_n hx hb dL_works_3 rfl (lv_at hl 1 rfl) ?_
  obtain ⟨v1, t_trial_2, t_trial_circuit_3, t_trial_faults_4, t_trial_log_5, t_trial_log_moves_6, t_trial_log_times_7, t_trial_positions_8, t_trial_score_9, t_trial_strokes_10, t_trial_timers_11, hC, hm⟩ := bq_b11_el hm
  refine bq_V (As := [.int x1]) (rest := [.int 0, .ref a_p2]) (st1 := [.int v1, .int 0, .ref a_p2]) (ws' := wdL_works cI cJ a_t a_t_rig a_t_rig_sequence a_t_rig_sequence_cuts a_t_rig_sequence_groupOfStep a_t_rig_sequence_minus a_t_rig_sequence_pauses a_t_rig_sequence_plus a_t_rig_strokes a_t_trial a_t_trial_circuit a_t_trial_faults a_t_trial_log a_t_trial_log_moves a_t_trial_log_times a_t_trial_positions a_t_trial_score a_t_trial_strokes a_t_trial_timers a_p2 u_t_reader u_t_snapshot u_t_spare u_t_rig_circuit u_t_rig_log u_t_rig_score u_t_rig_positions u_t_rig_timers u_t_rig_faults u_t_rig_sequence_outBefore a_t_rig_sequence t t_rig t_rig_sequence t_rig_sequence_cuts t_rig_sequence_groupOfStep t_rig_sequence_minus t_rig_sequence_pauses t_rig_sequence_plus t_rig_strokes t_trial_2 t_trial_circuit_3 t_trial_faults_4 t_trial_log_5 t_trial_log_moves_6 t_trial_log_times_7 t_trial_positions_8 t_trial_score_9 t_trial_strokes_10 t_trial_timers_11 p2) E K w hA (kX7_works l D cI cJ a_t a_t_rig a_t_rig_sequence a_t_rig_sequence_cuts a_t_rig_sequence_groupOfStep a_t_rig_sequence_minus a_t_rig_sequence_pauses a_t_rig_sequence_plus a_t_rig_strokes a_t_trial a_t_trial_circuit a_t_trial_faults a_t_trial_log a_t_trial_log_moves a_t_trial_log_times a_t_trial_positions a_t_trial_score a_t_trial_strokes a_t_trial_timers u_t_reader u_t_snapshot u_t_spare u_t_rig_circuit u_t_rig_log u_t_rig_score u_t_rig_positions u_t_rig_timers u_t_rig_faults u_t_rig_sequence_outBefore r_t_trial_sequence t t_rig t_rig_sequence t_rig_sequence_cuts t_rig_sequence_groupOfStep t_rig_sequence_minus t_rig_sequence_pauses t_rig_sequence_plus t_rig_strokes t_trial t_trial_circuit t_trial_faults t_trial_log t_trial_log_moves t_trial_log_times t_trial_positions t_trial_score t_trial_strokes t_trial_timers x1 v1 t_trial_2 t_trial_circuit_3 t_trial_faults_4 t_trial_log_5 t_trial_log_moves_6 t_trial_log_times_7 t_trial_positions_8 t_trial_score_9 t_trial_strokes_10 t_trial_timers_11 hC) (bq_gV ml_L_84 im_X7_works sl_X7_works in_X7 cd_X7_works) hd_X7_works ⟨Nat.le_of_ble_eq_true rfl, Nat.le_of_ble_eq_true rfl⟩ ⟨Nat.le_of_ble_eq_true rfl, Nat.le_of_ble_eq_true rfl⟩ ⟨[0, 1, 2, 3, 4, 5, 6, 7, 8, 9, 10, 11, 12, 13, 14, 15, 16, 17, 18], [19], [1, 2, 3, 4, 5, 6, 7, 8, 9, 10, 11, 12, 13, 14, 15, 16, 17, 18, 19, 0], rfl, rfl, rfl, rfl, rfl, rfl, rfl, rfl, rfl⟩ 0 rfl rfl rfl hl.1 rfl (Nat.le_of_ble_eq_true rfl) rfl dL_works_4 (fun H locs w => bq_z ⟨rfl, rfl⟩ ?_)
  clear hC
  obtain ⟨v12, hT15, hm⟩ := bq_let_el hm
  have K15 : ∀ (H : Heap) (locs : List Loc) (ls : Array Slot), bq_w D A s.heap (wdL_works cI cJ a_t a_t_rig a_t_rig_sequence a_t_rig_sequence_cuts a_t_rig_sequence_groupOfStep a_t_rig_sequence_minus a_t_rig_sequence_pauses a_t_rig_sequence_plus a_t_rig_strokes a_t_trial a_t_trial_circuit a_t_trial_faults a_t_trial_log a_t_trial_log_moves a_t_trial_log_times a_t_trial_positions a_t_trial_score a_t_trial_strokes a_t_trial_timers a_p2 u_t_reader u_t_snapshot u_t_spare u_t_rig_circuit u_t_rig_log u_t_rig_score u_t_rig_positions u_t_rig_timers u_t_rig_faults u_t_rig_sequence_outBefore a_t_rig_sequence t t_rig t_rig_sequence t_rig_sequence_cuts t_rig_sequence_groupOfStep t_rig_sequence_minus t_rig_sequence_pauses t_rig_sequence_plus t_rig_strokes t_trial_2 t_trial_circuit_3 t_trial_faults_4 t_trial_log_5 t_trial_log_moves_6 t_trial_log_times_7 t_trial_positions_8 t_trial_score_9 t_trial_strokes_10 t_trial_timers_11 p2) H locs → lv_has ls 4 [] → W p l e rmL_works s m av9 below meth c H locs 0 0 Q (F0 m 15 ls [.long v12, .int 0, .ref a_p2]) := by
    intro H locs ls w hl
    obtain ⟨p2_13, e9, hm⟩ := bq_let_el hm
    refine bq_lastk E K w 19 rfl 0 (by decide) (by unfold vp_in; decide) dL_works_15 (fun H locs w => ?_)
    replace w : bq_w D A s.heap (wdL_works cI cJ a_t a_t_rig a_t_rig_sequence a_t_rig_sequence_cuts a_t_rig_sequence_groupOfStep a_t_rig_sequence_minus a_t_rig_sequence_pauses a_t_rig_sequence_plus a_t_rig_strokes a_t_trial a_t_trial_circuit a_t_trial_faults a_t_trial_log a_t_trial_log_moves a_t_trial_log_times a_t_trial_positions a_t_trial_score a_t_trial_strokes a_t_trial_timers a_p2 u_t_reader u_t_snapshot u_t_spare u_t_rig_circuit u_t_rig_log u_t_rig_score u_t_rig_positions u_t_rig_timers u_t_rig_faults u_t_rig_sequence_outBefore a_t_rig_sequence t t_rig t_rig_sequence t_rig_sequence_cuts t_rig_sequence_groupOfStep t_rig_sequence_minus t_rig_sequence_pauses t_rig_sequence_plus t_rig_strokes t_trial_2 t_trial_circuit_3 t_trial_faults_4 t_trial_log_5 t_trial_log_moves_6 t_trial_log_times_7 t_trial_positions_8 t_trial_score_9 t_trial_strokes_10 t_trial_timers_11 p2_13) H locs := by rw [e9]; exact w
    clear e9
    refine lv_goto (tgt := 25) hx hb dL_works_16 (by decide) ?_
    refine lv_iconst (v := 0) hx hb dL_works_25 (by decide) ?_
    obtain ⟨rfl, rfl, rfl, rfl, rfl, rfl, rfl, rfl, rfl, rfl, rfl, rfl⟩ := bq_in12 (Option.some.inj hm)
    exact bq_hret E w hr hk dL_works_26 hQ
  clear hm
  refine lv_if_eq (tgt := 14) hx hb dL_works_7 (by decide) (fun hc => ?_) (fun hc => ?_)
  · replace hT15 := bq_et hc hT15
    clear hc
    refine lv_lconst (v := 0) hx hb dL_works_14 (by decide) ?_
    subst hT15
    exact K15 H locs ls w (lv_sub hl [] rfl)
  · replace hT15 := bq_ef hc hT15
    clear hc
    refine lv_lconst (v := 1) hx hb dL_works_10 (by decide) ?_
    refine lv_goto (tgt := 15) hx hb dL_works_11 (by decide) ?_
    subst hT15
    exact K15 H locs ls w (lv_sub hl [] rfl)
abbrev rmTL_works : Room := { frames := 8, cells := 1, slots := 6, locals := 141 }
set_option maxHeartbeats 4000000 in
set_option maxRecDepth 100000 in
theorem tkL_works {l : Launch} (hlf : l.stackTraces = false) (D : va_G) (cI cJ : ClassId) (a_t a_t_rig a_t_rig_sequence a_t_rig_sequence_cuts a_t_rig_sequence_groupOfStep a_t_rig_sequence_minus a_t_rig_sequence_pauses a_t_rig_sequence_plus a_t_rig_strokes a_t_trial a_t_trial_circuit a_t_trial_faults a_t_trial_log a_t_trial_log_moves a_t_trial_log_times a_t_trial_positions a_t_trial_score a_t_trial_strokes a_t_trial_timers a_p2 u_t_reader u_t_snapshot u_t_spare u_t_rig_circuit u_t_rig_log u_t_rig_score u_t_rig_positions u_t_rig_timers u_t_rig_faults u_t_rig_sequence_outBefore r_t_trial_sequence : Nat) (t : Nat → Int32) (t_rig : Nat → Int32) (t_rig_sequence : Nat → Int32) (t_rig_sequence_cuts : Nat → Int32) (t_rig_sequence_groupOfStep : Nat → Int32) (t_rig_sequence_minus : Nat → Int32) (t_rig_sequence_pauses : Nat → Int32) (t_rig_sequence_plus : Nat → Int32) (t_rig_strokes : Nat → Int32) (t_trial : Nat → Int32) (t_trial_circuit : Nat → Int32) (t_trial_faults : Nat → Int32) (t_trial_log : Nat → Int32) (t_trial_log_moves : Nat → Int32) (t_trial_log_times : Nat → Int32) (t_trial_positions : Nat → Int32) (t_trial_score : Nat → Int32) (t_trial_strokes : Nat → Int32) (t_trial_timers : Nat → Int32) (p2 : Nat → Int64) (x1 : Int32) (r : Int32) (hm : tL_works t_rig_sequence t_rig_sequence_cuts t_rig_sequence_groupOfStep t_rig_sequence_minus t_rig_sequence_pauses t_rig_sequence_plus t_rig_strokes t_trial t_trial_circuit t_trial_faults t_trial_log t_trial_log_moves t_trial_log_times t_trial_positions t_trial_score t_trial_strokes t_trial_timers p2 x1 = some r) : bq_MH l D cI cJ yL_works cL_works 4 (some .int) [(0, 16, 19, 13), (0, 16, 22, 15)] rmTL_works [.ref a_t, .int x1, .ref a_p2] (wdL_works cI cJ a_t a_t_rig a_t_rig_sequence a_t_rig_sequence_cuts a_t_rig_sequence_groupOfStep a_t_rig_sequence_minus a_t_rig_sequence_pauses a_t_rig_sequence_plus a_t_rig_strokes a_t_trial a_t_trial_circuit a_t_trial_faults a_t_trial_log a_t_trial_log_moves a_t_trial_log_times a_t_trial_positions a_t_trial_score a_t_trial_strokes a_t_trial_timers a_p2 u_t_reader u_t_snapshot u_t_spare u_t_rig_circuit u_t_rig_log u_t_rig_score u_t_rig_positions u_t_rig_timers u_t_rig_faults u_t_rig_sequence_outBefore r_t_trial_sequence t t_rig t_rig_sequence t_rig_sequence_cuts t_rig_sequence_groupOfStep t_rig_sequence_minus t_rig_sequence_pauses t_rig_sequence_plus t_rig_strokes t_trial t_trial_circuit t_trial_faults t_trial_log t_trial_log_moves t_trial_log_times t_trial_positions t_trial_score t_trial_strokes t_trial_timers p2) (wdL_works cI cJ a_t a_t_rig a_t_rig_sequence a_t_rig_sequence_cuts a_t_rig_sequence_groupOfStep a_t_rig_sequence_minus a_t_rig_sequence_pauses a_t_rig_sequence_plus a_t_rig_strokes a_t_trial a_t_trial_circuit a_t_trial_faults a_t_trial_log a_t_trial_log_moves a_t_trial_log_times a_t_trial_positions a_t_trial_score a_t_trial_strokes a_t_trial_timers a_p2 u_t_reader u_t_snapshot u_t_spare u_t_rig_circuit u_t_rig_log u_t_rig_score u_t_rig_positions u_t_rig_timers u_t_rig_faults u_t_rig_sequence_outBefore r_t_trial_sequence t t_rig t_rig_sequence t_rig_sequence_cuts t_rig_sequence_groupOfStep t_rig_sequence_minus t_rig_sequence_pauses t_rig_sequence_plus t_rig_strokes t_trial t_trial_circuit t_trial_faults t_trial_log t_trial_log_moves t_trial_log_times t_trial_positions t_trial_score t_trial_strokes t_trial_timers p2) (some (.int r)) := by
  refine bq_startH (by decide) (Nat.le_of_ble_eq_true rfl) ?_
  intro p e s m av9 below meth c A ls Q H locs E K w hA hr hk hX htab hQ hl
  have E : bq_E p m c cL_works 4 s av9 RL := E
  have hx := E.1
  have hb := E.2.1
  have hl : lv_has ls 4 [(0, .ref a_t), (1, .int x1), (2, .ref a_p2)] := hl
  unfold tL_works at hm
  refine lv_aload_n hx hb dL_works_0 rfl (lv_at hl 2 rfl) ?_
  refine lv_iconst (v := 0) hx hb dL_works_1 (by decide) ?_
  refine lv_aload_n hx hb dL_works_2 rfl (lv_at hl 0 rfl) ?_
  refine lv_iload_n hx hb dL_works_3 rfl (lv_at hl 1 rfl) ?_
  obtain ⟨k9, hC, hm⟩ := bq_bd_el hm
  by_cases hq : k9 = 0
  · subst hq
    replace hm := bq_t rfl hm
    obtain rfl := Option.some.inj hm
    refine bq_HV (As := [.int x1]) (rest := [.int 0, .ref a_p2]) E K w hA hX ⟨rfl, rfl⟩ (tkX7_works hlf D cI cJ a_t a_t_rig a_t_rig_sequence a_t_rig_sequence_cuts a_t_rig_sequence_groupOfStep a_t_rig_sequence_minus a_t_rig_sequence_pauses a_t_rig_sequence_plus a_t_rig_strokes a_t_trial a_t_trial_circuit a_t_trial_faults a_t_trial_log a_t_trial_log_moves a_t_trial_log_times a_t_trial_positions a_t_trial_score a_t_trial_strokes a_t_trial_timers u_t_reader u_t_snapshot u_t_spare u_t_rig_circuit u_t_rig_log u_t_rig_score u_t_rig_positions u_t_rig_timers u_t_rig_faults u_t_rig_sequence_outBefore r_t_trial_sequence t t_rig t_rig_sequence t_rig_sequence_cuts t_rig_sequence_groupOfStep t_rig_sequence_minus t_rig_sequence_pauses t_rig_sequence_plus t_rig_strokes t_trial t_trial_circuit t_trial_faults t_trial_log t_trial_log_moves t_trial_log_times t_trial_positions t_trial_score t_trial_strokes t_trial_timers x1 _ hC) (bq_gV ml_L_84 im_X7_works sl_X7_works in_X7 cd_X7_works) hd_X7_works ⟨Nat.le_of_ble_eq_true rfl, Nat.le_of_ble_eq_true rfl⟩ ⟨Nat.le_of_ble_eq_true rfl, Nat.le_of_ble_eq_true rfl⟩ ⟨[0, 1, 2, 3, 4, 5, 6, 7, 8, 9, 10, 11, 12, 13, 14, 15, 16, 17, 18], [19], [1, 2, 3, 4, 5, 6, 7, 8, 9, 10, 11, 12, 13, 14, 15, 16, 17, 18, 19, 0], rfl, rfl, rfl, rfl, rfl, rfl, rfl, rfl, rfl⟩ 0 rfl rfl rfl hl.1 rfl (Nat.le_of_ble_eq_true rfl) dL_works_4 (fun q9 ce H locs w h1 h2 h3 => ?_)
    refine vx_catch (E := "java/lang/IllegalArgumentException") (name := "java/lang/IllegalArgumentException") E.2.2.2.1 [] ⟨0, 16, 19, 13⟩ [⟨0, 16, 22, 15⟩] (by rw [htab]; rfl) (fun z h => by cases h) (by decide) (by decide) (E.2.2.2.2 _ cl_L_13) (va_Nw.use rfl (K.2 _ mc_IllegalArgumentException)) h1 h2 h3 ?_
    refine lv_astore_n (lv' := [(3, .ref q9), (0, .ref a_t), (1, .int x1), (2, .ref a_p2)]) hx hb dL_works_19 rfl hl (by decide) rfl (fun ls hl => ?_)
    refine lv_iconst (v := 1) hx hb dL_works_20 (by decide) ?_
    exact bq_hret E w hr hk dL_works_21 hQ
  replace hm := bq_f hq hm
  by_cases hq : k9 = 1
  · subst hq
    replace hm := bq_t rfl hm
    obtain rfl := Option.some.inj hm
    refine bq_HV (As := [.int x1]) (rest := [.int 0, .ref a_p2]) E K w hA hX ⟨rfl, rfl⟩ (tkX7_works hlf D cI cJ a_t a_t_rig a_t_rig_sequence a_t_rig_sequence_cuts a_t_rig_sequence_groupOfStep a_t_rig_sequence_minus a_t_rig_sequence_pauses a_t_rig_sequence_plus a_t_rig_strokes a_t_trial a_t_trial_circuit a_t_trial_faults a_t_trial_log a_t_trial_log_moves a_t_trial_log_times a_t_trial_positions a_t_trial_score a_t_trial_strokes a_t_trial_timers u_t_reader u_t_snapshot u_t_spare u_t_rig_circuit u_t_rig_log u_t_rig_score u_t_rig_positions u_t_rig_timers u_t_rig_faults u_t_rig_sequence_outBefore r_t_trial_sequence t t_rig t_rig_sequence t_rig_sequence_cuts t_rig_sequence_groupOfStep t_rig_sequence_minus t_rig_sequence_pauses t_rig_sequence_plus t_rig_strokes t_trial t_trial_circuit t_trial_faults t_trial_log t_trial_log_moves t_trial_log_times t_trial_positions t_trial_score t_trial_strokes t_trial_timers x1 _ hC) (bq_gV ml_L_84 im_X7_works sl_X7_works in_X7 cd_X7_works) hd_X7_works ⟨Nat.le_of_ble_eq_true rfl, Nat.le_of_ble_eq_true rfl⟩ ⟨Nat.le_of_ble_eq_true rfl, Nat.le_of_ble_eq_true rfl⟩ ⟨[0, 1, 2, 3, 4, 5, 6, 7, 8, 9, 10, 11, 12, 13, 14, 15, 16, 17, 18], [19], [1, 2, 3, 4, 5, 6, 7, 8, 9, 10, 11, 12, 13, 14, 15, 16, 17, 18, 19, 0], rfl, rfl, rfl, rfl, rfl, rfl, rfl, rfl, rfl⟩ 0 rfl rfl rfl hl.1 rfl (Nat.le_of_ble_eq_true rfl) dL_works_4 (fun q9 ce H locs w h1 h2 h3 => ?_)
    refine vx_catch (E := "java/lang/IllegalStateException") (name := "java/lang/IllegalStateException") E.2.2.2.1 [⟨0, 16, 19, 13⟩] ⟨0, 16, 22, 15⟩ [] (by rw [htab]; rfl) (fun z h => by rw [List.mem_singleton.mp h]; exact Or.inr ⟨by decide, "java/lang/IllegalArgumentException", E.2.2.2.2 _ cl_L_13, hX.2.2.2.1⟩) (by decide) (by decide) (E.2.2.2.2 _ cl_L_15) (va_Nw.use rfl (K.2 _ mc_IllegalStateException)) h1 h2 h3 ?_
    refine lv_astore_n (lv' := [(3, .ref q9), (0, .ref a_t), (1, .int x1), (2, .ref a_p2)]) hx hb dL_works_22 rfl hl (by decide) rfl (fun ls hl => ?_)
    refine lv_iconst (v := 2) hx hb dL_works_23 (by decide) ?_
    exact bq_hret E w hr hk dL_works_24 hQ
  replace hm := bq_f hq hm
  cases hm
abbrev wdL_cycleTime (cI : ClassId) (cJ : ClassId) (a_t a_t_rig a_t_rig_sequence a_t_rig_sequence_cuts a_t_rig_sequence_groupOfStep a_t_rig_sequence_minus a_t_rig_sequence_pauses a_t_rig_sequence_plus a_t_rig_strokes a_t_trial a_t_trial_circuit a_t_trial_faults a_t_trial_log a_t_trial_log_moves a_t_trial_log_times a_t_trial_positions a_t_trial_score a_t_trial_strokes a_t_trial_timers a_p2 u_t_reader u_t_snapshot u_t_spare u_t_rig_circuit u_t_rig_log u_t_rig_score u_t_rig_positions u_t_rig_timers u_t_rig_faults u_t_rig_sequence_outBefore m_0 : Nat) (t : Nat → Int32) (t_rig : Nat → Int32) (t_rig_sequence : Nat → Int32) (t_rig_sequence_cuts : Nat → Int32) (t_rig_sequence_groupOfStep : Nat → Int32) (t_rig_sequence_minus : Nat → Int32) (t_rig_sequence_pauses : Nat → Int32) (t_rig_sequence_plus : Nat → Int32) (t_rig_strokes : Nat → Int32) (t_trial : Nat → Int32) (t_trial_circuit : Nat → Int32) (t_trial_faults : Nat → Int32) (t_trial_log : Nat → Int32) (t_trial_log_moves : Nat → Int32) (t_trial_log_times : Nat → Int32) (t_trial_positions : Nat → Int32) (t_trial_score : Nat → Int32) (t_trial_strokes : Nat → Int32) (t_trial_timers : Nat → Int32) (p2 : Nat → Int64) : va_W := [(a_t, oX7 u_t_reader a_t_rig a_t_trial u_t_snapshot u_t_spare t), (a_t_rig, oX3 a_t_rig_sequence u_t_rig_circuit u_t_rig_log u_t_rig_score a_t_rig_strokes u_t_rig_positions u_t_rig_timers u_t_rig_faults t_rig), (a_t_rig_sequence, oX5 a_t_rig_sequence_plus a_t_rig_sequence_minus a_t_rig_sequence_pauses u_t_rig_sequence_outBefore a_t_rig_sequence_cuts a_t_rig_sequence_groupOfStep t_rig_sequence), (a_t_rig_sequence_cuts, oA cI 16 t_rig_sequence_cuts), (a_t_rig_sequence_groupOfStep, oA cI 16 t_rig_sequence_groupOfStep), (a_t_rig_sequence_minus, oA cI 16 t_rig_sequence_minus), (a_t_rig_sequence_pauses, oA cI 16 t_rig_sequence_pauses), (a_t_rig_sequence_plus, oA cI 16 t_rig_sequence_plus), (a_t_rig_strokes, oA cI 6 t_rig_strokes), (a_t_trial, oX3 m_0 a_t_trial_circuit a_t_trial_log a_t_trial_score a_t_trial_strokes a_t_trial_positions a_t_trial_timers a_t_trial_faults t_trial), (a_t_trial_circuit, oX0 t_trial_circuit), (a_t_trial_faults, oA cI 5 t_trial_faults), (a_t_trial_log, oX1 a_t_trial_log_times a_t_trial_log_moves t_trial_log), (a_t_trial_log_moves, oA cI 40 t_trial_log_moves), (a_t_trial_log_times, oA cI 40 t_trial_log_times), (a_t_trial_positions, oA cI 6 t_trial_positions), (a_t_trial_score, oX4 t_trial_score), (a_t_trial_strokes, oA cI 6 t_trial_strokes), (a_t_trial_timers, oA cI 16 t_trial_timers), (a_p2, oJ cJ 1 p2)]
abbrev rmL_cycleTime : Room := { frames := 6, cells := 0, slots := 0, locals := 139 }
theorem hs_L_cycleTime : yL_cycleTime.cls ≠ "java/lang/invoke/MethodHandle" ∧ yL_cycleTime.cls ≠ "java/lang/invoke/VarHandle" ∧ (parseMethodDescriptor yL_cycleTime.desc).map (fun d => d.parameters.length) = some 3 := by decide +kernel
set_option maxHeartbeats 4000000 in
set_option maxRecDepth 100000 in
theorem kL_cycleTime (l : Launch) (D : va_G) (cI cJ : ClassId) (a_t a_t_rig a_t_rig_sequence a_t_rig_sequence_cuts a_t_rig_sequence_groupOfStep a_t_rig_sequence_minus a_t_rig_sequence_pauses a_t_rig_sequence_plus a_t_rig_strokes a_t_trial a_t_trial_circuit a_t_trial_faults a_t_trial_log a_t_trial_log_moves a_t_trial_log_times a_t_trial_positions a_t_trial_score a_t_trial_strokes a_t_trial_timers a_p2 u_t_reader u_t_snapshot u_t_spare u_t_rig_circuit u_t_rig_log u_t_rig_score u_t_rig_positions u_t_rig_timers u_t_rig_faults u_t_rig_sequence_outBefore r_t_trial_sequence : Nat) (t : Nat → Int32) (t_rig : Nat → Int32) (t_rig_sequence : Nat → Int32) (t_rig_sequence_cuts : Nat → Int32) (t_rig_sequence_groupOfStep : Nat → Int32) (t_rig_sequence_minus : Nat → Int32) (t_rig_sequence_pauses : Nat → Int32) (t_rig_sequence_plus : Nat → Int32) (t_rig_strokes : Nat → Int32) (t_trial : Nat → Int32) (t_trial_circuit : Nat → Int32) (t_trial_faults : Nat → Int32) (t_trial_log : Nat → Int32) (t_trial_log_moves : Nat → Int32) (t_trial_log_times : Nat → Int32) (t_trial_positions : Nat → Int32) (t_trial_score : Nat → Int32) (t_trial_strokes : Nat → Int32) (t_trial_timers : Nat → Int32) (p2 : Nat → Int64) (x1 : Int32) (r : Int32) (t_trial_o : Nat → Int32) (t_trial_circuit_o : Nat → Int32) (t_trial_faults_o : Nat → Int32) (t_trial_log_o : Nat → Int32) (t_trial_log_moves_o : Nat → Int32) (t_trial_log_times_o : Nat → Int32) (t_trial_positions_o : Nat → Int32) (t_trial_score_o : Nat → Int32) (t_trial_strokes_o : Nat → Int32) (t_trial_timers_o : Nat → Int32) (p2_o : Nat → Int64) (hm : mL_cycleTime t_rig_sequence t_rig_sequence_cuts t_rig_sequence_groupOfStep t_rig_sequence_minus t_rig_sequence_pauses t_rig_sequence_plus t_rig_strokes t_trial t_trial_circuit t_trial_faults t_trial_log t_trial_log_moves t_trial_log_times t_trial_positions t_trial_score t_trial_strokes t_trial_timers p2 x1 = some (r, t_trial_o, t_trial_circuit_o, t_trial_faults_o, t_trial_log_o, t_trial_log_moves_o, t_trial_log_times_o, t_trial_positions_o, t_trial_score_o, t_trial_strokes_o, t_trial_timers_o, p2_o)) : bq_MH l D cI cJ yL_cycleTime cL_cycleTime 4 (some .int) [(0, 9, 12, 13), (0, 9, 15, 15)] rmL_cycleTime [.ref a_t, .int x1, .ref a_p2] (wdL_cycleTime cI cJ a_t a_t_rig a_t_rig_sequence a_t_rig_sequence_cuts a_t_rig_sequence_groupOfStep a_t_rig_sequence_minus a_t_rig_sequence_pauses a_t_rig_sequence_plus a_t_rig_strokes a_t_trial a_t_trial_circuit a_t_trial_faults a_t_trial_log a_t_trial_log_moves a_t_trial_log_times a_t_trial_positions a_t_trial_score a_t_trial_strokes a_t_trial_timers a_p2 u_t_reader u_t_snapshot u_t_spare u_t_rig_circuit u_t_rig_log u_t_rig_score u_t_rig_positions u_t_rig_timers u_t_rig_faults u_t_rig_sequence_outBefore r_t_trial_sequence t t_rig t_rig_sequence t_rig_sequence_cuts t_rig_sequence_groupOfStep t_rig_sequence_minus t_rig_sequence_pauses t_rig_sequence_plus t_rig_strokes t_trial t_trial_circuit t_trial_faults t_trial_log t_trial_log_moves t_trial_log_times t_trial_positions t_trial_score t_trial_strokes t_trial_timers p2) (wdL_cycleTime cI cJ a_t a_t_rig a_t_rig_sequence a_t_rig_sequence_cuts a_t_rig_sequence_groupOfStep a_t_rig_sequence_minus a_t_rig_sequence_pauses a_t_rig_sequence_plus a_t_rig_strokes a_t_trial a_t_trial_circuit a_t_trial_faults a_t_trial_log a_t_trial_log_moves a_t_trial_log_times a_t_trial_positions a_t_trial_score a_t_trial_strokes a_t_trial_timers a_p2 u_t_reader u_t_snapshot u_t_spare u_t_rig_circuit u_t_rig_log u_t_rig_score u_t_rig_positions u_t_rig_timers u_t_rig_faults u_t_rig_sequence_outBefore a_t_rig_sequence t t_rig t_rig_sequence t_rig_sequence_cuts t_rig_sequence_groupOfStep t_rig_sequence_minus t_rig_sequence_pauses t_rig_sequence_plus t_rig_strokes t_trial_o t_trial_circuit_o t_trial_faults_o t_trial_log_o t_trial_log_moves_o t_trial_log_times_o t_trial_positions_o t_trial_score_o t_trial_strokes_o t_trial_timers_o p2_o) (some (.int r)) := by
  refine bq_startH (by decide) (Nat.le_of_ble_eq_true rfl) ?_
  intro p e s m av9 below meth c A ls Q H locs E K w hA hr hk hX htab hQ hl
  have E : bq_E p m c cL_cycleTime 4 s av9 RL := E
  have hx := E.1
  have hb := E.2.1
  have hl : lv_has ls 4 [(0, .ref a_t), (1, .int x1), (2, .ref a_p2)] := hl
  unfold mL_cycleTime at hm
  refine lv_aload_n hx hb dL_cycleTime_0 rfl (lv_at hl 2 rfl) ?_
  refine lv_iconst (v := 0) hx hb dL_cycleTime_1 (by decide) ?_
  refine lv_aload_n hx hb dL_cycleTime_2 rfl (lv_at hl 0 rfl) ?_
  refine lv_iload_n hx hb dL_cycleTime_3 rfl (lv_at hl 1 rfl) ?_
  obtain ⟨v1, t_trial_2, t_trial_circuit_3, t_trial_faults_4, t_trial_log_5, t_trial_log_moves_6, t_trial_log_times_7, t_trial_positions_8, t_trial_score_9, t_trial_strokes_10, t_trial_timers_11, hC, hm⟩ := bq_b11_el hm
  refine bq_V (As := [.int x1]) (rest := [.int 0, .ref a_p2]) (st1 := [.int v1, .int 0, .ref a_p2]) (ws' := wdL_cycleTime cI cJ a_t a_t_rig a_t_rig_sequence a_t_rig_sequence_cuts a_t_rig_sequence_groupOfStep a_t_rig_sequence_minus a_t_rig_sequence_pauses a_t_rig_sequence_plus a_t_rig_strokes a_t_trial a_t_trial_circuit a_t_trial_faults a_t_trial_log a_t_trial_log_moves a_t_trial_log_times a_t_trial_positions a_t_trial_score a_t_trial_strokes a_t_trial_timers a_p2 u_t_reader u_t_snapshot u_t_spare u_t_rig_circuit u_t_rig_log u_t_rig_score u_t_rig_positions u_t_rig_timers u_t_rig_faults u_t_rig_sequence_outBefore a_t_rig_sequence t t_rig t_rig_sequence t_rig_sequence_cuts t_rig_sequence_groupOfStep t_rig_sequence_minus t_rig_sequence_pauses t_rig_sequence_plus t_rig_strokes t_trial_2 t_trial_circuit_3 t_trial_faults_4 t_trial_log_5 t_trial_log_moves_6 t_trial_log_times_7 t_trial_positions_8 t_trial_score_9 t_trial_strokes_10 t_trial_timers_11 p2) E K w hA (kX7_cycleTime l D cI cJ a_t a_t_rig a_t_rig_sequence a_t_rig_sequence_cuts a_t_rig_sequence_groupOfStep a_t_rig_sequence_minus a_t_rig_sequence_pauses a_t_rig_sequence_plus a_t_rig_strokes a_t_trial a_t_trial_circuit a_t_trial_faults a_t_trial_log a_t_trial_log_moves a_t_trial_log_times a_t_trial_positions a_t_trial_score a_t_trial_strokes a_t_trial_timers u_t_reader u_t_snapshot u_t_spare u_t_rig_circuit u_t_rig_log u_t_rig_score u_t_rig_positions u_t_rig_timers u_t_rig_faults u_t_rig_sequence_outBefore r_t_trial_sequence t t_rig t_rig_sequence t_rig_sequence_cuts t_rig_sequence_groupOfStep t_rig_sequence_minus t_rig_sequence_pauses t_rig_sequence_plus t_rig_strokes t_trial t_trial_circuit t_trial_faults t_trial_log t_trial_log_moves t_trial_log_times t_trial_positions t_trial_score t_trial_strokes t_trial_timers x1 v1 t_trial_2 t_trial_circuit_3 t_trial_faults_4 t_trial_log_5 t_trial_log_moves_6 t_trial_log_times_7 t_trial_positions_8 t_trial_score_9 t_trial_strokes_10 t_trial_timers_11 hC) (bq_gV ml_L_87 im_X7_cycleTime sl_X7_cycleTime in_X7 cd_X7_cycleTime) hd_X7_cycleTime ⟨Nat.le_of_ble_eq_true rfl, Nat.le_of_ble_eq_true rfl⟩ ⟨Nat.le_of_ble_eq_true rfl, Nat.le_of_ble_eq_true rfl⟩ ⟨[0, 1, 2, 3, 4, 5, 6, 7, 8, 9, 10, 11, 12, 13, 14, 15, 16, 17, 18], [19], [1, 2, 3, 4, 5, 6, 7, 8, 9, 10, 11, 12, 13, 14, 15, 16, 17, 18, 19, 0], rfl, rfl, rfl, rfl, rfl, rfl, rfl, rfl, rfl⟩ 0 rfl rfl rfl hl.1 rfl (Nat.le_of_ble_eq_true rfl) rfl dL_cycleTime_4 (fun H locs w => bq_z ⟨rfl, rfl⟩ ?_)
  clear hC
  refine lv_i2l hx hb dL_cycleTime_7 rfl ?_
  obtain ⟨p2_12, e9, hm⟩ := bq_let_el hm
  refine bq_lastk E K w 19 rfl 0 (by decide) (by unfold vp_in; decide) dL_cycleTime_8 (fun H locs w => ?_)
  replace w : bq_w D A s.heap (wdL_cycleTime cI cJ a_t a_t_rig a_t_rig_sequence a_t_rig_sequence_cuts a_t_rig_sequence_groupOfStep a_t_rig_sequence_minus a_t_rig_sequence_pauses a_t_rig_sequence_plus a_t_rig_strokes a_t_trial a_t_trial_circuit a_t_trial_faults a_t_trial_log a_t_trial_log_moves a_t_trial_log_times a_t_trial_positions a_t_trial_score a_t_trial_strokes a_t_trial_timers a_p2 u_t_reader u_t_snapshot u_t_spare u_t_rig_circuit u_t_rig_log u_t_rig_score u_t_rig_positions u_t_rig_timers u_t_rig_faults u_t_rig_sequence_outBefore a_t_rig_sequence t t_rig t_rig_sequence t_rig_sequence_cuts t_rig_sequence_groupOfStep t_rig_sequence_minus t_rig_sequence_pauses t_rig_sequence_plus t_rig_strokes t_trial_2 t_trial_circuit_3 t_trial_faults_4 t_trial_log_5 t_trial_log_moves_6 t_trial_log_times_7 t_trial_positions_8 t_trial_score_9 t_trial_strokes_10 t_trial_timers_11 p2_12) H locs := by rw [e9]; exact w
  clear e9
  refine lv_goto (tgt := 18) hx hb dL_cycleTime_9 (by decide) ?_
  refine lv_iconst (v := 0) hx hb dL_cycleTime_18 (by decide) ?_
  obtain ⟨rfl, rfl, rfl, rfl, rfl, rfl, rfl, rfl, rfl, rfl, rfl, rfl⟩ := bq_in12 (Option.some.inj hm)
  exact bq_hret E w hr hk dL_cycleTime_19 hQ
abbrev rmTL_cycleTime : Room := { frames := 8, cells := 1, slots := 6, locals := 141 }
set_option maxHeartbeats 4000000 in
set_option maxRecDepth 100000 in
theorem tkL_cycleTime {l : Launch} (hlf : l.stackTraces = false) (D : va_G) (cI cJ : ClassId) (a_t a_t_rig a_t_rig_sequence a_t_rig_sequence_cuts a_t_rig_sequence_groupOfStep a_t_rig_sequence_minus a_t_rig_sequence_pauses a_t_rig_sequence_plus a_t_rig_strokes a_t_trial a_t_trial_circuit a_t_trial_faults a_t_trial_log a_t_trial_log_moves a_t_trial_log_times a_t_trial_positions a_t_trial_score a_t_trial_strokes a_t_trial_timers a_p2 u_t_reader u_t_snapshot u_t_spare u_t_rig_circuit u_t_rig_log u_t_rig_score u_t_rig_positions u_t_rig_timers u_t_rig_faults u_t_rig_sequence_outBefore r_t_trial_sequence : Nat) (t : Nat → Int32) (t_rig : Nat → Int32) (t_rig_sequence : Nat → Int32) (t_rig_sequence_cuts : Nat → Int32) (t_rig_sequence_groupOfStep : Nat → Int32) (t_rig_sequence_minus : Nat → Int32) (t_rig_sequence_pauses : Nat → Int32) (t_rig_sequence_plus : Nat → Int32) (t_rig_strokes : Nat → Int32) (t_trial : Nat → Int32) (t_trial_circuit : Nat → Int32) (t_trial_faults : Nat → Int32) (t_trial_log : Nat → Int32) (t_trial_log_moves : Nat → Int32) (t_trial_log_times : Nat → Int32) (t_trial_positions : Nat → Int32) (t_trial_score : Nat → Int32) (t_trial_strokes : Nat → Int32) (t_trial_timers : Nat → Int32) (p2 : Nat → Int64) (x1 : Int32) (r : Int32) (hm : tL_cycleTime t_rig_sequence t_rig_sequence_cuts t_rig_sequence_groupOfStep t_rig_sequence_minus t_rig_sequence_pauses t_rig_sequence_plus t_rig_strokes t_trial t_trial_circuit t_trial_faults t_trial_log t_trial_log_moves t_trial_log_times t_trial_positions t_trial_score t_trial_strokes t_trial_timers p2 x1 = some r) : bq_MH l D cI cJ yL_cycleTime cL_cycleTime 4 (some .int) [(0, 9, 12, 13), (0, 9, 15, 15)] rmTL_cycleTime [.ref a_t, .int x1, .ref a_p2] (wdL_cycleTime cI cJ a_t a_t_rig a_t_rig_sequence a_t_rig_sequence_cuts a_t_rig_sequence_groupOfStep a_t_rig_sequence_minus a_t_rig_sequence_pauses a_t_rig_sequence_plus a_t_rig_strokes a_t_trial a_t_trial_circuit a_t_trial_faults a_t_trial_log a_t_trial_log_moves a_t_trial_log_times a_t_trial_positions a_t_trial_score a_t_trial_strokes a_t_trial_timers a_p2 u_t_reader u_t_snapshot u_t_spare u_t_rig_circuit u_t_rig_log u_t_rig_score u_t_rig_positions u_t_rig_timers u_t_rig_faults u_t_rig_sequence_outBefore r_t_trial_sequence t t_rig t_rig_sequence t_rig_sequence_cuts t_rig_sequence_groupOfStep t_rig_sequence_minus t_rig_sequence_pauses t_rig_sequence_plus t_rig_strokes t_trial t_trial_circuit t_trial_faults t_trial_log t_trial_log_moves t_trial_log_times t_trial_positions t_trial_score t_trial_strokes t_trial_timers p2) (wdL_cycleTime cI cJ a_t a_t_rig a_t_rig_sequence a_t_rig_sequence_cuts a_t_rig_sequence_groupOfStep a_t_rig_sequence_minus a_t_rig_sequence_pauses a_t_rig_sequence_plus a_t_rig_strokes a_t_trial a_t_trial_circuit a_t_trial_faults a_t_trial_log a_t_trial_log_moves a_t_trial_log_times a_t_trial_positions a_t_trial_score a_t_trial_strokes a_t_trial_timers a_p2 u_t_reader u_t_snapshot u_t_spare u_t_rig_circuit u_t_rig_log u_t_rig_score u_t_rig_positions u_t_rig_timers u_t_rig_faults u_t_rig_sequence_outBefore r_t_trial_sequence t t_rig t_rig_sequence t_rig_sequence_cuts t_rig_sequence_groupOfStep t_rig_sequence_minus t_rig_sequence_pauses t_rig_sequence_plus t_rig_strokes t_trial t_trial_circuit t_trial_faults t_trial_log t_trial_log_moves t_trial_log_times t_trial_positions t_trial_score t_trial_strokes t_trial_timers p2) (some (.int r)) := by
  refine bq_startH (by decide) (Nat.le_of_ble_eq_true rfl) ?_
  intro p e s m av9 below meth c A ls Q H locs E K w hA hr hk hX htab hQ hl
  have E : bq_E p m c cL_cycleTime 4 s av9 RL := E
  have hx := E.1
  have hb := E.2.1
  have hl : lv_has ls 4 [(0, .ref a_t), (1, .int x1), (2, .ref a_p2)] := hl
  unfold tL_cycleTime at hm
  refine lv_aload_n hx hb dL_cycleTime_0 rfl (lv_at hl 2 rfl) ?_
  refine lv_iconst (v := 0) hx hb dL_cycleTime_1 (by decide) ?_
  refine lv_aload_n hx hb dL_cycleTime_2 rfl (lv_at hl 0 rfl) ?_
  refine lv_iload_n hx hb dL_cycleTime_3 rfl (lv_at hl 1 rfl) ?_
  obtain ⟨k9, hC, hm⟩ := bq_bd_el hm
  by_cases hq : k9 = 0
  · subst hq
    replace hm := bq_t rfl hm
    obtain rfl := Option.some.inj hm
    refine bq_HV (As := [.int x1]) (rest := [.int 0, .ref a_p2]) E K w hA hX ⟨rfl, rfl⟩ (tkX7_cycleTime hlf D cI cJ a_t a_t_rig a_t_rig_sequence a_t_rig_sequence_cuts a_t_rig_sequence_groupOfStep a_t_rig_sequence_minus a_t_rig_sequence_pauses a_t_rig_sequence_plus a_t_rig_strokes a_t_trial a_t_trial_circuit a_t_trial_faults a_t_trial_log a_t_trial_log_moves a_t_trial_log_times a_t_trial_positions a_t_trial_score a_t_trial_strokes a_t_trial_timers u_t_reader u_t_snapshot u_t_spare u_t_rig_circuit u_t_rig_log u_t_rig_score u_t_rig_positions u_t_rig_timers u_t_rig_faults u_t_rig_sequence_outBefore r_t_trial_sequence t t_rig t_rig_sequence t_rig_sequence_cuts t_rig_sequence_groupOfStep t_rig_sequence_minus t_rig_sequence_pauses t_rig_sequence_plus t_rig_strokes t_trial t_trial_circuit t_trial_faults t_trial_log t_trial_log_moves t_trial_log_times t_trial_positions t_trial_score t_trial_strokes t_trial_timers x1 _ hC) (bq_gV ml_L_87 im_X7_cycleTime sl_X7_cycleTime in_X7 cd_X7_cycleTime) hd_X7_cycleTime ⟨Nat.le_of_ble_eq_true rfl, Nat.le_of_ble_eq_true rfl⟩ ⟨Nat.le_of_ble_eq_true rfl, Nat.le_of_ble_eq_true rfl⟩ ⟨[0, 1, 2, 3, 4, 5, 6, 7, 8, 9, 10, 11, 12, 13, 14, 15, 16, 17, 18], [19], [1, 2, 3, 4, 5, 6, 7, 8, 9, 10, 11, 12, 13, 14, 15, 16, 17, 18, 19, 0], rfl, rfl, rfl, rfl, rfl, rfl, rfl, rfl, rfl⟩ 0 rfl rfl rfl hl.1 rfl (Nat.le_of_ble_eq_true rfl) dL_cycleTime_4 (fun q9 ce H locs w h1 h2 h3 => ?_)
    refine vx_catch (E := "java/lang/IllegalArgumentException") (name := "java/lang/IllegalArgumentException") E.2.2.2.1 [] ⟨0, 9, 12, 13⟩ [⟨0, 9, 15, 15⟩] (by rw [htab]; rfl) (fun z h => by cases h) (by decide) (by decide) (E.2.2.2.2 _ cl_L_13) (va_Nw.use rfl (K.2 _ mc_IllegalArgumentException)) h1 h2 h3 ?_
    refine lv_astore_n (lv' := [(3, .ref q9), (0, .ref a_t), (1, .int x1), (2, .ref a_p2)]) hx hb dL_cycleTime_12 rfl hl (by decide) rfl (fun ls hl => ?_)
    refine lv_iconst (v := 1) hx hb dL_cycleTime_13 (by decide) ?_
    exact bq_hret E w hr hk dL_cycleTime_14 hQ
  replace hm := bq_f hq hm
  by_cases hq : k9 = 1
  · subst hq
    replace hm := bq_t rfl hm
    obtain rfl := Option.some.inj hm
    refine bq_HV (As := [.int x1]) (rest := [.int 0, .ref a_p2]) E K w hA hX ⟨rfl, rfl⟩ (tkX7_cycleTime hlf D cI cJ a_t a_t_rig a_t_rig_sequence a_t_rig_sequence_cuts a_t_rig_sequence_groupOfStep a_t_rig_sequence_minus a_t_rig_sequence_pauses a_t_rig_sequence_plus a_t_rig_strokes a_t_trial a_t_trial_circuit a_t_trial_faults a_t_trial_log a_t_trial_log_moves a_t_trial_log_times a_t_trial_positions a_t_trial_score a_t_trial_strokes a_t_trial_timers u_t_reader u_t_snapshot u_t_spare u_t_rig_circuit u_t_rig_log u_t_rig_score u_t_rig_positions u_t_rig_timers u_t_rig_faults u_t_rig_sequence_outBefore r_t_trial_sequence t t_rig t_rig_sequence t_rig_sequence_cuts t_rig_sequence_groupOfStep t_rig_sequence_minus t_rig_sequence_pauses t_rig_sequence_plus t_rig_strokes t_trial t_trial_circuit t_trial_faults t_trial_log t_trial_log_moves t_trial_log_times t_trial_positions t_trial_score t_trial_strokes t_trial_timers x1 _ hC) (bq_gV ml_L_87 im_X7_cycleTime sl_X7_cycleTime in_X7 cd_X7_cycleTime) hd_X7_cycleTime ⟨Nat.le_of_ble_eq_true rfl, Nat.le_of_ble_eq_true rfl⟩ ⟨Nat.le_of_ble_eq_true rfl, Nat.le_of_ble_eq_true rfl⟩ ⟨[0, 1, 2, 3, 4, 5, 6, 7, 8, 9, 10, 11, 12, 13, 14, 15, 16, 17, 18], [19], [1, 2, 3, 4, 5, 6, 7, 8, 9, 10, 11, 12, 13, 14, 15, 16, 17, 18, 19, 0], rfl, rfl, rfl, rfl, rfl, rfl, rfl, rfl, rfl⟩ 0 rfl rfl rfl hl.1 rfl (Nat.le_of_ble_eq_true rfl) dL_cycleTime_4 (fun q9 ce H locs w h1 h2 h3 => ?_)
    refine vx_catch (E := "java/lang/IllegalStateException") (name := "java/lang/IllegalStateException") E.2.2.2.1 [⟨0, 9, 12, 13⟩] ⟨0, 9, 15, 15⟩ [] (by rw [htab]; rfl) (fun z h => by rw [List.mem_singleton.mp h]; exact Or.inr ⟨by decide, "java/lang/IllegalArgumentException", E.2.2.2.2 _ cl_L_13, hX.2.2.2.1⟩) (by decide) (by decide) (E.2.2.2.2 _ cl_L_15) (va_Nw.use rfl (K.2 _ mc_IllegalStateException)) h1 h2 h3 ?_
    refine lv_astore_n (lv' := [(3, .ref q9), (0, .ref a_t), (1, .int x1), (2, .ref a_p2)]) hx hb dL_cycleTime_15 rfl hl (by decide) rfl (fun ls hl => ?_)
    refine lv_iconst (v := 2) hx hb dL_cycleTime_16 (by decide) ?_
    exact bq_hret E w hr hk dL_cycleTime_17 hQ
  replace hm := bq_f hq hm
  cases hm
abbrev wdL_cheapest (cI : ClassId) (cJ : ClassId) (a_t a_t_rig a_t_rig_sequence a_t_rig_sequence_cuts a_t_rig_sequence_groupOfStep a_t_rig_sequence_minus a_t_rig_sequence_pauses a_t_rig_sequence_plus a_t_rig_strokes a_t_trial a_t_trial_circuit a_t_trial_faults a_t_trial_log a_t_trial_log_moves a_t_trial_log_times a_t_trial_positions a_t_trial_score a_t_trial_strokes a_t_trial_timers a_p1 u_t_reader u_t_snapshot u_t_spare u_t_rig_circuit u_t_rig_log u_t_rig_score u_t_rig_positions u_t_rig_timers u_t_rig_faults u_t_rig_sequence_outBefore m_0 : Nat) (t : Nat → Int32) (t_rig : Nat → Int32) (t_rig_sequence : Nat → Int32) (t_rig_sequence_cuts : Nat → Int32) (t_rig_sequence_groupOfStep : Nat → Int32) (t_rig_sequence_minus : Nat → Int32) (t_rig_sequence_pauses : Nat → Int32) (t_rig_sequence_plus : Nat → Int32) (t_rig_strokes : Nat → Int32) (t_trial : Nat → Int32) (t_trial_circuit : Nat → Int32) (t_trial_faults : Nat → Int32) (t_trial_log : Nat → Int32) (t_trial_log_moves : Nat → Int32) (t_trial_log_times : Nat → Int32) (t_trial_positions : Nat → Int32) (t_trial_score : Nat → Int32) (t_trial_strokes : Nat → Int32) (t_trial_timers : Nat → Int32) (p1 : Nat → Int64) : va_W := [(a_t, oX7 u_t_reader a_t_rig a_t_trial u_t_snapshot u_t_spare t), (a_t_rig, oX3 a_t_rig_sequence u_t_rig_circuit u_t_rig_log u_t_rig_score a_t_rig_strokes u_t_rig_positions u_t_rig_timers u_t_rig_faults t_rig), (a_t_rig_sequence, oX5 a_t_rig_sequence_plus a_t_rig_sequence_minus a_t_rig_sequence_pauses u_t_rig_sequence_outBefore a_t_rig_sequence_cuts a_t_rig_sequence_groupOfStep t_rig_sequence), (a_t_rig_sequence_cuts, oA cI 16 t_rig_sequence_cuts), (a_t_rig_sequence_groupOfStep, oA cI 16 t_rig_sequence_groupOfStep), (a_t_rig_sequence_minus, oA cI 16 t_rig_sequence_minus), (a_t_rig_sequence_pauses, oA cI 16 t_rig_sequence_pauses), (a_t_rig_sequence_plus, oA cI 16 t_rig_sequence_plus), (a_t_rig_strokes, oA cI 6 t_rig_strokes), (a_t_trial, oX3 m_0 a_t_trial_circuit a_t_trial_log a_t_trial_score a_t_trial_strokes a_t_trial_positions a_t_trial_timers a_t_trial_faults t_trial), (a_t_trial_circuit, oX0 t_trial_circuit), (a_t_trial_faults, oA cI 5 t_trial_faults), (a_t_trial_log, oX1 a_t_trial_log_times a_t_trial_log_moves t_trial_log), (a_t_trial_log_moves, oA cI 40 t_trial_log_moves), (a_t_trial_log_times, oA cI 40 t_trial_log_times), (a_t_trial_positions, oA cI 6 t_trial_positions), (a_t_trial_score, oX4 t_trial_score), (a_t_trial_strokes, oA cI 6 t_trial_strokes), (a_t_trial_timers, oA cI 16 t_trial_timers), (a_p1, oJ cJ 1 p1)]
abbrev rmL_cheapest : Room := { frames := 6, cells := 0, slots := 0, locals := 142 }
theorem hs_L_cheapest : yL_cheapest.cls ≠ "java/lang/invoke/MethodHandle" ∧ yL_cheapest.cls ≠ "java/lang/invoke/VarHandle" ∧ (parseMethodDescriptor yL_cheapest.desc).map (fun d => d.parameters.length) = some 2 := by decide +kernel
set_option maxHeartbeats 4000000 in
set_option maxRecDepth 100000 in
theorem kL_cheapest (l : Launch) (D : va_G) (cI cJ : ClassId) (a_t a_t_rig a_t_rig_sequence a_t_rig_sequence_cuts a_t_rig_sequence_groupOfStep a_t_rig_sequence_minus a_t_rig_sequence_pauses a_t_rig_sequence_plus a_t_rig_strokes a_t_trial a_t_trial_circuit a_t_trial_faults a_t_trial_log a_t_trial_log_moves a_t_trial_log_times a_t_trial_positions a_t_trial_score a_t_trial_strokes a_t_trial_timers a_p1 u_t_reader u_t_snapshot u_t_spare u_t_rig_circuit u_t_rig_log u_t_rig_score u_t_rig_positions u_t_rig_timers u_t_rig_faults u_t_rig_sequence_outBefore r_t_trial_sequence : Nat) (t : Nat → Int32) (t_rig : Nat → Int32) (t_rig_sequence : Nat → Int32) (t_rig_sequence_cuts : Nat → Int32) (t_rig_sequence_groupOfStep : Nat → Int32) (t_rig_sequence_minus : Nat → Int32) (t_rig_sequence_pauses : Nat → Int32) (t_rig_sequence_plus : Nat → Int32) (t_rig_strokes : Nat → Int32) (t_trial : Nat → Int32) (t_trial_circuit : Nat → Int32) (t_trial_faults : Nat → Int32) (t_trial_log : Nat → Int32) (t_trial_log_moves : Nat → Int32) (t_trial_log_times : Nat → Int32) (t_trial_positions : Nat → Int32) (t_trial_score : Nat → Int32) (t_trial_strokes : Nat → Int32) (t_trial_timers : Nat → Int32) (p1 : Nat → Int64) (r : Int32) (t_trial_o : Nat → Int32) (t_trial_circuit_o : Nat → Int32) (t_trial_faults_o : Nat → Int32) (t_trial_log_o : Nat → Int32) (t_trial_log_moves_o : Nat → Int32) (t_trial_log_times_o : Nat → Int32) (t_trial_positions_o : Nat → Int32) (t_trial_score_o : Nat → Int32) (t_trial_strokes_o : Nat → Int32) (t_trial_timers_o : Nat → Int32) (p1_o : Nat → Int64) (q0_o : Nat) (hm : mL_cheapest r_t_trial_sequence a_t_rig_sequence t_rig_sequence t_rig_sequence_cuts t_rig_sequence_groupOfStep t_rig_sequence_minus t_rig_sequence_pauses t_rig_sequence_plus t_rig_strokes t_trial t_trial_circuit t_trial_faults t_trial_log t_trial_log_moves t_trial_log_times t_trial_positions t_trial_score t_trial_strokes t_trial_timers p1 = some (r, t_trial_o, t_trial_circuit_o, t_trial_faults_o, t_trial_log_o, t_trial_log_moves_o, t_trial_log_times_o, t_trial_positions_o, t_trial_score_o, t_trial_strokes_o, t_trial_timers_o, p1_o, q0_o)) : bq_MH l D cI cJ yL_cheapest cL_cheapest 3 (some .int) [(0, 8, 11, 15)] rmL_cheapest [.ref a_t, .ref a_p1] (wdL_cheapest cI cJ a_t a_t_rig a_t_rig_sequence a_t_rig_sequence_cuts a_t_rig_sequence_groupOfStep a_t_rig_sequence_minus a_t_rig_sequence_pauses a_t_rig_sequence_plus a_t_rig_strokes a_t_trial a_t_trial_circuit a_t_trial_faults a_t_trial_log a_t_trial_log_moves a_t_trial_log_times a_t_trial_positions a_t_trial_score a_t_trial_strokes a_t_trial_timers a_p1 u_t_reader u_t_snapshot u_t_spare u_t_rig_circuit u_t_rig_log u_t_rig_score u_t_rig_positions u_t_rig_timers u_t_rig_faults u_t_rig_sequence_outBefore r_t_trial_sequence t t_rig t_rig_sequence t_rig_sequence_cuts t_rig_sequence_groupOfStep t_rig_sequence_minus t_rig_sequence_pauses t_rig_sequence_plus t_rig_strokes t_trial t_trial_circuit t_trial_faults t_trial_log t_trial_log_moves t_trial_log_times t_trial_positions t_trial_score t_trial_strokes t_trial_timers p1) (wdL_cheapest cI cJ a_t a_t_rig a_t_rig_sequence a_t_rig_sequence_cuts a_t_rig_sequence_groupOfStep a_t_rig_sequence_minus a_t_rig_sequence_pauses a_t_rig_sequence_plus a_t_rig_strokes a_t_trial a_t_trial_circuit a_t_trial_faults a_t_trial_log a_t_trial_log_moves a_t_trial_log_times a_t_trial_positions a_t_trial_score a_t_trial_strokes a_t_trial_timers a_p1 u_t_reader u_t_snapshot u_t_spare u_t_rig_circuit u_t_rig_log u_t_rig_score u_t_rig_positions u_t_rig_timers u_t_rig_faults u_t_rig_sequence_outBefore q0_o t t_rig t_rig_sequence t_rig_sequence_cuts t_rig_sequence_groupOfStep t_rig_sequence_minus t_rig_sequence_pauses t_rig_sequence_plus t_rig_strokes t_trial_o t_trial_circuit_o t_trial_faults_o t_trial_log_o t_trial_log_moves_o t_trial_log_times_o t_trial_positions_o t_trial_score_o t_trial_strokes_o t_trial_timers_o p1_o) (some (.int r)) := by
  refine bq_startH (by decide) (Nat.le_of_ble_eq_true rfl) ?_
  intro p e s m av9 below meth c A ls Q H locs E K w hA hr hk hX htab hQ hl
  have E : bq_E p m c cL_cheapest 3 s av9 RL := E
  have hx := E.1
  have hb := E.2.1
  have hl : lv_has ls 3 [(0, .ref a_t), (1, .ref a_p1)] := hl
  unfold mL_cheapest at hm
  refine lv_aload_n hx hb dL_cheapest_0 rfl (lv_at hl 1 rfl) ?_
  refine lv_iconst (v := 0) hx hb dL_cheapest_1 (by decide) ?_
  refine lv_aload_n hx hb dL_cheapest_2 rfl (lv_at hl 0 rfl) ?_
  obtain ⟨v1, t_trial_2, t_trial_circuit_3, t_trial_faults_4, t_trial_log_5, t_trial_log_moves_6, t_trial_log_times_7, t_trial_positions_8, t_trial_score_9, t_trial_strokes_10, t_trial_timers_11, q12, hC, hm⟩ := bq_b12_el hm
  refine bq_V (As := []) (rest := [.int 0, .ref a_p1]) (st1 := [.int v1, .int 0, .ref a_p1]) (ws' := wdL_cheapest cI cJ a_t a_t_rig a_t_rig_sequence a_t_rig_sequence_cuts a_t_rig_sequence_groupOfStep a_t_rig_sequence_minus a_t_rig_sequence_pauses a_t_rig_sequence_plus a_t_rig_strokes a_t_trial a_t_trial_circuit a_t_trial_faults a_t_trial_log a_t_trial_log_moves a_t_trial_log_times a_t_trial_positions a_t_trial_score a_t_trial_strokes a_t_trial_timers a_p1 u_t_reader u_t_snapshot u_t_spare u_t_rig_circuit u_t_rig_log u_t_rig_score u_t_rig_positions u_t_rig_timers u_t_rig_faults u_t_rig_sequence_outBefore q12 t t_rig t_rig_sequence t_rig_sequence_cuts t_rig_sequence_groupOfStep t_rig_sequence_minus t_rig_sequence_pauses t_rig_sequence_plus t_rig_strokes t_trial_2 t_trial_circuit_3 t_trial_faults_4 t_trial_log_5 t_trial_log_moves_6 t_trial_log_times_7 t_trial_positions_8 t_trial_score_9 t_trial_strokes_10 t_trial_timers_11 p1) E K w hA (kX7_cheapest l D cI cJ a_t a_t_rig a_t_rig_sequence a_t_rig_sequence_cuts a_t_rig_sequence_groupOfStep a_t_rig_sequence_minus a_t_rig_sequence_pauses a_t_rig_sequence_plus a_t_rig_strokes a_t_trial a_t_trial_circuit a_t_trial_faults a_t_trial_log a_t_trial_log_moves a_t_trial_log_times a_t_trial_positions a_t_trial_score a_t_trial_strokes a_t_trial_timers u_t_reader u_t_snapshot u_t_spare u_t_rig_circuit u_t_rig_log u_t_rig_score u_t_rig_positions u_t_rig_timers u_t_rig_faults u_t_rig_sequence_outBefore r_t_trial_sequence t t_rig t_rig_sequence t_rig_sequence_cuts t_rig_sequence_groupOfStep t_rig_sequence_minus t_rig_sequence_pauses t_rig_sequence_plus t_rig_strokes t_trial t_trial_circuit t_trial_faults t_trial_log t_trial_log_moves t_trial_log_times t_trial_positions t_trial_score t_trial_strokes t_trial_timers v1 t_trial_2 t_trial_circuit_3 t_trial_faults_4 t_trial_log_5 t_trial_log_moves_6 t_trial_log_times_7 t_trial_positions_8 t_trial_score_9 t_trial_strokes_10 t_trial_timers_11 q12 hC) (bq_gV ml_L_90 im_X7_cheapest sl_X7_cheapest in_X7 cd_X7_cheapest) hd_X7_cheapest ⟨Nat.le_of_ble_eq_true rfl, Nat.le_of_ble_eq_true rfl⟩ ⟨Nat.le_of_ble_eq_true rfl, Nat.le_of_ble_eq_true rfl⟩ ⟨[0, 1, 2, 3, 4, 5, 6, 7, 8, 9, 10, 11, 12, 13, 14, 15, 16, 17, 18], [19], [1, 2, 3, 4, 5, 6, 7, 8, 9, 10, 11, 12, 13, 14, 15, 16, 17, 18, 19, 0], rfl, rfl, rfl, rfl, rfl, rfl, rfl, rfl, rfl⟩ 0 rfl rfl rfl hl.1 rfl (Nat.le_of_ble_eq_true rfl) rfl dL_cheapest_3 (fun H locs w => bq_z ⟨rfl, rfl⟩ ?_)
  clear hC
  refine lv_i2l hx hb dL_cheapest_6 rfl ?_
  obtain ⟨p1_13, e9, hm⟩ := bq_let_el hm
  refine bq_lastk E K w 19 rfl 0 (by decide) (by unfold vp_in; decide) dL_cheapest_7 (fun H locs w => ?_)
  replace w : bq_w D A s.heap (wdL_cheapest cI cJ a_t a_t_rig a_t_rig_sequence a_t_rig_sequence_cuts a_t_rig_sequence_groupOfStep a_t_rig_sequence_minus a_t_rig_sequence_pauses a_t_rig_sequence_plus a_t_rig_strokes a_t_trial a_t_trial_circuit a_t_trial_faults a_t_trial_log a_t_trial_log_moves a_t_trial_log_times a_t_trial_positions a_t_trial_score a_t_trial_strokes a_t_trial_timers a_p1 u_t_reader u_t_snapshot u_t_spare u_t_rig_circuit u_t_rig_log u_t_rig_score u_t_rig_positions u_t_rig_timers u_t_rig_faults u_t_rig_sequence_outBefore q12 t t_rig t_rig_sequence t_rig_sequence_cuts t_rig_sequence_groupOfStep t_rig_sequence_minus t_rig_sequence_pauses t_rig_sequence_plus t_rig_strokes t_trial_2 t_trial_circuit_3 t_trial_faults_4 t_trial_log_5 t_trial_log_moves_6 t_trial_log_times_7 t_trial_positions_8 t_trial_score_9 t_trial_strokes_10 t_trial_timers_11 p1_13) H locs := by rw [e9]; exact w
  clear e9
  refine lv_goto (tgt := 14) hx hb dL_cheapest_8 (by decide) ?_
  refine lv_iconst (v := 0) hx hb dL_cheapest_14 (by decide) ?_
  obtain ⟨rfl, rfl, rfl, rfl, rfl, rfl, rfl, rfl, rfl, rfl, rfl, rfl, rfl⟩ := bq_in13 (Option.some.inj hm)
  exact bq_hret E w hr hk dL_cheapest_15 hQ
abbrev rmTL_cheapest : Room := { frames := 8, cells := 1, slots := 6, locals := 144 }
set_option maxHeartbeats 4000000 in
set_option maxRecDepth 100000 in
theorem tkL_cheapest {l : Launch} (hlf : l.stackTraces = false) (D : va_G) (cI cJ : ClassId) (a_t a_t_rig a_t_rig_sequence a_t_rig_sequence_cuts a_t_rig_sequence_groupOfStep a_t_rig_sequence_minus a_t_rig_sequence_pauses a_t_rig_sequence_plus a_t_rig_strokes a_t_trial a_t_trial_circuit a_t_trial_faults a_t_trial_log a_t_trial_log_moves a_t_trial_log_times a_t_trial_positions a_t_trial_score a_t_trial_strokes a_t_trial_timers a_p1 u_t_reader u_t_snapshot u_t_spare u_t_rig_circuit u_t_rig_log u_t_rig_score u_t_rig_positions u_t_rig_timers u_t_rig_faults u_t_rig_sequence_outBefore r_t_trial_sequence : Nat) (t : Nat → Int32) (t_rig : Nat → Int32) (t_rig_sequence : Nat → Int32) (t_rig_sequence_cuts : Nat → Int32) (t_rig_sequence_groupOfStep : Nat → Int32) (t_rig_sequence_minus : Nat → Int32) (t_rig_sequence_pauses : Nat → Int32) (t_rig_sequence_plus : Nat → Int32) (t_rig_strokes : Nat → Int32) (t_trial : Nat → Int32) (t_trial_circuit : Nat → Int32) (t_trial_faults : Nat → Int32) (t_trial_log : Nat → Int32) (t_trial_log_moves : Nat → Int32) (t_trial_log_times : Nat → Int32) (t_trial_positions : Nat → Int32) (t_trial_score : Nat → Int32) (t_trial_strokes : Nat → Int32) (t_trial_timers : Nat → Int32) (p1 : Nat → Int64) (r : Int32) (hm : tL_cheapest r_t_trial_sequence a_t_rig_sequence t_rig_sequence t_rig_sequence_cuts t_rig_sequence_groupOfStep t_rig_sequence_minus t_rig_sequence_pauses t_rig_sequence_plus t_rig_strokes t_trial t_trial_circuit t_trial_faults t_trial_log t_trial_log_moves t_trial_log_times t_trial_positions t_trial_score t_trial_strokes t_trial_timers p1 = some r) : bq_MH l D cI cJ yL_cheapest cL_cheapest 3 (some .int) [(0, 8, 11, 15)] rmTL_cheapest [.ref a_t, .ref a_p1] (wdL_cheapest cI cJ a_t a_t_rig a_t_rig_sequence a_t_rig_sequence_cuts a_t_rig_sequence_groupOfStep a_t_rig_sequence_minus a_t_rig_sequence_pauses a_t_rig_sequence_plus a_t_rig_strokes a_t_trial a_t_trial_circuit a_t_trial_faults a_t_trial_log a_t_trial_log_moves a_t_trial_log_times a_t_trial_positions a_t_trial_score a_t_trial_strokes a_t_trial_timers a_p1 u_t_reader u_t_snapshot u_t_spare u_t_rig_circuit u_t_rig_log u_t_rig_score u_t_rig_positions u_t_rig_timers u_t_rig_faults u_t_rig_sequence_outBefore r_t_trial_sequence t t_rig t_rig_sequence t_rig_sequence_cuts t_rig_sequence_groupOfStep t_rig_sequence_minus t_rig_sequence_pauses t_rig_sequence_plus t_rig_strokes t_trial t_trial_circuit t_trial_faults t_trial_log t_trial_log_moves t_trial_log_times t_trial_positions t_trial_score t_trial_strokes t_trial_timers p1) (wdL_cheapest cI cJ a_t a_t_rig a_t_rig_sequence a_t_rig_sequence_cuts a_t_rig_sequence_groupOfStep a_t_rig_sequence_minus a_t_rig_sequence_pauses a_t_rig_sequence_plus a_t_rig_strokes a_t_trial a_t_trial_circuit a_t_trial_faults a_t_trial_log a_t_trial_log_moves a_t_trial_log_times a_t_trial_positions a_t_trial_score a_t_trial_strokes a_t_trial_timers a_p1 u_t_reader u_t_snapshot u_t_spare u_t_rig_circuit u_t_rig_log u_t_rig_score u_t_rig_positions u_t_rig_timers u_t_rig_faults u_t_rig_sequence_outBefore r_t_trial_sequence t t_rig t_rig_sequence t_rig_sequence_cuts t_rig_sequence_groupOfStep t_rig_sequence_minus t_rig_sequence_pauses t_rig_sequence_plus t_rig_strokes t_trial t_trial_circuit t_trial_faults t_trial_log t_trial_log_moves t_trial_log_times t_trial_positions t_trial_score t_trial_strokes t_trial_timers p1) (some (.int r)) := by
  refine bq_startH (by decide) (Nat.le_of_ble_eq_true rfl) ?_
  intro p e s m av9 below meth c A ls Q H locs E K w hA hr hk hX htab hQ hl
  have E : bq_E p m c cL_cheapest 3 s av9 RL := E
  have hx := E.1
  have hb := E.2.1
  have hl : lv_has ls 3 [(0, .ref a_t), (1, .ref a_p1)] := hl
  unfold tL_cheapest at hm
  refine lv_aload_n hx hb dL_cheapest_0 rfl (lv_at hl 1 rfl) ?_
  refine lv_iconst (v := 0) hx hb dL_cheapest_1 (by decide) ?_
  refine lv_aload_n hx hb dL_cheapest_2 rfl (lv_at hl 0 rfl) ?_
  obtain ⟨k9, hC, hm⟩ := bq_bd_el hm
  by_cases hq : k9 = 1
  · subst hq
    replace hm := bq_t rfl hm
    obtain rfl := Option.some.inj hm
    refine bq_HV (As := []) (rest := [.int 0, .ref a_p1]) E K w hA hX ⟨rfl, rfl⟩ (tkX7_cheapest hlf D cI cJ a_t a_t_rig a_t_rig_sequence a_t_rig_sequence_cuts a_t_rig_sequence_groupOfStep a_t_rig_sequence_minus a_t_rig_sequence_pauses a_t_rig_sequence_plus a_t_rig_strokes a_t_trial a_t_trial_circuit a_t_trial_faults a_t_trial_log a_t_trial_log_moves a_t_trial_log_times a_t_trial_positions a_t_trial_score a_t_trial_strokes a_t_trial_timers u_t_reader u_t_snapshot u_t_spare u_t_rig_circuit u_t_rig_log u_t_rig_score u_t_rig_positions u_t_rig_timers u_t_rig_faults u_t_rig_sequence_outBefore r_t_trial_sequence t t_rig t_rig_sequence t_rig_sequence_cuts t_rig_sequence_groupOfStep t_rig_sequence_minus t_rig_sequence_pauses t_rig_sequence_plus t_rig_strokes t_trial t_trial_circuit t_trial_faults t_trial_log t_trial_log_moves t_trial_log_times t_trial_positions t_trial_score t_trial_strokes t_trial_timers _ hC) (bq_gV ml_L_90 im_X7_cheapest sl_X7_cheapest in_X7 cd_X7_cheapest) hd_X7_cheapest ⟨Nat.le_of_ble_eq_true rfl, Nat.le_of_ble_eq_true rfl⟩ ⟨Nat.le_of_ble_eq_true rfl, Nat.le_of_ble_eq_true rfl⟩ ⟨[0, 1, 2, 3, 4, 5, 6, 7, 8, 9, 10, 11, 12, 13, 14, 15, 16, 17, 18], [19], [1, 2, 3, 4, 5, 6, 7, 8, 9, 10, 11, 12, 13, 14, 15, 16, 17, 18, 19, 0], rfl, rfl, rfl, rfl, rfl, rfl, rfl, rfl, rfl⟩ 0 rfl rfl rfl hl.1 rfl (Nat.le_of_ble_eq_true rfl) dL_cheapest_3 (fun q9 ce H locs w h1 h2 h3 => ?_)
    refine vx_catch (E := "java/lang/IllegalStateException") (name := "java/lang/IllegalStateException") E.2.2.2.1 [] ⟨0, 8, 11, 15⟩ [] (by rw [htab]; rfl) (fun z h => by cases h) (by decide) (by decide) (E.2.2.2.2 _ cl_L_15) (va_Nw.use rfl (K.2 _ mc_IllegalStateException)) h1 h2 h3 ?_
    refine lv_astore_n (lv' := [(2, .ref q9), (0, .ref a_t), (1, .ref a_p1)]) hx hb dL_cheapest_11 rfl hl (by decide) rfl (fun ls hl => ?_)
    refine lv_iconst (v := 1) hx hb dL_cheapest_12 (by decide) ?_
    exact bq_hret E w hr hk dL_cheapest_13 hQ
  replace hm := bq_f hq hm
  cases hm
abbrev wdL_effect (cI : ClassId) (cJ : ClassId) (a_t a_t_rig a_t_rig_circuit a_t_rig_sequence a_t_rig_sequence_cuts a_t_rig_sequence_groupOfStep a_t_rig_sequence_minus a_t_rig_sequence_pauses a_t_rig_sequence_plus a_t_rig_strokes a_t_trial a_t_trial_circuit a_t_trial_faults a_t_trial_log a_t_trial_log_moves a_t_trial_log_times a_t_trial_positions a_t_trial_score a_t_trial_strokes a_t_trial_timers a_p4 u_t_reader u_t_snapshot u_t_spare u_t_rig_log u_t_rig_score u_t_rig_positions u_t_rig_timers u_t_rig_faults u_t_rig_sequence_outBefore m_0 : Nat) (t : Nat → Int32) (t_rig : Nat → Int32) (t_rig_circuit : Nat → Int32) (t_rig_sequence : Nat → Int32) (t_rig_sequence_cuts : Nat → Int32) (t_rig_sequence_groupOfStep : Nat → Int32) (t_rig_sequence_minus : Nat → Int32) (t_rig_sequence_pauses : Nat → Int32) (t_rig_sequence_plus : Nat → Int32) (t_rig_strokes : Nat → Int32) (t_trial : Nat → Int32) (t_trial_circuit : Nat → Int32) (t_trial_faults : Nat → Int32) (t_trial_log : Nat → Int32) (t_trial_log_moves : Nat → Int32) (t_trial_log_times : Nat → Int32) (t_trial_positions : Nat → Int32) (t_trial_score : Nat → Int32) (t_trial_strokes : Nat → Int32) (t_trial_timers : Nat → Int32) (p4 : Nat → Int64) : va_W := [(a_t, oX7 u_t_reader a_t_rig a_t_trial u_t_snapshot u_t_spare t), (a_t_rig, oX3 a_t_rig_sequence a_t_rig_circuit u_t_rig_log u_t_rig_score a_t_rig_strokes u_t_rig_positions u_t_rig_timers u_t_rig_faults t_rig), (a_t_rig_circuit, oX0 t_rig_circuit), (a_t_rig_sequence, oX5 a_t_rig_sequence_plus a_t_rig_sequence_minus a_t_rig_sequence_pauses u_t_rig_sequence_outBefore a_t_rig_sequence_cuts a_t_rig_sequence_groupOfStep t_rig_sequence), (a_t_rig_sequence_cuts, oA cI 16 t_rig_sequence_cuts), (a_t_rig_sequence_groupOfStep, oA cI 16 t_rig_sequence_groupOfStep), (a_t_rig_sequence_minus, oA cI 16 t_rig_sequence_minus), (a_t_rig_sequence_pauses, oA cI 16 t_rig_sequence_pauses), (a_t_rig_sequence_plus, oA cI 16 t_rig_sequence_plus), (a_t_rig_strokes, oA cI 6 t_rig_strokes), (a_t_trial, oX3 m_0 a_t_trial_circuit a_t_trial_log a_t_trial_score a_t_trial_strokes a_t_trial_positions a_t_trial_timers a_t_trial_faults t_trial), (a_t_trial_circuit, oX0 t_trial_circuit), (a_t_trial_faults, oA cI 5 t_trial_faults), (a_t_trial_log, oX1 a_t_trial_log_times a_t_trial_log_moves t_trial_log), (a_t_trial_log_moves, oA cI 40 t_trial_log_moves), (a_t_trial_log_times, oA cI 40 t_trial_log_times), (a_t_trial_positions, oA cI 6 t_trial_positions), (a_t_trial_score, oX4 t_trial_score), (a_t_trial_strokes, oA cI 6 t_trial_strokes), (a_t_trial_timers, oA cI 16 t_trial_timers), (a_p4, oJ cJ 1 p4)]
abbrev rmL_effect : Room := { frames := 6, cells := 0, slots := 0, locals := 140 }
theorem hs_L_effect : yL_effect.cls ≠ "java/lang/invoke/MethodHandle" ∧ yL_effect.cls ≠ "java/lang/invoke/VarHandle" ∧ (parseMethodDescriptor yL_effect.desc).map (fun d => d.parameters.length) = some 5 := by decide +kernel
set_option maxHeartbeats 4000000 in
set_option maxRecDepth 100000 in
theorem kL_effect (l : Launch) (D : va_G) (cI cJ : ClassId) (a_t a_t_rig a_t_rig_circuit a_t_rig_sequence a_t_rig_sequence_cuts a_t_rig_sequence_groupOfStep a_t_rig_sequence_minus a_t_rig_sequence_pauses a_t_rig_sequence_plus a_t_rig_strokes a_t_trial a_t_trial_circuit a_t_trial_faults a_t_trial_log a_t_trial_log_moves a_t_trial_log_times a_t_trial_positions a_t_trial_score a_t_trial_strokes a_t_trial_timers a_p4 u_t_reader u_t_snapshot u_t_spare u_t_rig_log u_t_rig_score u_t_rig_positions u_t_rig_timers u_t_rig_faults u_t_rig_sequence_outBefore r_t_trial_sequence : Nat) (t : Nat → Int32) (t_rig : Nat → Int32) (t_rig_circuit : Nat → Int32) (t_rig_sequence : Nat → Int32) (t_rig_sequence_cuts : Nat → Int32) (t_rig_sequence_groupOfStep : Nat → Int32) (t_rig_sequence_minus : Nat → Int32) (t_rig_sequence_pauses : Nat → Int32) (t_rig_sequence_plus : Nat → Int32) (t_rig_strokes : Nat → Int32) (t_trial : Nat → Int32) (t_trial_circuit : Nat → Int32) (t_trial_faults : Nat → Int32) (t_trial_log : Nat → Int32) (t_trial_log_moves : Nat → Int32) (t_trial_log_times : Nat → Int32) (t_trial_positions : Nat → Int32) (t_trial_score : Nat → Int32) (t_trial_strokes : Nat → Int32) (t_trial_timers : Nat → Int32) (p4 : Nat → Int64) (x1 : Int32) (x2 : Int32) (x3 : Int32) (r : Int32) (t_trial_o : Nat → Int32) (t_trial_circuit_o : Nat → Int32) (t_trial_faults_o : Nat → Int32) (t_trial_log_o : Nat → Int32) (t_trial_log_moves_o : Nat → Int32) (t_trial_log_times_o : Nat → Int32) (t_trial_positions_o : Nat → Int32) (t_trial_score_o : Nat → Int32) (t_trial_strokes_o : Nat → Int32) (t_trial_timers_o : Nat → Int32) (p4_o : Nat → Int64) (hm : mL_effect t_rig_circuit t_rig_sequence t_rig_sequence_cuts t_rig_sequence_groupOfStep t_rig_sequence_minus t_rig_sequence_pauses t_rig_sequence_plus t_rig_strokes t_trial t_trial_circuit t_trial_faults t_trial_log t_trial_log_moves t_trial_log_times t_trial_positions t_trial_score t_trial_strokes t_trial_timers p4 x1 x2 x3 = some (r, t_trial_o, t_trial_circuit_o, t_trial_faults_o, t_trial_log_o, t_trial_log_moves_o, t_trial_log_times_o, t_trial_positions_o, t_trial_score_o, t_trial_strokes_o, t_trial_timers_o, p4_o)) : bq_MH l D cI cJ yL_effect cL_effect 6 (some .int) [(0, 12, 15, 20), (0, 12, 19, 13), (0, 12, 23, 15)] rmL_effect [.ref a_t, .int x1, .int x2, .int x3, .ref a_p4] (wdL_effect cI cJ a_t a_t_rig a_t_rig_circuit a_t_rig_sequence a_t_rig_sequence_cuts a_t_rig_sequence_groupOfStep a_t_rig_sequence_minus a_t_rig_sequence_pauses a_t_rig_sequence_plus a_t_rig_strokes a_t_trial a_t_trial_circuit a_t_trial_faults a_t_trial_log a_t_trial_log_moves a_t_trial_log_times a_t_trial_positions a_t_trial_score a_t_trial_strokes a_t_trial_timers a_p4 u_t_reader u_t_snapshot u_t_spare u_t_rig_log u_t_rig_score u_t_rig_positions u_t_rig_timers u_t_rig_faults u_t_rig_sequence_outBefore r_t_trial_sequence t t_rig t_rig_circuit t_rig_sequence t_rig_sequence_cuts t_rig_sequence_groupOfStep t_rig_sequence_minus t_rig_sequence_pauses t_rig_sequence_plus t_rig_strokes t_trial t_trial_circuit t_trial_faults t_trial_log t_trial_log_moves t_trial_log_times t_trial_positions t_trial_score t_trial_strokes t_trial_timers p4) (wdL_effect cI cJ a_t a_t_rig a_t_rig_circuit a_t_rig_sequence a_t_rig_sequence_cuts a_t_rig_sequence_groupOfStep a_t_rig_sequence_minus a_t_rig_sequence_pauses a_t_rig_sequence_plus a_t_rig_strokes a_t_trial a_t_trial_circuit a_t_trial_faults a_t_trial_log a_t_trial_log_moves a_t_trial_log_times a_t_trial_positions a_t_trial_score a_t_trial_strokes a_t_trial_timers a_p4 u_t_reader u_t_snapshot u_t_spare u_t_rig_log u_t_rig_score u_t_rig_positions u_t_rig_timers u_t_rig_faults u_t_rig_sequence_outBefore a_t_rig_sequence t t_rig t_rig_circuit t_rig_sequence t_rig_sequence_cuts t_rig_sequence_groupOfStep t_rig_sequence_minus t_rig_sequence_pauses t_rig_sequence_plus t_rig_strokes t_trial_o t_trial_circuit_o t_trial_faults_o t_trial_log_o t_trial_log_moves_o t_trial_log_times_o t_trial_positions_o t_trial_score_o t_trial_strokes_o t_trial_timers_o p4_o) (some (.int r)) := by
  refine bq_startH (by decide) (Nat.le_of_ble_eq_true rfl) ?_
  intro p e s m av9 below meth c A ls Q H locs E K w hA hr hk hX htab hQ hl
  have E : bq_E p m c cL_effect 6 s av9 RL := E
  have hx := E.1
  have hb := E.2.1
  have hl : lv_has ls 6 [(0, .ref a_t), (1, .int x1), (2, .int x2), (3, .int x3), (4, .ref a_p4)] := hl
  unfold mL_effect at hm
  refine lv_aload hx hb dL_effect_0 (lv_at hl 4 rfl) ?_
  refine lv_iconst (v := 0) hx hb dL_effect_2 (by decide) ?_
  refine lv_aload_n hx hb dL_effect_3 rfl (lv_at hl 0 rfl) ?_
  refine lv_iload_n hx hb dL_effect_4 rfl (lv_at hl 1 rfl) ?_
  refine lv_iload_n hx hb dL_effect_5 rfl (lv_at hl 2 rfl) ?_
  refine lv_iload_n hx hb dL_effect_6 rfl (lv_at hl 3 rfl) ?_
  obtain ⟨v1, t_trial_2, t_trial_circuit_3, t_trial_faults_4, t_trial_log_5, t_trial_log_moves_6, t_trial_log_times_7, t_trial_positions_8, t_trial_score_9, t_trial_strokes_10, t_trial_timers_11, hC, hm⟩ := bq_b11_el hm
  refine bq_V (As := [.int x1, .int x2, .int x3]) (rest := [.int 0, .ref a_p4]) (st1 := [.int v1, .int 0, .ref a_p4]) (ws' := wdL_effect cI cJ a_t a_t_rig a_t_rig_circuit a_t_rig_sequence a_t_rig_sequence_cuts a_t_rig_sequence_groupOfStep a_t_rig_sequence_minus a_t_rig_sequence_pauses a_t_rig_sequence_plus a_t_rig_strokes a_t_trial a_t_trial_circuit a_t_trial_faults a_t_trial_log a_t_trial_log_moves a_t_trial_log_times a_t_trial_positions a_t_trial_score a_t_trial_strokes a_t_trial_timers a_p4 u_t_reader u_t_snapshot u_t_spare u_t_rig_log u_t_rig_score u_t_rig_positions u_t_rig_timers u_t_rig_faults u_t_rig_sequence_outBefore a_t_rig_sequence t t_rig t_rig_circuit t_rig_sequence t_rig_sequence_cuts t_rig_sequence_groupOfStep t_rig_sequence_minus t_rig_sequence_pauses t_rig_sequence_plus t_rig_strokes t_trial_2 t_trial_circuit_3 t_trial_faults_4 t_trial_log_5 t_trial_log_moves_6 t_trial_log_times_7 t_trial_positions_8 t_trial_score_9 t_trial_strokes_10 t_trial_timers_11 p4) E K w hA (kX7_effect l D cI cJ a_t a_t_rig a_t_rig_circuit a_t_rig_sequence a_t_rig_sequence_cuts a_t_rig_sequence_groupOfStep a_t_rig_sequence_minus a_t_rig_sequence_pauses a_t_rig_sequence_plus a_t_rig_strokes a_t_trial a_t_trial_circuit a_t_trial_faults a_t_trial_log a_t_trial_log_moves a_t_trial_log_times a_t_trial_positions a_t_trial_score a_t_trial_strokes a_t_trial_timers u_t_reader u_t_snapshot u_t_spare u_t_rig_log u_t_rig_score u_t_rig_positions u_t_rig_timers u_t_rig_faults u_t_rig_sequence_outBefore r_t_trial_sequence t t_rig t_rig_circuit t_rig_sequence t_rig_sequence_cuts t_rig_sequence_groupOfStep t_rig_sequence_minus t_rig_sequence_pauses t_rig_sequence_plus t_rig_strokes t_trial t_trial_circuit t_trial_faults t_trial_log t_trial_log_moves t_trial_log_times t_trial_positions t_trial_score t_trial_strokes t_trial_timers x1 x2 x3 v1 t_trial_2 t_trial_circuit_3 t_trial_faults_4 t_trial_log_5 t_trial_log_moves_6 t_trial_log_times_7 t_trial_positions_8 t_trial_score_9 t_trial_strokes_10 t_trial_timers_11 hC) (bq_gV ml_L_93 im_X7_effect sl_X7_effect in_X7 cd_X7_effect) hd_X7_effect ⟨Nat.le_of_ble_eq_true rfl, Nat.le_of_ble_eq_true rfl⟩ ⟨Nat.le_of_ble_eq_true rfl, Nat.le_of_ble_eq_true rfl⟩ ⟨[0, 1, 2, 3, 4, 5, 6, 7, 8, 9, 10, 11, 12, 13, 14, 15, 16, 17, 18, 19], [20], [1, 2, 3, 4, 5, 6, 7, 8, 9, 10, 11, 12, 13, 14, 15, 16, 17, 18, 19, 20, 0], rfl, rfl, rfl, rfl, rfl, rfl, rfl, rfl, rfl⟩ 0 rfl rfl rfl hl.1 rfl (Nat.le_of_ble_eq_true rfl) rfl dL_effect_7 (fun H locs w => bq_z ⟨rfl, rfl⟩ ?_)
  clear hC
  refine lv_i2l hx hb dL_effect_10 rfl ?_
  obtain ⟨p4_12, e9, hm⟩ := bq_let_el hm
  refine bq_lastk E K w 20 rfl 0 (by decide) (by unfold vp_in; decide) dL_effect_11 (fun H locs w => ?_)
  replace w : bq_w D A s.heap (wdL_effect cI cJ a_t a_t_rig a_t_rig_circuit a_t_rig_sequence a_t_rig_sequence_cuts a_t_rig_sequence_groupOfStep a_t_rig_sequence_minus a_t_rig_sequence_pauses a_t_rig_sequence_plus a_t_rig_strokes a_t_trial a_t_trial_circuit a_t_trial_faults a_t_trial_log a_t_trial_log_moves a_t_trial_log_times a_t_trial_positions a_t_trial_score a_t_trial_strokes a_t_trial_timers a_p4 u_t_reader u_t_snapshot u_t_spare u_t_rig_log u_t_rig_score u_t_rig_positions u_t_rig_timers u_t_rig_faults u_t_rig_sequence_outBefore a_t_rig_sequence t t_rig t_rig_circuit t_rig_sequence t_rig_sequence_cuts t_rig_sequence_groupOfStep t_rig_sequence_minus t_rig_sequence_pauses t_rig_sequence_plus t_rig_strokes t_trial_2 t_trial_circuit_3 t_trial_faults_4 t_trial_log_5 t_trial_log_moves_6 t_trial_log_times_7 t_trial_positions_8 t_trial_score_9 t_trial_strokes_10 t_trial_timers_11 p4_12) H locs := by rw [e9]; exact w
  clear e9
  refine lv_goto (tgt := 27) hx hb dL_effect_12 (by decide) ?_
  refine lv_iconst (v := 0) hx hb dL_effect_27 (by decide) ?_
  obtain ⟨rfl, rfl, rfl, rfl, rfl, rfl, rfl, rfl, rfl, rfl, rfl, rfl⟩ := bq_in12 (Option.some.inj hm)
  exact bq_hret E w hr hk dL_effect_28 hQ
abbrev rmTL_effect : Room := { frames := 8, cells := 1, slots := 6, locals := 143 }
set_option maxHeartbeats 4000000 in
set_option maxRecDepth 100000 in
theorem tkL_effect {l : Launch} (hlf : l.stackTraces = false) (D : va_G) (cI cJ : ClassId) (a_t a_t_rig a_t_rig_circuit a_t_rig_sequence a_t_rig_sequence_cuts a_t_rig_sequence_groupOfStep a_t_rig_sequence_minus a_t_rig_sequence_pauses a_t_rig_sequence_plus a_t_rig_strokes a_t_trial a_t_trial_circuit a_t_trial_faults a_t_trial_log a_t_trial_log_moves a_t_trial_log_times a_t_trial_positions a_t_trial_score a_t_trial_strokes a_t_trial_timers a_p4 u_t_reader u_t_snapshot u_t_spare u_t_rig_log u_t_rig_score u_t_rig_positions u_t_rig_timers u_t_rig_faults u_t_rig_sequence_outBefore r_t_trial_sequence : Nat) (t : Nat → Int32) (t_rig : Nat → Int32) (t_rig_circuit : Nat → Int32) (t_rig_sequence : Nat → Int32) (t_rig_sequence_cuts : Nat → Int32) (t_rig_sequence_groupOfStep : Nat → Int32) (t_rig_sequence_minus : Nat → Int32) (t_rig_sequence_pauses : Nat → Int32) (t_rig_sequence_plus : Nat → Int32) (t_rig_strokes : Nat → Int32) (t_trial : Nat → Int32) (t_trial_circuit : Nat → Int32) (t_trial_faults : Nat → Int32) (t_trial_log : Nat → Int32) (t_trial_log_moves : Nat → Int32) (t_trial_log_times : Nat → Int32) (t_trial_positions : Nat → Int32) (t_trial_score : Nat → Int32) (t_trial_strokes : Nat → Int32) (t_trial_timers : Nat → Int32) (p4 : Nat → Int64) (x1 : Int32) (x2 : Int32) (x3 : Int32) (r : Int32) (hm : tL_effect t_rig_circuit t_rig_sequence t_rig_sequence_cuts t_rig_sequence_groupOfStep t_rig_sequence_minus t_rig_sequence_pauses t_rig_sequence_plus t_rig_strokes t_trial t_trial_circuit t_trial_faults t_trial_log t_trial_log_moves t_trial_log_times t_trial_positions t_trial_score t_trial_strokes t_trial_timers p4 x1 x2 x3 = some r) : bq_MH l D cI cJ yL_effect cL_effect 6 (some .int) [(0, 12, 15, 20), (0, 12, 19, 13), (0, 12, 23, 15)] rmTL_effect [.ref a_t, .int x1, .int x2, .int x3, .ref a_p4] (wdL_effect cI cJ a_t a_t_rig a_t_rig_circuit a_t_rig_sequence a_t_rig_sequence_cuts a_t_rig_sequence_groupOfStep a_t_rig_sequence_minus a_t_rig_sequence_pauses a_t_rig_sequence_plus a_t_rig_strokes a_t_trial a_t_trial_circuit a_t_trial_faults a_t_trial_log a_t_trial_log_moves a_t_trial_log_times a_t_trial_positions a_t_trial_score a_t_trial_strokes a_t_trial_timers a_p4 u_t_reader u_t_snapshot u_t_spare u_t_rig_log u_t_rig_score u_t_rig_positions u_t_rig_timers u_t_rig_faults u_t_rig_sequence_outBefore r_t_trial_sequence t t_rig t_rig_circuit t_rig_sequence t_rig_sequence_cuts t_rig_sequence_groupOfStep t_rig_sequence_minus t_rig_sequence_pauses t_rig_sequence_plus t_rig_strokes t_trial t_trial_circuit t_trial_faults t_trial_log t_trial_log_moves t_trial_log_times t_trial_positions t_trial_score t_trial_strokes t_trial_timers p4) (wdL_effect cI cJ a_t a_t_rig a_t_rig_circuit a_t_rig_sequence a_t_rig_sequence_cuts a_t_rig_sequence_groupOfStep a_t_rig_sequence_minus a_t_rig_sequence_pauses a_t_rig_sequence_plus a_t_rig_strokes a_t_trial a_t_trial_circuit a_t_trial_faults a_t_trial_log a_t_trial_log_moves a_t_trial_log_times a_t_trial_positions a_t_trial_score a_t_trial_strokes a_t_trial_timers a_p4 u_t_reader u_t_snapshot u_t_spare u_t_rig_log u_t_rig_score u_t_rig_positions u_t_rig_timers u_t_rig_faults u_t_rig_sequence_outBefore r_t_trial_sequence t t_rig t_rig_circuit t_rig_sequence t_rig_sequence_cuts t_rig_sequence_groupOfStep t_rig_sequence_minus t_rig_sequence_pauses t_rig_sequence_plus t_rig_strokes t_trial t_trial_circuit t_trial_faults t_trial_log t_trial_log_moves t_trial_log_times t_trial_positions t_trial_score t_trial_strokes t_trial_timers p4) (some (.int r)) := by
  refine bq_startH (by decide) (Nat.le_of_ble_eq_true rfl) ?_
  intro p e s m av9 below meth c A ls Q H locs E K w hA hr hk hX htab hQ hl
  have E : bq_E p m c cL_effect 6 s av9 RL := E
  have hx := E.1
  have hb := E.2.1
  have hl : lv_has ls 6 [(0, .ref a_t), (1, .int x1), (2, .int x2), (3, .int x3), (4, .ref a_p4)] := hl
  unfold tL_effect at hm
  refine lv_aload hx hb dL_effect_0 (lv_at hl 4 rfl) ?_
  refine lv_iconst (v := 0) hx hb dL_effect_2 (by decide) ?_
  refine lv_aload_n hx hb dL_effect_3 rfl (lv_at hl 0 rfl) ?_
  refine lv_iload_n hx hb dL_effect_4 rfl (lv_at hl 1 rfl) ?_
  refine lv_iload_n hx hb dL_effect_5 rfl (lv_at hl 2 rfl) ?_
  refine lv_iload_n hx hb dL_effect_6 rfl (lv_at hl 3 rfl) ?_
  obtain ⟨k9, hC, hm⟩ := bq_bd_el hm
  by_cases hq : k9 = 2
  · subst hq
    replace hm := bq_t rfl hm
    obtain rfl := Option.some.inj hm
    refine bq_HV (As := [.int x1, .int x2, .int x3]) (rest := [.int 0, .ref a_p4]) E K w hA hX ⟨rfl, rfl⟩ (tkX7_effect hlf D cI cJ a_t a_t_rig a_t_rig_circuit a_t_rig_sequence a_t_rig_sequence_cuts a_t_rig_sequence_groupOfStep a_t_rig_sequence_minus a_t_rig_sequence_pauses a_t_rig_sequence_plus a_t_rig_strokes a_t_trial a_t_trial_circuit a_t_trial_faults a_t_trial_log a_t_trial_log_moves a_t_trial_log_times a_t_trial_positions a_t_trial_score a_t_trial_strokes a_t_trial_timers u_t_reader u_t_snapshot u_t_spare u_t_rig_log u_t_rig_score u_t_rig_positions u_t_rig_timers u_t_rig_faults u_t_rig_sequence_outBefore r_t_trial_sequence t t_rig t_rig_circuit t_rig_sequence t_rig_sequence_cuts t_rig_sequence_groupOfStep t_rig_sequence_minus t_rig_sequence_pauses t_rig_sequence_plus t_rig_strokes t_trial t_trial_circuit t_trial_faults t_trial_log t_trial_log_moves t_trial_log_times t_trial_positions t_trial_score t_trial_strokes t_trial_timers x1 x2 x3 _ hC) (bq_gV ml_L_93 im_X7_effect sl_X7_effect in_X7 cd_X7_effect) hd_X7_effect ⟨Nat.le_of_ble_eq_true rfl, Nat.le_of_ble_eq_true rfl⟩ ⟨Nat.le_of_ble_eq_true rfl, Nat.le_of_ble_eq_true rfl⟩ ⟨[0, 1, 2, 3, 4, 5, 6, 7, 8, 9, 10, 11, 12, 13, 14, 15, 16, 17, 18, 19], [20], [1, 2, 3, 4, 5, 6, 7, 8, 9, 10, 11, 12, 13, 14, 15, 16, 17, 18, 19, 20, 0], rfl, rfl, rfl, rfl, rfl, rfl, rfl, rfl, rfl⟩ 0 rfl rfl rfl hl.1 rfl (Nat.le_of_ble_eq_true rfl) dL_effect_7 (fun q9 ce H locs w h1 h2 h3 => ?_)
    refine vx_catch (E := "java/lang/IndexOutOfBoundsException") (name := "java/lang/IndexOutOfBoundsException") E.2.2.2.1 [] ⟨0, 12, 15, 20⟩ [⟨0, 12, 19, 13⟩, ⟨0, 12, 23, 15⟩] (by rw [htab]; rfl) (fun z h => by cases h) (by decide) (by decide) (E.2.2.2.2 _ cl_L_20) (va_Nw.use rfl (K.2 _ mc_IndexOutOfBoundsException)) h1 h2 h3 ?_
    refine lv_astore (lv' := [(5, .ref q9), (0, .ref a_t), (1, .int x1), (2, .int x2), (3, .int x3), (4, .ref a_p4)]) hx hb dL_effect_15 hl (by decide) rfl (fun ls hl => ?_)
    refine lv_iconst (v := 1) hx hb dL_effect_17 (by decide) ?_
    exact bq_hret E w hr hk dL_effect_18 hQ
  replace hm := bq_f hq hm
  by_cases hq : k9 = 0
  · subst hq
    replace hm := bq_t rfl hm
    obtain rfl := Option.some.inj hm
    refine bq_HV (As := [.int x1, .int x2, .int x3]) (rest := [.int 0, .ref a_p4]) E K w hA hX ⟨rfl, rfl⟩ (tkX7_effect hlf D cI cJ a_t a_t_rig a_t_rig_circuit a_t_rig_sequence a_t_rig_sequence_cuts a_t_rig_sequence_groupOfStep a_t_rig_sequence_minus a_t_rig_sequence_pauses a_t_rig_sequence_plus a_t_rig_strokes a_t_trial a_t_trial_circuit a_t_trial_faults a_t_trial_log a_t_trial_log_moves a_t_trial_log_times a_t_trial_positions a_t_trial_score a_t_trial_strokes a_t_trial_timers u_t_reader u_t_snapshot u_t_spare u_t_rig_log u_t_rig_score u_t_rig_positions u_t_rig_timers u_t_rig_faults u_t_rig_sequence_outBefore r_t_trial_sequence t t_rig t_rig_circuit t_rig_sequence t_rig_sequence_cuts t_rig_sequence_groupOfStep t_rig_sequence_minus t_rig_sequence_pauses t_rig_sequence_plus t_rig_strokes t_trial t_trial_circuit t_trial_faults t_trial_log t_trial_log_moves t_trial_log_times t_trial_positions t_trial_score t_trial_strokes t_trial_timers x1 x2 x3 _ hC) (bq_gV ml_L_93 im_X7_effect sl_X7_effect in_X7 cd_X7_effect) hd_X7_effect ⟨Nat.le_of_ble_eq_true rfl, Nat.le_of_ble_eq_true rfl⟩ ⟨Nat.le_of_ble_eq_true rfl, Nat.le_of_ble_eq_true rfl⟩ ⟨[0, 1, 2, 3, 4, 5, 6, 7, 8, 9, 10, 11, 12, 13, 14, 15, 16, 17, 18, 19], [20], [1, 2, 3, 4, 5, 6, 7, 8, 9, 10, 11, 12, 13, 14, 15, 16, 17, 18, 19, 20, 0], rfl, rfl, rfl, rfl, rfl, rfl, rfl, rfl, rfl⟩ 0 rfl rfl rfl hl.1 rfl (Nat.le_of_ble_eq_true rfl) dL_effect_7 (fun q9 ce H locs w h1 h2 h3 => ?_)
    refine vx_catch (E := "java/lang/IllegalArgumentException") (name := "java/lang/IllegalArgumentException") E.2.2.2.1 [⟨0, 12, 15, 20⟩] ⟨0, 12, 19, 13⟩ [⟨0, 12, 23, 15⟩] (by rw [htab]; rfl) (fun z h => by rw [List.mem_singleton.mp h]; exact Or.inr ⟨by decide, "java/lang/IndexOutOfBoundsException", E.2.2.2.2 _ cl_L_20, hX.2.2.2.2.1⟩) (by decide) (by decide) (E.2.2.2.2 _ cl_L_13) (va_Nw.use rfl (K.2 _ mc_IllegalArgumentException)) h1 h2 h3 ?_
    refine lv_astore (lv' := [(5, .ref q9), (0, .ref a_t), (1, .int x1), (2, .int x2), (3, .int x3), (4, .ref a_p4)]) hx hb dL_effect_19 hl (by decide) rfl (fun ls hl => ?_)
    refine lv_iconst (v := 2) hx hb dL_effect_21 (by decide) ?_
    exact bq_hret E w hr hk dL_effect_22 hQ
  replace hm := bq_f hq hm
  by_cases hq : k9 = 1
  · subst hq
    replace hm := bq_t rfl hm
    obtain rfl := Option.some.inj hm
    refine bq_HV (As := [.int x1, .int x2, .int x3]) (rest := [.int 0, .ref a_p4]) E K w hA hX ⟨rfl, rfl⟩ (tkX7_effect hlf D cI cJ a_t a_t_rig a_t_rig_circuit a_t_rig_sequence a_t_rig_sequence_cuts a_t_rig_sequence_groupOfStep a_t_rig_sequence_minus a_t_rig_sequence_pauses a_t_rig_sequence_plus a_t_rig_strokes a_t_trial a_t_trial_circuit a_t_trial_faults a_t_trial_log a_t_trial_log_moves a_t_trial_log_times a_t_trial_positions a_t_trial_score a_t_trial_strokes a_t_trial_timers u_t_reader u_t_snapshot u_t_spare u_t_rig_log u_t_rig_score u_t_rig_positions u_t_rig_timers u_t_rig_faults u_t_rig_sequence_outBefore r_t_trial_sequence t t_rig t_rig_circuit t_rig_sequence t_rig_sequence_cuts t_rig_sequence_groupOfStep t_rig_sequence_minus t_rig_sequence_pauses t_rig_sequence_plus t_rig_strokes t_trial t_trial_circuit t_trial_faults t_trial_log t_trial_log_moves t_trial_log_times t_trial_positions t_trial_score t_trial_strokes t_trial_timers x1 x2 x3 _ hC) (bq_gV ml_L_93 im_X7_effect sl_X7_effect in_X7 cd_X7_effect) hd_X7_effect ⟨Nat.le_of_ble_eq_true rfl, Nat.le_of_ble_eq_true rfl⟩ ⟨Nat.le_of_ble_eq_true rfl, Nat.le_of_ble_eq_true rfl⟩ ⟨[0, 1, 2, 3, 4, 5, 6, 7, 8, 9, 10, 11, 12, 13, 14, 15, 16, 17, 18, 19], [20], [1, 2, 3, 4, 5, 6, 7, 8, 9, 10, 11, 12, 13, 14, 15, 16, 17, 18, 19, 20, 0], rfl, rfl, rfl, rfl, rfl, rfl, rfl, rfl, rfl⟩ 0 rfl rfl rfl hl.1 rfl (Nat.le_of_ble_eq_true rfl) dL_effect_7 (fun q9 ce H locs w h1 h2 h3 => ?_)
    refine vx_catch (E := "java/lang/IllegalStateException") (name := "java/lang/IllegalStateException") E.2.2.2.1 [⟨0, 12, 15, 20⟩, ⟨0, 12, 19, 13⟩] ⟨0, 12, 23, 15⟩ [] (by rw [htab]; rfl) (fun z h => by
      rcases List.mem_cons.mp h with rfl | h
      · exact Or.inr ⟨by decide, "java/lang/IndexOutOfBoundsException", E.2.2.2.2 _ cl_L_20, hX.2.2.2.2.2⟩
      · rw [List.mem_singleton.mp h]; exact Or.inr ⟨by decide, "java/lang/IllegalArgumentException", E.2.2.2.2 _ cl_L_13, hX.2.2.2.1⟩) (by decide) (by decide) (E.2.2.2.2 _ cl_L_15) (va_Nw.use rfl (K.2 _ mc_IllegalStateException)) h1 h2 h3 ?_
    refine lv_astore (lv' := [(5, .ref q9), (0, .ref a_t), (1, .int x1), (2, .int x2), (3, .int x3), (4, .ref a_p4)]) hx hb dL_effect_23 hl (by decide) rfl (fun ls hl => ?_)
    refine lv_iconst (v := 3) hx hb dL_effect_25 (by decide) ?_
    exact bq_hret E w hr hk dL_effect_26 hQ
  replace hm := bq_f hq hm
  cases hm
abbrev wdL_suspect (cI : ClassId) (cJ : ClassId) (a_t a_t_rig a_t_rig_circuit a_t_rig_positions a_t_rig_sequence a_t_rig_sequence_cuts a_t_rig_sequence_groupOfStep a_t_rig_sequence_minus a_t_rig_sequence_pauses a_t_rig_sequence_plus a_t_rig_strokes a_t_snapshot a_t_snapshot_positions a_t_snapshot_timers a_t_trial a_t_trial_circuit a_t_trial_faults a_t_trial_log a_t_trial_log_moves a_t_trial_log_times a_t_trial_positions a_t_trial_score a_t_trial_strokes a_t_trial_timers a_p2 u_t_reader u_t_spare u_t_rig_log u_t_rig_score u_t_rig_timers u_t_rig_faults u_t_rig_sequence_outBefore m_0 : Nat) (t : Nat → Int32) (t_rig : Nat → Int32) (t_rig_circuit : Nat → Int32) (t_rig_positions : Nat → Int32) (t_rig_sequence : Nat → Int32) (t_rig_sequence_cuts : Nat → Int32) (t_rig_sequence_groupOfStep : Nat → Int32) (t_rig_sequence_minus : Nat → Int32) (t_rig_sequence_pauses : Nat → Int32) (t_rig_sequence_plus : Nat → Int32) (t_rig_strokes : Nat → Int32) (t_snapshot : Nat → Int32) (t_snapshot_positions : Nat → Int32) (t_snapshot_timers : Nat → Int32) (t_trial : Nat → Int32) (t_trial_circuit : Nat → Int32) (t_trial_faults : Nat → Int32) (t_trial_log : Nat → Int32) (t_trial_log_moves : Nat → Int32) (t_trial_log_times : Nat → Int32) (t_trial_positions : Nat → Int32) (t_trial_score : Nat → Int32) (t_trial_strokes : Nat → Int32) (t_trial_timers : Nat → Int32) (p2 : Nat → Int64) : va_W := [(a_t, oX7 u_t_reader a_t_rig a_t_trial a_t_snapshot u_t_spare t), (a_t_rig, oX3 a_t_rig_sequence a_t_rig_circuit u_t_rig_log u_t_rig_score a_t_rig_strokes a_t_rig_positions u_t_rig_timers u_t_rig_faults t_rig), (a_t_rig_circuit, oX0 t_rig_circuit), (a_t_rig_positions, oA cI 6 t_rig_positions), (a_t_rig_sequence, oX5 a_t_rig_sequence_plus a_t_rig_sequence_minus a_t_rig_sequence_pauses u_t_rig_sequence_outBefore a_t_rig_sequence_cuts a_t_rig_sequence_groupOfStep t_rig_sequence), (a_t_rig_sequence_cuts, oA cI 16 t_rig_sequence_cuts), (a_t_rig_sequence_groupOfStep, oA cI 16 t_rig_sequence_groupOfStep), (a_t_rig_sequence_minus, oA cI 16 t_rig_sequence_minus), (a_t_rig_sequence_pauses, oA cI 16 t_rig_sequence_pauses), (a_t_rig_sequence_plus, oA cI 16 t_rig_sequence_plus), (a_t_rig_strokes, oA cI 6 t_rig_strokes), (a_t_snapshot, oX6 a_t_snapshot_positions a_t_snapshot_timers t_snapshot), (a_t_snapshot_positions, oA cI 6 t_snapshot_positions), (a_t_snapshot_timers, oA cI 16 t_snapshot_timers), (a_t_trial, oX3 m_0 a_t_trial_circuit a_t_trial_log a_t_trial_score a_t_trial_strokes a_t_trial_positions a_t_trial_timers a_t_trial_faults t_trial), (a_t_trial_circuit, oX0 t_trial_circuit), (a_t_trial_faults, oA cI 5 t_trial_faults), (a_t_trial_log, oX1 a_t_trial_log_times a_t_trial_log_moves t_trial_log), (a_t_trial_log_moves, oA cI 40 t_trial_log_moves), (a_t_trial_log_times, oA cI 40 t_trial_log_times), (a_t_trial_positions, oA cI 6 t_trial_positions), (a_t_trial_score, oX4 t_trial_score), (a_t_trial_strokes, oA cI 6 t_trial_strokes), (a_t_trial_timers, oA cI 16 t_trial_timers), (a_p2, oJ cJ 1 p2)]
abbrev rmL_suspect : Room := { frames := 7, cells := 0, slots := 0, locals := 169 }
theorem hs_L_suspect : yL_suspect.cls ≠ "java/lang/invoke/MethodHandle" ∧ yL_suspect.cls ≠ "java/lang/invoke/VarHandle" ∧ (parseMethodDescriptor yL_suspect.desc).map (fun d => d.parameters.length) = some 3 := by decide +kernel
set_option maxHeartbeats 4000000 in
set_option maxRecDepth 100000 in
theorem kL_suspect (l : Launch) (D : va_G) (cI cJ : ClassId) (a_t a_t_rig a_t_rig_circuit a_t_rig_positions a_t_rig_sequence a_t_rig_sequence_cuts a_t_rig_sequence_groupOfStep a_t_rig_sequence_minus a_t_rig_sequence_pauses a_t_rig_sequence_plus a_t_rig_strokes a_t_snapshot a_t_snapshot_positions a_t_snapshot_timers a_t_trial a_t_trial_circuit a_t_trial_faults a_t_trial_log a_t_trial_log_moves a_t_trial_log_times a_t_trial_positions a_t_trial_score a_t_trial_strokes a_t_trial_timers a_p2 u_t_reader u_t_spare u_t_rig_log u_t_rig_score u_t_rig_timers u_t_rig_faults u_t_rig_sequence_outBefore r_t_trial_sequence : Nat) (t : Nat → Int32) (t_rig : Nat → Int32) (t_rig_circuit : Nat → Int32) (t_rig_positions : Nat → Int32) (t_rig_sequence : Nat → Int32) (t_rig_sequence_cuts : Nat → Int32) (t_rig_sequence_groupOfStep : Nat → Int32) (t_rig_sequence_minus : Nat → Int32) (t_rig_sequence_pauses : Nat → Int32) (t_rig_sequence_plus : Nat → Int32) (t_rig_strokes : Nat → Int32) (t_snapshot : Nat → Int32) (t_snapshot_positions : Nat → Int32) (t_snapshot_timers : Nat → Int32) (t_trial : Nat → Int32) (t_trial_circuit : Nat → Int32) (t_trial_faults : Nat → Int32) (t_trial_log : Nat → Int32) (t_trial_log_moves : Nat → Int32) (t_trial_log_times : Nat → Int32) (t_trial_positions : Nat → Int32) (t_trial_score : Nat → Int32) (t_trial_strokes : Nat → Int32) (t_trial_timers : Nat → Int32) (p2 : Nat → Int64) (x1 : Int32) (r : Int32) (t_snapshot_o : Nat → Int32) (t_snapshot_positions_o : Nat → Int32) (t_snapshot_timers_o : Nat → Int32) (t_trial_o : Nat → Int32) (t_trial_circuit_o : Nat → Int32) (t_trial_faults_o : Nat → Int32) (t_trial_log_o : Nat → Int32) (t_trial_log_moves_o : Nat → Int32) (t_trial_log_times_o : Nat → Int32) (t_trial_positions_o : Nat → Int32) (t_trial_score_o : Nat → Int32) (t_trial_strokes_o : Nat → Int32) (t_trial_timers_o : Nat → Int32) (p2_o : Nat → Int64) (q0_o : Nat) (hm : mL_suspect r_t_trial_sequence a_t_rig_sequence t_rig t_rig_circuit t_rig_positions t_rig_sequence t_rig_sequence_cuts t_rig_sequence_groupOfStep t_rig_sequence_minus t_rig_sequence_pauses t_rig_sequence_plus t_rig_strokes t_snapshot t_snapshot_positions t_snapshot_timers t_trial t_trial_circuit t_trial_faults t_trial_log t_trial_log_moves t_trial_log_times t_trial_positions t_trial_score t_trial_strokes t_trial_timers p2 x1 = some (r, t_snapshot_o, t_snapshot_positions_o, t_snapshot_timers_o, t_trial_o, t_trial_circuit_o, t_trial_faults_o, t_trial_log_o, t_trial_log_moves_o, t_trial_log_times_o, t_trial_positions_o, t_trial_score_o, t_trial_strokes_o, t_trial_timers_o, p2_o, q0_o)) : bq_MH l D cI cJ yL_suspect cL_suspect 4 (some .int) [(0, 9, 12, 20), (0, 9, 15, 15)] rmL_suspect [.ref a_t, .int x1, .ref a_p2] (wdL_suspect cI cJ a_t a_t_rig a_t_rig_circuit a_t_rig_positions a_t_rig_sequence a_t_rig_sequence_cuts a_t_rig_sequence_groupOfStep a_t_rig_sequence_minus a_t_rig_sequence_pauses a_t_rig_sequence_plus a_t_rig_strokes a_t_snapshot a_t_snapshot_positions a_t_snapshot_timers a_t_trial a_t_trial_circuit a_t_trial_faults a_t_trial_log a_t_trial_log_moves a_t_trial_log_times a_t_trial_positions a_t_trial_score a_t_trial_strokes a_t_trial_timers a_p2 u_t_reader u_t_spare u_t_rig_log u_t_rig_score u_t_rig_timers u_t_rig_faults u_t_rig_sequence_outBefore r_t_trial_sequence t t_rig t_rig_circuit t_rig_positions t_rig_sequence t_rig_sequence_cuts t_rig_sequence_groupOfStep t_rig_sequence_minus t_rig_sequence_pauses t_rig_sequence_plus t_rig_strokes t_snapshot t_snapshot_positions t_snapshot_timers t_trial t_trial_circuit t_trial_faults t_trial_log t_trial_log_moves t_trial_log_times t_trial_positions t_trial_score t_trial_strokes t_trial_timers p2) (wdL_suspect cI cJ a_t a_t_rig a_t_rig_circuit a_t_rig_positions a_t_rig_sequence a_t_rig_sequence_cuts a_t_rig_sequence_groupOfStep a_t_rig_sequence_minus a_t_rig_sequence_pauses a_t_rig_sequence_plus a_t_rig_strokes a_t_snapshot a_t_snapshot_positions a_t_snapshot_timers a_t_trial a_t_trial_circuit a_t_trial_faults a_t_trial_log a_t_trial_log_moves a_t_trial_log_times a_t_trial_positions a_t_trial_score a_t_trial_strokes a_t_trial_timers a_p2 u_t_reader u_t_spare u_t_rig_log u_t_rig_score u_t_rig_timers u_t_rig_faults u_t_rig_sequence_outBefore q0_o t t_rig t_rig_circuit t_rig_positions t_rig_sequence t_rig_sequence_cuts t_rig_sequence_groupOfStep t_rig_sequence_minus t_rig_sequence_pauses t_rig_sequence_plus t_rig_strokes t_snapshot_o t_snapshot_positions_o t_snapshot_timers_o t_trial_o t_trial_circuit_o t_trial_faults_o t_trial_log_o t_trial_log_moves_o t_trial_log_times_o t_trial_positions_o t_trial_score_o t_trial_strokes_o t_trial_timers_o p2_o) (some (.int r)) := by
  refine bq_startH (by decide) (Nat.le_of_ble_eq_true rfl) ?_
  intro p e s m av9 below meth c A ls Q H locs E K w hA hr hk hX htab hQ hl
  have E : bq_E p m c cL_suspect 4 s av9 RL := E
  have hx := E.1
  have hb := E.2.1
  have hl : lv_has ls 4 [(0, .ref a_t), (1, .int x1), (2, .ref a_p2)] := hl
  unfold mL_suspect at hm
  refine lv_aload_n hx hb dL_suspect_0 rfl (lv_at hl 2 rfl) ?_
  refine lv_iconst (v := 0) hx hb dL_suspect_1 (by decide) ?_
  refine lv_aload_n hx hb dL_suspect_2 rfl (lv_at hl 0 rfl) ?_
  refine lv_iload_n hx hb dL_suspect_3 rfl (lv_at hl 1 rfl) ?_
  obtain ⟨v1, t_snapshot_2, t_snapshot_positions_3, t_snapshot_timers_4, t_trial_5, t_trial_circuit_6, t_trial_faults_7, t_trial_log_8, t_trial_log_moves_9, t_trial_log_times_10, t_trial_positions_11, t_trial_score_12, t_trial_strokes_13, t_trial_timers_14, q15, hC, hm⟩ := bq_b15_el hm
  refine bq_V (As := [.int x1]) (rest := [.int 0, .ref a_p2]) (st1 := [.int v1, .int 0, .ref a_p2]) (ws' := wdL_suspect cI cJ a_t a_t_rig a_t_rig_circuit a_t_rig_positions a_t_rig_sequence a_t_rig_sequence_cuts a_t_rig_sequence_groupOfStep a_t_rig_sequence_minus a_t_rig_sequence_pauses a_t_rig_sequence_plus a_t_rig_strokes a_t_snapshot a_t_snapshot_positions a_t_snapshot_timers a_t_trial a_t_trial_circuit a_t_trial_faults a_t_trial_log a_t_trial_log_moves a_t_trial_log_times a_t_trial_positions a_t_trial_score a_t_trial_strokes a_t_trial_timers a_p2 u_t_reader u_t_spare u_t_rig_log u_t_rig_score u_t_rig_timers u_t_rig_faults u_t_rig_sequence_outBefore q15 t t_rig t_rig_circuit t_rig_positions t_rig_sequence t_rig_sequence_cuts t_rig_sequence_groupOfStep t_rig_sequence_minus t_rig_sequence_pauses t_rig_sequence_plus t_rig_strokes t_snapshot_2 t_snapshot_positions_3 t_snapshot_timers_4 t_trial_5 t_trial_circuit_6 t_trial_faults_7 t_trial_log_8 t_trial_log_moves_9 t_trial_log_times_10 t_trial_positions_11 t_trial_score_12 t_trial_strokes_13 t_trial_timers_14 p2) E K w hA (kX7_suspect l D cI cJ a_t a_t_rig a_t_rig_circuit a_t_rig_positions a_t_rig_sequence a_t_rig_sequence_cuts a_t_rig_sequence_groupOfStep a_t_rig_sequence_minus a_t_rig_sequence_pauses a_t_rig_sequence_plus a_t_rig_strokes a_t_snapshot a_t_snapshot_positions a_t_snapshot_timers a_t_trial a_t_trial_circuit a_t_trial_faults a_t_trial_log a_t_trial_log_moves a_t_trial_log_times a_t_trial_positions a_t_trial_score a_t_trial_strokes a_t_trial_timers u_t_reader u_t_spare u_t_rig_log u_t_rig_score u_t_rig_timers u_t_rig_faults u_t_rig_sequence_outBefore r_t_trial_sequence t t_rig t_rig_circuit t_rig_positions t_rig_sequence t_rig_sequence_cuts t_rig_sequence_groupOfStep t_rig_sequence_minus t_rig_sequence_pauses t_rig_sequence_plus t_rig_strokes t_snapshot t_snapshot_positions t_snapshot_timers t_trial t_trial_circuit t_trial_faults t_trial_log t_trial_log_moves t_trial_log_times t_trial_positions t_trial_score t_trial_strokes t_trial_timers x1 v1 t_snapshot_2 t_snapshot_positions_3 t_snapshot_timers_4 t_trial_5 t_trial_circuit_6 t_trial_faults_7 t_trial_log_8 t_trial_log_moves_9 t_trial_log_times_10 t_trial_positions_11 t_trial_score_12 t_trial_strokes_13 t_trial_timers_14 q15 hC) (bq_gV ml_L_97 im_X7_suspect sl_X7_suspect in_X7 cd_X7_suspect) hd_X7_suspect ⟨Nat.le_of_ble_eq_true rfl, Nat.le_of_ble_eq_true rfl⟩ ⟨Nat.le_of_ble_eq_true rfl, Nat.le_of_ble_eq_true rfl⟩ ⟨[0, 1, 2, 3, 4, 5, 6, 7, 8, 9, 10, 11, 12, 13, 14, 15, 16, 17, 18, 19, 20, 21, 22, 23], [24], [1, 2, 3, 4, 5, 6, 7, 8, 9, 10, 11, 12, 13, 14, 15, 16, 17, 18, 19, 20, 21, 22, 23, 24, 0], rfl, rfl, rfl, rfl, rfl, rfl, rfl, rfl, rfl⟩ 0 rfl rfl rfl hl.1 rfl (Nat.le_of_ble_eq_true rfl) rfl dL_suspect_4 (fun H locs w => bq_z ⟨rfl, rfl⟩ ?_)
  clear hC
  refine lv_i2l hx hb dL_suspect_7 rfl ?_
  obtain ⟨p2_16, e9, hm⟩ := bq_let_el hm
  refine bq_lastk E K w 24 rfl 0 (by decide) (by unfold vp_in; decide) dL_suspect_8 (fun H locs w => ?_)
  replace w : bq_w D A s.heap (wdL_suspect cI cJ a_t a_t_rig a_t_rig_circuit a_t_rig_positions a_t_rig_sequence a_t_rig_sequence_cuts a_t_rig_sequence_groupOfStep a_t_rig_sequence_minus a_t_rig_sequence_pauses a_t_rig_sequence_plus a_t_rig_strokes a_t_snapshot a_t_snapshot_positions a_t_snapshot_timers a_t_trial a_t_trial_circuit a_t_trial_faults a_t_trial_log a_t_trial_log_moves a_t_trial_log_times a_t_trial_positions a_t_trial_score a_t_trial_strokes a_t_trial_timers a_p2 u_t_reader u_t_spare u_t_rig_log u_t_rig_score u_t_rig_timers u_t_rig_faults u_t_rig_sequence_outBefore q15 t t_rig t_rig_circuit t_rig_positions t_rig_sequence t_rig_sequence_cuts t_rig_sequence_groupOfStep t_rig_sequence_minus t_rig_sequence_pauses t_rig_sequence_plus t_rig_strokes t_snapshot_2 t_snapshot_positions_3 t_snapshot_timers_4 t_trial_5 t_trial_circuit_6 t_trial_faults_7 t_trial_log_8 t_trial_log_moves_9 t_trial_log_times_10 t_trial_positions_11 t_trial_score_12 t_trial_strokes_13 t_trial_timers_14 p2_16) H locs := by rw [e9]; exact w
  clear e9
  refine lv_goto (tgt := 18) hx hb dL_suspect_9 (by decide) ?_
  refine lv_iconst (v := 0) hx hb dL_suspect_18 (by decide) ?_
  obtain ⟨rfl, rfl, rfl, rfl, rfl, rfl, rfl, rfl, rfl, rfl, rfl, rfl, rfl, rfl, rfl, rfl⟩ := bq_in16 (Option.some.inj hm)
  exact bq_hret E w hr hk dL_suspect_19 hQ
abbrev rmTL_suspect : Room := { frames := 8, cells := 1, slots := 6, locals := 169 }
set_option maxHeartbeats 4000000 in
set_option maxRecDepth 100000 in
theorem tkL_suspect {l : Launch} (hlf : l.stackTraces = false) (D : va_G) (cI cJ : ClassId) (a_t a_t_rig a_t_rig_circuit a_t_rig_positions a_t_rig_sequence a_t_rig_sequence_cuts a_t_rig_sequence_groupOfStep a_t_rig_sequence_minus a_t_rig_sequence_pauses a_t_rig_sequence_plus a_t_rig_strokes a_t_snapshot a_t_snapshot_positions a_t_snapshot_timers a_t_trial a_t_trial_circuit a_t_trial_faults a_t_trial_log a_t_trial_log_moves a_t_trial_log_times a_t_trial_positions a_t_trial_score a_t_trial_strokes a_t_trial_timers a_p2 u_t_reader u_t_spare u_t_rig_log u_t_rig_score u_t_rig_timers u_t_rig_faults u_t_rig_sequence_outBefore r_t_trial_sequence : Nat) (t : Nat → Int32) (t_rig : Nat → Int32) (t_rig_circuit : Nat → Int32) (t_rig_positions : Nat → Int32) (t_rig_sequence : Nat → Int32) (t_rig_sequence_cuts : Nat → Int32) (t_rig_sequence_groupOfStep : Nat → Int32) (t_rig_sequence_minus : Nat → Int32) (t_rig_sequence_pauses : Nat → Int32) (t_rig_sequence_plus : Nat → Int32) (t_rig_strokes : Nat → Int32) (t_snapshot : Nat → Int32) (t_snapshot_positions : Nat → Int32) (t_snapshot_timers : Nat → Int32) (t_trial : Nat → Int32) (t_trial_circuit : Nat → Int32) (t_trial_faults : Nat → Int32) (t_trial_log : Nat → Int32) (t_trial_log_moves : Nat → Int32) (t_trial_log_times : Nat → Int32) (t_trial_positions : Nat → Int32) (t_trial_score : Nat → Int32) (t_trial_strokes : Nat → Int32) (t_trial_timers : Nat → Int32) (p2 : Nat → Int64) (x1 : Int32) (r : Int32) (hm : tL_suspect r_t_trial_sequence a_t_rig_sequence t_rig t_rig_circuit t_rig_positions t_rig_sequence t_rig_sequence_cuts t_rig_sequence_groupOfStep t_rig_sequence_minus t_rig_sequence_pauses t_rig_sequence_plus t_rig_strokes t_snapshot t_snapshot_positions t_snapshot_timers t_trial t_trial_circuit t_trial_faults t_trial_log t_trial_log_moves t_trial_log_times t_trial_positions t_trial_score t_trial_strokes t_trial_timers p2 x1 = some r) : bq_MH l D cI cJ yL_suspect cL_suspect 4 (some .int) [(0, 9, 12, 20), (0, 9, 15, 15)] rmTL_suspect [.ref a_t, .int x1, .ref a_p2] (wdL_suspect cI cJ a_t a_t_rig a_t_rig_circuit a_t_rig_positions a_t_rig_sequence a_t_rig_sequence_cuts a_t_rig_sequence_groupOfStep a_t_rig_sequence_minus a_t_rig_sequence_pauses a_t_rig_sequence_plus a_t_rig_strokes a_t_snapshot a_t_snapshot_positions a_t_snapshot_timers a_t_trial a_t_trial_circuit a_t_trial_faults a_t_trial_log a_t_trial_log_moves a_t_trial_log_times a_t_trial_positions a_t_trial_score a_t_trial_strokes a_t_trial_timers a_p2 u_t_reader u_t_spare u_t_rig_log u_t_rig_score u_t_rig_timers u_t_rig_faults u_t_rig_sequence_outBefore r_t_trial_sequence t t_rig t_rig_circuit t_rig_positions t_rig_sequence t_rig_sequence_cuts t_rig_sequence_groupOfStep t_rig_sequence_minus t_rig_sequence_pauses t_rig_sequence_plus t_rig_strokes t_snapshot t_snapshot_positions t_snapshot_timers t_trial t_trial_circuit t_trial_faults t_trial_log t_trial_log_moves t_trial_log_times t_trial_positions t_trial_score t_trial_strokes t_trial_timers p2) (wdL_suspect cI cJ a_t a_t_rig a_t_rig_circuit a_t_rig_positions a_t_rig_sequence a_t_rig_sequence_cuts a_t_rig_sequence_groupOfStep a_t_rig_sequence_minus a_t_rig_sequence_pauses a_t_rig_sequence_plus a_t_rig_strokes a_t_snapshot a_t_snapshot_positions a_t_snapshot_timers a_t_trial a_t_trial_circuit a_t_trial_faults a_t_trial_log a_t_trial_log_moves a_t_trial_log_times a_t_trial_positions a_t_trial_score a_t_trial_strokes a_t_trial_timers a_p2 u_t_reader u_t_spare u_t_rig_log u_t_rig_score u_t_rig_timers u_t_rig_faults u_t_rig_sequence_outBefore r_t_trial_sequence t t_rig t_rig_circuit t_rig_positions t_rig_sequence t_rig_sequence_cuts t_rig_sequence_groupOfStep t_rig_sequence_minus t_rig_sequence_pauses t_rig_sequence_plus t_rig_strokes t_snapshot t_snapshot_positions t_snapshot_timers t_trial t_trial_circuit t_trial_faults t_trial_log t_trial_log_moves t_trial_log_times t_trial_positions t_trial_score t_trial_strokes t_trial_timers p2) (some (.int r)) := by
  refine bq_startH (by decide) (Nat.le_of_ble_eq_true rfl) ?_
  intro p e s m av9 below meth c A ls Q H locs E K w hA hr hk hX htab hQ hl
  have E : bq_E p m c cL_suspect 4 s av9 RL := E
  have hx := E.1
  have hb := E.2.1
  have hl : lv_has ls 4 [(0, .ref a_t), (1, .int x1), (2, .ref a_p2)] := hl
  unfold tL_suspect at hm
  refine lv_aload_n hx hb dL_suspect_0 rfl (lv_at hl 2 rfl) ?_
  refine lv_iconst (v := 0) hx hb dL_suspect_1 (by decide) ?_
  refine lv_aload_n hx hb dL_suspect_2 rfl (lv_at hl 0 rfl) ?_
  refine lv_iload_n hx hb dL_suspect_3 rfl (lv_at hl 1 rfl) ?_
  obtain ⟨k9, hC, hm⟩ := bq_bd_el hm
  by_cases hq : k9 = 2
  · subst hq
    replace hm := bq_t rfl hm
    obtain rfl := Option.some.inj hm
    refine bq_HV (As := [.int x1]) (rest := [.int 0, .ref a_p2]) E K w hA hX ⟨rfl, rfl⟩ (tkX7_suspect hlf D cI cJ a_t a_t_rig a_t_rig_circuit a_t_rig_positions a_t_rig_sequence a_t_rig_sequence_cuts a_t_rig_sequence_groupOfStep a_t_rig_sequence_minus a_t_rig_sequence_pauses a_t_rig_sequence_plus a_t_rig_strokes a_t_snapshot a_t_snapshot_positions a_t_snapshot_timers a_t_trial a_t_trial_circuit a_t_trial_faults a_t_trial_log a_t_trial_log_moves a_t_trial_log_times a_t_trial_positions a_t_trial_score a_t_trial_strokes a_t_trial_timers u_t_reader u_t_spare u_t_rig_log u_t_rig_score u_t_rig_timers u_t_rig_faults u_t_rig_sequence_outBefore r_t_trial_sequence t t_rig t_rig_circuit t_rig_positions t_rig_sequence t_rig_sequence_cuts t_rig_sequence_groupOfStep t_rig_sequence_minus t_rig_sequence_pauses t_rig_sequence_plus t_rig_strokes t_snapshot t_snapshot_positions t_snapshot_timers t_trial t_trial_circuit t_trial_faults t_trial_log t_trial_log_moves t_trial_log_times t_trial_positions t_trial_score t_trial_strokes t_trial_timers x1 _ hC) (bq_gV ml_L_97 im_X7_suspect sl_X7_suspect in_X7 cd_X7_suspect) hd_X7_suspect ⟨Nat.le_of_ble_eq_true rfl, Nat.le_of_ble_eq_true rfl⟩ ⟨Nat.le_of_ble_eq_true rfl, Nat.le_of_ble_eq_true rfl⟩ ⟨[0, 1, 2, 3, 4, 5, 6, 7, 8, 9, 10, 11, 12, 13, 14, 15, 16, 17, 18, 19, 20, 21, 22, 23], [24], [1, 2, 3, 4, 5, 6, 7, 8, 9, 10, 11, 12, 13, 14, 15, 16, 17, 18, 19, 20, 21, 22, 23, 24, 0], rfl, rfl, rfl, rfl, rfl, rfl, rfl, rfl, rfl⟩ 0 rfl rfl rfl hl.1 rfl (Nat.le_of_ble_eq_true rfl) dL_suspect_4 (fun q9 ce H locs w h1 h2 h3 => ?_)
    refine vx_catch (E := "java/lang/IndexOutOfBoundsException") (name := "java/lang/IndexOutOfBoundsException") E.2.2.2.1 [] ⟨0, 9, 12, 20⟩ [⟨0, 9, 15, 15⟩] (by rw [htab]; rfl) (fun z h => by cases h) (by decide) (by decide) (E.2.2.2.2 _ cl_L_20) (va_Nw.use rfl (K.2 _ mc_IndexOutOfBoundsException)) h1 h2 h3 ?_
    refine lv_astore_n (lv' := [(3, .ref q9), (0, .ref a_t), (1, .int x1), (2, .ref a_p2)]) hx hb dL_suspect_12 rfl hl (by decide) rfl (fun ls hl => ?_)
    refine lv_iconst (v := 1) hx hb dL_suspect_13 (by decide) ?_
    exact bq_hret E w hr hk dL_suspect_14 hQ
  replace hm := bq_f hq hm
  by_cases hq : k9 = 1
  · subst hq
    replace hm := bq_t rfl hm
    obtain rfl := Option.some.inj hm
    refine bq_HV (As := [.int x1]) (rest := [.int 0, .ref a_p2]) E K w hA hX ⟨rfl, rfl⟩ (tkX7_suspect hlf D cI cJ a_t a_t_rig a_t_rig_circuit a_t_rig_positions a_t_rig_sequence a_t_rig_sequence_cuts a_t_rig_sequence_groupOfStep a_t_rig_sequence_minus a_t_rig_sequence_pauses a_t_rig_sequence_plus a_t_rig_strokes a_t_snapshot a_t_snapshot_positions a_t_snapshot_timers a_t_trial a_t_trial_circuit a_t_trial_faults a_t_trial_log a_t_trial_log_moves a_t_trial_log_times a_t_trial_positions a_t_trial_score a_t_trial_strokes a_t_trial_timers u_t_reader u_t_spare u_t_rig_log u_t_rig_score u_t_rig_timers u_t_rig_faults u_t_rig_sequence_outBefore r_t_trial_sequence t t_rig t_rig_circuit t_rig_positions t_rig_sequence t_rig_sequence_cuts t_rig_sequence_groupOfStep t_rig_sequence_minus t_rig_sequence_pauses t_rig_sequence_plus t_rig_strokes t_snapshot t_snapshot_positions t_snapshot_timers t_trial t_trial_circuit t_trial_faults t_trial_log t_trial_log_moves t_trial_log_times t_trial_positions t_trial_score t_trial_strokes t_trial_timers x1 _ hC) (bq_gV ml_L_97 im_X7_suspect sl_X7_suspect in_X7 cd_X7_suspect) hd_X7_suspect ⟨Nat.le_of_ble_eq_true rfl, Nat.le_of_ble_eq_true rfl⟩ ⟨Nat.le_of_ble_eq_true rfl, Nat.le_of_ble_eq_true rfl⟩ ⟨[0, 1, 2, 3, 4, 5, 6, 7, 8, 9, 10, 11, 12, 13, 14, 15, 16, 17, 18, 19, 20, 21, 22, 23], [24], [1, 2, 3, 4, 5, 6, 7, 8, 9, 10, 11, 12, 13, 14, 15, 16, 17, 18, 19, 20, 21, 22, 23, 24, 0], rfl, rfl, rfl, rfl, rfl, rfl, rfl, rfl, rfl⟩ 0 rfl rfl rfl hl.1 rfl (Nat.le_of_ble_eq_true rfl) dL_suspect_4 (fun q9 ce H locs w h1 h2 h3 => ?_)
    refine vx_catch (E := "java/lang/IllegalStateException") (name := "java/lang/IllegalStateException") E.2.2.2.1 [⟨0, 9, 12, 20⟩] ⟨0, 9, 15, 15⟩ [] (by rw [htab]; rfl) (fun z h => by rw [List.mem_singleton.mp h]; exact Or.inr ⟨by decide, "java/lang/IndexOutOfBoundsException", E.2.2.2.2 _ cl_L_20, hX.2.2.2.2.2⟩) (by decide) (by decide) (E.2.2.2.2 _ cl_L_15) (va_Nw.use rfl (K.2 _ mc_IllegalStateException)) h1 h2 h3 ?_
    refine lv_astore_n (lv' := [(3, .ref q9), (0, .ref a_t), (1, .int x1), (2, .ref a_p2)]) hx hb dL_suspect_15 rfl hl (by decide) rfl (fun ls hl => ?_)
    refine lv_iconst (v := 2) hx hb dL_suspect_16 (by decide) ?_
    exact bq_hret E w hr hk dL_suspect_17 hQ
  replace hm := bq_f hq hm
  cases hm
