abbrev wdX1_reset (cI : ClassId) (a_t u_t_times u_t_moves : Nat) (t : Nat → Int32) : va_W := [(a_t, oX1 u_t_times u_t_moves t)]
abbrev rmX1_reset : Room := { frames := 0, cells := 0, slots := 0, locals := 0 }
theorem hd_X1_reset : yX1_reset.cls = RX1 ∧ yX1_reset.cls ≠ "java/lang/invoke/MethodHandle" ∧ yX1_reset.cls ≠ "java/lang/invoke/VarHandle" ∧ (parseMethodDescriptor yX1_reset.desc).map (fun d => d.parameters.length) = some 0 := by decide +kernel
set_option maxHeartbeats 4000000 in
set_option maxRecDepth 100000 in
theorem kX1_reset (l : Launch) (D : va_G) (cI cJ : ClassId) (a_t u_t_times u_t_moves : Nat) (t : Nat → Int32) (t_o : Nat → Int32) (hm : mX1_reset t = some t_o) : bq_M l D cI cJ yX1_reset cX1_reset 1 none rmX1_reset [.ref a_t] (wdX1_reset cI a_t u_t_times u_t_moves t) (wdX1_reset cI a_t u_t_times u_t_moves t_o) none := by
  refine bq_start (by decide) (Nat.le_of_ble_eq_true rfl) ?_
  intro p e s m av9 below meth c A ls Q H locs E K w hA hr hk hn hQ hl
  have E : bq_E p m c cX1_reset 1 s av9 RX1 := E
  have hx := E.1
  have hb := E.2.1
  have hl : lv_has ls 1 [(0, .ref a_t)] := hl
  unfold mX1_reset at hm
  refine lv_aload_n hx hb dX1_reset_0 rfl (lv_at hl 0 rfl) ?_
  refine lv_iconst (v := 0) hx hb dX1_reset_1 (by decide) ?_
  obtain ⟨t_1, e9, hm⟩ := bq_let_el hm
  refine pt_X1_18 E K w 0 rfl (Nat.le_of_ble_eq_true rfl) dX1_reset_2 (fun H locs w => ?_)
  replace w : bq_w D A s.heap (wdX1_reset cI a_t u_t_times u_t_moves t_1) H locs := by rw [e9]; exact w
  clear e9
  refine lv_aload_n hx hb dX1_reset_5 rfl (lv_at hl 0 rfl) ?_
  refine lv_iconst (v := 0) hx hb dX1_reset_6 (by decide) ?_
  obtain ⟨t_2, e9, hm⟩ := bq_let_el hm
  refine pt_X1_22 E K w 0 rfl (Nat.le_of_ble_eq_true rfl) dX1_reset_7 (fun H locs w => ?_)
  replace w : bq_w D A s.heap (wdX1_reset cI a_t u_t_times u_t_moves t_2) H locs := by rw [e9]; exact w
  clear e9
  refine lv_aload_n hx hb dX1_reset_10 rfl (lv_at hl 0 rfl) ?_
  refine lv_iconst (v := 0) hx hb dX1_reset_11 (by decide) ?_
  obtain ⟨t_3, e9, hm⟩ := bq_let_el hm
  refine pt_X1_25 E K w 0 rfl (Nat.le_of_ble_eq_true rfl) dX1_reset_12 (fun H locs w => ?_)
  replace w : bq_w D A s.heap (wdX1_reset cI a_t u_t_times u_t_moves t_3) H locs := by rw [e9]; exact w
  clear e9
  obtain rfl := Option.some.inj hm
  exact bq_vret E w hr hk dX1_reset_15 hQ
abbrev wdX1_note (cI : ClassId) (a_t a_t_moves a_t_times : Nat) (t : Nat → Int32) (t_moves : Nat → Int32) (t_times : Nat → Int32) : va_W := [(a_t, oX1 a_t_times a_t_moves t), (a_t_moves, oA cI 40 t_moves), (a_t_times, oA cI 40 t_times)]
abbrev rmX1_note : Room := { frames := 1, cells := 0, slots := 0, locals := 21 }
theorem hd_X1_note : yX1_note.cls = RX1 ∧ yX1_note.cls ≠ "java/lang/invoke/MethodHandle" ∧ yX1_note.cls ≠ "java/lang/invoke/VarHandle" ∧ (parseMethodDescriptor yX1_note.desc).map (fun d => d.parameters.length) = some 2 := by decide +kernel
set_option maxHeartbeats 4000000 in
set_option maxRecDepth 100000 in
theorem kX1_note (l : Launch) (D : va_G) (cI cJ : ClassId) (a_t a_t_moves a_t_times : Nat) (t t_moves t_times : Nat → Int32) (x1 : Int32) (x2 : Int32) (t_o : Nat → Int32) (t_moves_o : Nat → Int32) (t_times_o : Nat → Int32) (hm : mX1_note t t_moves t_times x1 x2 = some (t_o, t_moves_o, t_times_o)) : bq_M l D cI cJ yX1_note cX1_note 3 none rmX1_note [.ref a_t, .int x1, .int x2] (wdX1_note cI a_t a_t_moves a_t_times t t_moves t_times) (wdX1_note cI a_t a_t_moves a_t_times t_o t_moves_o t_times_o) none := by
  refine bq_start (by decide) (Nat.le_of_ble_eq_true rfl) ?_
  intro p e s m av9 below meth c A ls Q H locs E K w hA hr hk hn hQ hl
  have E : bq_E p m c cX1_note 3 s av9 RX1 := E
  have hx := E.1
  have hb := E.2.1
  have hl : lv_has ls 3 [(0, .ref a_t), (1, .int x1), (2, .int x2)] := hl
  unfold mX1_note at hm
  refine lv_aload_n hx hb dX1_note_0 rfl (lv_at hl 0 rfl) ?_
  refine lv_aload_n hx hb dX1_note_1 rfl (lv_at hl 0 rfl) ?_
  refine gt_X1_25 E K w 0 rfl rfl dX1_note_2 ?_
  refine lv_iconst (v := 1) hx hb dX1_note_5 (by decide) ?_
  refine lv_iadd hx hb dX1_note_6 ?_
  refine lv_bipush (v := 40) hx hb dX1_note_7 (by decide) ?_
  obtain ⟨v1, hT22, hm⟩ := bq_let_el hm
  have K22 : ∀ (H : Heap) (locs : List Loc) (ls : Array Slot), bq_w D A s.heap (wdX1_note cI a_t a_t_moves a_t_times t t_moves t_times) H locs → lv_has ls 3 [(0, .ref a_t), (1, .int x1), (2, .int x2)] → W p l e rmX1_note s m av9 below meth c H locs 0 0 Q (F0 m 22 ls [.int v1, .ref a_t]) := by
    intro H locs ls w hl
    obtain ⟨t_2, e9, hm⟩ := bq_let_el hm
    refine pt_X1_25 E K w 0 rfl (Nat.le_of_ble_eq_true rfl) dX1_note_22 (fun H locs w => ?_)
    replace w : bq_w D A s.heap (wdX1_note cI a_t a_t_moves a_t_times t_2 t_moves t_times) H locs := by rw [e9]; exact w
    clear e9
    refine lv_aload_n hx hb dX1_note_25 rfl (lv_at hl 0 rfl) ?_
    refine gt_X1_9 E K w 0 rfl rfl dX1_note_26 ?_
    refine lv_aload_n hx hb dX1_note_29 rfl (lv_at hl 0 rfl) ?_
    refine gt_X1_25 E K w 0 rfl rfl dX1_note_30 ?_
    refine lv_iload_n hx hb dX1_note_33 rfl (lv_at hl 1 rfl) ?_
    obtain ⟨hI, hm⟩ := bq_ci_el hm
    obtain ⟨t_times_3, e9, hm⟩ := bq_let_el hm
    refine bq_ast E K w 2 rfl hI dX1_note_34 (fun H locs w => ?_)
    replace w : bq_w D A s.heap (wdX1_note cI a_t a_t_moves a_t_times t_2 t_moves t_times_3) H locs := by rw [e9]; exact w
    clear e9
    refine lv_aload_n hx hb dX1_note_35 rfl (lv_at hl 0 rfl) ?_
    refine gt_X1_15 E K w 0 rfl rfl dX1_note_36 ?_
    refine lv_aload_n hx hb dX1_note_39 rfl (lv_at hl 0 rfl) ?_
    refine gt_X1_25 E K w 0 rfl rfl dX1_note_40 ?_
    refine lv_iload_n hx hb dX1_note_43 rfl (lv_at hl 2 rfl) ?_
    obtain ⟨hI, hm⟩ := bq_ci_el hm
    obtain ⟨t_moves_4, e9, hm⟩ := bq_let_el hm
    refine bq_ast E K w 1 rfl hI dX1_note_44 (fun H locs w => ?_)
    replace w : bq_w D A s.heap (wdX1_note cI a_t a_t_moves a_t_times t_2 t_moves_4 t_times_3) H locs := by rw [e9]; exact w
    clear e9
    refine lv_aload_n hx hb dX1_note_45 rfl (lv_at hl 0 rfl) ?_
    refine lv_aload_n hx hb dX1_note_46 rfl (lv_at hl 0 rfl) ?_
    refine gt_X1_22 E K w 0 rfl rfl dX1_note_47 ?_
    refine lv_iconst (v := 1) hx hb dX1_note_50 (by decide) ?_
    refine lv_iadd hx hb dX1_note_51 ?_
    refine lv_bipush (v := 40) hx hb dX1_note_52 (by decide) ?_
    refine bq_min E ml_X1_28 hl.1 (Nat.le_of_ble_eq_true rfl) (Nat.le_of_ble_eq_true rfl) (Nat.le_of_ble_eq_true rfl) (Nat.le_of_ble_eq_true rfl) dX1_note_54 ?_
    obtain ⟨t_5, e9, hm⟩ := bq_let_el hm
    refine pt_X1_22 E K w 0 rfl (Nat.le_of_ble_eq_true rfl) dX1_note_57 (fun H locs w => ?_)
    replace w : bq_w D A s.heap (wdX1_note cI a_t a_t_moves a_t_times t_5 t_moves_4 t_times_3) H locs := by rw [e9]; exact w
    clear e9
    refine lv_aload_n hx hb dX1_note_60 rfl (lv_at hl 0 rfl) ?_
    refine lv_dup hx hb dX1_note_61 rfl ?_
    refine gt_X1_18 E K w 0 rfl rfl dX1_note_62 ?_
    refine lv_iconst (v := 1) hx hb dX1_note_65 (by decide) ?_
    refine lv_iadd hx hb dX1_note_66 ?_
    obtain ⟨t_6, e9, hm⟩ := bq_let_el hm
    refine pt_X1_18 E K w 0 rfl (Nat.le_of_ble_eq_true rfl) dX1_note_67 (fun H locs w => ?_)
    replace w : bq_w D A s.heap (wdX1_note cI a_t a_t_moves a_t_times t_6 t_moves_4 t_times_3) H locs := by rw [e9]; exact w
    clear e9
    obtain ⟨rfl, rfl, rfl⟩ := bq_in3 (Option.some.inj hm)
    exact bq_vret E w hr hk dX1_note_70 hQ
  clear hm
  refine lv_icmp_ge (tgt := 21) hx hb dX1_note_9 (by decide) (fun hc => ?_) (fun hc => ?_)
  · replace hT22 := bq_et hc hT22
    clear hc
    refine lv_iconst (v := 0) hx hb dX1_note_21 (by decide) ?_
    subst hT22
    exact K22 H locs ls w (lv_sub hl [0, 1, 2] rfl)
  · replace hT22 := bq_ef hc hT22
    clear hc
    refine lv_aload_n hx hb dX1_note_12 rfl (lv_at hl 0 rfl) ?_
    refine gt_X1_25 E K w 0 rfl rfl dX1_note_13 ?_
    refine lv_iconst (v := 1) hx hb dX1_note_16 (by decide) ?_
    refine lv_iadd hx hb dX1_note_17 ?_
    refine lv_goto (tgt := 22) hx hb dX1_note_18 (by decide) ?_
    subst hT22
    exact K22 H locs ls w (lv_sub hl [0, 1, 2] rfl)
abbrev wdX1_slotOf (cI : ClassId) (a_t u_t_times u_t_moves : Nat) (t : Nat → Int32) : va_W := [(a_t, oX1 u_t_times u_t_moves t)]
abbrev rmX1_slotOf : Room := { frames := 0, cells := 0, slots := 0, locals := 0 }
theorem hd_X1_slotOf : yX1_slotOf.cls = RX1 ∧ yX1_slotOf.cls ≠ "java/lang/invoke/MethodHandle" ∧ yX1_slotOf.cls ≠ "java/lang/invoke/VarHandle" ∧ (parseMethodDescriptor yX1_slotOf.desc).map (fun d => d.parameters.length) = some 1 := by decide +kernel
set_option maxHeartbeats 4000000 in
set_option maxRecDepth 100000 in
theorem kX1_slotOf (l : Launch) (D : va_G) (cI cJ : ClassId) (a_t u_t_times u_t_moves : Nat) (t : Nat → Int32) (x1 : Int32) (r : Int32) (hm : mX1_slotOf t x1 = some r) : bq_M l D cI cJ yX1_slotOf cX1_slotOf 2 (some .int) rmX1_slotOf [.ref a_t, .int x1] (wdX1_slotOf cI a_t u_t_times u_t_moves t) (wdX1_slotOf cI a_t u_t_times u_t_moves t) (some (.int r)) := by
  refine bq_start (by decide) (Nat.le_of_ble_eq_true rfl) ?_
  intro p e s m av9 below meth c A ls Q H locs E K w hA hr hk hn hQ hl
  have E : bq_E p m c cX1_slotOf 2 s av9 RX1 := E
  have hx := E.1
  have hb := E.2.1
  have hl : lv_has ls 2 [(0, .ref a_t), (1, .int x1)] := hl
  unfold mX1_slotOf at hm
  refine lv_iload_n hx hb dX1_slotOf_0 rfl (lv_at hl 1 rfl) ?_
  refine lv_if_lt (tgt := 12) hx hb dX1_slotOf_1 (by decide) (fun hc => ?_) (fun hc => ?_)
  · replace hm := bq_t hc hm
    clear hc
    refine lv_iconst (v := (-1)) hx hb dX1_slotOf_12 (by decide) ?_
    obtain rfl := Option.some.inj hm
    exact bq_iret E w hr hk dX1_slotOf_13 hQ
  · replace hm := bq_f hc hm
    clear hc
    refine lv_iload_n hx hb dX1_slotOf_4 rfl (lv_at hl 1 rfl) ?_
    refine lv_aload_n hx hb dX1_slotOf_5 rfl (lv_at hl 0 rfl) ?_
    refine gt_X1_22 E K w 0 rfl rfl dX1_slotOf_6 ?_
    refine lv_icmp_lt (tgt := 14) hx hb dX1_slotOf_9 (by decide) (fun hc => ?_) (fun hc => ?_)
    · replace hm := bq_t hc hm
      clear hc
      refine lv_aload_n hx hb dX1_slotOf_14 rfl (lv_at hl 0 rfl) ?_
      refine gt_X1_25 E K w 0 rfl rfl dX1_slotOf_15 ?_
      refine lv_iload_n hx hb dX1_slotOf_18 rfl (lv_at hl 1 rfl) ?_
      obtain ⟨v1, hT40, hm⟩ := bq_let_el hm
      have K40 : ∀ (H : Heap) (locs : List Loc) (ls : Array Slot), bq_w D A s.heap (wdX1_slotOf cI a_t u_t_times u_t_moves t) H locs → lv_has ls 2 [] → W p l e rmX1_slotOf s m av9 below meth c H locs 0 0 Q (F0 m 40 ls [.int v1]) := by
        intro H locs ls w hl
        obtain rfl := Option.some.inj hm
        exact bq_iret E w hr hk dX1_slotOf_40 hQ
      clear hm
      refine lv_icmp_lt (tgt := 31) hx hb dX1_slotOf_19 (by decide) (fun hc => ?_) (fun hc => ?_)
      · replace hT40 := bq_et hc hT40
        clear hc
        refine lv_aload_n hx hb dX1_slotOf_31 rfl (lv_at hl 0 rfl) ?_
        refine gt_X1_25 E K w 0 rfl rfl dX1_slotOf_32 ?_
        refine lv_iload_n hx hb dX1_slotOf_35 rfl (lv_at hl 1 rfl) ?_
        refine lv_isub hx hb dX1_slotOf_36 ?_
        refine lv_bipush (v := 40) hx hb dX1_slotOf_37 (by decide) ?_
        refine lv_iadd hx hb dX1_slotOf_39 ?_
        subst hT40
        exact K40 H locs ls w (lv_sub hl [] rfl)
      · replace hT40 := bq_ef hc hT40
        clear hc
        refine lv_aload_n hx hb dX1_slotOf_22 rfl (lv_at hl 0 rfl) ?_
        refine gt_X1_25 E K w 0 rfl rfl dX1_slotOf_23 ?_
        refine lv_iload_n hx hb dX1_slotOf_26 rfl (lv_at hl 1 rfl) ?_
        refine lv_isub hx hb dX1_slotOf_27 ?_
        refine lv_goto (tgt := 40) hx hb dX1_slotOf_28 (by decide) ?_
        subst hT40
        exact K40 H locs ls w (lv_sub hl [] rfl)
    · replace hm := bq_f hc hm
      clear hc
      refine lv_iconst (v := (-1)) hx hb dX1_slotOf_12 (by decide) ?_
      obtain rfl := Option.some.inj hm
      exact bq_iret E w hr hk dX1_slotOf_13 hQ
abbrev wdX4_makeDue (cI : ClassId) (a_t a_p1 a_p1_minus a_p1_plus u_p1_pauses u_p1_outBefore u_p1_cuts u_p1_groupOfStep : Nat) (t : Nat → Int32) (p1 : Nat → Int32) (p1_minus : Nat → Int32) (p1_plus : Nat → Int32) : va_W := [(a_t, oX4 t), (a_p1, oX5 a_p1_plus a_p1_minus u_p1_pauses u_p1_outBefore u_p1_cuts u_p1_groupOfStep p1), (a_p1_minus, oA cI 16 p1_minus), (a_p1_plus, oA cI 16 p1_plus)]
abbrev rmX4_makeDue : Room := { frames := 0, cells := 0, slots := 0, locals := 0 }
theorem hd_X4_makeDue : yX4_makeDue.cls = RX4 ∧ yX4_makeDue.cls ≠ "java/lang/invoke/MethodHandle" ∧ yX4_makeDue.cls ≠ "java/lang/invoke/VarHandle" ∧ (parseMethodDescriptor yX4_makeDue.desc).map (fun d => d.parameters.length) = some 2 := by decide +kernel
set_option maxHeartbeats 4000000 in
set_option maxRecDepth 100000 in
theorem kX4_makeDue (l : Launch) (D : va_G) (cI cJ : ClassId) (a_t a_p1 a_p1_minus a_p1_plus u_p1_pauses u_p1_outBefore u_p1_cuts u_p1_groupOfStep : Nat) (t p1 p1_minus p1_plus : Nat → Int32) (x2 : Int32) (t_o : Nat → Int32) (hm : mX4_makeDue t p1 p1_minus p1_plus x2 = some t_o) : bq_M l D cI cJ yX4_makeDue cX4_makeDue 4 none rmX4_makeDue [.ref a_t, .ref a_p1, .int x2] (wdX4_makeDue cI a_t a_p1 a_p1_minus a_p1_plus u_p1_pauses u_p1_outBefore u_p1_cuts u_p1_groupOfStep t p1 p1_minus p1_plus) (wdX4_makeDue cI a_t a_p1 a_p1_minus a_p1_plus u_p1_pauses u_p1_outBefore u_p1_cuts u_p1_groupOfStep t_o p1 p1_minus p1_plus) none := by
  refine bq_start (by decide) (Nat.le_of_ble_eq_true rfl) ?_
  intro p e s m av9 below meth c A ls Q H locs E K w hA hr hk hn hQ hl
  have E : bq_E p m c cX4_makeDue 4 s av9 RX4 := E
  have hx := E.1
  have hb := E.2.1
  have hl : lv_has ls 4 [(0, .ref a_t), (1, .ref a_p1), (2, .int x2)] := hl
  unfold mX4_makeDue at hm
  refine lv_iload_n hx hb dX4_makeDue_0 rfl (lv_at hl 2 rfl) ?_
  refine lv_aload_n hx hb dX4_makeDue_1 rfl (lv_at hl 1 rfl) ?_
  refine gt_X4_30 E K w 1 rfl rfl dX4_makeDue_2 ?_
  obtain ⟨v1, hT13, hm⟩ := bq_let_el hm
  have K13 : ∀ (H : Heap) (locs : List Loc) (ls : Array Slot), bq_w D A s.heap (wdX4_makeDue cI a_t a_p1 a_p1_minus a_p1_plus u_p1_pauses u_p1_outBefore u_p1_cuts u_p1_groupOfStep t p1 p1_minus p1_plus) H locs → lv_has ls 4 [(0, .ref a_t), (1, .ref a_p1), (2, .int x2)] → W p l e rmX4_makeDue s m av9 below meth c H locs 0 0 Q (F0 m 13 ls [.int v1]) := by
    intro H locs ls w hl
    refine lv_istore_n (lv' := [(3, .int v1), (0, .ref a_t), (1, .ref a_p1), (2, .int x2)]) hx hb dX4_makeDue_13 rfl hl (by decide) rfl (fun ls hl => ?_)
    refine lv_aload_n hx hb dX4_makeDue_14 rfl (lv_at hl 1 rfl) ?_
    refine lv_iload_n hx hb dX4_makeDue_15 rfl (lv_at hl 3 rfl) ?_
    obtain ⟨t_2, e9, hm⟩ := bq_let_el hm
    refine pt_X4_33 E K w 0 rfl (Nat.le_of_ble_eq_true rfl) dX4_makeDue_16 (fun H locs w => ?_)
    replace w : bq_w D A s.heap (wdX4_makeDue cI a_t a_p1 a_p1_minus a_p1_plus u_p1_pauses u_p1_outBefore u_p1_cuts u_p1_groupOfStep t_2 p1 p1_minus p1_plus) H locs := by rw [e9]; exact w
    clear e9
    refine lv_aload_n hx hb dX4_makeDue_19 rfl (lv_at hl 1 rfl) ?_
    refine lv_iload_n hx hb dX4_makeDue_20 rfl (lv_at hl 0 rfl) ?_
    obtain ⟨v3, hT34, hm⟩ := bq_bd_el hm
    have K34 : ∀ (H : Heap) (locs : List Loc) (ls : Array Slot), bq_w D A s.heap (wdX4_makeDue cI a_t a_p1 a_p1_minus a_p1_plus u_p1_pauses u_p1_outBefore u_p1_cuts u_p1_groupOfStep t_2 p1 p1_minus p1_plus) H locs → lv_has ls 4 [(0, .ref a_t), (1, .ref a_p1), (2, .int x2), (3, .int v1)] → W p l e rmX4_makeDue s m av9 below meth c H locs 0 0 Q (F0 m 34 ls [.int v3, .ref a_t]) := by
      intro H locs ls w hl
      obtain ⟨t_4, e9, hm⟩ := bq_let_el hm
      refine pt_X4_40 E K w 0 rfl (Nat.le_of_ble_eq_true rfl) dX4_makeDue_34 (fun H locs w => ?_)
      replace w : bq_w D A s.heap (wdX4_makeDue cI a_t a_p1 a_p1_minus a_p1_plus u_p1_pauses u_p1_outBefore u_p1_cuts u_p1_groupOfStep t_4 p1 p1_minus p1_plus) H locs := by rw [e9]; exact w
      clear e9
      refine lv_aload_n hx hb dX4_makeDue_37 rfl (lv_at hl 0 rfl) ?_
      refine lv_iload_n hx hb dX4_makeDue_38 rfl (lv_at hl 3 rfl) ?_
      obtain ⟨v5, hT52, hm⟩ := bq_bd_el hm
      have K52 : ∀ (H : Heap) (locs : List Loc) (ls : Array Slot), bq_w D A s.heap (wdX4_makeDue cI a_t a_p1 a_p1_minus a_p1_plus u_p1_pauses u_p1_outBefore u_p1_cuts u_p1_groupOfStep t_4 p1 p1_minus p1_plus) H locs → lv_has ls 4 [] → W p l e rmX4_makeDue s m av9 below meth c H locs 0 0 Q (F0 m 52 ls [.int v5, .ref a_t]) := by
        intro H locs ls w hl
        obtain ⟨t_6, e9, hm⟩ := bq_let_el hm
        refine pt_X4_46 E K w 0 rfl (Nat.le_of_ble_eq_true rfl) dX4_makeDue_52 (fun H locs w => ?_)
        replace w : bq_w D A s.heap (wdX4_makeDue cI a_t a_p1 a_p1_minus a_p1_plus u_p1_pauses u_p1_outBefore u_p1_cuts u_p1_groupOfStep t_6 p1 p1_minus p1_plus) H locs := by rw [e9]; exact w
        clear e9
        obtain rfl := Option.some.inj hm
        exact bq_vret E w hr hk dX4_makeDue_55 hQ
      clear hm
      refine lv_if_eq (tgt := 51) hx hb dX4_makeDue_39 (by decide) (fun hc => ?_) (fun hc => ?_)
      · replace hT52 := bq_t hc hT52
        clear hc
        refine lv_iconst (v := 0) hx hb dX4_makeDue_51 (by decide) ?_
        obtain rfl := Option.some.inj hT52
        exact K52 H locs ls w (lv_sub hl [] rfl)
      · replace hT52 := bq_f hc hT52
        clear hc
        refine lv_aload_n hx hb dX4_makeDue_42 rfl (lv_at hl 1 rfl) ?_
        refine gt_X4_43 E K w 1 rfl rfl dX4_makeDue_43 ?_
        refine lv_iload_n hx hb dX4_makeDue_46 rfl (lv_at hl 2 rfl) ?_
        obtain ⟨hI, hT52⟩ := bq_ci_el hT52
        refine bq_ald E K w 2 rfl hI dX4_makeDue_47 ?_
        refine lv_goto (tgt := 52) hx hb dX4_makeDue_48 (by decide) ?_
        obtain rfl := Option.some.inj hT52
        exact K52 H locs ls w (lv_sub hl [] rfl)
    clear hm
    refine lv_if_eq (tgt := 33) hx hb dX4_makeDue_21 (by decide) (fun hc => ?_) (fun hc => ?_)
    · replace hT34 := bq_t hc hT34
      clear hc
      refine lv_iconst (v := 0) hx hb dX4_makeDue_33 (by decide) ?_
      obtain rfl := Option.some.inj hT34
      exact K34 H locs ls w (lv_sub hl [1, 2, 3, 0] rfl)
    · replace hT34 := bq_f hc hT34
      clear hc
      refine lv_aload_n hx hb dX4_makeDue_24 rfl (lv_at hl 2 rfl) ?_
      refine gt_X4_36 E K w 1 rfl rfl dX4_makeDue_25 ?_
      refine lv_iload_n hx hb dX4_makeDue_28 rfl (lv_at hl 3 rfl) ?_
      obtain ⟨hI, hT34⟩ := bq_ci_el hT34
      refine bq_ald E K w 3 rfl hI dX4_makeDue_29 ?_
      refine lv_goto (tgt := 34) hx hb dX4_makeDue_30 (by decide) ?_
      obtain rfl := Option.some.inj hT34
      exact K34 H locs ls w (lv_sub hl [1, 2, 3, 0] rfl)
  clear hm
  refine lv_icmp_ge (tgt := 12) hx hb dX4_makeDue_5 (by decide) (fun hc => ?_) (fun hc => ?_)
  · replace hT13 := bq_et hc hT13
    clear hc
    refine lv_iconst (v := 0) hx hb dX4_makeDue_12 (by decide) ?_
    subst hT13
    exact K13 H locs ls w (lv_sub hl [0, 1, 2] rfl)
  · replace hT13 := bq_ef hc hT13
    clear hc
    refine lv_iconst (v := 1) hx hb dX4_makeDue_8 (by decide) ?_
    refine lv_goto (tgt := 13) hx hb dX4_makeDue_9 (by decide) ?_
    subst hT13
    exact K13 H locs ls w (lv_sub hl [0, 1, 2] rfl)
abbrev wdX4_reset (cI : ClassId) (a_t a_p1 a_p1_minus a_p1_plus u_p1_pauses u_p1_outBefore u_p1_cuts u_p1_groupOfStep : Nat) (t : Nat → Int32) (p1 : Nat → Int32) (p1_minus : Nat → Int32) (p1_plus : Nat → Int32) : va_W := [(a_t, oX4 t), (a_p1, oX5 a_p1_plus a_p1_minus u_p1_pauses u_p1_outBefore u_p1_cuts u_p1_groupOfStep p1), (a_p1_minus, oA cI 16 p1_minus), (a_p1_plus, oA cI 16 p1_plus)]
abbrev rmX4_reset : Room := { frames := 1, cells := 0, slots := 0, locals := 23 }
theorem hd_X4_reset : yX4_reset.cls = RX4 ∧ yX4_reset.cls ≠ "java/lang/invoke/MethodHandle" ∧ yX4_reset.cls ≠ "java/lang/invoke/VarHandle" ∧ (parseMethodDescriptor yX4_reset.desc).map (fun d => d.parameters.length) = some 1 := by decide +kernel
set_option maxHeartbeats 4000000 in
set_option maxRecDepth 100000 in
theorem kX4_reset (l : Launch) (D : va_G) (cI cJ : ClassId) (a_t a_p1 a_p1_minus a_p1_plus u_p1_pauses u_p1_outBefore u_p1_cuts u_p1_groupOfStep : Nat) (t p1 p1_minus p1_plus : Nat → Int32) (t_o : Nat → Int32) (hm : mX4_reset t p1 p1_minus p1_plus = some t_o) : bq_M l D cI cJ yX4_reset cX4_reset 2 none rmX4_reset [.ref a_t, .ref a_p1] (wdX4_reset cI a_t a_p1 a_p1_minus a_p1_plus u_p1_pauses u_p1_outBefore u_p1_cuts u_p1_groupOfStep t p1 p1_minus p1_plus) (wdX4_reset cI a_t a_p1 a_p1_minus a_p1_plus u_p1_pauses u_p1_outBefore u_p1_cuts u_p1_groupOfStep t_o p1 p1_minus p1_plus) none := by
  refine bq_start (by decide) (Nat.le_of_ble_eq_true rfl) ?_
  intro p e s m av9 below meth c A ls Q H locs E K w hA hr hk hn hQ hl
  have E : bq_E p m c cX4_reset 2 s av9 RX4 := E
  have hx := E.1
  have hb := E.2.1
  have hl : lv_has ls 2 [(0, .ref a_t), (1, .ref a_p1)] := hl
  unfold mX4_reset at hm
  refine lv_aload_n hx hb dX4_reset_0 rfl (lv_at hl 0 rfl) ?_
  refine lv_iconst (v := 0) hx hb dX4_reset_1 (by decide) ?_
  obtain ⟨t_1, e9, hm⟩ := bq_let_el hm
  refine pt_X4_7 E K w 0 rfl (Nat.le_of_ble_eq_true rfl) dX4_reset_2 (fun H locs w => ?_)
  replace w : bq_w D A s.heap (wdX4_reset cI a_t a_p1 a_p1_minus a_p1_plus u_p1_pauses u_p1_outBefore u_p1_cuts u_p1_groupOfStep t_1 p1 p1_minus p1_plus) H locs := by rw [e9]; exact w
  clear e9
  refine lv_aload_n hx hb dX4_reset_5 rfl (lv_at hl 0 rfl) ?_
  refine lv_iconst (v := 0) hx hb dX4_reset_6 (by decide) ?_
  obtain ⟨t_2, e9, hm⟩ := bq_let_el hm
  refine pt_X4_13 E K w 0 rfl (Nat.le_of_ble_eq_true rfl) dX4_reset_7 (fun H locs w => ?_)
  replace w : bq_w D A s.heap (wdX4_reset cI a_t a_p1 a_p1_minus a_p1_plus u_p1_pauses u_p1_outBefore u_p1_cuts u_p1_groupOfStep t_2 p1 p1_minus p1_plus) H locs := by rw [e9]; exact w
  clear e9
  refine lv_aload_n hx hb dX4_reset_10 rfl (lv_at hl 0 rfl) ?_
  refine lv_iconst (v := 0) hx hb dX4_reset_11 (by decide) ?_
  obtain ⟨t_3, e9, hm⟩ := bq_let_el hm
  refine pt_X4_16 E K w 0 rfl (Nat.le_of_ble_eq_true rfl) (by decide) dX4_reset_12 (fun H locs w => ?_)
  replace w : bq_w D A s.heap (wdX4_reset cI a_t a_p1 a_p1_minus a_p1_plus u_p1_pauses u_p1_outBefore u_p1_cuts u_p1_groupOfStep t_3 p1 p1_minus p1_plus) H locs := by rw [e9]; exact w
  clear e9
  refine lv_aload_n hx hb dX4_reset_15 rfl (lv_at hl 0 rfl) ?_
  refine lv_aload_n hx hb dX4_reset_16 rfl (lv_at hl 1 rfl) ?_
  refine lv_aload_n hx hb dX4_reset_17 rfl (lv_at hl 1 rfl) ?_
  refine lv_iconst (v := 0) hx hb dX4_reset_18 (by decide) ?_
  obtain ⟨v4, hC, hm⟩ := bq_bd_el hm
  refine bq_V (As := [.int 0]) (rest := [.ref a_p1, .ref a_t]) (st1 := [.int v4, .ref a_p1, .ref a_t]) (ws' := wdX4_reset cI a_t a_p1 a_p1_minus a_p1_plus u_p1_pauses u_p1_outBefore u_p1_cuts u_p1_groupOfStep t_3 p1 p1_minus p1_plus) E K w hA (kX5_movingStepFrom l D cI cJ a_p1 a_p1_minus a_p1_plus u_p1_pauses u_p1_outBefore u_p1_cuts u_p1_groupOfStep p1 p1_minus p1_plus 0 v4 hC) (bq_gV ml_X4_20 im_X5_movingStepFrom sl_X5_movingStepFrom in_X5 cd_X5_movingStepFrom) hd_X5_movingStepFrom ⟨Nat.le_of_ble_eq_true rfl, Nat.le_of_ble_eq_true rfl⟩ ⟨Nat.le_of_ble_eq_true rfl, Nat.le_of_ble_eq_true rfl⟩ ⟨[1, 2, 3], [0], [0, 1, 2, 3], rfl, rfl, rfl, rfl, rfl, rfl, rfl, rfl, rfl⟩ 1 rfl rfl rfl hl.1 rfl (Nat.le_of_ble_eq_true rfl) rfl dX4_reset_19 (fun H locs w => bq_z ⟨rfl, rfl⟩ ?_)
  clear hC
  obtain ⟨t_5, hC, hm⟩ := bq_bd_el hm
  refine bq_V (As := [.ref a_p1, .int v4]) (rest := []) (st1 := []) (ws' := wdX4_reset cI a_t a_p1 a_p1_minus a_p1_plus u_p1_pauses u_p1_outBefore u_p1_cuts u_p1_groupOfStep t_5 p1 p1_minus p1_plus) E K w hA (kX4_makeDue l D cI cJ a_t a_p1 a_p1_minus a_p1_plus u_p1_pauses u_p1_outBefore u_p1_cuts u_p1_groupOfStep t_3 p1 p1_minus p1_plus v4 t_5 hC) (bq_gV ml_X4_26 im_X4_makeDue sl_X4_makeDue in_X4 cd_X4_makeDue) hd_X4_makeDue ⟨Nat.le_of_ble_eq_true rfl, Nat.le_of_ble_eq_true rfl⟩ ⟨Nat.le_of_ble_eq_true rfl, Nat.le_of_ble_eq_true rfl⟩ ⟨[0, 1, 2, 3], [], [0, 1, 2, 3], rfl, rfl, rfl, rfl, rfl, rfl, rfl, rfl, rfl⟩ 0 rfl rfl rfl hl.1 rfl (Nat.le_of_ble_eq_true rfl) rfl dX4_reset_22 (fun H locs w => bq_z ⟨rfl, rfl⟩ ?_)
  clear hC
  obtain rfl := Option.some.inj hm
  exact bq_vret E w hr hk dX4_reset_25 hQ
abbrev wdX4_judge (cI : ClassId) (a_t a_p1 a_p1_minus a_p1_plus u_p1_pauses u_p1_outBefore u_p1_cuts u_p1_groupOfStep : Nat) (t : Nat → Int32) (p1 : Nat → Int32) (p1_minus : Nat → Int32) (p1_plus : Nat → Int32) : va_W := [(a_t, oX4 t), (a_p1, oX5 a_p1_plus a_p1_minus u_p1_pauses u_p1_outBefore u_p1_cuts u_p1_groupOfStep p1), (a_p1_minus, oA cI 16 p1_minus), (a_p1_plus, oA cI 16 p1_plus)]
abbrev rmX4_judge : Room := { frames := 1, cells := 0, slots := 0, locals := 23 }
theorem hd_X4_judge : yX4_judge.cls = RX4 ∧ yX4_judge.cls ≠ "java/lang/invoke/MethodHandle" ∧ yX4_judge.cls ≠ "java/lang/invoke/VarHandle" ∧ (parseMethodDescriptor yX4_judge.desc).map (fun d => d.parameters.length) = some 3 := by decide +kernel
set_option maxHeartbeats 4000000 in
set_option maxRecDepth 100000 in
theorem kX4_judge (l : Launch) (D : va_G) (cI cJ : ClassId) (a_t a_p1 a_p1_minus a_p1_plus u_p1_pauses u_p1_outBefore u_p1_cuts u_p1_groupOfStep : Nat) (t p1 p1_minus p1_plus : Nat → Int32) (x2 : Int32) (x3 : Int32) (t_o : Nat → Int32) (hm : mX4_judge t p1 p1_minus p1_plus x2 x3 = some t_o) : bq_M l D cI cJ yX4_judge cX4_judge 5 none rmX4_judge [.ref a_t, .ref a_p1, .int x2, .int x3] (wdX4_judge cI a_t a_p1 a_p1_minus a_p1_plus u_p1_pauses u_p1_outBefore u_p1_cuts u_p1_groupOfStep t p1 p1_minus p1_plus) (wdX4_judge cI a_t a_p1 a_p1_minus a_p1_plus u_p1_pauses u_p1_outBefore u_p1_cuts u_p1_groupOfStep t_o p1 p1_minus p1_plus) none := by
  refine bq_start (by decide) (Nat.le_of_ble_eq_true rfl) ?_
  intro p e s m av9 below meth c A ls Q H locs E K w hA hr hk hn hQ hl
  have E : bq_E p m c cX4_judge 5 s av9 RX4 := E
  have hx := E.1
  have hb := E.2.1
  have hl : lv_has ls 5 [(0, .ref a_t), (1, .ref a_p1), (2, .int x2), (3, .int x3)] := hl
  unfold mX4_judge at hm
  refine lv_aload_n hx hb dX4_judge_0 rfl (lv_at hl 0 rfl) ?_
  refine gt_X4_16 E K w 0 rfl rfl dX4_judge_1 ?_
  refine lv_if_ne (tgt := 29) hx hb dX4_judge_4 (by decide) (fun hc => ?_) (fun hc => ?_)
  · replace hm := bq_f hc hm
    clear hc
    refine lv_aload_n hx hb dX4_judge_29 rfl (lv_at hl 0 rfl) ?_
    refine lv_iconst (v := 1) hx hb dX4_judge_30 (by decide) ?_
    obtain ⟨t_1, e9, hm⟩ := bq_let_el hm
    refine pt_X4_16 E K w 0 rfl (Nat.le_of_ble_eq_true rfl) (by decide) dX4_judge_31 (fun H locs w => ?_)
    replace w : bq_w D A s.heap (wdX4_judge cI a_t a_p1 a_p1_minus a_p1_plus u_p1_pauses u_p1_outBefore u_p1_cuts u_p1_groupOfStep t_1 p1 p1_minus p1_plus) H locs := by rw [e9]; exact w
    clear e9
    obtain rfl := Option.some.inj hm
    exact bq_vret E w hr hk dX4_judge_34 hQ
  · replace hm := bq_t hc hm
    clear hc
    refine lv_iload_n hx hb dX4_judge_7 rfl (lv_at hl 3 rfl) ?_
    obtain ⟨v2, hT22, hm⟩ := bq_let_el hm
    have K22 : ∀ (H : Heap) (locs : List Loc) (ls : Array Slot), bq_w D A s.heap (wdX4_judge cI a_t a_p1 a_p1_minus a_p1_plus u_p1_pauses u_p1_outBefore u_p1_cuts u_p1_groupOfStep t p1 p1_minus p1_plus) H locs → lv_has ls 5 [(0, .ref a_t), (1, .ref a_p1), (2, .int x2)] → W p l e rmX4_judge s m av9 below meth c H locs 0 0 Q (F0 m 22 ls [.int v2]) := by
      intro H locs ls w hl
      refine lv_iload_n hx hb dX4_judge_22 rfl (lv_at hl 2 rfl) ?_
      obtain ⟨v3, hC, hm⟩ := bq_bd_el hm
      refine bq_SN0 (As := [.int v2, .int x2]) (rest := []) (st1 := [.int v3]) E K w hA (kX7_holds l D cI cJ v2 x2 v3 hC) cd_X7_holds mn_X4_49 in_X7 st_X7_holds hs_X7_holds ⟨Nat.le_of_ble_eq_true rfl, Nat.le_of_ble_eq_true rfl⟩ ⟨Nat.le_of_ble_eq_true rfl, Nat.le_of_ble_eq_true rfl⟩ rfl hl.1 rfl (Nat.le_of_ble_eq_true rfl) rfl dX4_judge_23 (fun H locs w => bq_z ⟨rfl, rfl⟩ ?_)
      clear hC
      refine lv_if_ne (tgt := 35) hx hb dX4_judge_26 (by decide) (fun hc => ?_) (fun hc => ?_)
      · replace hm := bq_f hc hm
        clear hc
        refine lv_aload_n hx hb dX4_judge_35 rfl (lv_at hl 0 rfl) ?_
        refine lv_dup hx hb dX4_judge_36 rfl ?_
        refine gt_X4_7 E K w 0 rfl rfl dX4_judge_37 ?_
        refine lv_iconst (v := 1) hx hb dX4_judge_40 (by decide) ?_
        refine lv_iadd hx hb dX4_judge_41 ?_
        obtain ⟨t_4, e9, hm⟩ := bq_let_el hm
        refine pt_X4_7 E K w 0 rfl (Nat.le_of_ble_eq_true rfl) dX4_judge_42 (fun H locs w => ?_)
        replace w : bq_w D A s.heap (wdX4_judge cI a_t a_p1 a_p1_minus a_p1_plus u_p1_pauses u_p1_outBefore u_p1_cuts u_p1_groupOfStep t_4 p1 p1_minus p1_plus) H locs := by rw [e9]; exact w
        clear e9
        refine lv_aload_n hx hb dX4_judge_45 rfl (lv_at hl 0 rfl) ?_
        refine lv_dup hx hb dX4_judge_46 rfl ?_
        refine gt_X4_40 E K w 0 rfl rfl dX4_judge_47 ?_
        refine lv_iconst (v := 1) hx hb dX4_judge_50 (by decide) ?_
        refine lv_iload_n hx hb dX4_judge_51 rfl (lv_at hl 2 rfl) ?_
        refine lv_ishl hx hb dX4_judge_52 ?_
        refine lv_iconst (v := (-1)) hx hb dX4_judge_53 (by decide) ?_
        refine lv_ixor hx hb dX4_judge_54 ?_
        refine lv_iand hx hb dX4_judge_55 ?_
        obtain ⟨t_5, e9, hm⟩ := bq_let_el hm
        refine pt_X4_40 E K w 0 rfl (Nat.le_of_ble_eq_true rfl) dX4_judge_56 (fun H locs w => ?_)
        replace w : bq_w D A s.heap (wdX4_judge cI a_t a_p1 a_p1_minus a_p1_plus u_p1_pauses u_p1_outBefore u_p1_cuts u_p1_groupOfStep t_5 p1 p1_minus p1_plus) H locs := by rw [e9]; exact w
        clear e9
        refine lv_aload_n hx hb dX4_judge_59 rfl (lv_at hl 0 rfl) ?_
        refine lv_dup hx hb dX4_judge_60 rfl ?_
        refine gt_X4_46 E K w 0 rfl rfl dX4_judge_61 ?_
        refine lv_iconst (v := 1) hx hb dX4_judge_64 (by decide) ?_
        refine lv_iload_n hx hb dX4_judge_65 rfl (lv_at hl 2 rfl) ?_
        refine lv_ishl hx hb dX4_judge_66 ?_
        refine lv_iconst (v := (-1)) hx hb dX4_judge_67 (by decide) ?_
        refine lv_ixor hx hb dX4_judge_68 ?_
        refine lv_iand hx hb dX4_judge_69 ?_
        obtain ⟨t_6, e9, hm⟩ := bq_let_el hm
        refine pt_X4_46 E K w 0 rfl (Nat.le_of_ble_eq_true rfl) dX4_judge_70 (fun H locs w => ?_)
        replace w : bq_w D A s.heap (wdX4_judge cI a_t a_p1 a_p1_minus a_p1_plus u_p1_pauses u_p1_outBefore u_p1_cuts u_p1_groupOfStep t_6 p1 p1_minus p1_plus) H locs := by rw [e9]; exact w
        clear e9
        refine lv_aload_n hx hb dX4_judge_73 rfl (lv_at hl 0 rfl) ?_
        refine gt_X4_40 E K w 0 rfl rfl dX4_judge_74 ?_
        refine lv_if_ne (tgt := 87) hx hb dX4_judge_77 (by decide) (fun hc => ?_) (fun hc => ?_)
        · replace hm := bq_f hc hm
          clear hc
          obtain rfl := Option.some.inj hm
          exact bq_vret E w hr hk dX4_judge_87 hQ
        · replace hm := bq_t hc hm
          clear hc
          refine lv_aload_n hx hb dX4_judge_80 rfl (lv_at hl 0 rfl) ?_
          refine gt_X4_46 E K w 0 rfl rfl dX4_judge_81 ?_
          refine lv_if_eq (tgt := 88) hx hb dX4_judge_84 (by decide) (fun hc => ?_) (fun hc => ?_)
          · replace hm := bq_t hc hm
            clear hc
            refine lv_aload_n hx hb dX4_judge_88 rfl (lv_at hl 1 rfl) ?_
            refine lv_aload_n hx hb dX4_judge_89 rfl (lv_at hl 0 rfl) ?_
            refine gt_X4_33 E K w 0 rfl rfl dX4_judge_90 ?_
            refine lv_iconst (v := 1) hx hb dX4_judge_93 (by decide) ?_
            refine lv_iadd hx hb dX4_judge_94 ?_
            obtain ⟨v7, hC, hm⟩ := bq_bd_el hm
            refine bq_V (As := [.int ((t_6 3) + 1)]) (rest := []) (st1 := [.int v7]) (ws' := wdX4_judge cI a_t a_p1 a_p1_minus a_p1_plus u_p1_pauses u_p1_outBefore u_p1_cuts u_p1_groupOfStep t_6 p1 p1_minus p1_plus) E K w hA (kX5_movingStepFrom l D cI cJ a_p1 a_p1_minus a_p1_plus u_p1_pauses u_p1_outBefore u_p1_cuts u_p1_groupOfStep p1 p1_minus p1_plus ((t_6 3) + 1) v7 hC) (bq_gV ml_X4_20 im_X5_movingStepFrom sl_X5_movingStepFrom in_X5 cd_X5_movingStepFrom) hd_X5_movingStepFrom ⟨Nat.le_of_ble_eq_true rfl, Nat.le_of_ble_eq_true rfl⟩ ⟨Nat.le_of_ble_eq_true rfl, Nat.le_of_ble_eq_true rfl⟩ ⟨[1, 2, 3], [0], [0, 1, 2, 3], rfl, rfl, rfl, rfl, rfl, rfl, rfl, rfl, rfl⟩ 1 rfl rfl rfl hl.1 rfl (Nat.le_of_ble_eq_true rfl) rfl dX4_judge_95 (fun H locs w => bq_z ⟨rfl, rfl⟩ ?_)
            clear hC
            refine lv_istore (lv' := [(4, .int v7), (0, .ref a_t), (1, .ref a_p1), (2, .int x2)]) hx hb dX4_judge_98 hl (by decide) rfl (fun ls hl => ?_)
            refine lv_iload hx hb dX4_judge_100 (lv_at hl 0 rfl) ?_
            refine lv_aload_n hx hb dX4_judge_102 rfl (lv_at hl 2 rfl) ?_
            refine gt_X4_30 E K w 1 rfl rfl dX4_judge_103 ?_
            obtain ⟨v8, t_9, hT126, hm⟩ := bq_b2_el hm
            have K126 : ∀ (H : Heap) (locs : List Loc) (ls : Array Slot), bq_w D A s.heap (wdX4_judge cI a_t a_p1 a_p1_minus a_p1_plus u_p1_pauses u_p1_outBefore u_p1_cuts u_p1_groupOfStep t_9 p1 p1_minus p1_plus) H locs → lv_has ls 5 [(0, .ref a_t), (1, .ref a_p1), (4, .int v8)] → W p l e rmX4_judge s m av9 below meth c H locs 0 0 Q (F0 m 126 ls []) := by
              intro H locs ls w hl
              refine lv_aload_n hx hb dX4_judge_126 rfl (lv_at hl 0 rfl) ?_
              refine lv_aload_n hx hb dX4_judge_127 rfl (lv_at hl 1 rfl) ?_
              refine lv_iload hx hb dX4_judge_128 (lv_at hl 2 rfl) ?_
              obtain ⟨t_12, hC, hm⟩ := bq_bd_el hm
              refine bq_V (As := [.ref a_p1, .int v8]) (rest := []) (st1 := []) (ws' := wdX4_judge cI a_t a_p1 a_p1_minus a_p1_plus u_p1_pauses u_p1_outBefore u_p1_cuts u_p1_groupOfStep t_12 p1 p1_minus p1_plus) E K w hA (kX4_makeDue l D cI cJ a_t a_p1 a_p1_minus a_p1_plus u_p1_pauses u_p1_outBefore u_p1_cuts u_p1_groupOfStep t_9 p1 p1_minus p1_plus v8 t_12 hC) (bq_gV ml_X4_26 im_X4_makeDue sl_X4_makeDue in_X4 cd_X4_makeDue) hd_X4_makeDue ⟨Nat.le_of_ble_eq_true rfl, Nat.le_of_ble_eq_true rfl⟩ ⟨Nat.le_of_ble_eq_true rfl, Nat.le_of_ble_eq_true rfl⟩ ⟨[0, 1, 2, 3], [], [0, 1, 2, 3], rfl, rfl, rfl, rfl, rfl, rfl, rfl, rfl, rfl⟩ 0 rfl rfl rfl hl.1 rfl (Nat.le_of_ble_eq_true rfl) rfl dX4_judge_130 (fun H locs w => bq_z ⟨rfl, rfl⟩ ?_)
              clear hC
              obtain rfl := Option.some.inj hm
              exact bq_vret E w hr hk dX4_judge_133 hQ
            clear hm
            refine lv_icmp_lt (tgt := 126) hx hb dX4_judge_106 (by decide) (fun hc => ?_) (fun hc => ?_)
            · replace hT126 := bq_t hc hT126
              clear hc
              obtain ⟨rfl, rfl⟩ := bq_in2 (Option.some.inj hT126)
              exact K126 H locs ls w (lv_sub hl [1, 2, 0] rfl)
            · replace hT126 := bq_f hc hT126
              clear hc
              refine lv_aload_n hx hb dX4_judge_109 rfl (lv_at hl 2 rfl) ?_
              refine lv_iconst (v := 0) hx hb dX4_judge_110 (by decide) ?_
              obtain ⟨v10, hC, hT126⟩ := bq_bd_el hT126
              refine bq_V (As := [.int 0]) (rest := []) (st1 := [.int v10]) (ws' := wdX4_judge cI a_t a_p1 a_p1_minus a_p1_plus u_p1_pauses u_p1_outBefore u_p1_cuts u_p1_groupOfStep t_6 p1 p1_minus p1_plus) E K w hA (kX5_movingStepFrom l D cI cJ a_p1 a_p1_minus a_p1_plus u_p1_pauses u_p1_outBefore u_p1_cuts u_p1_groupOfStep p1 p1_minus p1_plus 0 v10 hC) (bq_gV ml_X4_20 im_X5_movingStepFrom sl_X5_movingStepFrom in_X5 cd_X5_movingStepFrom) hd_X5_movingStepFrom ⟨Nat.le_of_ble_eq_true rfl, Nat.le_of_ble_eq_true rfl⟩ ⟨Nat.le_of_ble_eq_true rfl, Nat.le_of_ble_eq_true rfl⟩ ⟨[1, 2, 3], [0], [0, 1, 2, 3], rfl, rfl, rfl, rfl, rfl, rfl, rfl, rfl, rfl⟩ 1 rfl rfl rfl hl.1 rfl (Nat.le_of_ble_eq_true rfl) rfl dX4_judge_111 (fun H locs w => bq_z ⟨rfl, rfl⟩ ?_)
              clear hC
              refine lv_istore (lv' := [(4, .int v10), (0, .ref a_t), (1, .ref a_p1), (2, .int x2)]) hx hb dX4_judge_114 hl (by decide) rfl (fun ls hl => ?_)
              refine lv_aload_n hx hb dX4_judge_116 rfl (lv_at hl 1 rfl) ?_
              refine lv_dup hx hb dX4_judge_117 rfl ?_
              refine gt_X4_13 E K w 0 rfl rfl dX4_judge_118 ?_
              refine lv_iconst (v := 1) hx hb dX4_judge_121 (by decide) ?_
              refine lv_iadd hx hb dX4_judge_122 ?_
              obtain ⟨t_11, e9, hT126⟩ := bq_let_el hT126
              refine pt_X4_13 E K w 0 rfl (Nat.le_of_ble_eq_true rfl) dX4_judge_123 (fun H locs w => ?_)
              replace w : bq_w D A s.heap (wdX4_judge cI a_t a_p1 a_p1_minus a_p1_plus u_p1_pauses u_p1_outBefore u_p1_cuts u_p1_groupOfStep t_11 p1 p1_minus p1_plus) H locs := by rw [e9]; exact w
              clear e9
              obtain ⟨rfl, rfl⟩ := bq_in2 (Option.some.inj hT126)
              exact K126 H locs ls w (lv_sub hl [1, 2, 0] rfl)
          · replace hm := bq_f hc hm
            clear hc
            obtain rfl := Option.some.inj hm
            exact bq_vret E w hr hk dX4_judge_87 hQ
      · replace hm := bq_t hc hm
        clear hc
        refine lv_aload_n hx hb dX4_judge_29 rfl (lv_at hl 0 rfl) ?_
        refine lv_iconst (v := 1) hx hb dX4_judge_30 (by decide) ?_
        obtain ⟨t_13, e9, hm⟩ := bq_let_el hm
        refine pt_X4_16 E K w 0 rfl (Nat.le_of_ble_eq_true rfl) (by decide) dX4_judge_31 (fun H locs w => ?_)
        replace w : bq_w D A s.heap (wdX4_judge cI a_t a_p1 a_p1_minus a_p1_plus u_p1_pauses u_p1_outBefore u_p1_cuts u_p1_groupOfStep t_13 p1 p1_minus p1_plus) H locs := by rw [e9]; exact w
        clear e9
        obtain rfl := Option.some.inj hm
        exact bq_vret E w hr hk dX4_judge_34 hQ
    clear hm
    refine lv_if_eq (tgt := 18) hx hb dX4_judge_8 (by decide) (fun hc => ?_) (fun hc => ?_)
    · replace hT22 := bq_et hc hT22
      clear hc
      refine lv_aload_n hx hb dX4_judge_18 rfl (lv_at hl 0 rfl) ?_
      refine gt_X4_46 E K w 0 rfl rfl dX4_judge_19 ?_
      subst hT22
      exact K22 H locs ls w (lv_sub hl [0, 1, 2] rfl)
    · replace hT22 := bq_ef hc hT22
      clear hc
      refine lv_aload_n hx hb dX4_judge_11 rfl (lv_at hl 0 rfl) ?_
      refine gt_X4_40 E K w 0 rfl rfl dX4_judge_12 ?_
      refine lv_goto (tgt := 22) hx hb dX4_judge_15 (by decide) ?_
      subst hT22
      exact K22 H locs ls w (lv_sub hl [0, 1, 2] rfl)
