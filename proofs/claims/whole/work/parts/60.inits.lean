abbrev rmX4_init : Room := { frames := 1, cells := 0, slots := 0, locals := 21 }
theorem hi_X4_init : yX4_init.cls ≠ "java/lang/invoke/MethodHandle" ∧ yX4_init.cls ≠ "java/lang/invoke/VarHandle" ∧ yX4_init.name = "<init>" ∧ (parseMethodDescriptor yX4_init.desc).map (fun d => d.parameters.length) = some 0 := by decide +kernel
set_option maxHeartbeats 4000000 in
set_option maxRecDepth 100000 in
theorem kX4_init (l : Launch) (D : va_G) (cI cJ : ClassId) (a_t : Nat) (t_o : Nat → Int32) (hm : mX4_init = some t_o) : bq_MC l D cI cJ yX4_init cX4_init 1 rmX4_init [.ref a_t] [(a_t, .inr (4, [.int 0, .int 0, .int 0, .int 0, .int 0, .int 0]))] (fun wc9 => wc9 = [(a_t, .inr (4, [.int (t_o 0), .int (t_o 1), .int (t_o 2), .int (t_o 3), .int (t_o 4), .int (t_o 5)]))]) := by
  refine bq_startC (by decide) (Nat.le_of_ble_eq_true rfl) ?_
  intro p e s m av9 below meth c A ls Q H locs E K w hA hr hk hn hQ hl
  have E : bq_E p m c cX4_init 1 s av9 RX4 := E
  have hn : meth.name = "<init>" := hn
  have hx := E.1
  have hb := E.2.1
  have hl : lv_has ls 1 [(0, .ref a_t)] := hl
  unfold mX4_init at hm
  refine lv_aload_n hx hb dX4_init_0 rfl (lv_at hl 0 rfl) ?_
  refine bq_obj E ml_X4_1 hl.1 dX4_init_1 (Nat.le_of_ble_eq_true rfl) (by decide) ?_
  obtain rfl := Option.some.inj hm
  exact bq_cret E w hr hk dX4_init_4 hQ rfl
abbrev rmX0_init : Room := { frames := 1, cells := 0, slots := 0, locals := 21 }
theorem hi_X0_init : yX0_init.cls ≠ "java/lang/invoke/MethodHandle" ∧ yX0_init.cls ≠ "java/lang/invoke/VarHandle" ∧ yX0_init.name = "<init>" ∧ (parseMethodDescriptor yX0_init.desc).map (fun d => d.parameters.length) = some 0 := by decide +kernel
set_option maxHeartbeats 4000000 in
set_option maxRecDepth 100000 in
theorem kX0_init (l : Launch) (D : va_G) (cI cJ : ClassId) (a_t : Nat) (t_o : Nat → Int32) (hm : mX0_init = some t_o) : bq_MC l D cI cJ yX0_init cX0_init 1 rmX0_init [.ref a_t] [(a_t, .inr (0, [.int 0, .int 0, .int 0, .int 0, .int 0, .int 0]))] (fun wc9 => wc9 = [(a_t, .inr (0, [.int (t_o 0), .int (t_o 1), .int (t_o 2), .int (t_o 3), .int (t_o 4), .int (t_o 5)]))]) := by
  refine bq_startC (by decide) (Nat.le_of_ble_eq_true rfl) ?_
  intro p e s m av9 below meth c A ls Q H locs E K w hA hr hk hn hQ hl
  have E : bq_E p m c cX0_init 1 s av9 RX0 := E
  have hn : meth.name = "<init>" := hn
  have hx := E.1
  have hb := E.2.1
  have hl : lv_has ls 1 [(0, .ref a_t)] := hl
  unfold mX0_init at hm
  refine lv_aload_n hx hb dX0_init_0 rfl (lv_at hl 0 rfl) ?_
  refine bq_obj E ml_X0_3 hl.1 dX0_init_1 (Nat.le_of_ble_eq_true rfl) (by decide) ?_
  refine lv_aload_n hx hb dX0_init_4 rfl (lv_at hl 0 rfl) ?_
  refine lv_iconst (v := 1) hx hb dX0_init_5 (by decide) ?_
  obtain ⟨t_1, e9, hm⟩ := bq_let_el hm
  refine pt_X0_9 E K w 0 rfl (Nat.le_of_ble_eq_true rfl) dX0_init_6 (fun H locs w => ?_)
  replace w : bq_w D A s.heap ([(a_t, .inr (0, [.int (t_1 0), .int (t_1 1), .int (t_1 2), .int (t_1 3), .int (t_1 4), .int (t_1 5)]))]) H locs := by rw [e9]; exact w
  clear e9
  refine lv_aload_n hx hb dX0_init_9 rfl (lv_at hl 0 rfl) ?_
  refine lv_iconst (v := (-1)) hx hb dX0_init_10 (by decide) ?_
  obtain ⟨t_2, e9, hm⟩ := bq_let_el hm
  refine pt_X0_15 E K w 0 rfl (Nat.le_of_ble_eq_true rfl) dX0_init_11 (fun H locs w => ?_)
  replace w : bq_w D A s.heap ([(a_t, .inr (0, [.int (t_2 0), .int (t_2 1), .int (t_2 2), .int (t_2 3), .int (t_2 4), .int (t_2 5)]))]) H locs := by rw [e9]; exact w
  clear e9
  obtain rfl := Option.some.inj hm
  exact bq_cret E w hr hk dX0_init_14 hQ rfl
abbrev rmX1_init : Room := { frames := 1, cells := 2, slots := 80, locals := 21 }
theorem hi_X1_init : yX1_init.cls ≠ "java/lang/invoke/MethodHandle" ∧ yX1_init.cls ≠ "java/lang/invoke/VarHandle" ∧ yX1_init.name = "<init>" ∧ (parseMethodDescriptor yX1_init.desc).map (fun d => d.parameters.length) = some 0 := by decide +kernel
set_option maxHeartbeats 4000000 in
set_option maxRecDepth 100000 in
theorem kX1_init (l : Launch) (D : va_G) (cI cJ : ClassId) (a_t : Nat) (t_o p100_o p101_o : Nat → Int32) (hm : mX1_init = some (t_o, p100_o, p101_o)) : bq_MC l D cI cJ yX1_init cX1_init 1 rmX1_init [.ref a_t] [(a_t, .inr (1, [.null, .null, .int 0, .int 0, .int 0]))] (fun wc9 => ∃ (a_p100 a_p101 : Nat), wc9 = [(a_t, .inr (1, [.ref a_p100, .ref a_p101, .int (t_o 2), .int (t_o 3), .int (t_o 4)])), (a_p100, oA cI 40 p100_o), (a_p101, oA cI 40 p101_o)]) := by
  refine bq_startC (by decide) (Nat.le_of_ble_eq_true rfl) ?_
  intro p e s m av9 below meth c A ls Q H locs E K w hA hr hk hn hQ hl
  have E : bq_E p m c cX1_init 1 s av9 RX1 := E
  have hn : meth.name = "<init>" := hn
  have hx := E.1
  have hb := E.2.1
  have hl : lv_has ls 1 [(0, .ref a_t)] := hl
  unfold mX1_init at hm
  refine lv_aload_n hx hb dX1_init_0 rfl (lv_at hl 0 rfl) ?_
  refine bq_obj E ml_X1_3 hl.1 dX1_init_1 (Nat.le_of_ble_eq_true rfl) (by decide) ?_
  refine lv_aload_n hx hb dX1_init_4 rfl (lv_at hl 0 rfl) ?_
  refine lv_bipush (v := 40) hx hb dX1_init_5 (by decide) ?_
  refine bq_newa E K w hA 40 (by decide) (by decide) (by decide) (Nat.le_of_ble_eq_true rfl) (Nat.le_of_ble_eq_true rfl) dX1_init_7 (fun a_p100 H w => ?_)
  replace w : bq_w D A s.heap [(a_t, .inr (1, [.null, .null, .int (bq_z0 2), .int (bq_z0 3), .int (bq_z0 4)])), (a_p100, oA cI 40 bq_z0)] H locs := w
  refine pf_X1_9 E K w 0 hn rfl (Nat.le_of_ble_eq_true rfl) dX1_init_9 (fun H locs w => ?_)
  replace w : bq_w D A s.heap ([(a_t, .inr (1, [.ref a_p100, .null, .int (bq_z0 2), .int (bq_z0 3), .int (bq_z0 4)])), (a_p100, oA cI 40 bq_z0)]) H locs := w
  refine lv_aload_n hx hb dX1_init_12 rfl (lv_at hl 0 rfl) ?_
  refine lv_bipush (v := 40) hx hb dX1_init_13 (by decide) ?_
  refine bq_newa E K w hA 40 (by decide) (by decide) (by decide) (Nat.le_of_ble_eq_true rfl) (Nat.le_of_ble_eq_true rfl) dX1_init_15 (fun a_p101 H w => ?_)
  replace w : bq_w D A s.heap [(a_t, .inr (1, [.ref a_p100, .null, .int (bq_z0 2), .int (bq_z0 3), .int (bq_z0 4)])), (a_p100, oA cI 40 bq_z0), (a_p101, oA cI 40 bq_z0)] H locs := w
  refine pf_X1_15 E K w 0 hn rfl (Nat.le_of_ble_eq_true rfl) dX1_init_17 (fun H locs w => ?_)
  replace w : bq_w D A s.heap ([(a_t, .inr (1, [.ref a_p100, .ref a_p101, .int (bq_z0 2), .int (bq_z0 3), .int (bq_z0 4)])), (a_p100, oA cI 40 bq_z0), (a_p101, oA cI 40 bq_z0)]) H locs := w
  obtain ⟨rfl, rfl, rfl⟩ := bq_in3 (Option.some.inj hm)
  exact bq_cret E w hr hk dX1_init_20 hQ ⟨a_p100, a_p101, rfl⟩
abbrev rmX2_init : Room := { frames := 1, cells := 1, slots := 80, locals := 21 }
theorem hi_X2_init : yX2_init.cls ≠ "java/lang/invoke/MethodHandle" ∧ yX2_init.cls ≠ "java/lang/invoke/VarHandle" ∧ yX2_init.name = "<init>" ∧ (parseMethodDescriptor yX2_init.desc).map (fun d => d.parameters.length) = some 0 := by decide +kernel
set_option maxHeartbeats 4000000 in
set_option maxRecDepth 100000 in
theorem kX2_init (l : Launch) (D : va_G) (cI cJ : ClassId) (a_t : Nat) (t_o p100_o : Nat → Int32) (hm : mX2_init = some (t_o, p100_o)) : bq_MC l D cI cJ yX2_init cX2_init 1 rmX2_init [.ref a_t] [(a_t, .inr (2, [.null, .int 0, .int 0, .int 0, .int 0, .int 0]))] (fun wc9 => ∃ (a_p100 : Nat), wc9 = [(a_t, .inr (2, [.ref a_p100, .int (t_o 1), .int (t_o 2), .int (t_o 3), .int (t_o 4), .int (t_o 5)])), (a_p100, oA cI 80 p100_o)]) := by
  refine bq_startC (by decide) (Nat.le_of_ble_eq_true rfl) ?_
  intro p e s m av9 below meth c A ls Q H locs E K w hA hr hk hn hQ hl
  have E : bq_E p m c cX2_init 1 s av9 RX2 := E
  have hn : meth.name = "<init>" := hn
  have hx := E.1
  have hb := E.2.1
  have hl : lv_has ls 1 [(0, .ref a_t)] := hl
  unfold mX2_init at hm
  refine lv_aload_n hx hb dX2_init_0 rfl (lv_at hl 0 rfl) ?_
  refine bq_obj E ml_X2_3 hl.1 dX2_init_1 (Nat.le_of_ble_eq_true rfl) (by decide) ?_
  refine lv_aload_n hx hb dX2_init_4 rfl (lv_at hl 0 rfl) ?_
  refine lv_bipush (v := 80) hx hb dX2_init_5 (by decide) ?_
  refine bq_newa E K w hA 80 (by decide) (by decide) (by decide) (Nat.le_of_ble_eq_true rfl) (Nat.le_of_ble_eq_true rfl) dX2_init_7 (fun a_p100 H w => ?_)
  replace w : bq_w D A s.heap [(a_t, .inr (2, [.null, .int (bq_z0 1), .int (bq_z0 2), .int (bq_z0 3), .int (bq_z0 4), .int (bq_z0 5)])), (a_p100, oA cI 80 bq_z0)] H locs := w
  refine pf_X2_9 E K w 0 hn rfl (Nat.le_of_ble_eq_true rfl) dX2_init_9 (fun H locs w => ?_)
  replace w : bq_w D A s.heap ([(a_t, .inr (2, [.ref a_p100, .int (bq_z0 1), .int (bq_z0 2), .int (bq_z0 3), .int (bq_z0 4), .int (bq_z0 5)])), (a_p100, oA cI 80 bq_z0)]) H locs := w
  obtain ⟨rfl, rfl⟩ := bq_in2 (Option.some.inj hm)
  exact bq_cret E w hr hk dX2_init_12 hQ ⟨a_p100, rfl⟩
abbrev rmX5_init : Room := { frames := 1, cells := 6, slots := 96, locals := 21 }
theorem hi_X5_init : yX5_init.cls ≠ "java/lang/invoke/MethodHandle" ∧ yX5_init.cls ≠ "java/lang/invoke/VarHandle" ∧ yX5_init.name = "<init>" ∧ (parseMethodDescriptor yX5_init.desc).map (fun d => d.parameters.length) = some 0 := by decide +kernel
set_option maxHeartbeats 4000000 in
set_option maxRecDepth 100000 in
theorem kX5_init (l : Launch) (D : va_G) (cI cJ : ClassId) (a_t : Nat) (t_o p100_o p101_o p102_o p103_o p104_o p105_o : Nat → Int32) (hm : mX5_init = some (t_o, p100_o, p101_o, p102_o, p103_o, p104_o, p105_o)) : bq_MC l D cI cJ yX5_init cX5_init 1 rmX5_init [.ref a_t] [(a_t, .inr (5, [.int 0, .null, .null, .null, .null, .int 0, .null, .null]))] (fun wc9 => ∃ (a_p100 a_p101 a_p102 a_p103 a_p104 a_p105 : Nat), wc9 = [(a_t, .inr (5, [.int (t_o 0), .ref a_p100, .ref a_p101, .ref a_p102, .ref a_p103, .int (t_o 5), .ref a_p104, .ref a_p105])), (a_p100, oA cI 16 p100_o), (a_p101, oA cI 16 p101_o), (a_p102, oA cI 16 p102_o), (a_p103, oA cI 16 p103_o), (a_p104, oA cI 16 p104_o), (a_p105, oA cI 16 p105_o)]) := by
  refine bq_startC (by decide) (Nat.le_of_ble_eq_true rfl) ?_
  intro p e s m av9 below meth c A ls Q H locs E K w hA hr hk hn hQ hl
  have E : bq_E p m c cX5_init 1 s av9 RX5 := E
  have hn : meth.name = "<init>" := hn
  have hx := E.1
  have hb := E.2.1
  have hl : lv_has ls 1 [(0, .ref a_t)] := hl
  unfold mX5_init at hm
  refine lv_aload_n hx hb dX5_init_0 rfl (lv_at hl 0 rfl) ?_
  refine bq_obj E ml_X5_3 hl.1 dX5_init_1 (Nat.le_of_ble_eq_true rfl) (by decide) ?_
  refine lv_aload_n hx hb dX5_init_4 rfl (lv_at hl 0 rfl) ?_
  refine lv_bipush (v := 16) hx hb dX5_init_5 (by decide) ?_
  refine bq_newa E K w hA 16 (by decide) (by decide) (by decide) (Nat.le_of_ble_eq_true rfl) (Nat.le_of_ble_eq_true rfl) dX5_init_7 (fun a_p100 H w => ?_)
  replace w : bq_w D A s.heap [(a_t, .inr (5, [.int (bq_z0 0), .null, .null, .null, .null, .int (bq_z0 5), .null, .null])), (a_p100, oA cI 16 bq_z0)] H locs := w
  refine pf_X5_9 E K w 0 hn rfl (Nat.le_of_ble_eq_true rfl) dX5_init_9 (fun H locs w => ?_)
  replace w : bq_w D A s.heap ([(a_t, .inr (5, [.int (bq_z0 0), .ref a_p100, .null, .null, .null, .int (bq_z0 5), .null, .null])), (a_p100, oA cI 16 bq_z0)]) H locs := w
  refine lv_aload_n hx hb dX5_init_12 rfl (lv_at hl 0 rfl) ?_
  refine lv_bipush (v := 16) hx hb dX5_init_13 (by decide) ?_
  refine bq_newa E K w hA 16 (by decide) (by decide) (by decide) (Nat.le_of_ble_eq_true rfl) (Nat.le_of_ble_eq_true rfl) dX5_init_15 (fun a_p101 H w => ?_)
  replace w : bq_w D A s.heap [(a_t, .inr (5, [.int (bq_z0 0), .ref a_p100, .null, .null, .null, .int (bq_z0 5), .null, .null])), (a_p100, oA cI 16 bq_z0), (a_p101, oA cI 16 bq_z0)] H locs := w
  refine pf_X5_15 E K w 0 hn rfl (Nat.le_of_ble_eq_true rfl) dX5_init_17 (fun H locs w => ?_)
  replace w : bq_w D A s.heap ([(a_t, .inr (5, [.int (bq_z0 0), .ref a_p100, .ref a_p101, .null, .null, .int (bq_z0 5), .null, .null])), (a_p100, oA cI 16 bq_z0), (a_p101, oA cI 16 bq_z0)]) H locs := w
  refine lv_aload_n hx hb dX5_init_20 rfl (lv_at hl 0 rfl) ?_
  refine lv_bipush (v := 16) hx hb dX5_init_21 (by decide) ?_
  refine bq_newa E K w hA 16 (by decide) (by decide) (by decide) (Nat.le_of_ble_eq_true rfl) (Nat.le_of_ble_eq_true rfl) dX5_init_23 (fun a_p102 H w => ?_)
  replace w : bq_w D A s.heap [(a_t, .inr (5, [.int (bq_z0 0), .ref a_p100, .ref a_p101, .null, .null, .int (bq_z0 5), .null, .null])), (a_p100, oA cI 16 bq_z0), (a_p101, oA cI 16 bq_z0), (a_p102, oA cI 16 bq_z0)] H locs := w
  refine pf_X5_18 E K w 0 hn rfl (Nat.le_of_ble_eq_true rfl) dX5_init_25 (fun H locs w => ?_)
  replace w : bq_w D A s.heap ([(a_t, .inr (5, [.int (bq_z0 0), .ref a_p100, .ref a_p101, .ref a_p102, .null, .int (bq_z0 5), .null, .null])), (a_p100, oA cI 16 bq_z0), (a_p101, oA cI 16 bq_z0), (a_p102, oA cI 16 bq_z0)]) H locs := w
  refine lv_aload_n hx hb dX5_init_28 rfl (lv_at hl 0 rfl) ?_
  refine lv_bipush (v := 16) hx hb dX5_init_29 (by decide) ?_
  refine bq_newa E K w hA 16 (by decide) (by decide) (by decide) (Nat.le_of_ble_eq_true rfl) (Nat.le_of_ble_eq_true rfl) dX5_init_31 (fun a_p103 H w => ?_)
  replace w : bq_w D A s.heap [(a_t, .inr (5, [.int (bq_z0 0), .ref a_p100, .ref a_p101, .ref a_p102, .null, .int (bq_z0 5), .null, .null])), (a_p100, oA cI 16 bq_z0), (a_p101, oA cI 16 bq_z0), (a_p102, oA cI 16 bq_z0), (a_p103, oA cI 16 bq_z0)] H locs := w
  refine pf_X5_21 E K w 0 hn rfl (Nat.le_of_ble_eq_true rfl) dX5_init_33 (fun H locs w => ?_)
  replace w : bq_w D A s.heap ([(a_t, .inr (5, [.int (bq_z0 0), .ref a_p100, .ref a_p101, .ref a_p102, .ref a_p103, .int (bq_z0 5), .null, .null])), (a_p100, oA cI 16 bq_z0), (a_p101, oA cI 16 bq_z0), (a_p102, oA cI 16 bq_z0), (a_p103, oA cI 16 bq_z0)]) H locs := w
  refine lv_aload_n hx hb dX5_init_36 rfl (lv_at hl 0 rfl) ?_
  refine lv_bipush (v := 16) hx hb dX5_init_37 (by decide) ?_
  refine bq_newa E K w hA 16 (by decide) (by decide) (by decide) (Nat.le_of_ble_eq_true rfl) (Nat.le_of_ble_eq_true rfl) dX5_init_39 (fun a_p104 H w => ?_)
  replace w : bq_w D A s.heap [(a_t, .inr (5, [.int (bq_z0 0), .ref a_p100, .ref a_p101, .ref a_p102, .ref a_p103, .int (bq_z0 5), .null, .null])), (a_p100, oA cI 16 bq_z0), (a_p101, oA cI 16 bq_z0), (a_p102, oA cI 16 bq_z0), (a_p103, oA cI 16 bq_z0), (a_p104, oA cI 16 bq_z0)] H locs := w
  refine pf_X5_24 E K w 0 hn rfl (Nat.le_of_ble_eq_true rfl) dX5_init_41 (fun H locs w => ?_)
  replace w : bq_w D A s.heap ([(a_t, .inr (5, [.int (bq_z0 0), .ref a_p100, .ref a_p101, .ref a_p102, .ref a_p103, .int (bq_z0 5), .ref a_p104, .null])), (a_p100, oA cI 16 bq_z0), (a_p101, oA cI 16 bq_z0), (a_p102, oA cI 16 bq_z0), (a_p103, oA cI 16 bq_z0), (a_p104, oA cI 16 bq_z0)]) H locs := w
  refine lv_aload_n hx hb dX5_init_44 rfl (lv_at hl 0 rfl) ?_
  refine lv_bipush (v := 16) hx hb dX5_init_45 (by decide) ?_
  refine bq_newa E K w hA 16 (by decide) (by decide) (by decide) (Nat.le_of_ble_eq_true rfl) (Nat.le_of_ble_eq_true rfl) dX5_init_47 (fun a_p105 H w => ?_)
  replace w : bq_w D A s.heap [(a_t, .inr (5, [.int (bq_z0 0), .ref a_p100, .ref a_p101, .ref a_p102, .ref a_p103, .int (bq_z0 5), .ref a_p104, .null])), (a_p100, oA cI 16 bq_z0), (a_p101, oA cI 16 bq_z0), (a_p102, oA cI 16 bq_z0), (a_p103, oA cI 16 bq_z0), (a_p104, oA cI 16 bq_z0), (a_p105, oA cI 16 bq_z0)] H locs := w
  refine pf_X5_27 E K w 0 hn rfl (Nat.le_of_ble_eq_true rfl) dX5_init_49 (fun H locs w => ?_)
  replace w : bq_w D A s.heap ([(a_t, .inr (5, [.int (bq_z0 0), .ref a_p100, .ref a_p101, .ref a_p102, .ref a_p103, .int (bq_z0 5), .ref a_p104, .ref a_p105])), (a_p100, oA cI 16 bq_z0), (a_p101, oA cI 16 bq_z0), (a_p102, oA cI 16 bq_z0), (a_p103, oA cI 16 bq_z0), (a_p104, oA cI 16 bq_z0), (a_p105, oA cI 16 bq_z0)]) H locs := w
  obtain ⟨rfl, rfl, rfl, rfl, rfl, rfl, rfl⟩ := bq_in7 (Option.some.inj hm)
  exact bq_cret E w hr hk dX5_init_52 hQ ⟨a_p100, a_p101, a_p102, a_p103, a_p104, a_p105, rfl⟩
abbrev rmX6_init : Room := { frames := 1, cells := 2, slots := 22, locals := 21 }
theorem hi_X6_init : yX6_init.cls ≠ "java/lang/invoke/MethodHandle" ∧ yX6_init.cls ≠ "java/lang/invoke/VarHandle" ∧ yX6_init.name = "<init>" ∧ (parseMethodDescriptor yX6_init.desc).map (fun d => d.parameters.length) = some 0 := by decide +kernel
set_option maxHeartbeats 4000000 in
set_option maxRecDepth 100000 in
theorem kX6_init (l : Launch) (D : va_G) (cI cJ : ClassId) (a_t : Nat) (t_o p100_o p101_o : Nat → Int32) (hm : mX6_init = some (t_o, p100_o, p101_o)) : bq_MC l D cI cJ yX6_init cX6_init 1 rmX6_init [.ref a_t] [(a_t, .inr (6, [.null, .null, .int 0, .int 0]))] (fun wc9 => ∃ (a_p100 a_p101 : Nat), wc9 = [(a_t, .inr (6, [.ref a_p100, .ref a_p101, .int (t_o 2), .int (t_o 3)])), (a_p100, oA cI 6 p100_o), (a_p101, oA cI 16 p101_o)]) := by
  refine bq_startC (by decide) (Nat.le_of_ble_eq_true rfl) ?_
  intro p e s m av9 below meth c A ls Q H locs E K w hA hr hk hn hQ hl
  have E : bq_E p m c cX6_init 1 s av9 RX6 := E
  have hn : meth.name = "<init>" := hn
  have hx := E.1
  have hb := E.2.1
  have hl : lv_has ls 1 [(0, .ref a_t)] := hl
  unfold mX6_init at hm
  refine lv_aload_n hx hb dX6_init_0 rfl (lv_at hl 0 rfl) ?_
  refine bq_obj E ml_X6_3 hl.1 dX6_init_1 (Nat.le_of_ble_eq_true rfl) (by decide) ?_
  refine lv_aload_n hx hb dX6_init_4 rfl (lv_at hl 0 rfl) ?_
  refine lv_bipush (v := 6) hx hb dX6_init_5 (by decide) ?_
  refine bq_newa E K w hA 6 (by decide) (by decide) (by decide) (Nat.le_of_ble_eq_true rfl) (Nat.le_of_ble_eq_true rfl) dX6_init_7 (fun a_p100 H w => ?_)
  replace w : bq_w D A s.heap [(a_t, .inr (6, [.null, .null, .int (bq_z0 2), .int (bq_z0 3)])), (a_p100, oA cI 6 bq_z0)] H locs := w
  refine pf_X6_9 E K w 0 hn rfl (Nat.le_of_ble_eq_true rfl) dX6_init_9 (fun H locs w => ?_)
  replace w : bq_w D A s.heap ([(a_t, .inr (6, [.ref a_p100, .null, .int (bq_z0 2), .int (bq_z0 3)])), (a_p100, oA cI 6 bq_z0)]) H locs := w
  refine lv_aload_n hx hb dX6_init_12 rfl (lv_at hl 0 rfl) ?_
  refine lv_bipush (v := 16) hx hb dX6_init_13 (by decide) ?_
  refine bq_newa E K w hA 16 (by decide) (by decide) (by decide) (Nat.le_of_ble_eq_true rfl) (Nat.le_of_ble_eq_true rfl) dX6_init_15 (fun a_p101 H w => ?_)
  replace w : bq_w D A s.heap [(a_t, .inr (6, [.ref a_p100, .null, .int (bq_z0 2), .int (bq_z0 3)])), (a_p100, oA cI 6 bq_z0), (a_p101, oA cI 16 bq_z0)] H locs := w
  refine pf_X6_15 E K w 0 hn rfl (Nat.le_of_ble_eq_true rfl) dX6_init_17 (fun H locs w => ?_)
  replace w : bq_w D A s.heap ([(a_t, .inr (6, [.ref a_p100, .ref a_p101, .int (bq_z0 2), .int (bq_z0 3)])), (a_p100, oA cI 6 bq_z0), (a_p101, oA cI 16 bq_z0)]) H locs := w
  obtain ⟨rfl, rfl, rfl⟩ := bq_in3 (Option.some.inj hm)
  exact bq_cret E w hr hk dX6_init_20 hQ ⟨a_p100, a_p101, rfl⟩
abbrev rmX3_init : Room := { frames := 2, cells := 9, slots := 130, locals := 41 }
theorem hi_X3_init : yX3_init.cls ≠ "java/lang/invoke/MethodHandle" ∧ yX3_init.cls ≠ "java/lang/invoke/VarHandle" ∧ yX3_init.name = "<init>" ∧ (parseMethodDescriptor yX3_init.desc).map (fun d => d.parameters.length) = some 1 := by decide +kernel
set_option maxHeartbeats 4000000 in
set_option maxRecDepth 100000 in
theorem kX3_init (l : Launch) (D : va_G) (cI cJ : ClassId) (a_t u_p1 : Nat) (t_o p100_o p101_o p102_o p103_o p104_o p105_o p106_o p107_o p108_o : Nat → Int32) (hm : mX3_init = some (t_o, p100_o, p101_o, p102_o, p103_o, p104_o, p105_o, p106_o, p107_o, p108_o)) : bq_MC l D cI cJ yX3_init cX3_init 2 rmX3_init [.ref a_t, .ref u_p1] [(a_t, .inr (3, [.null, .null, .null, .null, .null, .null, .null, .null, .int 0, .int 0, .int 0, .int 0, .int 0]))] (fun wc9 => ∃ (a_p100 a_p101 a_p102 a_p103 a_p104 a_p105 a_p106 a_p107 a_p108 : Nat), wc9 = [(a_t, .inr (3, [.ref u_p1, .ref a_p100, .ref a_p101, .ref a_p104, .ref a_p105, .ref a_p106, .ref a_p107, .ref a_p108, .int (t_o 8), .int (t_o 9), .int (t_o 10), .int (t_o 11), .int (t_o 12)])), (a_p100, .inr (0, [.int (p100_o 0), .int (p100_o 1), .int (p100_o 2), .int (p100_o 3), .int (p100_o 4), .int (p100_o 5)])), (a_p101, .inr (1, [.ref a_p102, .ref a_p103, .int (p101_o 2), .int (p101_o 3), .int (p101_o 4)])), (a_p102, oA cI 40 p102_o), (a_p103, oA cI 40 p103_o), (a_p104, .inr (4, [.int (p104_o 0), .int (p104_o 1), .int (p104_o 2), .int (p104_o 3), .int (p104_o 4), .int (p104_o 5)])), (a_p105, oA cI 6 p105_o), (a_p106, oA cI 6 p106_o), (a_p107, oA cI 16 p107_o), (a_p108, oA cI 5 p108_o)]) := by
  refine bq_startC (by decide) (Nat.le_of_ble_eq_true rfl) ?_
  intro p e s m av9 below meth c A ls Q H locs E K w hA hr hk hn hQ hl
  have E : bq_E p m c cX3_init 2 s av9 RX3 := E
  have hn : meth.name = "<init>" := hn
  have hx := E.1
  have hb := E.2.1
  have hl : lv_has ls 2 [(0, .ref a_t), (1, .ref u_p1)] := hl
  unfold mX3_init at hm
  refine lv_aload_n hx hb dX3_init_0 rfl (lv_at hl 0 rfl) ?_
  refine bq_obj E ml_X3_3 hl.1 dX3_init_1 (Nat.le_of_ble_eq_true rfl) (by decide) ?_
  refine lv_aload_n hx hb dX3_init_4 rfl (lv_at hl 0 rfl) ?_
  refine nw_X0 E K w hA cl_X3_9 (Nat.le_of_ble_eq_true rfl) (Nat.le_of_ble_eq_true rfl) dX3_init_5 (fun a_p100 H w => ?_)
  replace w : bq_w D A s.heap [(a_t, .inr (3, [.null, .null, .null, .null, .null, .null, .null, .null, .int (bq_z0 8), .int (bq_z0 9), .int (bq_z0 10), .int (bq_z0 11), .int (bq_z0 12)])), (a_p100, .inr (0, [.int (bq_z0 0), .int (bq_z0 1), .int (bq_z0 2), .int (bq_z0 3), .int (bq_z0 4), .int (bq_z0 5)]))] H locs := w
  refine lv_dup hx hb dX3_init_8 rfl ?_
  obtain ⟨p100_1, hC, hm⟩ := bq_bd_el hm
  refine bq_IN (As := []) (rest := [.ref a_p100, .ref a_t]) E K w hA (kX0_init l D cI cJ a_p100 p100_1 hC) cd_X0_init mn_X3_11 in_X0 im_X0_init hi_X0_init ⟨Nat.le_of_ble_eq_true rfl, Nat.le_of_ble_eq_true rfl⟩ ⟨Nat.le_of_ble_eq_true rfl, Nat.le_of_ble_eq_true rfl⟩ [1] [0] rfl rfl rfl rfl rfl rfl rfl hl.1 rfl (Nat.le_of_ble_eq_true rfl) dX3_init_9 (fun wc9 H locs hwp w => ?_)
  clear hC
  obtain rfl := hwp
  replace w : bq_w D A s.heap [(a_t, .inr (3, [.null, .null, .null, .null, .null, .null, .null, .null, .int (bq_z0 8), .int (bq_z0 9), .int (bq_z0 10), .int (bq_z0 11), .int (bq_z0 12)])), (a_p100, .inr (0, [.int (p100_1 0), .int (p100_1 1), .int (p100_1 2), .int (p100_1 3), .int (p100_1 4), .int (p100_1 5)]))] H locs := w
  refine pf_X3_12 E K w 0 hn rfl (Nat.le_of_ble_eq_true rfl) dX3_init_12 (fun H locs w => ?_)
  replace w : bq_w D A s.heap ([(a_t, .inr (3, [.null, .ref a_p100, .null, .null, .null, .null, .null, .null, .int (bq_z0 8), .int (bq_z0 9), .int (bq_z0 10), .int (bq_z0 11), .int (bq_z0 12)])), (a_p100, .inr (0, [.int (p100_1 0), .int (p100_1 1), .int (p100_1 2), .int (p100_1 3), .int (p100_1 4), .int (p100_1 5)]))]) H locs := w
  refine lv_aload_n hx hb dX3_init_15 rfl (lv_at hl 0 rfl) ?_
  refine nw_X1 E K w hA cl_X3_18 (Nat.le_of_ble_eq_true rfl) (Nat.le_of_ble_eq_true rfl) dX3_init_16 (fun a_p101 H w => ?_)
  replace w : bq_w D A s.heap [(a_t, .inr (3, [.null, .ref a_p100, .null, .null, .null, .null, .null, .null, .int (bq_z0 8), .int (bq_z0 9), .int (bq_z0 10), .int (bq_z0 11), .int (bq_z0 12)])), (a_p100, .inr (0, [.int (p100_1 0), .int (p100_1 1), .int (p100_1 2), .int (p100_1 3), .int (p100_1 4), .int (p100_1 5)])), (a_p101, .inr (1, [.null, .null, .int (bq_z0 2), .int (bq_z0 3), .int (bq_z0 4)]))] H locs := w
  refine lv_dup hx hb dX3_init_19 rfl ?_
  obtain ⟨p101_2, p102_3, p103_4, hC, hm⟩ := bq_b3_el hm
  refine bq_IN (As := []) (rest := [.ref a_p101, .ref a_t]) E K w hA (kX1_init l D cI cJ a_p101 p101_2 p102_3 p103_4 hC) cd_X1_init mn_X3_20 in_X1 im_X1_init hi_X1_init ⟨Nat.le_of_ble_eq_true rfl, Nat.le_of_ble_eq_true rfl⟩ ⟨Nat.le_of_ble_eq_true rfl, Nat.le_of_ble_eq_true rfl⟩ [2] [0, 1] rfl rfl rfl rfl rfl rfl rfl hl.1 rfl (Nat.le_of_ble_eq_true rfl) dX3_init_20 (fun wc9 H locs hwp w => ?_)
  clear hC
  obtain ⟨a_p102, a_p103, rfl⟩ := hwp
  replace w : bq_w D A s.heap [(a_t, .inr (3, [.null, .ref a_p100, .null, .null, .null, .null, .null, .null, .int (bq_z0 8), .int (bq_z0 9), .int (bq_z0 10), .int (bq_z0 11), .int (bq_z0 12)])), (a_p100, .inr (0, [.int (p100_1 0), .int (p100_1 1), .int (p100_1 2), .int (p100_1 3), .int (p100_1 4), .int (p100_1 5)])), (a_p101, .inr (1, [.ref a_p102, .ref a_p103, .int (p101_2 2), .int (p101_2 3), .int (p101_2 4)])), (a_p102, oA cI 40 p102_3), (a_p103, oA cI 40 p103_4)] H locs := w
  refine pf_X3_21 E K w 0 hn rfl (Nat.le_of_ble_eq_true rfl) dX3_init_23 (fun H locs w => ?_)
  replace w : bq_w D A s.heap ([(a_t, .inr (3, [.null, .ref a_p100, .ref a_p101, .null, .null, .null, .null, .null, .int (bq_z0 8), .int (bq_z0 9), .int (bq_z0 10), .int (bq_z0 11), .int (bq_z0 12)])), (a_p100, .inr (0, [.int (p100_1 0), .int (p100_1 1), .int (p100_1 2), .int (p100_1 3), .int (p100_1 4), .int (p100_1 5)])), (a_p101, .inr (1, [.ref a_p102, .ref a_p103, .int (p101_2 2), .int (p101_2 3), .int (p101_2 4)])), (a_p102, oA cI 40 p102_3), (a_p103, oA cI 40 p103_4)]) H locs := w
  refine lv_aload_n hx hb dX3_init_26 rfl (lv_at hl 0 rfl) ?_
  refine nw_X4 E K w hA cl_X3_25 (Nat.le_of_ble_eq_true rfl) (Nat.le_of_ble_eq_true rfl) dX3_init_27 (fun a_p104 H w => ?_)
  replace w : bq_w D A s.heap [(a_t, .inr (3, [.null, .ref a_p100, .ref a_p101, .null, .null, .null, .null, .null, .int (bq_z0 8), .int (bq_z0 9), .int (bq_z0 10), .int (bq_z0 11), .int (bq_z0 12)])), (a_p100, .inr (0, [.int (p100_1 0), .int (p100_1 1), .int (p100_1 2), .int (p100_1 3), .int (p100_1 4), .int (p100_1 5)])), (a_p101, .inr (1, [.ref a_p102, .ref a_p103, .int (p101_2 2), .int (p101_2 3), .int (p101_2 4)])), (a_p102, oA cI 40 p102_3), (a_p103, oA cI 40 p103_4), (a_p104, .inr (4, [.int (bq_z0 0), .int (bq_z0 1), .int (bq_z0 2), .int (bq_z0 3), .int (bq_z0 4), .int (bq_z0 5)]))] H locs := w
  refine lv_dup hx hb dX3_init_30 rfl ?_
  obtain ⟨p104_5, hC, hm⟩ := bq_bd_el hm
  refine bq_IN (As := []) (rest := [.ref a_p104, .ref a_t]) E K w hA (kX4_init l D cI cJ a_p104 p104_5 hC) cd_X4_init mn_X3_27 in_X4 im_X4_init hi_X4_init ⟨Nat.le_of_ble_eq_true rfl, Nat.le_of_ble_eq_true rfl⟩ ⟨Nat.le_of_ble_eq_true rfl, Nat.le_of_ble_eq_true rfl⟩ [5] [0, 1, 2, 3, 4] rfl rfl rfl rfl rfl rfl rfl hl.1 rfl (Nat.le_of_ble_eq_true rfl) dX3_init_31 (fun wc9 H locs hwp w => ?_)
  clear hC
  obtain rfl := hwp
  replace w : bq_w D A s.heap [(a_t, .inr (3, [.null, .ref a_p100, .ref a_p101, .null, .null, .null, .null, .null, .int (bq_z0 8), .int (bq_z0 9), .int (bq_z0 10), .int (bq_z0 11), .int (bq_z0 12)])), (a_p100, .inr (0, [.int (p100_1 0), .int (p100_1 1), .int (p100_1 2), .int (p100_1 3), .int (p100_1 4), .int (p100_1 5)])), (a_p101, .inr (1, [.ref a_p102, .ref a_p103, .int (p101_2 2), .int (p101_2 3), .int (p101_2 4)])), (a_p102, oA cI 40 p102_3), (a_p103, oA cI 40 p103_4), (a_p104, .inr (4, [.int (p104_5 0), .int (p104_5 1), .int (p104_5 2), .int (p104_5 3), .int (p104_5 4), .int (p104_5 5)]))] H locs := w
  refine pf_X3_28 E K w 0 hn rfl (Nat.le_of_ble_eq_true rfl) dX3_init_34 (fun H locs w => ?_)
  replace w : bq_w D A s.heap ([(a_t, .inr (3, [.null, .ref a_p100, .ref a_p101, .ref a_p104, .null, .null, .null, .null, .int (bq_z0 8), .int (bq_z0 9), .int (bq_z0 10), .int (bq_z0 11), .int (bq_z0 12)])), (a_p100, .inr (0, [.int (p100_1 0), .int (p100_1 1), .int (p100_1 2), .int (p100_1 3), .int (p100_1 4), .int (p100_1 5)])), (a_p101, .inr (1, [.ref a_p102, .ref a_p103, .int (p101_2 2), .int (p101_2 3), .int (p101_2 4)])), (a_p102, oA cI 40 p102_3), (a_p103, oA cI 40 p103_4), (a_p104, .inr (4, [.int (p104_5 0), .int (p104_5 1), .int (p104_5 2), .int (p104_5 3), .int (p104_5 4), .int (p104_5 5)]))]) H locs := w
  refine lv_aload_n hx hb dX3_init_37 rfl (lv_at hl 0 rfl) ?_
  refine lv_bipush (v := 6) hx hb dX3_init_38 (by decide) ?_
  refine bq_newa E K w hA 6 (by decide) (by decide) (by decide) (Nat.le_of_ble_eq_true rfl) (Nat.le_of_ble_eq_true rfl) dX3_init_40 (fun a_p105 H w => ?_)
  replace w : bq_w D A s.heap [(a_t, .inr (3, [.null, .ref a_p100, .ref a_p101, .ref a_p104, .null, .null, .null, .null, .int (bq_z0 8), .int (bq_z0 9), .int (bq_z0 10), .int (bq_z0 11), .int (bq_z0 12)])), (a_p100, .inr (0, [.int (p100_1 0), .int (p100_1 1), .int (p100_1 2), .int (p100_1 3), .int (p100_1 4), .int (p100_1 5)])), (a_p101, .inr (1, [.ref a_p102, .ref a_p103, .int (p101_2 2), .int (p101_2 3), .int (p101_2 4)])), (a_p102, oA cI 40 p102_3), (a_p103, oA cI 40 p103_4), (a_p104, .inr (4, [.int (p104_5 0), .int (p104_5 1), .int (p104_5 2), .int (p104_5 3), .int (p104_5 4), .int (p104_5 5)])), (a_p105, oA cI 6 bq_z0)] H locs := w
  refine pf_X3_32 E K w 0 hn rfl (Nat.le_of_ble_eq_true rfl) dX3_init_42 (fun H locs w => ?_)
  replace w : bq_w D A s.heap ([(a_t, .inr (3, [.null, .ref a_p100, .ref a_p101, .ref a_p104, .ref a_p105, .null, .null, .null, .int (bq_z0 8), .int (bq_z0 9), .int (bq_z0 10), .int (bq_z0 11), .int (bq_z0 12)])), (a_p100, .inr (0, [.int (p100_1 0), .int (p100_1 1), .int (p100_1 2), .int (p100_1 3), .int (p100_1 4), .int (p100_1 5)])), (a_p101, .inr (1, [.ref a_p102, .ref a_p103, .int (p101_2 2), .int (p101_2 3), .int (p101_2 4)])), (a_p102, oA cI 40 p102_3), (a_p103, oA cI 40 p103_4), (a_p104, .inr (4, [.int (p104_5 0), .int (p104_5 1), .int (p104_5 2), .int (p104_5 3), .int (p104_5 4), .int (p104_5 5)])), (a_p105, oA cI 6 bq_z0)]) H locs := w
  refine lv_aload_n hx hb dX3_init_45 rfl (lv_at hl 0 rfl) ?_
  refine lv_bipush (v := 6) hx hb dX3_init_46 (by decide) ?_
  refine bq_newa E K w hA 6 (by decide) (by decide) (by decide) (Nat.le_of_ble_eq_true rfl) (Nat.le_of_ble_eq_true rfl) dX3_init_48 (fun a_p106 H w => ?_)
  replace w : bq_w D A s.heap [(a_t, .inr (3, [.null, .ref a_p100, .ref a_p101, .ref a_p104, .ref a_p105, .null, .null, .null, .int (bq_z0 8), .int (bq_z0 9), .int (bq_z0 10), .int (bq_z0 11), .int (bq_z0 12)])), (a_p100, .inr (0, [.int (p100_1 0), .int (p100_1 1), .int (p100_1 2), .int (p100_1 3), .int (p100_1 4), .int (p100_1 5)])), (a_p101, .inr (1, [.ref a_p102, .ref a_p103, .int (p101_2 2), .int (p101_2 3), .int (p101_2 4)])), (a_p102, oA cI 40 p102_3), (a_p103, oA cI 40 p103_4), (a_p104, .inr (4, [.int (p104_5 0), .int (p104_5 1), .int (p104_5 2), .int (p104_5 3), .int (p104_5 4), .int (p104_5 5)])), (a_p105, oA cI 6 bq_z0), (a_p106, oA cI 6 bq_z0)] H locs := w
  refine pf_X3_36 E K w 0 hn rfl (Nat.le_of_ble_eq_true rfl) dX3_init_50 (fun H locs w => ?_)
  replace w : bq_w D A s.heap ([(a_t, .inr (3, [.null, .ref a_p100, .ref a_p101, .ref a_p104, .ref a_p105, .ref a_p106, .null, .null, .int (bq_z0 8), .int (bq_z0 9), .int (bq_z0 10), .int (bq_z0 11), .int (bq_z0 12)])), (a_p100, .inr (0, [.int (p100_1 0), .int (p100_1 1), .int (p100_1 2), .int (p100_1 3), .int (p100_1 4), .int (p100_1 5)])), (a_p101, .inr (1, [.ref a_p102, .ref a_p103, .int (p101_2 2), .int (p101_2 3), .int (p101_2 4)])), (a_p102, oA cI 40 p102_3), (a_p103, oA cI 40 p103_4), (a_p104, .inr (4, [.int (p104_5 0), .int (p104_5 1), .int (p104_5 2), .int (p104_5 3), .int (p104_5 4), .int (p104_5 5)])), (a_p105, oA cI 6 bq_z0), (a_p106, oA cI 6 bq_z0)]) H locs := w
  refine lv_aload_n hx hb dX3_init_53 rfl (lv_at hl 0 rfl) ?_
  refine lv_bipush (v := 16) hx hb dX3_init_54 (by decide) ?_
  refine bq_newa E K w hA 16 (by decide) (by decide) (by decide) (Nat.le_of_ble_eq_true rfl) (Nat.le_of_ble_eq_true rfl) dX3_init_56 (fun a_p107 H w => ?_)
  replace w : bq_w D A s.heap [(a_t, .inr (3, [.null, .ref a_p100, .ref a_p101, .ref a_p104, .ref a_p105, .ref a_p106, .null, .null, .int (bq_z0 8), .int (bq_z0 9), .int (bq_z0 10), .int (bq_z0 11), .int (bq_z0 12)])), (a_p100, .inr (0, [.int (p100_1 0), .int (p100_1 1), .int (p100_1 2), .int (p100_1 3), .int (p100_1 4), .int (p100_1 5)])), (a_p101, .inr (1, [.ref a_p102, .ref a_p103, .int (p101_2 2), .int (p101_2 3), .int (p101_2 4)])), (a_p102, oA cI 40 p102_3), (a_p103, oA cI 40 p103_4), (a_p104, .inr (4, [.int (p104_5 0), .int (p104_5 1), .int (p104_5 2), .int (p104_5 3), .int (p104_5 4), .int (p104_5 5)])), (a_p105, oA cI 6 bq_z0), (a_p106, oA cI 6 bq_z0), (a_p107, oA cI 16 bq_z0)] H locs := w
  refine pf_X3_39 E K w 0 hn rfl (Nat.le_of_ble_eq_true rfl) dX3_init_58 (fun H locs w => ?_)
  replace w : bq_w D A s.heap ([(a_t, .inr (3, [.null, .ref a_p100, .ref a_p101, .ref a_p104, .ref a_p105, .ref a_p106, .ref a_p107, .null, .int (bq_z0 8), .int (bq_z0 9), .int (bq_z0 10), .int (bq_z0 11), .int (bq_z0 12)])), (a_p100, .inr (0, [.int (p100_1 0), .int (p100_1 1), .int (p100_1 2), .int (p100_1 3), .int (p100_1 4), .int (p100_1 5)])), (a_p101, .inr (1, [.ref a_p102, .ref a_p103, .int (p101_2 2), .int (p101_2 3), .int (p101_2 4)])), (a_p102, oA cI 40 p102_3), (a_p103, oA cI 40 p103_4), (a_p104, .inr (4, [.int (p104_5 0), .int (p104_5 1), .int (p104_5 2), .int (p104_5 3), .int (p104_5 4), .int (p104_5 5)])), (a_p105, oA cI 6 bq_z0), (a_p106, oA cI 6 bq_z0), (a_p107, oA cI 16 bq_z0)]) H locs := w
  refine lv_aload_n hx hb dX3_init_61 rfl (lv_at hl 0 rfl) ?_
  refine lv_iconst (v := 5) hx hb dX3_init_62 (by decide) ?_
  refine bq_newa E K w hA 5 (by decide) (by decide) (by decide) (Nat.le_of_ble_eq_true rfl) (Nat.le_of_ble_eq_true rfl) dX3_init_63 (fun a_p108 H w => ?_)
  replace w : bq_w D A s.heap [(a_t, .inr (3, [.null, .ref a_p100, .ref a_p101, .ref a_p104, .ref a_p105, .ref a_p106, .ref a_p107, .null, .int (bq_z0 8), .int (bq_z0 9), .int (bq_z0 10), .int (bq_z0 11), .int (bq_z0 12)])), (a_p100, .inr (0, [.int (p100_1 0), .int (p100_1 1), .int (p100_1 2), .int (p100_1 3), .int (p100_1 4), .int (p100_1 5)])), (a_p101, .inr (1, [.ref a_p102, .ref a_p103, .int (p101_2 2), .int (p101_2 3), .int (p101_2 4)])), (a_p102, oA cI 40 p102_3), (a_p103, oA cI 40 p103_4), (a_p104, .inr (4, [.int (p104_5 0), .int (p104_5 1), .int (p104_5 2), .int (p104_5 3), .int (p104_5 4), .int (p104_5 5)])), (a_p105, oA cI 6 bq_z0), (a_p106, oA cI 6 bq_z0), (a_p107, oA cI 16 bq_z0), (a_p108, oA cI 5 bq_z0)] H locs := w
  refine pf_X3_42 E K w 0 hn rfl (Nat.le_of_ble_eq_true rfl) dX3_init_65 (fun H locs w => ?_)
  replace w : bq_w D A s.heap ([(a_t, .inr (3, [.null, .ref a_p100, .ref a_p101, .ref a_p104, .ref a_p105, .ref a_p106, .ref a_p107, .ref a_p108, .int (bq_z0 8), .int (bq_z0 9), .int (bq_z0 10), .int (bq_z0 11), .int (bq_z0 12)])), (a_p100, .inr (0, [.int (p100_1 0), .int (p100_1 1), .int (p100_1 2), .int (p100_1 3), .int (p100_1 4), .int (p100_1 5)])), (a_p101, .inr (1, [.ref a_p102, .ref a_p103, .int (p101_2 2), .int (p101_2 3), .int (p101_2 4)])), (a_p102, oA cI 40 p102_3), (a_p103, oA cI 40 p103_4), (a_p104, .inr (4, [.int (p104_5 0), .int (p104_5 1), .int (p104_5 2), .int (p104_5 3), .int (p104_5 4), .int (p104_5 5)])), (a_p105, oA cI 6 bq_z0), (a_p106, oA cI 6 bq_z0), (a_p107, oA cI 16 bq_z0), (a_p108, oA cI 5 bq_z0)]) H locs := w
  refine lv_aload_n hx hb dX3_init_68 rfl (lv_at hl 0 rfl) ?_
  refine lv_iconst (v := 1) hx hb dX3_init_69 (by decide) ?_
  obtain ⟨t_6, e9, hm⟩ := bq_let_el hm
  refine pt_X3_45 E K w 0 rfl (Nat.le_of_ble_eq_true rfl) (by decide) dX3_init_70 (fun H locs w => ?_)
  replace w : bq_w D A s.heap ([(a_t, .inr (3, [.null, .ref a_p100, .ref a_p101, .ref a_p104, .ref a_p105, .ref a_p106, .ref a_p107, .ref a_p108, .int (t_6 8), .int (t_6 9), .int (t_6 10), .int (t_6 11), .int (t_6 12)])), (a_p100, .inr (0, [.int (p100_1 0), .int (p100_1 1), .int (p100_1 2), .int (p100_1 3), .int (p100_1 4), .int (p100_1 5)])), (a_p101, .inr (1, [.ref a_p102, .ref a_p103, .int (p101_2 2), .int (p101_2 3), .int (p101_2 4)])), (a_p102, oA cI 40 p102_3), (a_p103, oA cI 40 p103_4), (a_p104, .inr (4, [.int (p104_5 0), .int (p104_5 1), .int (p104_5 2), .int (p104_5 3), .int (p104_5 4), .int (p104_5 5)])), (a_p105, oA cI 6 bq_z0), (a_p106, oA cI 6 bq_z0), (a_p107, oA cI 16 bq_z0), (a_p108, oA cI 5 bq_z0)]) H locs := by rw [e9]; exact w
  clear e9
  refine lv_aload_n hx hb dX3_init_73 rfl (lv_at hl 0 rfl) ?_
  refine lv_aload_n hx hb dX3_init_74 rfl (lv_at hl 1 rfl) ?_
  refine pt_X3_49 E K w 0 rfl (Nat.le_of_ble_eq_true rfl) dX3_init_75 (fun H locs w => ?_)
  replace w : bq_w D A s.heap ([(a_t, .inr (3, [.ref u_p1, .ref a_p100, .ref a_p101, .ref a_p104, .ref a_p105, .ref a_p106, .ref a_p107, .ref a_p108, .int (t_6 8), .int (t_6 9), .int (t_6 10), .int (t_6 11), .int (t_6 12)])), (a_p100, .inr (0, [.int (p100_1 0), .int (p100_1 1), .int (p100_1 2), .int (p100_1 3), .int (p100_1 4), .int (p100_1 5)])), (a_p101, .inr (1, [.ref a_p102, .ref a_p103, .int (p101_2 2), .int (p101_2 3), .int (p101_2 4)])), (a_p102, oA cI 40 p102_3), (a_p103, oA cI 40 p103_4), (a_p104, .inr (4, [.int (p104_5 0), .int (p104_5 1), .int (p104_5 2), .int (p104_5 3), .int (p104_5 4), .int (p104_5 5)])), (a_p105, oA cI 6 bq_z0), (a_p106, oA cI 6 bq_z0), (a_p107, oA cI 16 bq_z0), (a_p108, oA cI 5 bq_z0)]) H locs := w
  refine lv_aload_n hx hb dX3_init_78 rfl (lv_at hl 0 rfl) ?_
  refine gt_X3_32 E K w 0 rfl rfl dX3_init_79 ?_
  refine lv_iconst (v := 3) hx hb dX3_init_82 (by decide) ?_
  obtain ⟨p105_7, hC, hm⟩ := bq_bd_el hm
  refine bq_S (As := [.ref a_p105, .int 3]) (rest := []) (st1 := []) (ws' := [(a_t, .inr (3, [.ref u_p1, .ref a_p100, .ref a_p101, .ref a_p104, .ref a_p105, .ref a_p106, .ref a_p107, .ref a_p108, .int (t_6 8), .int (t_6 9), .int (t_6 10), .int (t_6 11), .int (t_6 12)])), (a_p100, .inr (0, [.int (p100_1 0), .int (p100_1 1), .int (p100_1 2), .int (p100_1 3), .int (p100_1 4), .int (p100_1 5)])), (a_p101, .inr (1, [.ref a_p102, .ref a_p103, .int (p101_2 2), .int (p101_2 3), .int (p101_2 4)])), (a_p102, oA cI 40 p102_3), (a_p103, oA cI 40 p103_4), (a_p104, .inr (4, [.int (p104_5 0), .int (p104_5 1), .int (p104_5 2), .int (p104_5 3), .int (p104_5 4), .int (p104_5 5)])), (a_p105, oA cI 6 p105_7), (a_p106, oA cI 6 bq_z0), (a_p107, oA cI 16 bq_z0), (a_p108, oA cI 5 bq_z0)]) E K w hA (kJ7_fill_53178 l D cI cJ a_p105 6 bq_z0 3 p105_7 hC) cd_J7_fill_53178 ml_X3_53 in_J7 st_J7_fill_53178 hs_J7_fill_53178 ⟨Nat.le_of_ble_eq_true rfl, Nat.le_of_ble_eq_true rfl⟩ ⟨Nat.le_of_ble_eq_true rfl, Nat.le_of_ble_eq_true rfl⟩ ⟨[6], [0, 1, 2, 3, 4, 5, 7, 8, 9], [0, 1, 2, 3, 4, 5, 9, 6, 7, 8], rfl, rfl, rfl, rfl, rfl, rfl, rfl, rfl, rfl⟩ rfl hl.1 rfl (Nat.le_of_ble_eq_true rfl) rfl dX3_init_83 (fun H locs w => bq_z ⟨rfl, rfl⟩ ?_)
  clear hC
  obtain ⟨rfl, rfl, rfl, rfl, rfl, rfl, rfl, rfl, rfl, rfl⟩ := bq_in10 (Option.some.inj hm)
  exact bq_cret E w hr hk dX3_init_86 hQ ⟨a_p100, a_p101, a_p102, a_p103, a_p104, a_p105, a_p106, a_p107, a_p108, rfl⟩
abbrev rmX7_init : Room := { frames := 3, cells := 39, slots := 606, locals := 62 }
theorem hi_X7_init : yX7_init.cls ≠ "java/lang/invoke/MethodHandle" ∧ yX7_init.cls ≠ "java/lang/invoke/VarHandle" ∧ yX7_init.name = "<init>" ∧ (parseMethodDescriptor yX7_init.desc).map (fun d => d.parameters.length) = some 0 := by decide +kernel
set_option maxHeartbeats 4000000 in
set_option maxRecDepth 100000 in
theorem kX7_init (l : Launch) (D : va_G) (cI cJ : ClassId) (a_t : Nat) (t_o p100_o p101_o p102_o p103_o p104_o p105_o p106_o p107_o p108_o p109_o p110_o p111_o p112_o p113_o p114_o p115_o p116_o p117_o p118_o p119_o p120_o p121_o p122_o p123_o p124_o p125_o p126_o p127_o p128_o p129_o p130_o p131_o p132_o p133_o p134_o p135_o p136_o p137_o p138_o : Nat → Int32) (hm : mX7_init = some (t_o, p100_o, p101_o, p102_o, p103_o, p104_o, p105_o, p106_o, p107_o, p108_o, p109_o, p110_o, p111_o, p112_o, p113_o, p114_o, p115_o, p116_o, p117_o, p118_o, p119_o, p120_o, p121_o, p122_o, p123_o, p124_o, p125_o, p126_o, p127_o, p128_o, p129_o, p130_o, p131_o, p132_o, p133_o, p134_o, p135_o, p136_o, p137_o, p138_o)) : bq_MC l D cI cJ yX7_init cX7_init 2 rmX7_init [.ref a_t] [(a_t, .inr (7, [.null, .null, .null, .null, .null, .int 0]))] (fun wc9 => ∃ (a_p100 a_p101 a_p102 a_p103 a_p104 a_p105 a_p106 a_p107 a_p108 a_p109 a_p110 a_p111 a_p112 a_p113 a_p114 a_p115 a_p116 a_p117 a_p118 a_p119 a_p120 a_p121 a_p122 a_p123 a_p124 a_p125 a_p126 a_p127 a_p128 a_p129 a_p130 a_p131 a_p132 a_p133 a_p134 a_p135 a_p136 a_p137 a_p138 : Nat), wc9 = [(a_t, .inr (7, [.ref a_p107, .ref a_p109, .ref a_p119, .ref a_p129, .ref a_p132, .int (t_o 5)])), (a_p100, .inr (5, [.int (p100_o 0), .ref a_p101, .ref a_p102, .ref a_p103, .ref a_p104, .int (p100_o 5), .ref a_p105, .ref a_p106])), (a_p101, oA cI 16 p101_o), (a_p102, oA cI 16 p102_o), (a_p103, oA cI 16 p103_o), (a_p104, oA cI 16 p104_o), (a_p105, oA cI 16 p105_o), (a_p106, oA cI 16 p106_o), (a_p107, .inr (2, [.ref a_p108, .int (p107_o 1), .int (p107_o 2), .int (p107_o 3), .int (p107_o 4), .int (p107_o 5)])), (a_p108, oA cI 80 p108_o), (a_p109, .inr (3, [.ref a_p100, .ref a_p110, .ref a_p111, .ref a_p114, .ref a_p115, .ref a_p116, .ref a_p117, .ref a_p118, .int (p109_o 8), .int (p109_o 9), .int (p109_o 10), .int (p109_o 11), .int (p109_o 12)])), (a_p110, .inr (0, [.int (p110_o 0), .int (p110_o 1), .int (p110_o 2), .int (p110_o 3), .int (p110_o 4), .int (p110_o 5)])), (a_p111, .inr (1, [.ref a_p112, .ref a_p113, .int (p111_o 2), .int (p111_o 3), .int (p111_o 4)])), (a_p112, oA cI 40 p112_o), (a_p113, oA cI 40 p113_o), (a_p114, .inr (4, [.int (p114_o 0), .int (p114_o 1), .int (p114_o 2), .int (p114_o 3), .int (p114_o 4), .int (p114_o 5)])), (a_p115, oA cI 6 p115_o), (a_p116, oA cI 6 p116_o), (a_p117, oA cI 16 p117_o), (a_p118, oA cI 5 p118_o), (a_p119, .inr (3, [.ref a_p100, .ref a_p120, .ref a_p121, .ref a_p124, .ref a_p125, .ref a_p126, .ref a_p127, .ref a_p128, .int (p119_o 8), .int (p119_o 9), .int (p119_o 10), .int (p119_o 11), .int (p119_o 12)])), (a_p120, .inr (0, [.int (p120_o 0), .int (p120_o 1), .int (p120_o 2), .int (p120_o 3), .int (p120_o 4), .int (p120_o 5)])), (a_p121, .inr (1, [.ref a_p122, .ref a_p123, .int (p121_o 2), .int (p121_o 3), .int (p121_o 4)])), (a_p122, oA cI 40 p122_o), (a_p123, oA cI 40 p123_o), (a_p124, .inr (4, [.int (p124_o 0), .int (p124_o 1), .int (p124_o 2), .int (p124_o 3), .int (p124_o 4), .int (p124_o 5)])), (a_p125, oA cI 6 p125_o), (a_p126, oA cI 6 p126_o), (a_p127, oA cI 16 p127_o), (a_p128, oA cI 5 p128_o), (a_p129, .inr (6, [.ref a_p130, .ref a_p131, .int (p129_o 2), .int (p129_o 3)])), (a_p130, oA cI 6 p130_o), (a_p131, oA cI 16 p131_o), (a_p132, .inr (5, [.int (p132_o 0), .ref a_p133, .ref a_p134, .ref a_p135, .ref a_p136, .int (p132_o 5), .ref a_p137, .ref a_p138])), (a_p133, oA cI 16 p133_o), (a_p134, oA cI 16 p134_o), (a_p135, oA cI 16 p135_o), (a_p136, oA cI 16 p136_o), (a_p137, oA cI 16 p137_o), (a_p138, oA cI 16 p138_o)]) := by
  refine bq_startC (by decide) (Nat.le_of_ble_eq_true rfl) ?_
  intro p e s m av9 below meth c A ls Q H locs E K w hA hr hk hn hQ hl
  have E : bq_E p m c cX7_init 2 s av9 RX7 := E
  have hn : meth.name = "<init>" := hn
  have hx := E.1
  have hb := E.2.1
  have hl : lv_has ls 2 [(0, .ref a_t)] := hl
  unfold mX7_init at hm
  refine lv_aload_n hx hb dX7_init_0 rfl (lv_at hl 0 rfl) ?_
  refine bq_obj E ml_X7_1 hl.1 dX7_init_1 (Nat.le_of_ble_eq_true rfl) (by decide) ?_
  refine nw_X5 E K w hA cl_X7_7 (Nat.le_of_ble_eq_true rfl) (Nat.le_of_ble_eq_true rfl) dX7_init_4 (fun a_p100 H w => ?_)
  replace w : bq_w D A s.heap [(a_t, .inr (7, [.null, .null, .null, .null, .null, .int (bq_z0 5)])), (a_p100, .inr (5, [.int (bq_z0 0), .null, .null, .null, .null, .int (bq_z0 5), .null, .null]))] H locs := w
  refine lv_dup hx hb dX7_init_7 rfl ?_
  obtain ⟨p100_1, p101_2, p102_3, p103_4, p104_5, p105_6, p106_7, hC, hm⟩ := bq_b7_el hm
  refine bq_IN (As := []) (rest := [.ref a_p100]) E K w hA (kX5_init l D cI cJ a_p100 p100_1 p101_2 p102_3 p103_4 p104_5 p105_6 p106_7 hC) cd_X5_init mn_X7_9 in_X5 im_X5_init hi_X5_init ⟨Nat.le_of_ble_eq_true rfl, Nat.le_of_ble_eq_true rfl⟩ ⟨Nat.le_of_ble_eq_true rfl, Nat.le_of_ble_eq_true rfl⟩ [1] [0] rfl rfl rfl rfl rfl rfl rfl hl.1 rfl (Nat.le_of_ble_eq_true rfl) dX7_init_8 (fun wc9 H locs hwp w => ?_)
  clear hC
  obtain ⟨a_p101, a_p102, a_p103, a_p104, a_p105, a_p106, rfl⟩ := hwp
  replace w : bq_w D A s.heap [(a_t, .inr (7, [.null, .null, .null, .null, .null, .int (bq_z0 5)])), (a_p100, .inr (5, [.int (p100_1 0), .ref a_p101, .ref a_p102, .ref a_p103, .ref a_p104, .int (p100_1 5), .ref a_p105, .ref a_p106])), (a_p101, oA cI 16 p101_2), (a_p102, oA cI 16 p102_3), (a_p103, oA cI 16 p103_4), (a_p104, oA cI 16 p104_5), (a_p105, oA cI 16 p105_6), (a_p106, oA cI 16 p106_7)] H locs := w
  refine lv_astore_n (lv' := [(1, .ref a_p100), (0, .ref a_t)]) hx hb dX7_init_11 rfl hl (by decide) rfl (fun ls hl => ?_)
  refine lv_aload_n hx hb dX7_init_12 rfl (lv_at hl 1 rfl) ?_
  refine nw_X2 E K w hA cl_X7_10 (Nat.le_of_ble_eq_true rfl) (Nat.le_of_ble_eq_true rfl) dX7_init_13 (fun a_p107 H w => ?_)
  replace w : bq_w D A s.heap [(a_t, .inr (7, [.null, .null, .null, .null, .null, .int (bq_z0 5)])), (a_p100, .inr (5, [.int (p100_1 0), .ref a_p101, .ref a_p102, .ref a_p103, .ref a_p104, .int (p100_1 5), .ref a_p105, .ref a_p106])), (a_p101, oA cI 16 p101_2), (a_p102, oA cI 16 p102_3), (a_p103, oA cI 16 p103_4), (a_p104, oA cI 16 p104_5), (a_p105, oA cI 16 p105_6), (a_p106, oA cI 16 p106_7), (a_p107, .inr (2, [.null, .int (bq_z0 1), .int (bq_z0 2), .int (bq_z0 3), .int (bq_z0 4), .int (bq_z0 5)]))] H locs := w
  refine lv_dup hx hb dX7_init_16 rfl ?_
  obtain ⟨p107_8, p108_9, hC, hm⟩ := bq_b2_el hm
  refine bq_IN (As := []) (rest := [.ref a_p107, .ref a_t]) E K w hA (kX2_init l D cI cJ a_p107 p107_8 p108_9 hC) cd_X2_init mn_X7_12 in_X2 im_X2_init hi_X2_init ⟨Nat.le_of_ble_eq_true rfl, Nat.le_of_ble_eq_true rfl⟩ ⟨Nat.le_of_ble_eq_true rfl, Nat.le_of_ble_eq_true rfl⟩ [8] [0, 1, 2, 3, 4, 5, 6, 7] rfl rfl rfl rfl rfl rfl rfl hl.1 rfl (Nat.le_of_ble_eq_true rfl) dX7_init_17 (fun wc9 H locs hwp w => ?_)
  clear hC
  obtain ⟨a_p108, rfl⟩ := hwp
  replace w : bq_w D A s.heap [(a_t, .inr (7, [.null, .null, .null, .null, .null, .int (bq_z0 5)])), (a_p100, .inr (5, [.int (p100_1 0), .ref a_p101, .ref a_p102, .ref a_p103, .ref a_p104, .int (p100_1 5), .ref a_p105, .ref a_p106])), (a_p101, oA cI 16 p101_2), (a_p102, oA cI 16 p102_3), (a_p103, oA cI 16 p103_4), (a_p104, oA cI 16 p104_5), (a_p105, oA cI 16 p105_6), (a_p106, oA cI 16 p106_7), (a_p107, .inr (2, [.ref a_p108, .int (p107_8 1), .int (p107_8 2), .int (p107_8 3), .int (p107_8 4), .int (p107_8 5)])), (a_p108, oA cI 80 p108_9)] H locs := w
  refine pf_X7_13 E K w 0 hn rfl (Nat.le_of_ble_eq_true rfl) dX7_init_20 (fun H locs w => ?_)
  replace w : bq_w D A s.heap ([(a_t, .inr (7, [.ref a_p107, .null, .null, .null, .null, .int (bq_z0 5)])), (a_p100, .inr (5, [.int (p100_1 0), .ref a_p101, .ref a_p102, .ref a_p103, .ref a_p104, .int (p100_1 5), .ref a_p105, .ref a_p106])), (a_p101, oA cI 16 p101_2), (a_p102, oA cI 16 p102_3), (a_p103, oA cI 16 p103_4), (a_p104, oA cI 16 p104_5), (a_p105, oA cI 16 p105_6), (a_p106, oA cI 16 p106_7), (a_p107, .inr (2, [.ref a_p108, .int (p107_8 1), .int (p107_8 2), .int (p107_8 3), .int (p107_8 4), .int (p107_8 5)])), (a_p108, oA cI 80 p108_9)]) H locs := w
  refine lv_aload_n hx hb dX7_init_23 rfl (lv_at hl 1 rfl) ?_
  refine nw_X3 E K w hA cl_X7_19 (Nat.le_of_ble_eq_true rfl) (Nat.le_of_ble_eq_true rfl) dX7_init_24 (fun a_p109 H w => ?_)
  replace w : bq_w D A s.heap [(a_t, .inr (7, [.ref a_p107, .null, .null, .null, .null, .int (bq_z0 5)])), (a_p100, .inr (5, [.int (p100_1 0), .ref a_p101, .ref a_p102, .ref a_p103, .ref a_p104, .int (p100_1 5), .ref a_p105, .ref a_p106])), (a_p101, oA cI 16 p101_2), (a_p102, oA cI 16 p102_3), (a_p103, oA cI 16 p103_4), (a_p104, oA cI 16 p104_5), (a_p105, oA cI 16 p105_6), (a_p106, oA cI 16 p106_7), (a_p107, .inr (2, [.ref a_p108, .int (p107_8 1), .int (p107_8 2), .int (p107_8 3), .int (p107_8 4), .int (p107_8 5)])), (a_p108, oA cI 80 p108_9), (a_p109, .inr (3, [.null, .null, .null, .null, .null, .null, .null, .null, .int (bq_z0 8), .int (bq_z0 9), .int (bq_z0 10), .int (bq_z0 11), .int (bq_z0 12)]))] H locs := w
  refine lv_dup hx hb dX7_init_27 rfl ?_
  refine lv_aload_n hx hb dX7_init_28 rfl (lv_at hl 0 rfl) ?_
  obtain ⟨p109_10, p110_11, p111_12, p112_13, p113_14, p114_15, p115_16, p116_17, p117_18, p118_19, hC, hm⟩ := bq_b10_el hm
  refine bq_I (As := [.ref a_p100]) (rest := [.ref a_p109, .ref a_t]) E K w hA (kX3_init l D cI cJ a_p109 a_p100 p109_10 p110_11 p111_12 p112_13 p113_14 p114_15 p115_16 p116_17 p117_18 p118_19 hC) cd_X3_init ml_X7_21 in_X3 im_X3_init hi_X3_init ⟨Nat.le_of_ble_eq_true rfl, Nat.le_of_ble_eq_true rfl⟩ ⟨Nat.le_of_ble_eq_true rfl, Nat.le_of_ble_eq_true rfl⟩ [10] [0, 1, 2, 3, 4, 5, 6, 7, 8, 9] rfl rfl rfl rfl rfl rfl rfl hl.1 rfl (Nat.le_of_ble_eq_true rfl) dX7_init_29 (fun wc9 H locs hwp w => ?_)
  clear hC
  obtain ⟨a_p110, a_p111, a_p112, a_p113, a_p114, a_p115, a_p116, a_p117, a_p118, rfl⟩ := hwp
  replace w : bq_w D A s.heap [(a_t, .inr (7, [.ref a_p107, .null, .null, .null, .null, .int (bq_z0 5)])), (a_p100, .inr (5, [.int (p100_1 0), .ref a_p101, .ref a_p102, .ref a_p103, .ref a_p104, .int (p100_1 5), .ref a_p105, .ref a_p106])), (a_p101, oA cI 16 p101_2), (a_p102, oA cI 16 p102_3), (a_p103, oA cI 16 p103_4), (a_p104, oA cI 16 p104_5), (a_p105, oA cI 16 p105_6), (a_p106, oA cI 16 p106_7), (a_p107, .inr (2, [.ref a_p108, .int (p107_8 1), .int (p107_8 2), .int (p107_8 3), .int (p107_8 4), .int (p107_8 5)])), (a_p108, oA cI 80 p108_9), (a_p109, .inr (3, [.ref a_p100, .ref a_p110, .ref a_p111, .ref a_p114, .ref a_p115, .ref a_p116, .ref a_p117, .ref a_p118, .int (p109_10 8), .int (p109_10 9), .int (p109_10 10), .int (p109_10 11), .int (p109_10 12)])), (a_p110, .inr (0, [.int (p110_11 0), .int (p110_11 1), .int (p110_11 2), .int (p110_11 3), .int (p110_11 4), .int (p110_11 5)])), (a_p111, .inr (1, [.ref a_p112, .ref a_p113, .int (p111_12 2), .int (p111_12 3), .int (p111_12 4)])), (a_p112, oA cI 40 p112_13), (a_p113, oA cI 40 p113_14), (a_p114, .inr (4, [.int (p114_15 0), .int (p114_15 1), .int (p114_15 2), .int (p114_15 3), .int (p114_15 4), .int (p114_15 5)])), (a_p115, oA cI 6 p115_16), (a_p116, oA cI 6 p116_17), (a_p117, oA cI 16 p117_18), (a_p118, oA cI 5 p118_19)] H locs := w
  refine pf_X7_24 E K w 0 hn rfl (Nat.le_of_ble_eq_true rfl) dX7_init_32 (fun H locs w => ?_)
  replace w : bq_w D A s.heap ([(a_t, .inr (7, [.ref a_p107, .ref a_p109, .null, .null, .null, .int (bq_z0 5)])), (a_p100, .inr (5, [.int (p100_1 0), .ref a_p101, .ref a_p102, .ref a_p103, .ref a_p104, .int (p100_1 5), .ref a_p105, .ref a_p106])), (a_p101, oA cI 16 p101_2), (a_p102, oA cI 16 p102_3), (a_p103, oA cI 16 p103_4), (a_p104, oA cI 16 p104_5), (a_p105, oA cI 16 p105_6), (a_p106, oA cI 16 p106_7), (a_p107, .inr (2, [.ref a_p108, .int (p107_8 1), .int (p107_8 2), .int (p107_8 3), .int (p107_8 4), .int (p107_8 5)])), (a_p108, oA cI 80 p108_9), (a_p109, .inr (3, [.ref a_p100, .ref a_p110, .ref a_p111, .ref a_p114, .ref a_p115, .ref a_p116, .ref a_p117, .ref a_p118, .int (p109_10 8), .int (p109_10 9), .int (p109_10 10), .int (p109_10 11), .int (p109_10 12)])), (a_p110, .inr (0, [.int (p110_11 0), .int (p110_11 1), .int (p110_11 2), .int (p110_11 3), .int (p110_11 4), .int (p110_11 5)])), (a_p111, .inr (1, [.ref a_p112, .ref a_p113, .int (p111_12 2), .int (p111_12 3), .int (p111_12 4)])), (a_p112, oA cI 40 p112_13), (a_p113, oA cI 40 p113_14), (a_p114, .inr (4, [.int (p114_15 0), .int (p114_15 1), .int (p114_15 2), .int (p114_15 3), .int (p114_15 4), .int (p114_15 5)])), (a_p115, oA cI 6 p115_16), (a_p116, oA cI 6 p116_17), (a_p117, oA cI 16 p117_18), (a_p118, oA cI 5 p118_19)]) H locs := w
  refine lv_aload_n hx hb dX7_init_35 rfl (lv_at hl 1 rfl) ?_
  refine nw_X3 E K w hA cl_X7_19 (Nat.le_of_ble_eq_true rfl) (Nat.le_of_ble_eq_true rfl) dX7_init_36 (fun a_p119 H w => ?_)
  replace w : bq_w D A s.heap [(a_t, .inr (7, [.ref a_p107, .ref a_p109, .null, .null, .null, .int (bq_z0 5)])), (a_p100, .inr (5, [.int (p100_1 0), .ref a_p101, .ref a_p102, .ref a_p103, .ref a_p104, .int (p100_1 5), .ref a_p105, .ref a_p106])), (a_p101, oA cI 16 p101_2), (a_p102, oA cI 16 p102_3), (a_p103, oA cI 16 p103_4), (a_p104, oA cI 16 p104_5), (a_p105, oA cI 16 p105_6), (a_p106, oA cI 16 p106_7), (a_p107, .inr (2, [.ref a_p108, .int (p107_8 1), .int (p107_8 2), .int (p107_8 3), .int (p107_8 4), .int (p107_8 5)])), (a_p108, oA cI 80 p108_9), (a_p109, .inr (3, [.ref a_p100, .ref a_p110, .ref a_p111, .ref a_p114, .ref a_p115, .ref a_p116, .ref a_p117, .ref a_p118, .int (p109_10 8), .int (p109_10 9), .int (p109_10 10), .int (p109_10 11), .int (p109_10 12)])), (a_p110, .inr (0, [.int (p110_11 0), .int (p110_11 1), .int (p110_11 2), .int (p110_11 3), .int (p110_11 4), .int (p110_11 5)])), (a_p111, .inr (1, [.ref a_p112, .ref a_p113, .int (p111_12 2), .int (p111_12 3), .int (p111_12 4)])), (a_p112, oA cI 40 p112_13), (a_p113, oA cI 40 p113_14), (a_p114, .inr (4, [.int (p114_15 0), .int (p114_15 1), .int (p114_15 2), .int (p114_15 3), .int (p114_15 4), .int (p114_15 5)])), (a_p115, oA cI 6 p115_16), (a_p116, oA cI 6 p116_17), (a_p117, oA cI 16 p117_18), (a_p118, oA cI 5 p118_19), (a_p119, .inr (3, [.null, .null, .null, .null, .null, .null, .null, .null, .int (bq_z0 8), .int (bq_z0 9), .int (bq_z0 10), .int (bq_z0 11), .int (bq_z0 12)]))] H locs := w
  refine lv_dup hx hb dX7_init_39 rfl ?_
  refine lv_aload_n hx hb dX7_init_40 rfl (lv_at hl 0 rfl) ?_
  obtain ⟨p119_20, p120_21, p121_22, p122_23, p123_24, p124_25, p125_26, p126_27, p127_28, p128_29, hC, hm⟩ := bq_b10_el hm
  refine bq_I (As := [.ref a_p100]) (rest := [.ref a_p119, .ref a_t]) E K w hA (kX3_init l D cI cJ a_p119 a_p100 p119_20 p120_21 p121_22 p122_23 p123_24 p124_25 p125_26 p126_27 p127_28 p128_29 hC) cd_X3_init ml_X7_21 in_X3 im_X3_init hi_X3_init ⟨Nat.le_of_ble_eq_true rfl, Nat.le_of_ble_eq_true rfl⟩ ⟨Nat.le_of_ble_eq_true rfl, Nat.le_of_ble_eq_true rfl⟩ [20] [0, 1, 2, 3, 4, 5, 6, 7, 8, 9, 10, 11, 12, 13, 14, 15, 16, 17, 18, 19] rfl rfl rfl rfl rfl rfl rfl hl.1 rfl (Nat.le_of_ble_eq_true rfl) dX7_init_41 (fun wc9 H locs hwp w => ?_)
  clear hC
  obtain ⟨a_p120, a_p121, a_p122, a_p123, a_p124, a_p125, a_p126, a_p127, a_p128, rfl⟩ := hwp
  replace w : bq_w D A s.heap [(a_t, .inr (7, [.ref a_p107, .ref a_p109, .null, .null, .null, .int (bq_z0 5)])), (a_p100, .inr (5, [.int (p100_1 0), .ref a_p101, .ref a_p102, .ref a_p103, .ref a_p104, .int (p100_1 5), .ref a_p105, .ref a_p106])), (a_p101, oA cI 16 p101_2), (a_p102, oA cI 16 p102_3), (a_p103, oA cI 16 p103_4), (a_p104, oA cI 16 p104_5), (a_p105, oA cI 16 p105_6), (a_p106, oA cI 16 p106_7), (a_p107, .inr (2, [.ref a_p108, .int (p107_8 1), .int (p107_8 2), .int (p107_8 3), .int (p107_8 4), .int (p107_8 5)])), (a_p108, oA cI 80 p108_9), (a_p109, .inr (3, [.ref a_p100, .ref a_p110, .ref a_p111, .ref a_p114, .ref a_p115, .ref a_p116, .ref a_p117, .ref a_p118, .int (p109_10 8), .int (p109_10 9), .int (p109_10 10), .int (p109_10 11), .int (p109_10 12)])), (a_p110, .inr (0, [.int (p110_11 0), .int (p110_11 1), .int (p110_11 2), .int (p110_11 3), .int (p110_11 4), .int (p110_11 5)])), (a_p111, .inr (1, [.ref a_p112, .ref a_p113, .int (p111_12 2), .int (p111_12 3), .int (p111_12 4)])), (a_p112, oA cI 40 p112_13), (a_p113, oA cI 40 p113_14), (a_p114, .inr (4, [.int (p114_15 0), .int (p114_15 1), .int (p114_15 2), .int (p114_15 3), .int (p114_15 4), .int (p114_15 5)])), (a_p115, oA cI 6 p115_16), (a_p116, oA cI 6 p116_17), (a_p117, oA cI 16 p117_18), (a_p118, oA cI 5 p118_19), (a_p119, .inr (3, [.ref a_p100, .ref a_p120, .ref a_p121, .ref a_p124, .ref a_p125, .ref a_p126, .ref a_p127, .ref a_p128, .int (p119_20 8), .int (p119_20 9), .int (p119_20 10), .int (p119_20 11), .int (p119_20 12)])), (a_p120, .inr (0, [.int (p120_21 0), .int (p120_21 1), .int (p120_21 2), .int (p120_21 3), .int (p120_21 4), .int (p120_21 5)])), (a_p121, .inr (1, [.ref a_p122, .ref a_p123, .int (p121_22 2), .int (p121_22 3), .int (p121_22 4)])), (a_p122, oA cI 40 p122_23), (a_p123, oA cI 40 p123_24), (a_p124, .inr (4, [.int (p124_25 0), .int (p124_25 1), .int (p124_25 2), .int (p124_25 3), .int (p124_25 4), .int (p124_25 5)])), (a_p125, oA cI 6 p125_26), (a_p126, oA cI 6 p126_27), (a_p127, oA cI 16 p127_28), (a_p128, oA cI 5 p128_29)] H locs := w
  refine pf_X7_28 E K w 0 hn rfl (Nat.le_of_ble_eq_true rfl) dX7_init_44 (fun H locs w => ?_)
  replace w : bq_w D A s.heap ([(a_t, .inr (7, [.ref a_p107, .ref a_p109, .ref a_p119, .null, .null, .int (bq_z0 5)])), (a_p100, .inr (5, [.int (p100_1 0), .ref a_p101, .ref a_p102, .ref a_p103, .ref a_p104, .int (p100_1 5), .ref a_p105, .ref a_p106])), (a_p101, oA cI 16 p101_2), (a_p102, oA cI 16 p102_3), (a_p103, oA cI 16 p103_4), (a_p104, oA cI 16 p104_5), (a_p105, oA cI 16 p105_6), (a_p106, oA cI 16 p106_7), (a_p107, .inr (2, [.ref a_p108, .int (p107_8 1), .int (p107_8 2), .int (p107_8 3), .int (p107_8 4), .int (p107_8 5)])), (a_p108, oA cI 80 p108_9), (a_p109, .inr (3, [.ref a_p100, .ref a_p110, .ref a_p111, .ref a_p114, .ref a_p115, .ref a_p116, .ref a_p117, .ref a_p118, .int (p109_10 8), .int (p109_10 9), .int (p109_10 10), .int (p109_10 11), .int (p109_10 12)])), (a_p110, .inr (0, [.int (p110_11 0), .int (p110_11 1), .int (p110_11 2), .int (p110_11 3), .int (p110_11 4), .int (p110_11 5)])), (a_p111, .inr (1, [.ref a_p112, .ref a_p113, .int (p111_12 2), .int (p111_12 3), .int (p111_12 4)])), (a_p112, oA cI 40 p112_13), (a_p113, oA cI 40 p113_14), (a_p114, .inr (4, [.int (p114_15 0), .int (p114_15 1), .int (p114_15 2), .int (p114_15 3), .int (p114_15 4), .int (p114_15 5)])), (a_p115, oA cI 6 p115_16), (a_p116, oA cI 6 p116_17), (a_p117, oA cI 16 p117_18), (a_p118, oA cI 5 p118_19), (a_p119, .inr (3, [.ref a_p100, .ref a_p120, .ref a_p121, .ref a_p124, .ref a_p125, .ref a_p126, .ref a_p127, .ref a_p128, .int (p119_20 8), .int (p119_20 9), .int (p119_20 10), .int (p119_20 11), .int (p119_20 12)])), (a_p120, .inr (0, [.int (p120_21 0), .int (p120_21 1), .int (p120_21 2), .int (p120_21 3), .int (p120_21 4), .int (p120_21 5)])), (a_p121, .inr (1, [.ref a_p122, .ref a_p123, .int (p121_22 2), .int (p121_22 3), .int (p121_22 4)])), (a_p122, oA cI 40 p122_23), (a_p123, oA cI 40 p123_24), (a_p124, .inr (4, [.int (p124_25 0), .int (p124_25 1), .int (p124_25 2), .int (p124_25 3), .int (p124_25 4), .int (p124_25 5)])), (a_p125, oA cI 6 p125_26), (a_p126, oA cI 6 p126_27), (a_p127, oA cI 16 p127_28), (a_p128, oA cI 5 p128_29)]) H locs := w
  refine lv_aload_n hx hb dX7_init_47 rfl (lv_at hl 1 rfl) ?_
  refine nw_X6 E K w hA cl_X7_31 (Nat.le_of_ble_eq_true rfl) (Nat.le_of_ble_eq_true rfl) dX7_init_48 (fun a_p129 H w => ?_)
  replace w : bq_w D A s.heap [(a_t, .inr (7, [.ref a_p107, .ref a_p109, .ref a_p119, .null, .null, .int (bq_z0 5)])), (a_p100, .inr (5, [.int (p100_1 0), .ref a_p101, .ref a_p102, .ref a_p103, .ref a_p104, .int (p100_1 5), .ref a_p105, .ref a_p106])), (a_p101, oA cI 16 p101_2), (a_p102, oA cI 16 p102_3), (a_p103, oA cI 16 p103_4), (a_p104, oA cI 16 p104_5), (a_p105, oA cI 16 p105_6), (a_p106, oA cI 16 p106_7), (a_p107, .inr (2, [.ref a_p108, .int (p107_8 1), .int (p107_8 2), .int (p107_8 3), .int (p107_8 4), .int (p107_8 5)])), (a_p108, oA cI 80 p108_9), (a_p109, .inr (3, [.ref a_p100, .ref a_p110, .ref a_p111, .ref a_p114, .ref a_p115, .ref a_p116, .ref a_p117, .ref a_p118, .int (p109_10 8), .int (p109_10 9), .int (p109_10 10), .int (p109_10 11), .int (p109_10 12)])), (a_p110, .inr (0, [.int (p110_11 0), .int (p110_11 1), .int (p110_11 2), .int (p110_11 3), .int (p110_11 4), .int (p110_11 5)])), (a_p111, .inr (1, [.ref a_p112, .ref a_p113, .int (p111_12 2), .int (p111_12 3), .int (p111_12 4)])), (a_p112, oA cI 40 p112_13), (a_p113, oA cI 40 p113_14), (a_p114, .inr (4, [.int (p114_15 0), .int (p114_15 1), .int (p114_15 2), .int (p114_15 3), .int (p114_15 4), .int (p114_15 5)])), (a_p115, oA cI 6 p115_16), (a_p116, oA cI 6 p116_17), (a_p117, oA cI 16 p117_18), (a_p118, oA cI 5 p118_19), (a_p119, .inr (3, [.ref a_p100, .ref a_p120, .ref a_p121, .ref a_p124, .ref a_p125, .ref a_p126, .ref a_p127, .ref a_p128, .int (p119_20 8), .int (p119_20 9), .int (p119_20 10), .int (p119_20 11), .int (p119_20 12)])), (a_p120, .inr (0, [.int (p120_21 0), .int (p120_21 1), .int (p120_21 2), .int (p120_21 3), .int (p120_21 4), .int (p120_21 5)])), (a_p121, .inr (1, [.ref a_p122, .ref a_p123, .int (p121_22 2), .int (p121_22 3), .int (p121_22 4)])), (a_p122, oA cI 40 p122_23), (a_p123, oA cI 40 p123_24), (a_p124, .inr (4, [.int (p124_25 0), .int (p124_25 1), .int (p124_25 2), .int (p124_25 3), .int (p124_25 4), .int (p124_25 5)])), (a_p125, oA cI 6 p125_26), (a_p126, oA cI 6 p126_27), (a_p127, oA cI 16 p127_28), (a_p128, oA cI 5 p128_29), (a_p129, .inr (6, [.null, .null, .int (bq_z0 2), .int (bq_z0 3)]))] H locs := w
  refine lv_dup hx hb dX7_init_51 rfl ?_
  obtain ⟨p129_30, p130_31, p131_32, hC, hm⟩ := bq_b3_el hm
  refine bq_IN (As := []) (rest := [.ref a_p129, .ref a_t]) E K w hA (kX6_init l D cI cJ a_p129 p129_30 p130_31 p131_32 hC) cd_X6_init mn_X7_33 in_X6 im_X6_init hi_X6_init ⟨Nat.le_of_ble_eq_true rfl, Nat.le_of_ble_eq_true rfl⟩ ⟨Nat.le_of_ble_eq_true rfl, Nat.le_of_ble_eq_true rfl⟩ [30] [0, 1, 2, 3, 4, 5, 6, 7, 8, 9, 10, 11, 12, 13, 14, 15, 16, 17, 18, 19, 20, 21, 22, 23, 24, 25, 26, 27, 28, 29] rfl rfl rfl rfl rfl rfl rfl hl.1 rfl (Nat.le_of_ble_eq_true rfl) dX7_init_52 (fun wc9 H locs hwp w => ?_)
  clear hC
  obtain ⟨a_p130, a_p131, rfl⟩ := hwp
  replace w : bq_w D A s.heap [(a_t, .inr (7, [.ref a_p107, .ref a_p109, .ref a_p119, .null, .null, .int (bq_z0 5)])), (a_p100, .inr (5, [.int (p100_1 0), .ref a_p101, .ref a_p102, .ref a_p103, .ref a_p104, .int (p100_1 5), .ref a_p105, .ref a_p106])), (a_p101, oA cI 16 p101_2), (a_p102, oA cI 16 p102_3), (a_p103, oA cI 16 p103_4), (a_p104, oA cI 16 p104_5), (a_p105, oA cI 16 p105_6), (a_p106, oA cI 16 p106_7), (a_p107, .inr (2, [.ref a_p108, .int (p107_8 1), .int (p107_8 2), .int (p107_8 3), .int (p107_8 4), .int (p107_8 5)])), (a_p108, oA cI 80 p108_9), (a_p109, .inr (3, [.ref a_p100, .ref a_p110, .ref a_p111, .ref a_p114, .ref a_p115, .ref a_p116, .ref a_p117, .ref a_p118, .int (p109_10 8), .int (p109_10 9), .int (p109_10 10), .int (p109_10 11), .int (p109_10 12)])), (a_p110, .inr (0, [.int (p110_11 0), .int (p110_11 1), .int (p110_11 2), .int (p110_11 3), .int (p110_11 4), .int (p110_11 5)])), (a_p111, .inr (1, [.ref a_p112, .ref a_p113, .int (p111_12 2), .int (p111_12 3), .int (p111_12 4)])), (a_p112, oA cI 40 p112_13), (a_p113, oA cI 40 p113_14), (a_p114, .inr (4, [.int (p114_15 0), .int (p114_15 1), .int (p114_15 2), .int (p114_15 3), .int (p114_15 4), .int (p114_15 5)])), (a_p115, oA cI 6 p115_16), (a_p116, oA cI 6 p116_17), (a_p117, oA cI 16 p117_18), (a_p118, oA cI 5 p118_19), (a_p119, .inr (3, [.ref a_p100, .ref a_p120, .ref a_p121, .ref a_p124, .ref a_p125, .ref a_p126, .ref a_p127, .ref a_p128, .int (p119_20 8), .int (p119_20 9), .int (p119_20 10), .int (p119_20 11), .int (p119_20 12)])), (a_p120, .inr (0, [.int (p120_21 0), .int (p120_21 1), .int (p120_21 2), .int (p120_21 3), .int (p120_21 4), .int (p120_21 5)])), (a_p121, .inr (1, [.ref a_p122, .ref a_p123, .int (p121_22 2), .int (p121_22 3), .int (p121_22 4)])), (a_p122, oA cI 40 p122_23), (a_p123, oA cI 40 p123_24), (a_p124, .inr (4, [.int (p124_25 0), .int (p124_25 1), .int (p124_25 2), .int (p124_25 3), .int (p124_25 4), .int (p124_25 5)])), (a_p125, oA cI 6 p125_26), (a_p126, oA cI 6 p126_27), (a_p127, oA cI 16 p127_28), (a_p128, oA cI 5 p128_29), (a_p129, .inr (6, [.ref a_p130, .ref a_p131, .int (p129_30 2), .int (p129_30 3)])), (a_p130, oA cI 6 p130_31), (a_p131, oA cI 16 p131_32)] H locs := w
  refine pf_X7_34 E K w 0 hn rfl (Nat.le_of_ble_eq_true rfl) dX7_init_55 (fun H locs w => ?_)
  replace w : bq_w D A s.heap ([(a_t, .inr (7, [.ref a_p107, .ref a_p109, .ref a_p119, .ref a_p129, .null, .int (bq_z0 5)])), (a_p100, .inr (5, [.int (p100_1 0), .ref a_p101, .ref a_p102, .ref a_p103, .ref a_p104, .int (p100_1 5), .ref a_p105, .ref a_p106])), (a_p101, oA cI 16 p101_2), (a_p102, oA cI 16 p102_3), (a_p103, oA cI 16 p103_4), (a_p104, oA cI 16 p104_5), (a_p105, oA cI 16 p105_6), (a_p106, oA cI 16 p106_7), (a_p107, .inr (2, [.ref a_p108, .int (p107_8 1), .int (p107_8 2), .int (p107_8 3), .int (p107_8 4), .int (p107_8 5)])), (a_p108, oA cI 80 p108_9), (a_p109, .inr (3, [.ref a_p100, .ref a_p110, .ref a_p111, .ref a_p114, .ref a_p115, .ref a_p116, .ref a_p117, .ref a_p118, .int (p109_10 8), .int (p109_10 9), .int (p109_10 10), .int (p109_10 11), .int (p109_10 12)])), (a_p110, .inr (0, [.int (p110_11 0), .int (p110_11 1), .int (p110_11 2), .int (p110_11 3), .int (p110_11 4), .int (p110_11 5)])), (a_p111, .inr (1, [.ref a_p112, .ref a_p113, .int (p111_12 2), .int (p111_12 3), .int (p111_12 4)])), (a_p112, oA cI 40 p112_13), (a_p113, oA cI 40 p113_14), (a_p114, .inr (4, [.int (p114_15 0), .int (p114_15 1), .int (p114_15 2), .int (p114_15 3), .int (p114_15 4), .int (p114_15 5)])), (a_p115, oA cI 6 p115_16), (a_p116, oA cI 6 p116_17), (a_p117, oA cI 16 p117_18), (a_p118, oA cI 5 p118_19), (a_p119, .inr (3, [.ref a_p100, .ref a_p120, .ref a_p121, .ref a_p124, .ref a_p125, .ref a_p126, .ref a_p127, .ref a_p128, .int (p119_20 8), .int (p119_20 9), .int (p119_20 10), .int (p119_20 11), .int (p119_20 12)])), (a_p120, .inr (0, [.int (p120_21 0), .int (p120_21 1), .int (p120_21 2), .int (p120_21 3), .int (p120_21 4), .int (p120_21 5)])), (a_p121, .inr (1, [.ref a_p122, .ref a_p123, .int (p121_22 2), .int (p121_22 3), .int (p121_22 4)])), (a_p122, oA cI 40 p122_23), (a_p123, oA cI 40 p123_24), (a_p124, .inr (4, [.int (p124_25 0), .int (p124_25 1), .int (p124_25 2), .int (p124_25 3), .int (p124_25 4), .int (p124_25 5)])), (a_p125, oA cI 6 p125_26), (a_p126, oA cI 6 p126_27), (a_p127, oA cI 16 p127_28), (a_p128, oA cI 5 p128_29), (a_p129, .inr (6, [.ref a_p130, .ref a_p131, .int (p129_30 2), .int (p129_30 3)])), (a_p130, oA cI 6 p130_31), (a_p131, oA cI 16 p131_32)]) H locs := w
  refine lv_aload_n hx hb dX7_init_58 rfl (lv_at hl 1 rfl) ?_
  refine nw_X5 E K w hA cl_X7_7 (Nat.le_of_ble_eq_true rfl) (Nat.le_of_ble_eq_true rfl) dX7_init_59 (fun a_p132 H w => ?_)
  replace w : bq_w D A s.heap [(a_t, .inr (7, [.ref a_p107, .ref a_p109, .ref a_p119, .ref a_p129, .null, .int (bq_z0 5)])), (a_p100, .inr (5, [.int (p100_1 0), .ref a_p101, .ref a_p102, .ref a_p103, .ref a_p104, .int (p100_1 5), .ref a_p105, .ref a_p106])), (a_p101, oA cI 16 p101_2), (a_p102, oA cI 16 p102_3), (a_p103, oA cI 16 p103_4), (a_p104, oA cI 16 p104_5), (a_p105, oA cI 16 p105_6), (a_p106, oA cI 16 p106_7), (a_p107, .inr (2, [.ref a_p108, .int (p107_8 1), .int (p107_8 2), .int (p107_8 3), .int (p107_8 4), .int (p107_8 5)])), (a_p108, oA cI 80 p108_9), (a_p109, .inr (3, [.ref a_p100, .ref a_p110, .ref a_p111, .ref a_p114, .ref a_p115, .ref a_p116, .ref a_p117, .ref a_p118, .int (p109_10 8), .int (p109_10 9), .int (p109_10 10), .int (p109_10 11), .int (p109_10 12)])), (a_p110, .inr (0, [.int (p110_11 0), .int (p110_11 1), .int (p110_11 2), .int (p110_11 3), .int (p110_11 4), .int (p110_11 5)])), (a_p111, .inr (1, [.ref a_p112, .ref a_p113, .int (p111_12 2), .int (p111_12 3), .int (p111_12 4)])), (a_p112, oA cI 40 p112_13), (a_p113, oA cI 40 p113_14), (a_p114, .inr (4, [.int (p114_15 0), .int (p114_15 1), .int (p114_15 2), .int (p114_15 3), .int (p114_15 4), .int (p114_15 5)])), (a_p115, oA cI 6 p115_16), (a_p116, oA cI 6 p116_17), (a_p117, oA cI 16 p117_18), (a_p118, oA cI 5 p118_19), (a_p119, .inr (3, [.ref a_p100, .ref a_p120, .ref a_p121, .ref a_p124, .ref a_p125, .ref a_p126, .ref a_p127, .ref a_p128, .int (p119_20 8), .int (p119_20 9), .int (p119_20 10), .int (p119_20 11), .int (p119_20 12)])), (a_p120, .inr (0, [.int (p120_21 0), .int (p120_21 1), .int (p120_21 2), .int (p120_21 3), .int (p120_21 4), .int (p120_21 5)])), (a_p121, .inr (1, [.ref a_p122, .ref a_p123, .int (p121_22 2), .int (p121_22 3), .int (p121_22 4)])), (a_p122, oA cI 40 p122_23), (a_p123, oA cI 40 p123_24), (a_p124, .inr (4, [.int (p124_25 0), .int (p124_25 1), .int (p124_25 2), .int (p124_25 3), .int (p124_25 4), .int (p124_25 5)])), (a_p125, oA cI 6 p125_26), (a_p126, oA cI 6 p126_27), (a_p127, oA cI 16 p127_28), (a_p128, oA cI 5 p128_29), (a_p129, .inr (6, [.ref a_p130, .ref a_p131, .int (p129_30 2), .int (p129_30 3)])), (a_p130, oA cI 6 p130_31), (a_p131, oA cI 16 p131_32), (a_p132, .inr (5, [.int (bq_z0 0), .null, .null, .null, .null, .int (bq_z0 5), .null, .null]))] H locs := w
  refine lv_dup hx hb dX7_init_62 rfl ?_
  obtain ⟨p132_33, p133_34, p134_35, p135_36, p136_37, p137_38, p138_39, hC, hm⟩ := bq_b7_el hm
  refine bq_IN (As := []) (rest := [.ref a_p132, .ref a_t]) E K w hA (kX5_init l D cI cJ a_p132 p132_33 p133_34 p134_35 p135_36 p136_37 p137_38 p138_39 hC) cd_X5_init mn_X7_9 in_X5 im_X5_init hi_X5_init ⟨Nat.le_of_ble_eq_true rfl, Nat.le_of_ble_eq_true rfl⟩ ⟨Nat.le_of_ble_eq_true rfl, Nat.le_of_ble_eq_true rfl⟩ [33] [0, 1, 2, 3, 4, 5, 6, 7, 8, 9, 10, 11, 12, 13, 14, 15, 16, 17, 18, 19, 20, 21, 22, 23, 24, 25, 26, 27, 28, 29, 30, 31, 32] rfl rfl rfl rfl rfl rfl rfl hl.1 rfl (Nat.le_of_ble_eq_true rfl) dX7_init_63 (fun wc9 H locs hwp w => ?_)
  clear hC
  obtain ⟨a_p133, a_p134, a_p135, a_p136, a_p137, a_p138, rfl⟩ := hwp
  replace w : bq_w D A s.heap [(a_t, .inr (7, [.ref a_p107, .ref a_p109, .ref a_p119, .ref a_p129, .null, .int (bq_z0 5)])), (a_p100, .inr (5, [.int (p100_1 0), .ref a_p101, .ref a_p102, .ref a_p103, .ref a_p104, .int (p100_1 5), .ref a_p105, .ref a_p106])), (a_p101, oA cI 16 p101_2), (a_p102, oA cI 16 p102_3), (a_p103, oA cI 16 p103_4), (a_p104, oA cI 16 p104_5), (a_p105, oA cI 16 p105_6), (a_p106, oA cI 16 p106_7), (a_p107, .inr (2, [.ref a_p108, .int (p107_8 1), .int (p107_8 2), .int (p107_8 3), .int (p107_8 4), .int (p107_8 5)])), (a_p108, oA cI 80 p108_9), (a_p109, .inr (3, [.ref a_p100, .ref a_p110, .ref a_p111, .ref a_p114, .ref a_p115, .ref a_p116, .ref a_p117, .ref a_p118, .int (p109_10 8), .int (p109_10 9), .int (p109_10 10), .int (p109_10 11), .int (p109_10 12)])), (a_p110, .inr (0, [.int (p110_11 0), .int (p110_11 1), .int (p110_11 2), .int (p110_11 3), .int (p110_11 4), .int (p110_11 5)])), (a_p111, .inr (1, [.ref a_p112, .ref a_p113, .int (p111_12 2), .int (p111_12 3), .int (p111_12 4)])), (a_p112, oA cI 40 p112_13), (a_p113, oA cI 40 p113_14), (a_p114, .inr (4, [.int (p114_15 0), .int (p114_15 1), .int (p114_15 2), .int (p114_15 3), .int (p114_15 4), .int (p114_15 5)])), (a_p115, oA cI 6 p115_16), (a_p116, oA cI 6 p116_17), (a_p117, oA cI 16 p117_18), (a_p118, oA cI 5 p118_19), (a_p119, .inr (3, [.ref a_p100, .ref a_p120, .ref a_p121, .ref a_p124, .ref a_p125, .ref a_p126, .ref a_p127, .ref a_p128, .int (p119_20 8), .int (p119_20 9), .int (p119_20 10), .int (p119_20 11), .int (p119_20 12)])), (a_p120, .inr (0, [.int (p120_21 0), .int (p120_21 1), .int (p120_21 2), .int (p120_21 3), .int (p120_21 4), .int (p120_21 5)])), (a_p121, .inr (1, [.ref a_p122, .ref a_p123, .int (p121_22 2), .int (p121_22 3), .int (p121_22 4)])), (a_p122, oA cI 40 p122_23), (a_p123, oA cI 40 p123_24), (a_p124, .inr (4, [.int (p124_25 0), .int (p124_25 1), .int (p124_25 2), .int (p124_25 3), .int (p124_25 4), .int (p124_25 5)])), (a_p125, oA cI 6 p125_26), (a_p126, oA cI 6 p126_27), (a_p127, oA cI 16 p127_28), (a_p128, oA cI 5 p128_29), (a_p129, .inr (6, [.ref a_p130, .ref a_p131, .int (p129_30 2), .int (p129_30 3)])), (a_p130, oA cI 6 p130_31), (a_p131, oA cI 16 p131_32), (a_p132, .inr (5, [.int (p132_33 0), .ref a_p133, .ref a_p134, .ref a_p135, .ref a_p136, .int (p132_33 5), .ref a_p137, .ref a_p138])), (a_p133, oA cI 16 p133_34), (a_p134, oA cI 16 p134_35), (a_p135, oA cI 16 p135_36), (a_p136, oA cI 16 p136_37), (a_p137, oA cI 16 p137_38), (a_p138, oA cI 16 p138_39)] H locs := w
  refine pt_X7_38 E K w 0 rfl (Nat.le_of_ble_eq_true rfl) dX7_init_66 (fun H locs w => ?_)
  replace w : bq_w D A s.heap ([(a_t, .inr (7, [.ref a_p107, .ref a_p109, .ref a_p119, .ref a_p129, .ref a_p132, .int (bq_z0 5)])), (a_p100, .inr (5, [.int (p100_1 0), .ref a_p101, .ref a_p102, .ref a_p103, .ref a_p104, .int (p100_1 5), .ref a_p105, .ref a_p106])), (a_p101, oA cI 16 p101_2), (a_p102, oA cI 16 p102_3), (a_p103, oA cI 16 p103_4), (a_p104, oA cI 16 p104_5), (a_p105, oA cI 16 p105_6), (a_p106, oA cI 16 p106_7), (a_p107, .inr (2, [.ref a_p108, .int (p107_8 1), .int (p107_8 2), .int (p107_8 3), .int (p107_8 4), .int (p107_8 5)])), (a_p108, oA cI 80 p108_9), (a_p109, .inr (3, [.ref a_p100, .ref a_p110, .ref a_p111, .ref a_p114, .ref a_p115, .ref a_p116, .ref a_p117, .ref a_p118, .int (p109_10 8), .int (p109_10 9), .int (p109_10 10), .int (p109_10 11), .int (p109_10 12)])), (a_p110, .inr (0, [.int (p110_11 0), .int (p110_11 1), .int (p110_11 2), .int (p110_11 3), .int (p110_11 4), .int (p110_11 5)])), (a_p111, .inr (1, [.ref a_p112, .ref a_p113, .int (p111_12 2), .int (p111_12 3), .int (p111_12 4)])), (a_p112, oA cI 40 p112_13), (a_p113, oA cI 40 p113_14), (a_p114, .inr (4, [.int (p114_15 0), .int (p114_15 1), .int (p114_15 2), .int (p114_15 3), .int (p114_15 4), .int (p114_15 5)])), (a_p115, oA cI 6 p115_16), (a_p116, oA cI 6 p116_17), (a_p117, oA cI 16 p117_18), (a_p118, oA cI 5 p118_19), (a_p119, .inr (3, [.ref a_p100, .ref a_p120, .ref a_p121, .ref a_p124, .ref a_p125, .ref a_p126, .ref a_p127, .ref a_p128, .int (p119_20 8), .int (p119_20 9), .int (p119_20 10), .int (p119_20 11), .int (p119_20 12)])), (a_p120, .inr (0, [.int (p120_21 0), .int (p120_21 1), .int (p120_21 2), .int (p120_21 3), .int (p120_21 4), .int (p120_21 5)])), (a_p121, .inr (1, [.ref a_p122, .ref a_p123, .int (p121_22 2), .int (p121_22 3), .int (p121_22 4)])), (a_p122, oA cI 40 p122_23), (a_p123, oA cI 40 p123_24), (a_p124, .inr (4, [.int (p124_25 0), .int (p124_25 1), .int (p124_25 2), .int (p124_25 3), .int (p124_25 4), .int (p124_25 5)])), (a_p125, oA cI 6 p125_26), (a_p126, oA cI 6 p126_27), (a_p127, oA cI 16 p127_28), (a_p128, oA cI 5 p128_29), (a_p129, .inr (6, [.ref a_p130, .ref a_p131, .int (p129_30 2), .int (p129_30 3)])), (a_p130, oA cI 6 p130_31), (a_p131, oA cI 16 p131_32), (a_p132, .inr (5, [.int (p132_33 0), .ref a_p133, .ref a_p134, .ref a_p135, .ref a_p136, .int (p132_33 5), .ref a_p137, .ref a_p138])), (a_p133, oA cI 16 p133_34), (a_p134, oA cI 16 p134_35), (a_p135, oA cI 16 p135_36), (a_p136, oA cI 16 p136_37), (a_p137, oA cI 16 p137_38), (a_p138, oA cI 16 p138_39)]) H locs := w
  refine lv_aload_n hx hb dX7_init_69 rfl (lv_at hl 1 rfl) ?_
  refine lv_iconst (v := 0) hx hb dX7_init_70 (by decide) ?_
  obtain ⟨t_40, e9, hm⟩ := bq_let_el hm
  refine pt_X7_42 E K w 0 rfl (Nat.le_of_ble_eq_true rfl) dX7_init_71 (fun H locs w => ?_)
  replace w : bq_w D A s.heap ([(a_t, .inr (7, [.ref a_p107, .ref a_p109, .ref a_p119, .ref a_p129, .ref a_p132, .int (t_40 5)])), (a_p100, .inr (5, [.int (p100_1 0), .ref a_p101, .ref a_p102, .ref a_p103, .ref a_p104, .int (p100_1 5), .ref a_p105, .ref a_p106])), (a_p101, oA cI 16 p101_2), (a_p102, oA cI 16 p102_3), (a_p103, oA cI 16 p103_4), (a_p104, oA cI 16 p104_5), (a_p105, oA cI 16 p105_6), (a_p106, oA cI 16 p106_7), (a_p107, .inr (2, [.ref a_p108, .int (p107_8 1), .int (p107_8 2), .int (p107_8 3), .int (p107_8 4), .int (p107_8 5)])), (a_p108, oA cI 80 p108_9), (a_p109, .inr (3, [.ref a_p100, .ref a_p110, .ref a_p111, .ref a_p114, .ref a_p115, .ref a_p116, .ref a_p117, .ref a_p118, .int (p109_10 8), .int (p109_10 9), .int (p109_10 10), .int (p109_10 11), .int (p109_10 12)])), (a_p110, .inr (0, [.int (p110_11 0), .int (p110_11 1), .int (p110_11 2), .int (p110_11 3), .int (p110_11 4), .int (p110_11 5)])), (a_p111, .inr (1, [.ref a_p112, .ref a_p113, .int (p111_12 2), .int (p111_12 3), .int (p111_12 4)])), (a_p112, oA cI 40 p112_13), (a_p113, oA cI 40 p113_14), (a_p114, .inr (4, [.int (p114_15 0), .int (p114_15 1), .int (p114_15 2), .int (p114_15 3), .int (p114_15 4), .int (p114_15 5)])), (a_p115, oA cI 6 p115_16), (a_p116, oA cI 6 p116_17), (a_p117, oA cI 16 p117_18), (a_p118, oA cI 5 p118_19), (a_p119, .inr (3, [.ref a_p100, .ref a_p120, .ref a_p121, .ref a_p124, .ref a_p125, .ref a_p126, .ref a_p127, .ref a_p128, .int (p119_20 8), .int (p119_20 9), .int (p119_20 10), .int (p119_20 11), .int (p119_20 12)])), (a_p120, .inr (0, [.int (p120_21 0), .int (p120_21 1), .int (p120_21 2), .int (p120_21 3), .int (p120_21 4), .int (p120_21 5)])), (a_p121, .inr (1, [.ref a_p122, .ref a_p123, .int (p121_22 2), .int (p121_22 3), .int (p121_22 4)])), (a_p122, oA cI 40 p122_23), (a_p123, oA cI 40 p123_24), (a_p124, .inr (4, [.int (p124_25 0), .int (p124_25 1), .int (p124_25 2), .int (p124_25 3), .int (p124_25 4), .int (p124_25 5)])), (a_p125, oA cI 6 p125_26), (a_p126, oA cI 6 p126_27), (a_p127, oA cI 16 p127_28), (a_p128, oA cI 5 p128_29), (a_p129, .inr (6, [.ref a_p130, .ref a_p131, .int (p129_30 2), .int (p129_30 3)])), (a_p130, oA cI 6 p130_31), (a_p131, oA cI 16 p131_32), (a_p132, .inr (5, [.int (p132_33 0), .ref a_p133, .ref a_p134, .ref a_p135, .ref a_p136, .int (p132_33 5), .ref a_p137, .ref a_p138])), (a_p133, oA cI 16 p133_34), (a_p134, oA cI 16 p134_35), (a_p135, oA cI 16 p135_36), (a_p136, oA cI 16 p136_37), (a_p137, oA cI 16 p137_38), (a_p138, oA cI 16 p138_39)]) H locs := by rw [e9]; exact w
  clear e9
  obtain ⟨rfl, rfl, rfl, rfl, rfl, rfl, rfl, rfl, rfl, rfl, rfl, rfl, rfl, rfl, rfl, rfl, rfl, rfl, rfl, rfl, rfl, rfl, rfl, rfl, rfl, rfl, rfl, rfl, rfl, rfl, rfl, rfl, rfl, rfl, rfl, rfl, rfl, rfl, rfl, rfl⟩ := bq_in40 (Option.some.inj hm)
  exact bq_cret E w hr hk dX7_init_74 hQ ⟨a_p100, a_p101, a_p102, a_p103, a_p104, a_p105, a_p106, a_p107, a_p108, a_p109, a_p110, a_p111, a_p112, a_p113, a_p114, a_p115, a_p116, a_p117, a_p118, a_p119, a_p120, a_p121, a_p122, a_p123, a_p124, a_p125, a_p126, a_p127, a_p128, a_p129, a_p130, a_p131, a_p132, a_p133, a_p134, a_p135, a_p136, a_p137, a_p138, rfl⟩
abbrev rmX8_init : Room := { frames := 2, cells := 11, slots := 481, locals := 45 }
theorem hi_X8_init : yX8_init.cls ≠ "java/lang/invoke/MethodHandle" ∧ yX8_init.cls ≠ "java/lang/invoke/VarHandle" ∧ yX8_init.name = "<init>" ∧ (parseMethodDescriptor yX8_init.desc).map (fun d => d.parameters.length) = some 0 := by decide +kernel
set_option maxHeartbeats 4000000 in
set_option maxRecDepth 100000 in
theorem kX8_init (l : Launch) (D : va_G) (cI cJ : ClassId) (a_t : Nat) (t_o p100_o p101_o p102_o p103_o p104_o p105_o p106_o p107_o p108_o p109_o p110_o : Nat → Int32) (hm : mX8_init = some (t_o, p100_o, p101_o, p102_o, p103_o, p104_o, p105_o, p106_o, p107_o, p108_o, p109_o, p110_o)) : bq_MC l D cI cJ yX8_init cX8_init 2 rmX8_init [.ref a_t] [(a_t, .inr (8, [.null, .null, .null, .int 0, .int 0, .null, .null, .null, .int 0, .null, .null, .int 0, .int 0, .int 0, .int 0, .null, .null, .null, .int 0, .int 0]))] (fun wc9 => ∃ (a_p100 a_p101 a_p102 a_p103 a_p104 a_p105 a_p106 a_p107 a_p108 a_p109 a_p110 : Nat), wc9 = [(a_t, .inr (8, [.ref a_p100, .ref a_p101, .ref a_p102, .int (t_o 3), .int (t_o 4), .ref a_p103, .ref a_p104, .ref a_p105, .int (t_o 8), .ref a_p106, .ref a_p107, .int (t_o 11), .int (t_o 12), .int (t_o 13), .int (t_o 14), .ref a_p108, .ref a_p109, .ref a_p110, .int (t_o 18), .int (t_o 19)])), (a_p100, oA cI 140 p100_o), (a_p101, oA cI 140 p101_o), (a_p102, oA cI 6 p102_o), (a_p103, oA cI 16 p103_o), (a_p104, oA cI 16 p104_o), (a_p105, oA cI 16 p105_o), (a_p106, oA cI 16 p106_o), (a_p107, oA cI 80 p107_o), (a_p108, oA cI 17 p108_o), (a_p109, oA cI 17 p109_o), (a_p110, oA cI 17 p110_o)]) := by
  refine bq_startC (by decide) (Nat.le_of_ble_eq_true rfl) ?_
  intro p e s m av9 below meth c A ls Q H locs E K w hA hr hk hn hQ hl
  have E : bq_E p m c cX8_init 2 s av9 RX8 := E
  have hn : meth.name = "<init>" := hn
  have hx := E.1
  have hb := E.2.1
  have hl : lv_has ls 2 [(0, .ref a_t)] := hl
  unfold mX8_init at hm
  refine lv_aload_n hx hb dX8_init_0 rfl (lv_at hl 0 rfl) ?_
  refine bq_obj E ml_X8_1 hl.1 dX8_init_1 (Nat.le_of_ble_eq_true rfl) (by decide) ?_
  refine lv_aload_n hx hb dX8_init_4 rfl (lv_at hl 0 rfl) ?_
  refine lv_sipush (v := 140) hx hb dX8_init_5 (by decide) ?_
  refine bq_newa E K w hA 140 (by decide) (by decide) (by decide) (Nat.le_of_ble_eq_true rfl) (Nat.le_of_ble_eq_true rfl) dX8_init_8 (fun a_p100 H w => ?_)
  replace w : bq_w D A s.heap [(a_t, .inr (8, [.null, .null, .null, .int (bq_z0 3), .int (bq_z0 4), .null, .null, .null, .int (bq_z0 8), .null, .null, .int (bq_z0 11), .int (bq_z0 12), .int (bq_z0 13), .int (bq_z0 14), .null, .null, .null, .int (bq_z0 18), .int (bq_z0 19)])), (a_p100, oA cI 140 bq_z0)] H locs := w
  refine pf_X8_7 E K w 0 hn rfl (Nat.le_of_ble_eq_true rfl) dX8_init_10 (fun H locs w => ?_)
  replace w : bq_w D A s.heap ([(a_t, .inr (8, [.ref a_p100, .null, .null, .int (bq_z0 3), .int (bq_z0 4), .null, .null, .null, .int (bq_z0 8), .null, .null, .int (bq_z0 11), .int (bq_z0 12), .int (bq_z0 13), .int (bq_z0 14), .null, .null, .null, .int (bq_z0 18), .int (bq_z0 19)])), (a_p100, oA cI 140 bq_z0)]) H locs := w
  refine lv_aload_n hx hb dX8_init_13 rfl (lv_at hl 0 rfl) ?_
  refine lv_sipush (v := 140) hx hb dX8_init_14 (by decide) ?_
  refine bq_newa E K w hA 140 (by decide) (by decide) (by decide) (Nat.le_of_ble_eq_true rfl) (Nat.le_of_ble_eq_true rfl) dX8_init_17 (fun a_p101 H w => ?_)
  replace w : bq_w D A s.heap [(a_t, .inr (8, [.ref a_p100, .null, .null, .int (bq_z0 3), .int (bq_z0 4), .null, .null, .null, .int (bq_z0 8), .null, .null, .int (bq_z0 11), .int (bq_z0 12), .int (bq_z0 13), .int (bq_z0 14), .null, .null, .null, .int (bq_z0 18), .int (bq_z0 19)])), (a_p100, oA cI 140 bq_z0), (a_p101, oA cI 140 bq_z0)] H locs := w
  refine pf_X8_13 E K w 0 hn rfl (Nat.le_of_ble_eq_true rfl) dX8_init_19 (fun H locs w => ?_)
  replace w : bq_w D A s.heap ([(a_t, .inr (8, [.ref a_p100, .ref a_p101, .null, .int (bq_z0 3), .int (bq_z0 4), .null, .null, .null, .int (bq_z0 8), .null, .null, .int (bq_z0 11), .int (bq_z0 12), .int (bq_z0 13), .int (bq_z0 14), .null, .null, .null, .int (bq_z0 18), .int (bq_z0 19)])), (a_p100, oA cI 140 bq_z0), (a_p101, oA cI 140 bq_z0)]) H locs := w
  refine lv_aload_n hx hb dX8_init_22 rfl (lv_at hl 0 rfl) ?_
  refine lv_bipush (v := 6) hx hb dX8_init_23 (by decide) ?_
  refine bq_newa E K w hA 6 (by decide) (by decide) (by decide) (Nat.le_of_ble_eq_true rfl) (Nat.le_of_ble_eq_true rfl) dX8_init_25 (fun a_p102 H w => ?_)
  replace w : bq_w D A s.heap [(a_t, .inr (8, [.ref a_p100, .ref a_p101, .null, .int (bq_z0 3), .int (bq_z0 4), .null, .null, .null, .int (bq_z0 8), .null, .null, .int (bq_z0 11), .int (bq_z0 12), .int (bq_z0 13), .int (bq_z0 14), .null, .null, .null, .int (bq_z0 18), .int (bq_z0 19)])), (a_p100, oA cI 140 bq_z0), (a_p101, oA cI 140 bq_z0), (a_p102, oA cI 6 bq_z0)] H locs := w
  refine pf_X8_16 E K w 0 hn rfl (Nat.le_of_ble_eq_true rfl) dX8_init_27 (fun H locs w => ?_)
  replace w : bq_w D A s.heap ([(a_t, .inr (8, [.ref a_p100, .ref a_p101, .ref a_p102, .int (bq_z0 3), .int (bq_z0 4), .null, .null, .null, .int (bq_z0 8), .null, .null, .int (bq_z0 11), .int (bq_z0 12), .int (bq_z0 13), .int (bq_z0 14), .null, .null, .null, .int (bq_z0 18), .int (bq_z0 19)])), (a_p100, oA cI 140 bq_z0), (a_p101, oA cI 140 bq_z0), (a_p102, oA cI 6 bq_z0)]) H locs := w
  refine lv_aload_n hx hb dX8_init_30 rfl (lv_at hl 0 rfl) ?_
  refine lv_bipush (v := 16) hx hb dX8_init_31 (by decide) ?_
  refine bq_newa E K w hA 16 (by decide) (by decide) (by decide) (Nat.le_of_ble_eq_true rfl) (Nat.le_of_ble_eq_true rfl) dX8_init_33 (fun a_p103 H w => ?_)
  replace w : bq_w D A s.heap [(a_t, .inr (8, [.ref a_p100, .ref a_p101, .ref a_p102, .int (bq_z0 3), .int (bq_z0 4), .null, .null, .null, .int (bq_z0 8), .null, .null, .int (bq_z0 11), .int (bq_z0 12), .int (bq_z0 13), .int (bq_z0 14), .null, .null, .null, .int (bq_z0 18), .int (bq_z0 19)])), (a_p100, oA cI 140 bq_z0), (a_p101, oA cI 140 bq_z0), (a_p102, oA cI 6 bq_z0), (a_p103, oA cI 16 bq_z0)] H locs := w
  refine pf_X8_19 E K w 0 hn rfl (Nat.le_of_ble_eq_true rfl) dX8_init_35 (fun H locs w => ?_)
  replace w : bq_w D A s.heap ([(a_t, .inr (8, [.ref a_p100, .ref a_p101, .ref a_p102, .int (bq_z0 3), .int (bq_z0 4), .ref a_p103, .null, .null, .int (bq_z0 8), .null, .null, .int (bq_z0 11), .int (bq_z0 12), .int (bq_z0 13), .int (bq_z0 14), .null, .null, .null, .int (bq_z0 18), .int (bq_z0 19)])), (a_p100, oA cI 140 bq_z0), (a_p101, oA cI 140 bq_z0), (a_p102, oA cI 6 bq_z0), (a_p103, oA cI 16 bq_z0)]) H locs := w
  refine lv_aload_n hx hb dX8_init_38 rfl (lv_at hl 0 rfl) ?_
  refine lv_bipush (v := 16) hx hb dX8_init_39 (by decide) ?_
  refine bq_newa E K w hA 16 (by decide) (by decide) (by decide) (Nat.le_of_ble_eq_true rfl) (Nat.le_of_ble_eq_true rfl) dX8_init_41 (fun a_p104 H w => ?_)
  replace w : bq_w D A s.heap [(a_t, .inr (8, [.ref a_p100, .ref a_p101, .ref a_p102, .int (bq_z0 3), .int (bq_z0 4), .ref a_p103, .null, .null, .int (bq_z0 8), .null, .null, .int (bq_z0 11), .int (bq_z0 12), .int (bq_z0 13), .int (bq_z0 14), .null, .null, .null, .int (bq_z0 18), .int (bq_z0 19)])), (a_p100, oA cI 140 bq_z0), (a_p101, oA cI 140 bq_z0), (a_p102, oA cI 6 bq_z0), (a_p103, oA cI 16 bq_z0), (a_p104, oA cI 16 bq_z0)] H locs := w
  refine pf_X8_22 E K w 0 hn rfl (Nat.le_of_ble_eq_true rfl) dX8_init_43 (fun H locs w => ?_)
  replace w : bq_w D A s.heap ([(a_t, .inr (8, [.ref a_p100, .ref a_p101, .ref a_p102, .int (bq_z0 3), .int (bq_z0 4), .ref a_p103, .ref a_p104, .null, .int (bq_z0 8), .null, .null, .int (bq_z0 11), .int (bq_z0 12), .int (bq_z0 13), .int (bq_z0 14), .null, .null, .null, .int (bq_z0 18), .int (bq_z0 19)])), (a_p100, oA cI 140 bq_z0), (a_p101, oA cI 140 bq_z0), (a_p102, oA cI 6 bq_z0), (a_p103, oA cI 16 bq_z0), (a_p104, oA cI 16 bq_z0)]) H locs := w
  refine lv_aload_n hx hb dX8_init_46 rfl (lv_at hl 0 rfl) ?_
  refine lv_bipush (v := 16) hx hb dX8_init_47 (by decide) ?_
  refine bq_newa E K w hA 16 (by decide) (by decide) (by decide) (Nat.le_of_ble_eq_true rfl) (Nat.le_of_ble_eq_true rfl) dX8_init_49 (fun a_p105 H w => ?_)
  replace w : bq_w D A s.heap [(a_t, .inr (8, [.ref a_p100, .ref a_p101, .ref a_p102, .int (bq_z0 3), .int (bq_z0 4), .ref a_p103, .ref a_p104, .null, .int (bq_z0 8), .null, .null, .int (bq_z0 11), .int (bq_z0 12), .int (bq_z0 13), .int (bq_z0 14), .null, .null, .null, .int (bq_z0 18), .int (bq_z0 19)])), (a_p100, oA cI 140 bq_z0), (a_p101, oA cI 140 bq_z0), (a_p102, oA cI 6 bq_z0), (a_p103, oA cI 16 bq_z0), (a_p104, oA cI 16 bq_z0), (a_p105, oA cI 16 bq_z0)] H locs := w
  refine pf_X8_25 E K w 0 hn rfl (Nat.le_of_ble_eq_true rfl) dX8_init_51 (fun H locs w => ?_)
  replace w : bq_w D A s.heap ([(a_t, .inr (8, [.ref a_p100, .ref a_p101, .ref a_p102, .int (bq_z0 3), .int (bq_z0 4), .ref a_p103, .ref a_p104, .ref a_p105, .int (bq_z0 8), .null, .null, .int (bq_z0 11), .int (bq_z0 12), .int (bq_z0 13), .int (bq_z0 14), .null, .null, .null, .int (bq_z0 18), .int (bq_z0 19)])), (a_p100, oA cI 140 bq_z0), (a_p101, oA cI 140 bq_z0), (a_p102, oA cI 6 bq_z0), (a_p103, oA cI 16 bq_z0), (a_p104, oA cI 16 bq_z0), (a_p105, oA cI 16 bq_z0)]) H locs := w
  refine lv_aload_n hx hb dX8_init_54 rfl (lv_at hl 0 rfl) ?_
  refine lv_bipush (v := 16) hx hb dX8_init_55 (by decide) ?_
  refine bq_newa E K w hA 16 (by decide) (by decide) (by decide) (Nat.le_of_ble_eq_true rfl) (Nat.le_of_ble_eq_true rfl) dX8_init_57 (fun a_p106 H w => ?_)
  replace w : bq_w D A s.heap [(a_t, .inr (8, [.ref a_p100, .ref a_p101, .ref a_p102, .int (bq_z0 3), .int (bq_z0 4), .ref a_p103, .ref a_p104, .ref a_p105, .int (bq_z0 8), .null, .null, .int (bq_z0 11), .int (bq_z0 12), .int (bq_z0 13), .int (bq_z0 14), .null, .null, .null, .int (bq_z0 18), .int (bq_z0 19)])), (a_p100, oA cI 140 bq_z0), (a_p101, oA cI 140 bq_z0), (a_p102, oA cI 6 bq_z0), (a_p103, oA cI 16 bq_z0), (a_p104, oA cI 16 bq_z0), (a_p105, oA cI 16 bq_z0), (a_p106, oA cI 16 bq_z0)] H locs := w
  refine pf_X8_28 E K w 0 hn rfl (Nat.le_of_ble_eq_true rfl) dX8_init_59 (fun H locs w => ?_)
  replace w : bq_w D A s.heap ([(a_t, .inr (8, [.ref a_p100, .ref a_p101, .ref a_p102, .int (bq_z0 3), .int (bq_z0 4), .ref a_p103, .ref a_p104, .ref a_p105, .int (bq_z0 8), .ref a_p106, .null, .int (bq_z0 11), .int (bq_z0 12), .int (bq_z0 13), .int (bq_z0 14), .null, .null, .null, .int (bq_z0 18), .int (bq_z0 19)])), (a_p100, oA cI 140 bq_z0), (a_p101, oA cI 140 bq_z0), (a_p102, oA cI 6 bq_z0), (a_p103, oA cI 16 bq_z0), (a_p104, oA cI 16 bq_z0), (a_p105, oA cI 16 bq_z0), (a_p106, oA cI 16 bq_z0)]) H locs := w
  refine lv_aload_n hx hb dX8_init_62 rfl (lv_at hl 0 rfl) ?_
  refine lv_bipush (v := 80) hx hb dX8_init_63 (by decide) ?_
  refine bq_newa E K w hA 80 (by decide) (by decide) (by decide) (Nat.le_of_ble_eq_true rfl) (Nat.le_of_ble_eq_true rfl) dX8_init_65 (fun a_p107 H w => ?_)
  replace w : bq_w D A s.heap [(a_t, .inr (8, [.ref a_p100, .ref a_p101, .ref a_p102, .int (bq_z0 3), .int (bq_z0 4), .ref a_p103, .ref a_p104, .ref a_p105, .int (bq_z0 8), .ref a_p106, .null, .int (bq_z0 11), .int (bq_z0 12), .int (bq_z0 13), .int (bq_z0 14), .null, .null, .null, .int (bq_z0 18), .int (bq_z0 19)])), (a_p100, oA cI 140 bq_z0), (a_p101, oA cI 140 bq_z0), (a_p102, oA cI 6 bq_z0), (a_p103, oA cI 16 bq_z0), (a_p104, oA cI 16 bq_z0), (a_p105, oA cI 16 bq_z0), (a_p106, oA cI 16 bq_z0), (a_p107, oA cI 80 bq_z0)] H locs := w
  refine pf_X8_31 E K w 0 hn rfl (Nat.le_of_ble_eq_true rfl) dX8_init_67 (fun H locs w => ?_)
  replace w : bq_w D A s.heap ([(a_t, .inr (8, [.ref a_p100, .ref a_p101, .ref a_p102, .int (bq_z0 3), .int (bq_z0 4), .ref a_p103, .ref a_p104, .ref a_p105, .int (bq_z0 8), .ref a_p106, .ref a_p107, .int (bq_z0 11), .int (bq_z0 12), .int (bq_z0 13), .int (bq_z0 14), .null, .null, .null, .int (bq_z0 18), .int (bq_z0 19)])), (a_p100, oA cI 140 bq_z0), (a_p101, oA cI 140 bq_z0), (a_p102, oA cI 6 bq_z0), (a_p103, oA cI 16 bq_z0), (a_p104, oA cI 16 bq_z0), (a_p105, oA cI 16 bq_z0), (a_p106, oA cI 16 bq_z0), (a_p107, oA cI 80 bq_z0)]) H locs := w
  refine lv_aload_n hx hb dX8_init_70 rfl (lv_at hl 0 rfl) ?_
  refine lv_bipush (v := 17) hx hb dX8_init_71 (by decide) ?_
  refine bq_newa E K w hA 17 (by decide) (by decide) (by decide) (Nat.le_of_ble_eq_true rfl) (Nat.le_of_ble_eq_true rfl) dX8_init_73 (fun a_p108 H w => ?_)
  replace w : bq_w D A s.heap [(a_t, .inr (8, [.ref a_p100, .ref a_p101, .ref a_p102, .int (bq_z0 3), .int (bq_z0 4), .ref a_p103, .ref a_p104, .ref a_p105, .int (bq_z0 8), .ref a_p106, .ref a_p107, .int (bq_z0 11), .int (bq_z0 12), .int (bq_z0 13), .int (bq_z0 14), .null, .null, .null, .int (bq_z0 18), .int (bq_z0 19)])), (a_p100, oA cI 140 bq_z0), (a_p101, oA cI 140 bq_z0), (a_p102, oA cI 6 bq_z0), (a_p103, oA cI 16 bq_z0), (a_p104, oA cI 16 bq_z0), (a_p105, oA cI 16 bq_z0), (a_p106, oA cI 16 bq_z0), (a_p107, oA cI 80 bq_z0), (a_p108, oA cI 17 bq_z0)] H locs := w
  refine pf_X8_34 E K w 0 hn rfl (Nat.le_of_ble_eq_true rfl) dX8_init_75 (fun H locs w => ?_)
  replace w : bq_w D A s.heap ([(a_t, .inr (8, [.ref a_p100, .ref a_p101, .ref a_p102, .int (bq_z0 3), .int (bq_z0 4), .ref a_p103, .ref a_p104, .ref a_p105, .int (bq_z0 8), .ref a_p106, .ref a_p107, .int (bq_z0 11), .int (bq_z0 12), .int (bq_z0 13), .int (bq_z0 14), .ref a_p108, .null, .null, .int (bq_z0 18), .int (bq_z0 19)])), (a_p100, oA cI 140 bq_z0), (a_p101, oA cI 140 bq_z0), (a_p102, oA cI 6 bq_z0), (a_p103, oA cI 16 bq_z0), (a_p104, oA cI 16 bq_z0), (a_p105, oA cI 16 bq_z0), (a_p106, oA cI 16 bq_z0), (a_p107, oA cI 80 bq_z0), (a_p108, oA cI 17 bq_z0)]) H locs := w
  refine lv_aload_n hx hb dX8_init_78 rfl (lv_at hl 0 rfl) ?_
  refine lv_bipush (v := 17) hx hb dX8_init_79 (by decide) ?_
  refine bq_newa E K w hA 17 (by decide) (by decide) (by decide) (Nat.le_of_ble_eq_true rfl) (Nat.le_of_ble_eq_true rfl) dX8_init_81 (fun a_p109 H w => ?_)
  replace w : bq_w D A s.heap [(a_t, .inr (8, [.ref a_p100, .ref a_p101, .ref a_p102, .int (bq_z0 3), .int (bq_z0 4), .ref a_p103, .ref a_p104, .ref a_p105, .int (bq_z0 8), .ref a_p106, .ref a_p107, .int (bq_z0 11), .int (bq_z0 12), .int (bq_z0 13), .int (bq_z0 14), .ref a_p108, .null, .null, .int (bq_z0 18), .int (bq_z0 19)])), (a_p100, oA cI 140 bq_z0), (a_p101, oA cI 140 bq_z0), (a_p102, oA cI 6 bq_z0), (a_p103, oA cI 16 bq_z0), (a_p104, oA cI 16 bq_z0), (a_p105, oA cI 16 bq_z0), (a_p106, oA cI 16 bq_z0), (a_p107, oA cI 80 bq_z0), (a_p108, oA cI 17 bq_z0), (a_p109, oA cI 17 bq_z0)] H locs := w
  refine pf_X8_37 E K w 0 hn rfl (Nat.le_of_ble_eq_true rfl) dX8_init_83 (fun H locs w => ?_)
  replace w : bq_w D A s.heap ([(a_t, .inr (8, [.ref a_p100, .ref a_p101, .ref a_p102, .int (bq_z0 3), .int (bq_z0 4), .ref a_p103, .ref a_p104, .ref a_p105, .int (bq_z0 8), .ref a_p106, .ref a_p107, .int (bq_z0 11), .int (bq_z0 12), .int (bq_z0 13), .int (bq_z0 14), .ref a_p108, .ref a_p109, .null, .int (bq_z0 18), .int (bq_z0 19)])), (a_p100, oA cI 140 bq_z0), (a_p101, oA cI 140 bq_z0), (a_p102, oA cI 6 bq_z0), (a_p103, oA cI 16 bq_z0), (a_p104, oA cI 16 bq_z0), (a_p105, oA cI 16 bq_z0), (a_p106, oA cI 16 bq_z0), (a_p107, oA cI 80 bq_z0), (a_p108, oA cI 17 bq_z0), (a_p109, oA cI 17 bq_z0)]) H locs := w
  refine lv_aload_n hx hb dX8_init_86 rfl (lv_at hl 0 rfl) ?_
  refine lv_bipush (v := 17) hx hb dX8_init_87 (by decide) ?_
  refine bq_newa E K w hA 17 (by decide) (by decide) (by decide) (Nat.le_of_ble_eq_true rfl) (Nat.le_of_ble_eq_true rfl) dX8_init_89 (fun a_p110 H w => ?_)
  replace w : bq_w D A s.heap [(a_t, .inr (8, [.ref a_p100, .ref a_p101, .ref a_p102, .int (bq_z0 3), .int (bq_z0 4), .ref a_p103, .ref a_p104, .ref a_p105, .int (bq_z0 8), .ref a_p106, .ref a_p107, .int (bq_z0 11), .int (bq_z0 12), .int (bq_z0 13), .int (bq_z0 14), .ref a_p108, .ref a_p109, .null, .int (bq_z0 18), .int (bq_z0 19)])), (a_p100, oA cI 140 bq_z0), (a_p101, oA cI 140 bq_z0), (a_p102, oA cI 6 bq_z0), (a_p103, oA cI 16 bq_z0), (a_p104, oA cI 16 bq_z0), (a_p105, oA cI 16 bq_z0), (a_p106, oA cI 16 bq_z0), (a_p107, oA cI 80 bq_z0), (a_p108, oA cI 17 bq_z0), (a_p109, oA cI 17 bq_z0), (a_p110, oA cI 17 bq_z0)] H locs := w
  refine pf_X8_40 E K w 0 hn rfl (Nat.le_of_ble_eq_true rfl) dX8_init_91 (fun H locs w => ?_)
  replace w : bq_w D A s.heap ([(a_t, .inr (8, [.ref a_p100, .ref a_p101, .ref a_p102, .int (bq_z0 3), .int (bq_z0 4), .ref a_p103, .ref a_p104, .ref a_p105, .int (bq_z0 8), .ref a_p106, .ref a_p107, .int (bq_z0 11), .int (bq_z0 12), .int (bq_z0 13), .int (bq_z0 14), .ref a_p108, .ref a_p109, .ref a_p110, .int (bq_z0 18), .int (bq_z0 19)])), (a_p100, oA cI 140 bq_z0), (a_p101, oA cI 140 bq_z0), (a_p102, oA cI 6 bq_z0), (a_p103, oA cI 16 bq_z0), (a_p104, oA cI 16 bq_z0), (a_p105, oA cI 16 bq_z0), (a_p106, oA cI 16 bq_z0), (a_p107, oA cI 80 bq_z0), (a_p108, oA cI 17 bq_z0), (a_p109, oA cI 17 bq_z0), (a_p110, oA cI 17 bq_z0)]) H locs := w
  refine lv_iconst (v := 0) hx hb dX8_init_94 (by decide) ?_
  refine lv_istore_n (lv' := [(1, .int 0), (0, .ref a_t)]) hx hb dX8_init_95 rfl hl (by decide) rfl (fun ls hl => ?_)
  obtain ⟨p102_3, hL, hm⟩ := bq_bd_el hm
  obtain ⟨B, eB, nn, hL⟩ := bq_loop_B hL
  have X115 : ∀ (H : Heap) (locs : List Loc) (ls : Array Slot), bq_w D A s.heap ([(a_t, .inr (8, [.ref a_p100, .ref a_p101, .ref a_p102, .int (bq_z0 3), .int (bq_z0 4), .ref a_p103, .ref a_p104, .ref a_p105, .int (bq_z0 8), .ref a_p106, .ref a_p107, .int (bq_z0 11), .int (bq_z0 12), .int (bq_z0 13), .int (bq_z0 14), .ref a_p108, .ref a_p109, .ref a_p110, .int (bq_z0 18), .int (bq_z0 19)])), (a_p100, oA cI 140 bq_z0), (a_p101, oA cI 140 bq_z0), (a_p102, oA cI 6 p102_3), (a_p103, oA cI 16 bq_z0), (a_p104, oA cI 16 bq_z0), (a_p105, oA cI 16 bq_z0), (a_p106, oA cI 16 bq_z0), (a_p107, oA cI 80 bq_z0), (a_p108, oA cI 17 bq_z0), (a_p109, oA cI 17 bq_z0), (a_p110, oA cI 17 bq_z0)]) H locs → lv_has ls 2 [(0, .ref a_t)] → W p l e rmX8_init s m av9 below meth c H locs 11 481 Q (F0 m 115 ls []) := by
    intro H locs ls w hl
    refine lv_aload_n hx hb dX8_init_115 rfl (lv_at hl 0 rfl) ?_
    refine gt_X8_7 E K w 0 rfl rfl dX8_init_116 ?_
    refine lv_iconst (v := 1) hx hb dX8_init_119 (by decide) ?_
    refine lv_iconst (v := 1) hx hb dX8_init_120 (by decide) ?_
    obtain ⟨p100_4, e9, hm⟩ := bq_let_el hm
    refine bq_astk E K w 1 rfl 1 (by decide) (by unfold vp_in; decide) dX8_init_121 (fun H locs w => ?_)
    replace w : bq_w D A s.heap ([(a_t, .inr (8, [.ref a_p100, .ref a_p101, .ref a_p102, .int (bq_z0 3), .int (bq_z0 4), .ref a_p103, .ref a_p104, .ref a_p105, .int (bq_z0 8), .ref a_p106, .ref a_p107, .int (bq_z0 11), .int (bq_z0 12), .int (bq_z0 13), .int (bq_z0 14), .ref a_p108, .ref a_p109, .ref a_p110, .int (bq_z0 18), .int (bq_z0 19)])), (a_p100, oA cI 140 p100_4), (a_p101, oA cI 140 bq_z0), (a_p102, oA cI 6 p102_3), (a_p103, oA cI 16 bq_z0), (a_p104, oA cI 16 bq_z0), (a_p105, oA cI 16 bq_z0), (a_p106, oA cI 16 bq_z0), (a_p107, oA cI 80 bq_z0), (a_p108, oA cI 17 bq_z0), (a_p109, oA cI 17 bq_z0), (a_p110, oA cI 17 bq_z0)]) H locs := by rw [e9]; exact w
    clear e9
    refine lv_aload_n hx hb dX8_init_122 rfl (lv_at hl 0 rfl) ?_
    refine gt_X8_7 E K w 0 rfl rfl dX8_init_123 ?_
    refine lv_iconst (v := 2) hx hb dX8_init_126 (by decide) ?_
    refine lv_iconst (v := 1) hx hb dX8_init_127 (by decide) ?_
    obtain ⟨p100_5, e9, hm⟩ := bq_let_el hm
    refine bq_astk E K w 1 rfl 2 (by decide) (by unfold vp_in; decide) dX8_init_128 (fun H locs w => ?_)
    replace w : bq_w D A s.heap ([(a_t, .inr (8, [.ref a_p100, .ref a_p101, .ref a_p102, .int (bq_z0 3), .int (bq_z0 4), .ref a_p103, .ref a_p104, .ref a_p105, .int (bq_z0 8), .ref a_p106, .ref a_p107, .int (bq_z0 11), .int (bq_z0 12), .int (bq_z0 13), .int (bq_z0 14), .ref a_p108, .ref a_p109, .ref a_p110, .int (bq_z0 18), .int (bq_z0 19)])), (a_p100, oA cI 140 p100_5), (a_p101, oA cI 140 bq_z0), (a_p102, oA cI 6 p102_3), (a_p103, oA cI 16 bq_z0), (a_p104, oA cI 16 bq_z0), (a_p105, oA cI 16 bq_z0), (a_p106, oA cI 16 bq_z0), (a_p107, oA cI 80 bq_z0), (a_p108, oA cI 17 bq_z0), (a_p109, oA cI 17 bq_z0), (a_p110, oA cI 17 bq_z0)]) H locs := by rw [e9]; exact w
    clear e9
    refine lv_aload_n hx hb dX8_init_129 rfl (lv_at hl 0 rfl) ?_
    refine lv_aload_n hx hb dX8_init_130 rfl (lv_at hl 0 rfl) ?_
    refine gt_X8_7 E K w 0 rfl rfl dX8_init_131 ?_
    obtain ⟨p100_6, hC, hm⟩ := bq_bd_el hm
    refine bq_V (As := [.ref a_p100]) (rest := []) (st1 := []) (ws' := [(a_t, .inr (8, [.ref a_p100, .ref a_p101, .ref a_p102, .int (bq_z0 3), .int (bq_z0 4), .ref a_p103, .ref a_p104, .ref a_p105, .int (bq_z0 8), .ref a_p106, .ref a_p107, .int (bq_z0 11), .int (bq_z0 12), .int (bq_z0 13), .int (bq_z0 14), .ref a_p108, .ref a_p109, .ref a_p110, .int (bq_z0 18), .int (bq_z0 19)])), (a_p100, oA cI 140 p100_6), (a_p101, oA cI 140 bq_z0), (a_p102, oA cI 6 p102_3), (a_p103, oA cI 16 bq_z0), (a_p104, oA cI 16 bq_z0), (a_p105, oA cI 16 bq_z0), (a_p106, oA cI 16 bq_z0), (a_p107, oA cI 80 bq_z0), (a_p108, oA cI 17 bq_z0), (a_p109, oA cI 17 bq_z0), (a_p110, oA cI 17 bq_z0)]) E K w hA (kX8_rests l D cI cJ a_t a_p104 a_p103 a_p105 a_p100 a_p100 a_p101 a_p102 a_p106 a_p107 a_p108 a_p109 a_p110 bq_z0 bq_z0 bq_z0 bq_z0 p100_5 p100_6 hC) (bq_gV ml_X8_43 im_X8_rests sl_X8_rests in_X8 cd_X8_rests) hd_X8_rests ⟨Nat.le_of_ble_eq_true rfl, Nat.le_of_ble_eq_true rfl⟩ ⟨Nat.le_of_ble_eq_true rfl, Nat.le_of_ble_eq_true rfl⟩ ⟨[0, 5, 4, 6, 1], [2, 3, 7, 8, 9, 10, 11], [7, 11, 0, 1, 9, 8, 10, 2, 3, 4, 5, 6], rfl, rfl, rfl, rfl, rfl, rfl, rfl, rfl, rfl⟩ 0 rfl rfl rfl hl.1 rfl (Nat.le_of_ble_eq_true rfl) rfl dX8_init_134 (fun H locs w => bq_z ⟨rfl, rfl⟩ ?_)
    clear hC
    obtain ⟨rfl, rfl, rfl, rfl, rfl, rfl, rfl, rfl, rfl, rfl, rfl, rfl⟩ := bq_in12 (Option.some.inj hm)
    exact bq_cret E w hr hk dX8_init_137 hQ ⟨a_p100, a_p101, a_p102, a_p103, a_p104, a_p105, a_p106, a_p107, a_p108, a_p109, a_p110, rfl⟩
  clear hm
  have L96 : ∀ (nn : Nat) (i1 : Int32) (p102_2 : Nat → Int32) (H : Heap) (locs : List Loc) (ls : Array Slot), bq_lp B nn (i1, p102_2) = some p102_3 → bq_w D A s.heap ([(a_t, .inr (8, [.ref a_p100, .ref a_p101, .ref a_p102, .int (bq_z0 3), .int (bq_z0 4), .ref a_p103, .ref a_p104, .ref a_p105, .int (bq_z0 8), .ref a_p106, .ref a_p107, .int (bq_z0 11), .int (bq_z0 12), .int (bq_z0 13), .int (bq_z0 14), .ref a_p108, .ref a_p109, .ref a_p110, .int (bq_z0 18), .int (bq_z0 19)])), (a_p100, oA cI 140 bq_z0), (a_p101, oA cI 140 bq_z0), (a_p102, oA cI 6 p102_2), (a_p103, oA cI 16 bq_z0), (a_p104, oA cI 16 bq_z0), (a_p105, oA cI 16 bq_z0), (a_p106, oA cI 16 bq_z0), (a_p107, oA cI 80 bq_z0), (a_p108, oA cI 17 bq_z0), (a_p109, oA cI 17 bq_z0), (a_p110, oA cI 17 bq_z0)]) H locs → lv_has ls 2 [(0, .ref a_t), (1, .int i1)] → W p l e rmX8_init s m av9 below meth c H locs 11 481 Q (F0 m 96 ls []) := by
    intro nn
    induction nn with
    | zero =>
      intro i1 p102_2 H locs ls hL w hl
      exact bq_lp_0 hL
    | succ nn ih =>
      intro i1 p102_2 H locs ls hL w hl
      obtain ⟨oo96, hT96, hR96⟩ := bq_lp_el hL
      clear hL
      replace hT96 := bq_u2_el eB hT96
      unfold bX8_init_96 at hT96
      refine lv_iload_n hx hb dX8_init_96 rfl (lv_at hl 1 rfl) ?_
      refine lv_bipush (v := 6) hx hb dX8_init_97 (by decide) ?_
      refine lv_icmp_ge (tgt := 115) hx hb dX8_init_99 (by decide) (fun hc => ?_) (fun hc => ?_)
      · replace hT96 := bq_t hc hT96
        clear hc
        obtain rfl := Option.some.inj hT96
        replace hR96 := bq_lk_r hR96
        subst hR96
        exact X115 H locs ls w (lv_sub hl [0] rfl)
      · replace hT96 := bq_f hc hT96
        clear hc
        refine lv_aload_n hx hb dX8_init_102 rfl (lv_at hl 0 rfl) ?_
        refine gt_X8_16 E K w 0 rfl rfl dX8_init_103 ?_
        refine lv_iload_n hx hb dX8_init_106 rfl (lv_at hl 1 rfl) ?_
        refine lv_iconst (v := 3) hx hb dX8_init_107 (by decide) ?_
        obtain ⟨hI, hT96⟩ := bq_ci_el hT96
        obtain ⟨p102_7, e9, hT96⟩ := bq_let_el hT96
        refine bq_ast E K w 3 rfl hI dX8_init_108 (fun H locs w => ?_)
        replace w : bq_w D A s.heap ([(a_t, .inr (8, [.ref a_p100, .ref a_p101, .ref a_p102, .int (bq_z0 3), .int (bq_z0 4), .ref a_p103, .ref a_p104, .ref a_p105, .int (bq_z0 8), .ref a_p106, .ref a_p107, .int (bq_z0 11), .int (bq_z0 12), .int (bq_z0 13), .int (bq_z0 14), .ref a_p108, .ref a_p109, .ref a_p110, .int (bq_z0 18), .int (bq_z0 19)])), (a_p100, oA cI 140 bq_z0), (a_p101, oA cI 140 bq_z0), (a_p102, oA cI 6 p102_7), (a_p103, oA cI 16 bq_z0), (a_p104, oA cI 16 bq_z0), (a_p105, oA cI 16 bq_z0), (a_p106, oA cI 16 bq_z0), (a_p107, oA cI 80 bq_z0), (a_p108, oA cI 17 bq_z0), (a_p109, oA cI 17 bq_z0), (a_p110, oA cI 17 bq_z0)]) H locs := by rw [e9]; exact w
        clear e9
        obtain ⟨v8, e9, hT96⟩ := bq_let_el hT96
        refine lv_iinc (v := v8) (lv' := [(1, .int v8), (0, .ref a_t)]) hx hb dX8_init_109 hl (k := 1) rfl (by rw [e9]; rfl) (by decide) rfl (fun ls hl => ?_)
        clear e9
        refine lv_goto (tgt := 96) hx hb dX8_init_112 (by decide) ?_
        obtain rfl := Option.some.inj hT96
        exact ih v8 p102_7 H locs ls hR96 w (lv_sub hl [1, 0] rfl)
  exact L96 nn 0 bq_z0 H locs ls hL w (lv_sub hl [1, 0] rfl)
