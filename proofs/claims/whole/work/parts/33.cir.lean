abbrev wdX0_switchAllOff (cI : ClassId) (a_t : Nat) (t : Nat → Int32) : va_W := [(a_t, oX0 t)]
abbrev rmX0_switchAllOff : Room := { frames := 0, cells := 0, slots := 0, locals := 0 }
theorem hd_X0_switchAllOff : yX0_switchAllOff.cls = RX0 ∧ yX0_switchAllOff.cls ≠ "java/lang/invoke/MethodHandle" ∧ yX0_switchAllOff.cls ≠ "java/lang/invoke/VarHandle" ∧ (parseMethodDescriptor yX0_switchAllOff.desc).map (fun d => d.parameters.length) = some 0 := by decide +kernel
set_option maxHeartbeats 4000000 in
set_option maxRecDepth 100000 in
theorem kX0_switchAllOff (l : Launch) (D : va_G) (cI cJ : ClassId) (a_t : Nat) (t : Nat → Int32) (t_o : Nat → Int32) (hm : mX0_switchAllOff t = some t_o) : bq_M l D cI cJ yX0_switchAllOff cX0_switchAllOff 1 none rmX0_switchAllOff [.ref a_t] (wdX0_switchAllOff cI a_t t) (wdX0_switchAllOff cI a_t t_o) none := by
  refine bq_start (by decide) (Nat.le_of_ble_eq_true rfl) ?_
  intro p e s m av9 below meth c A ls Q H locs E K w hA hr hk hn hQ hl
  have E : bq_E p m c cX0_switchAllOff 1 s av9 RX0 := E
  have hx := E.1
  have hb := E.2.1
  have hl : lv_has ls 1 [(0, .ref a_t)] := hl
  unfold mX0_switchAllOff at hm
  refine lv_aload_n hx hb dX0_switchAllOff_0 rfl (lv_at hl 0 rfl) ?_
  refine lv_iconst (v := 0) hx hb dX0_switchAllOff_1 (by decide) ?_
  obtain ⟨t_1, e9, hm⟩ := bq_let_el hm
  refine pt_X0_26 E K w 0 rfl (Nat.le_of_ble_eq_true rfl) dX0_switchAllOff_2 (fun H locs w => ?_)
  replace w : bq_w D A s.heap (wdX0_switchAllOff cI a_t t_1) H locs := by rw [e9]; exact w
  clear e9
  refine lv_aload_n hx hb dX0_switchAllOff_5 rfl (lv_at hl 0 rfl) ?_
  refine lv_iconst (v := 0) hx hb dX0_switchAllOff_6 (by decide) ?_
  obtain ⟨t_2, e9, hm⟩ := bq_let_el hm
  refine pt_X0_33 E K w 0 rfl (Nat.le_of_ble_eq_true rfl) dX0_switchAllOff_7 (fun H locs w => ?_)
  replace w : bq_w D A s.heap (wdX0_switchAllOff cI a_t t_2) H locs := by rw [e9]; exact w
  clear e9
  refine lv_aload_n hx hb dX0_switchAllOff_10 rfl (lv_at hl 0 rfl) ?_
  refine lv_iconst (v := 0) hx hb dX0_switchAllOff_11 (by decide) ?_
  obtain ⟨t_3, e9, hm⟩ := bq_let_el hm
  refine pt_X0_59 E K w 0 rfl (Nat.le_of_ble_eq_true rfl) dX0_switchAllOff_12 (fun H locs w => ?_)
  replace w : bq_w D A s.heap (wdX0_switchAllOff cI a_t t_3) H locs := by rw [e9]; exact w
  clear e9
  obtain rfl := Option.some.inj hm
  exact bq_vret E w hr hk dX0_switchAllOff_15 hQ
abbrev wdX0_reset (cI : ClassId) (a_t a_p1 u_p1_plus u_p1_minus u_p1_pauses u_p1_outBefore u_p1_cuts u_p1_groupOfStep : Nat) (t : Nat → Int32) (p1 : Nat → Int32) : va_W := [(a_t, oX0 t), (a_p1, oX5 u_p1_plus u_p1_minus u_p1_pauses u_p1_outBefore u_p1_cuts u_p1_groupOfStep p1)]
abbrev rmX0_reset : Room := { frames := 1, cells := 0, slots := 0, locals := 20 }
theorem hd_X0_reset : yX0_reset.cls = RX0 ∧ yX0_reset.cls ≠ "java/lang/invoke/MethodHandle" ∧ yX0_reset.cls ≠ "java/lang/invoke/VarHandle" ∧ (parseMethodDescriptor yX0_reset.desc).map (fun d => d.parameters.length) = some 1 := by decide +kernel
set_option maxHeartbeats 4000000 in
set_option maxRecDepth 100000 in
theorem kX0_reset (l : Launch) (D : va_G) (cI cJ : ClassId) (a_t a_p1 u_p1_plus u_p1_minus u_p1_pauses u_p1_outBefore u_p1_cuts u_p1_groupOfStep : Nat) (t p1 : Nat → Int32) (t_o : Nat → Int32) (hm : mX0_reset t p1 = some t_o) : bq_M l D cI cJ yX0_reset cX0_reset 2 none rmX0_reset [.ref a_t, .ref a_p1] (wdX0_reset cI a_t a_p1 u_p1_plus u_p1_minus u_p1_pauses u_p1_outBefore u_p1_cuts u_p1_groupOfStep t p1) (wdX0_reset cI a_t a_p1 u_p1_plus u_p1_minus u_p1_pauses u_p1_outBefore u_p1_cuts u_p1_groupOfStep t_o p1) none := by
  refine bq_start (by decide) (Nat.le_of_ble_eq_true rfl) ?_
  intro p e s m av9 below meth c A ls Q H locs E K w hA hr hk hn hQ hl
  have E : bq_E p m c cX0_reset 2 s av9 RX0 := E
  have hx := E.1
  have hb := E.2.1
  have hl : lv_has ls 2 [(0, .ref a_t), (1, .ref a_p1)] := hl
  unfold mX0_reset at hm
  refine lv_aload_n hx hb dX0_reset_0 rfl (lv_at hl 0 rfl) ?_
  refine lv_aload_n hx hb dX0_reset_1 rfl (lv_at hl 0 rfl) ?_
  refine gt_X0_9 E K w 0 rfl rfl dX0_reset_2 ?_
  refine lv_iconst (v := 1) hx hb dX0_reset_5 (by decide) ?_
  obtain ⟨v1, hT19, hm⟩ := bq_let_el hm
  have K19 : ∀ (H : Heap) (locs : List Loc) (ls : Array Slot), bq_w D A s.heap (wdX0_reset cI a_t a_p1 u_p1_plus u_p1_minus u_p1_pauses u_p1_outBefore u_p1_cuts u_p1_groupOfStep t p1) H locs → lv_has ls 2 [(0, .ref a_t)] → W p l e rmX0_reset s m av9 below meth c H locs 0 0 Q (F0 m 19 ls [.int v1, .ref a_t]) := by
    intro H locs ls w hl
    obtain ⟨t_2, e9, hm⟩ := bq_let_el hm
    refine pt_X0_15 E K w 0 rfl (Nat.le_of_ble_eq_true rfl) dX0_reset_19 (fun H locs w => ?_)
    replace w : bq_w D A s.heap (wdX0_reset cI a_t a_p1 u_p1_plus u_p1_minus u_p1_pauses u_p1_outBefore u_p1_cuts u_p1_groupOfStep t_2 p1) H locs := by rw [e9]; exact w
    clear e9
    refine lv_aload_n hx hb dX0_reset_22 rfl (lv_at hl 0 rfl) ?_
    obtain ⟨t_3, hC, hm⟩ := bq_bd_el hm
    refine bq_V (As := []) (rest := []) (st1 := []) (ws' := wdX0_reset cI a_t a_p1 u_p1_plus u_p1_minus u_p1_pauses u_p1_outBefore u_p1_cuts u_p1_groupOfStep t_3 p1) E K w hA (kX0_switchAllOff l D cI cJ a_t t_2 t_3 hC) (bq_gV ml_X0_23 im_X0_switchAllOff sl_X0_switchAllOff in_X0 cd_X0_switchAllOff) hd_X0_switchAllOff ⟨Nat.le_of_ble_eq_true rfl, Nat.le_of_ble_eq_true rfl⟩ ⟨Nat.le_of_ble_eq_true rfl, Nat.le_of_ble_eq_true rfl⟩ ⟨[0], [1], [1, 0], rfl, rfl, rfl, rfl, rfl, rfl, rfl, rfl, rfl⟩ 0 rfl rfl rfl hl.1 rfl (Nat.le_of_ble_eq_true rfl) rfl dX0_reset_23 (fun H locs w => bq_z ⟨rfl, rfl⟩ ?_)
    clear hC
    obtain rfl := Option.some.inj hm
    exact bq_vret E w hr hk dX0_reset_26 hQ
  clear hm
  refine lv_icmp_ne (tgt := 18) hx hb dX0_reset_6 (by decide) (fun hc => ?_) (fun hc => ?_)
  · replace hT19 := bq_ef hc hT19
    clear hc
    refine lv_iconst (v := (-1)) hx hb dX0_reset_18 (by decide) ?_
    subst hT19
    exact K19 H locs ls w (lv_sub hl [0] rfl)
  · replace hT19 := bq_et hc hT19
    clear hc
    refine lv_aload_n hx hb dX0_reset_9 rfl (lv_at hl 1 rfl) ?_
    refine gt_X0_18 E K w 1 rfl rfl dX0_reset_10 ?_
    refine lv_iconst (v := 1) hx hb dX0_reset_13 (by decide) ?_
    refine lv_isub hx hb dX0_reset_14 ?_
    refine lv_goto (tgt := 19) hx hb dX0_reset_15 (by decide) ?_
    subst hT19
    exact K19 H locs ls w (lv_sub hl [0] rfl)
abbrev wdX0_commandsOf (cI : ClassId) (a_t : Nat) (t : Nat → Int32) : va_W := [(a_t, oX0 t)]
abbrev rmX0_commandsOf : Room := { frames := 1, cells := 0, slots := 0, locals := 21 }
theorem hd_X0_commandsOf : yX0_commandsOf.cls = RX0 ∧ yX0_commandsOf.cls ≠ "java/lang/invoke/MethodHandle" ∧ yX0_commandsOf.cls ≠ "java/lang/invoke/VarHandle" ∧ (parseMethodDescriptor yX0_commandsOf.desc).map (fun d => d.parameters.length) = some 1 := by decide +kernel
set_option maxHeartbeats 4000000 in
set_option maxRecDepth 100000 in
theorem kX0_commandsOf (l : Launch) (D : va_G) (cI cJ : ClassId) (a_t : Nat) (t : Nat → Int32) (x1 : Int32) (r : Int32) (hm : mX0_commandsOf t x1 = some r) : bq_M l D cI cJ yX0_commandsOf cX0_commandsOf 2 (some .int) rmX0_commandsOf [.ref a_t, .int x1] (wdX0_commandsOf cI a_t t) (wdX0_commandsOf cI a_t t) (some (.int r)) := by
  refine bq_start (by decide) (Nat.le_of_ble_eq_true rfl) ?_
  intro p e s m av9 below meth c A ls Q H locs E K w hA hr hk hn hQ hl
  have E : bq_E p m c cX0_commandsOf 2 s av9 RX0 := E
  have hx := E.1
  have hb := E.2.1
  have hl : lv_has ls 2 [(0, .ref a_t), (1, .int x1)] := hl
  unfold mX0_commandsOf at hm
  refine lv_aload_n hx hb dX0_commandsOf_0 rfl (lv_at hl 0 rfl) ?_
  refine gt_X0_26 E K w 0 rfl rfl dX0_commandsOf_1 ?_
  refine lv_iload_n hx hb dX0_commandsOf_4 rfl (lv_at hl 1 rfl) ?_
  obtain ⟨v1, hC, hm⟩ := bq_bd_el hm
  refine bq_SN0 (As := [.int (t 2), .int x1]) (rest := []) (st1 := [.int v1]) E K w hA (kX7_holds l D cI cJ (t 2) x1 v1 hC) cd_X7_holds mn_X0_29 in_X7 st_X7_holds hs_X7_holds ⟨Nat.le_of_ble_eq_true rfl, Nat.le_of_ble_eq_true rfl⟩ ⟨Nat.le_of_ble_eq_true rfl, Nat.le_of_ble_eq_true rfl⟩ rfl hl.1 rfl (Nat.le_of_ble_eq_true rfl) rfl dX0_commandsOf_5 (fun H locs w => bq_z ⟨rfl, rfl⟩ ?_)
  clear hC
  obtain ⟨v2, hT16, hm⟩ := bq_let_el hm
  have K16 : ∀ (H : Heap) (locs : List Loc) (ls : Array Slot), bq_w D A s.heap (wdX0_commandsOf cI a_t t) H locs → lv_has ls 2 [(0, .ref a_t), (1, .int x1)] → W p l e rmX0_commandsOf s m av9 below meth c H locs 0 0 Q (F0 m 16 ls [.int v2]) := by
    intro H locs ls w hl
    refine lv_aload_n hx hb dX0_commandsOf_16 rfl (lv_at hl 0 rfl) ?_
    refine gt_X0_33 E K w 0 rfl rfl dX0_commandsOf_17 ?_
    refine lv_iload_n hx hb dX0_commandsOf_20 rfl (lv_at hl 1 rfl) ?_
    obtain ⟨v3, hC, hm⟩ := bq_bd_el hm
    refine bq_SN0 (As := [.int (t 3), .int x1]) (rest := [.int v2]) (st1 := [.int v3, .int v2]) E K w hA (kX7_holds l D cI cJ (t 3) x1 v3 hC) cd_X7_holds mn_X0_29 in_X7 st_X7_holds hs_X7_holds ⟨Nat.le_of_ble_eq_true rfl, Nat.le_of_ble_eq_true rfl⟩ ⟨Nat.le_of_ble_eq_true rfl, Nat.le_of_ble_eq_true rfl⟩ rfl hl.1 rfl (Nat.le_of_ble_eq_true rfl) rfl dX0_commandsOf_21 (fun H locs w => bq_z ⟨rfl, rfl⟩ ?_)
    clear hC
    obtain ⟨v4, hT32, hm⟩ := bq_let_el hm
    have K32 : ∀ (H : Heap) (locs : List Loc) (ls : Array Slot), bq_w D A s.heap (wdX0_commandsOf cI a_t t) H locs → lv_has ls 2 [] → W p l e rmX0_commandsOf s m av9 below meth c H locs 0 0 Q (F0 m 32 ls [.int v4, .int v2]) := by
      intro H locs ls w hl
      refine lv_iadd hx hb dX0_commandsOf_32 ?_
      obtain rfl := Option.some.inj hm
      exact bq_iret E w hr hk dX0_commandsOf_33 hQ
    clear hm
    refine lv_if_eq (tgt := 31) hx hb dX0_commandsOf_24 (by decide) (fun hc => ?_) (fun hc => ?_)
    · replace hT32 := bq_et hc hT32
      clear hc
      refine lv_iconst (v := 0) hx hb dX0_commandsOf_31 (by decide) ?_
      subst hT32
      exact K32 H locs ls w (lv_sub hl [] rfl)
    · replace hT32 := bq_ef hc hT32
      clear hc
      refine lv_iconst (v := 2) hx hb dX0_commandsOf_27 (by decide) ?_
      refine lv_goto (tgt := 32) hx hb dX0_commandsOf_28 (by decide) ?_
      subst hT32
      exact K32 H locs ls w (lv_sub hl [] rfl)
  clear hm
  refine lv_if_eq (tgt := 15) hx hb dX0_commandsOf_8 (by decide) (fun hc => ?_) (fun hc => ?_)
  · replace hT16 := bq_et hc hT16
    clear hc
    refine lv_iconst (v := 0) hx hb dX0_commandsOf_15 (by decide) ?_
    subst hT16
    exact K16 H locs ls w (lv_sub hl [0, 1] rfl)
  · replace hT16 := bq_ef hc hT16
    clear hc
    refine lv_iconst (v := 1) hx hb dX0_commandsOf_11 (by decide) ?_
    refine lv_goto (tgt := 16) hx hb dX0_commandsOf_12 (by decide) ?_
    subst hT16
    exact K16 H locs ls w (lv_sub hl [0, 1] rfl)
abbrev wdX0_readySteps (cI : ClassId) (a_p1 u_p1_plus u_p1_minus u_p1_pauses u_p1_outBefore u_p1_cuts u_p1_groupOfStep : Nat) (p1 : Nat → Int32) : va_W := [(a_p1, oX5 u_p1_plus u_p1_minus u_p1_pauses u_p1_outBefore u_p1_cuts u_p1_groupOfStep p1)]
abbrev rmX0_readySteps : Room := { frames := 1, cells := 0, slots := 0, locals := 21 }
theorem hd_X0_readySteps : yX0_readySteps.cls = RX0 ∧ yX0_readySteps.cls ≠ "java/lang/invoke/MethodHandle" ∧ yX0_readySteps.cls ≠ "java/lang/invoke/VarHandle" ∧ (parseMethodDescriptor yX0_readySteps.desc).map (fun d => d.parameters.length) = some 3 := by decide +kernel
set_option maxHeartbeats 4000000 in
set_option maxRecDepth 100000 in
theorem kX0_readySteps (l : Launch) (D : va_G) (cI cJ : ClassId) (a_p1 u_p1_plus u_p1_minus u_p1_pauses u_p1_outBefore u_p1_cuts u_p1_groupOfStep u_t : Nat) (p1 : Nat → Int32) (x2 : Int32) (x3 : Int32) (r : Int32) (hm : mX0_readySteps p1 x2 x3 = some r) : bq_M l D cI cJ yX0_readySteps cX0_readySteps 5 (some .int) rmX0_readySteps [.ref u_t, .ref a_p1, .int x2, .int x3] (wdX0_readySteps cI a_p1 u_p1_plus u_p1_minus u_p1_pauses u_p1_outBefore u_p1_cuts u_p1_groupOfStep p1) (wdX0_readySteps cI a_p1 u_p1_plus u_p1_minus u_p1_pauses u_p1_outBefore u_p1_cuts u_p1_groupOfStep p1) (some (.int r)) := by
  refine bq_start (by decide) (Nat.le_of_ble_eq_true rfl) ?_
  intro p e s m av9 below meth c A ls Q H locs E K w hA hr hk hn hQ hl
  have E : bq_E p m c cX0_readySteps 5 s av9 RX0 := E
  have hx := E.1
  have hb := E.2.1
  have hl : lv_has ls 5 [(0, .ref u_t), (1, .ref a_p1), (2, .int x2), (3, .int x3)] := hl
  unfold mX0_readySteps at hm
  refine lv_iload_n hx hb dX0_readySteps_0 rfl (lv_at hl 3 rfl) ?_
  obtain ⟨v1, hT21, hm⟩ := bq_bd_el hm
  have K21 : ∀ (H : Heap) (locs : List Loc) (ls : Array Slot), bq_w D A s.heap (wdX0_readySteps cI a_p1 u_p1_plus u_p1_minus u_p1_pauses u_p1_outBefore u_p1_cuts u_p1_groupOfStep p1) H locs → lv_has ls 5 [(2, .int x2)] → W p l e rmX0_readySteps s m av9 below meth c H locs 0 0 Q (F0 m 21 ls [.int v1]) := by
    intro H locs ls w hl
    refine lv_istore (lv' := [(4, .int v1), (2, .int x2)]) hx hb dX0_readySteps_21 hl (by decide) rfl (fun ls hl => ?_)
    refine lv_iload_n hx hb dX0_readySteps_23 rfl (lv_at hl 1 rfl) ?_
    refine lv_iconst (v := 1) hx hb dX0_readySteps_24 (by decide) ?_
    refine lv_ishl hx hb dX0_readySteps_25 ?_
    refine lv_iload hx hb dX0_readySteps_26 (lv_at hl 0 rfl) ?_
    obtain ⟨v4, hT36, hm⟩ := bq_let_el hm
    have K36 : ∀ (H : Heap) (locs : List Loc) (ls : Array Slot), bq_w D A s.heap (wdX0_readySteps cI a_p1 u_p1_plus u_p1_minus u_p1_pauses u_p1_outBefore u_p1_cuts u_p1_groupOfStep p1) H locs → lv_has ls 5 [] → W p l e rmX0_readySteps s m av9 below meth c H locs 0 0 Q (F0 m 36 ls [.int v4, .int (x2 <<< (1 &&& 31))]) := by
      intro H locs ls w hl
      refine lv_ior hx hb dX0_readySteps_36 ?_
      obtain rfl := Option.some.inj hm
      exact bq_iret E w hr hk dX0_readySteps_37 hQ
    clear hm
    refine lv_if_eq (tgt := 35) hx hb dX0_readySteps_28 (by decide) (fun hc => ?_) (fun hc => ?_)
    · replace hT36 := bq_et hc hT36
      clear hc
      refine lv_iconst (v := 0) hx hb dX0_readySteps_35 (by decide) ?_
      subst hT36
      exact K36 H locs ls w (lv_sub hl [] rfl)
    · replace hT36 := bq_ef hc hT36
      clear hc
      refine lv_iconst (v := 1) hx hb dX0_readySteps_31 (by decide) ?_
      refine lv_goto (tgt := 36) hx hb dX0_readySteps_32 (by decide) ?_
      subst hT36
      exact K36 H locs ls w (lv_sub hl [] rfl)
  clear hm
  refine lv_if_eq (tgt := 20) hx hb dX0_readySteps_1 (by decide) (fun hc => ?_) (fun hc => ?_)
  · replace hT21 := bq_t hc hT21
    clear hc
    refine lv_iconst (v := 0) hx hb dX0_readySteps_20 (by decide) ?_
    obtain rfl := Option.some.inj hT21
    exact K21 H locs ls w (lv_sub hl [2] rfl)
  · replace hT21 := bq_f hc hT21
    clear hc
    refine lv_iload_n hx hb dX0_readySteps_4 rfl (lv_at hl 2 rfl) ?_
    refine lv_aload_n hx hb dX0_readySteps_5 rfl (lv_at hl 1 rfl) ?_
    refine lv_iconst (v := 0) hx hb dX0_readySteps_6 (by decide) ?_
    obtain ⟨v2, hC, hT21⟩ := bq_bd_el hT21
    refine bq_V (As := [.int 0]) (rest := [.int x2]) (st1 := [.int v2, .int x2]) (ws' := wdX0_readySteps cI a_p1 u_p1_plus u_p1_minus u_p1_pauses u_p1_outBefore u_p1_cuts u_p1_groupOfStep p1) E K w hA (kX5_stepBefore l D cI cJ a_p1 u_p1_plus u_p1_minus u_p1_pauses u_p1_outBefore u_p1_cuts u_p1_groupOfStep p1 0 v2 hC) (bq_gV ml_X0_55 im_X5_stepBefore sl_X5_stepBefore in_X5 cd_X5_stepBefore) hd_X5_stepBefore ⟨Nat.le_of_ble_eq_true rfl, Nat.le_of_ble_eq_true rfl⟩ ⟨Nat.le_of_ble_eq_true rfl, Nat.le_of_ble_eq_true rfl⟩ ⟨[0], [], [0], rfl, rfl, rfl, rfl, rfl, rfl, rfl, rfl, rfl⟩ 0 rfl rfl rfl hl.1 rfl (Nat.le_of_ble_eq_true rfl) rfl dX0_readySteps_7 (fun H locs w => bq_z ⟨rfl, rfl⟩ ?_)
    clear hC
    obtain ⟨v3, hC, hT21⟩ := bq_bd_el hT21
    refine bq_SN0 (As := [.int x2, .int v2]) (rest := []) (st1 := [.int v3]) E K w hA (kX7_holds l D cI cJ x2 v2 v3 hC) cd_X7_holds mn_X0_29 in_X7 st_X7_holds hs_X7_holds ⟨Nat.le_of_ble_eq_true rfl, Nat.le_of_ble_eq_true rfl⟩ ⟨Nat.le_of_ble_eq_true rfl, Nat.le_of_ble_eq_true rfl⟩ rfl hl.1 rfl (Nat.le_of_ble_eq_true rfl) rfl dX0_readySteps_10 (fun H locs w => bq_z ⟨rfl, rfl⟩ ?_)
    clear hC
    refine lv_if_eq (tgt := 20) hx hb dX0_readySteps_13 (by decide) (fun hc => ?_) (fun hc => ?_)
    · replace hT21 := bq_t hc hT21
      clear hc
      refine lv_iconst (v := 0) hx hb dX0_readySteps_20 (by decide) ?_
      obtain rfl := Option.some.inj hT21
      exact K21 H locs ls w (lv_sub hl [2] rfl)
    · replace hT21 := bq_f hc hT21
      clear hc
      refine lv_iconst (v := 1) hx hb dX0_readySteps_16 (by decide) ?_
      refine lv_goto (tgt := 21) hx hb dX0_readySteps_17 (by decide) ?_
      obtain rfl := Option.some.inj hT21
      exact K21 H locs ls w (lv_sub hl [2] rfl)
abbrev wdX0_switchOn (cI : ClassId) (a_t a_p1 a_p1_minus a_p1_pauses a_p1_plus u_p1_outBefore u_p1_cuts u_p1_groupOfStep : Nat) (t : Nat → Int32) (p1 : Nat → Int32) (p1_minus : Nat → Int32) (p1_pauses : Nat → Int32) (p1_plus : Nat → Int32) : va_W := [(a_t, oX0 t), (a_p1, oX5 a_p1_plus a_p1_minus a_p1_pauses u_p1_outBefore u_p1_cuts u_p1_groupOfStep p1), (a_p1_minus, oA cI 16 p1_minus), (a_p1_pauses, oA cI 16 p1_pauses), (a_p1_plus, oA cI 16 p1_plus)]
abbrev rmX0_switchOn : Room := { frames := 0, cells := 0, slots := 0, locals := 0 }
theorem hd_X0_switchOn : yX0_switchOn.cls = RX0 ∧ yX0_switchOn.cls ≠ "java/lang/invoke/MethodHandle" ∧ yX0_switchOn.cls ≠ "java/lang/invoke/VarHandle" ∧ (parseMethodDescriptor yX0_switchOn.desc).map (fun d => d.parameters.length) = some 2 := by decide +kernel
set_option maxHeartbeats 4000000 in
set_option maxRecDepth 100000 in
theorem kX0_switchOn (l : Launch) (D : va_G) (cI cJ : ClassId) (a_t a_p1 a_p1_minus a_p1_pauses a_p1_plus u_p1_outBefore u_p1_cuts u_p1_groupOfStep : Nat) (t p1 p1_minus p1_pauses p1_plus : Nat → Int32) (x2 : Int32) (t_o : Nat → Int32) (hm : mX0_switchOn t p1_minus p1_pauses p1_plus x2 = some t_o) : bq_M l D cI cJ yX0_switchOn cX0_switchOn 3 none rmX0_switchOn [.ref a_t, .ref a_p1, .int x2] (wdX0_switchOn cI a_t a_p1 a_p1_minus a_p1_pauses a_p1_plus u_p1_outBefore u_p1_cuts u_p1_groupOfStep t p1 p1_minus p1_pauses p1_plus) (wdX0_switchOn cI a_t a_p1 a_p1_minus a_p1_pauses a_p1_plus u_p1_outBefore u_p1_cuts u_p1_groupOfStep t_o p1 p1_minus p1_pauses p1_plus) none := by
  refine bq_start (by decide) (Nat.le_of_ble_eq_true rfl) ?_
  intro p e s m av9 below meth c A ls Q H locs E K w hA hr hk hn hQ hl
  have E : bq_E p m c cX0_switchOn 3 s av9 RX0 := E
  have hx := E.1
  have hb := E.2.1
  have hl : lv_has ls 3 [(0, .ref a_t), (1, .ref a_p1), (2, .int x2)] := hl
  unfold mX0_switchOn at hm
  refine lv_aload_n hx hb dX0_switchOn_0 rfl (lv_at hl 0 rfl) ?_
  refine lv_dup hx hb dX0_switchOn_1 rfl ?_
  refine gt_X0_26 E K w 0 rfl rfl dX0_switchOn_2 ?_
  refine lv_aload_n hx hb dX0_switchOn_5 rfl (lv_at hl 1 rfl) ?_
  refine gt_X0_62 E K w 1 rfl rfl dX0_switchOn_6 ?_
  refine lv_iload_n hx hb dX0_switchOn_9 rfl (lv_at hl 2 rfl) ?_
  obtain ⟨hI, hm⟩ := bq_ci_el hm
  refine bq_ald E K w 4 rfl hI dX0_switchOn_10 ?_
  refine lv_ior hx hb dX0_switchOn_11 ?_
  obtain ⟨t_1, e9, hm⟩ := bq_let_el hm
  refine pt_X0_26 E K w 0 rfl (Nat.le_of_ble_eq_true rfl) dX0_switchOn_12 (fun H locs w => ?_)
  replace w : bq_w D A s.heap (wdX0_switchOn cI a_t a_p1 a_p1_minus a_p1_pauses a_p1_plus u_p1_outBefore u_p1_cuts u_p1_groupOfStep t_1 p1 p1_minus p1_pauses p1_plus) H locs := by rw [e9]; exact w
  clear e9
  refine lv_aload_n hx hb dX0_switchOn_15 rfl (lv_at hl 0 rfl) ?_
  refine lv_dup hx hb dX0_switchOn_16 rfl ?_
  refine gt_X0_33 E K w 0 rfl rfl dX0_switchOn_17 ?_
  refine lv_aload_n hx hb dX0_switchOn_20 rfl (lv_at hl 1 rfl) ?_
  refine gt_X0_66 E K w 1 rfl rfl dX0_switchOn_21 ?_
  refine lv_iload_n hx hb dX0_switchOn_24 rfl (lv_at hl 2 rfl) ?_
  obtain ⟨hI, hm⟩ := bq_ci_el hm
  refine bq_ald E K w 2 rfl hI dX0_switchOn_25 ?_
  refine lv_ior hx hb dX0_switchOn_26 ?_
  obtain ⟨t_2, e9, hm⟩ := bq_let_el hm
  refine pt_X0_33 E K w 0 rfl (Nat.le_of_ble_eq_true rfl) dX0_switchOn_27 (fun H locs w => ?_)
  replace w : bq_w D A s.heap (wdX0_switchOn cI a_t a_p1 a_p1_minus a_p1_pauses a_p1_plus u_p1_outBefore u_p1_cuts u_p1_groupOfStep t_2 p1 p1_minus p1_pauses p1_plus) H locs := by rw [e9]; exact w
  clear e9
  refine lv_aload_n hx hb dX0_switchOn_30 rfl (lv_at hl 1 rfl) ?_
  refine gt_X0_69 E K w 1 rfl rfl dX0_switchOn_31 ?_
  refine lv_iload_n hx hb dX0_switchOn_34 rfl (lv_at hl 2 rfl) ?_
  obtain ⟨hI, hm⟩ := bq_ci_el hm
  refine bq_ald E K w 3 rfl hI dX0_switchOn_35 ?_
  obtain ⟨t_3, hT51, hm⟩ := bq_bd_el hm
  have K51 : ∀ (H : Heap) (locs : List Loc) (ls : Array Slot), bq_w D A s.heap (wdX0_switchOn cI a_t a_p1 a_p1_minus a_p1_pauses a_p1_plus u_p1_outBefore u_p1_cuts u_p1_groupOfStep t_3 p1 p1_minus p1_pauses p1_plus) H locs → lv_has ls 3 [] → W p l e rmX0_switchOn s m av9 below meth c H locs 0 0 Q (F0 m 51 ls []) := by
    intro H locs ls w hl
    obtain rfl := Option.some.inj hm
    exact bq_vret E w hr hk dX0_switchOn_51 hQ
  clear hm
  refine lv_if_le (tgt := 51) hx hb dX0_switchOn_36 (by decide) (fun hc => ?_) (fun hc => ?_)
  · replace hT51 := bq_t hc hT51
    clear hc
    obtain rfl := Option.some.inj hT51
    exact K51 H locs ls w (lv_sub hl [] rfl)
  · replace hT51 := bq_f hc hT51
    clear hc
    refine lv_aload_n hx hb dX0_switchOn_39 rfl (lv_at hl 0 rfl) ?_
    refine lv_dup hx hb dX0_switchOn_40 rfl ?_
    refine gt_X0_59 E K w 0 rfl rfl dX0_switchOn_41 ?_
    refine lv_iconst (v := 1) hx hb dX0_switchOn_44 (by decide) ?_
    refine lv_iload_n hx hb dX0_switchOn_45 rfl (lv_at hl 2 rfl) ?_
    refine lv_ishl hx hb dX0_switchOn_46 ?_
    refine lv_ior hx hb dX0_switchOn_47 ?_
    obtain ⟨t_4, e9, hT51⟩ := bq_let_el hT51
    refine pt_X0_59 E K w 0 rfl (Nat.le_of_ble_eq_true rfl) dX0_switchOn_48 (fun H locs w => ?_)
    replace w : bq_w D A s.heap (wdX0_switchOn cI a_t a_p1 a_p1_minus a_p1_pauses a_p1_plus u_p1_outBefore u_p1_cuts u_p1_groupOfStep t_4 p1 p1_minus p1_pauses p1_plus) H locs := by rw [e9]; exact w
    clear e9
    obtain rfl := Option.some.inj hT51
    exact K51 H locs ls w (lv_sub hl [] rfl)
abbrev wdX0_decideDirect (cI : ClassId) (a_t a_p1 a_p1_minus a_p1_pauses a_p1_plus u_p1_outBefore u_p1_cuts u_p1_groupOfStep : Nat) (t : Nat → Int32) (p1 : Nat → Int32) (p1_minus : Nat → Int32) (p1_pauses : Nat → Int32) (p1_plus : Nat → Int32) : va_W := [(a_t, oX0 t), (a_p1, oX5 a_p1_plus a_p1_minus a_p1_pauses u_p1_outBefore u_p1_cuts u_p1_groupOfStep p1), (a_p1_minus, oA cI 16 p1_minus), (a_p1_pauses, oA cI 16 p1_pauses), (a_p1_plus, oA cI 16 p1_plus)]
abbrev rmX0_decideDirect : Room := { frames := 1, cells := 0, slots := 0, locals := 22 }
theorem hd_X0_decideDirect : yX0_decideDirect.cls = RX0 ∧ yX0_decideDirect.cls ≠ "java/lang/invoke/MethodHandle" ∧ yX0_decideDirect.cls ≠ "java/lang/invoke/VarHandle" ∧ (parseMethodDescriptor yX0_decideDirect.desc).map (fun d => d.parameters.length) = some 2 := by decide +kernel
set_option maxHeartbeats 4000000 in
set_option maxRecDepth 100000 in
theorem kX0_decideDirect (l : Launch) (D : va_G) (cI cJ : ClassId) (a_t a_p1 a_p1_minus a_p1_pauses a_p1_plus u_p1_outBefore u_p1_cuts u_p1_groupOfStep : Nat) (t p1 p1_minus p1_pauses p1_plus : Nat → Int32) (x2 : Int32) (t_o : Nat → Int32) (hm : mX0_decideDirect t p1 p1_minus p1_pauses p1_plus x2 = some t_o) : bq_M l D cI cJ yX0_decideDirect cX0_decideDirect 4 none rmX0_decideDirect [.ref a_t, .ref a_p1, .int x2] (wdX0_decideDirect cI a_t a_p1 a_p1_minus a_p1_pauses a_p1_plus u_p1_outBefore u_p1_cuts u_p1_groupOfStep t p1 p1_minus p1_pauses p1_plus) (wdX0_decideDirect cI a_t a_p1 a_p1_minus a_p1_pauses a_p1_plus u_p1_outBefore u_p1_cuts u_p1_groupOfStep t_o p1 p1_minus p1_pauses p1_plus) none := by
  refine bq_start (by decide) (Nat.le_of_ble_eq_true rfl) ?_
  intro p e s m av9 below meth c A ls Q H locs E K w hA hr hk hn hQ hl
  have E : bq_E p m c cX0_decideDirect 4 s av9 RX0 := E
  have hx := E.1
  have hb := E.2.1
  have hl : lv_has ls 4 [(0, .ref a_t), (1, .ref a_p1), (2, .int x2)] := hl
  unfold mX0_decideDirect at hm
  refine lv_iconst (v := 0) hx hb dX0_decideDirect_0 (by decide) ?_
  refine lv_istore_n (lv' := [(3, .int 0), (0, .ref a_t), (1, .ref a_p1), (2, .int x2)]) hx hb dX0_decideDirect_1 rfl hl (by decide) rfl (fun ls hl => ?_)
  obtain ⟨t_3, hL, hm⟩ := bq_bd_el hm
  obtain ⟨B, eB, nn, hL⟩ := bq_loop_B hL
  have X30 : ∀ (H : Heap) (locs : List Loc) (ls : Array Slot), bq_w D A s.heap (wdX0_decideDirect cI a_t a_p1 a_p1_minus a_p1_pauses a_p1_plus u_p1_outBefore u_p1_cuts u_p1_groupOfStep t_3 p1 p1_minus p1_pauses p1_plus) H locs → lv_has ls 4 [] → W p l e rmX0_decideDirect s m av9 below meth c H locs 0 0 Q (F0 m 30 ls []) := by
    intro H locs ls w hl
    obtain rfl := Option.some.inj hm
    exact bq_vret E w hr hk dX0_decideDirect_30 hQ
  clear hm
  have L2 : ∀ (nn : Nat) (i1 : Int32) (t_2 : Nat → Int32) (H : Heap) (locs : List Loc) (ls : Array Slot), bq_lp B nn (i1, t_2) = some t_3 → bq_w D A s.heap (wdX0_decideDirect cI a_t a_p1 a_p1_minus a_p1_pauses a_p1_plus u_p1_outBefore u_p1_cuts u_p1_groupOfStep t_2 p1 p1_minus p1_pauses p1_plus) H locs → lv_has ls 4 [(0, .ref a_t), (1, .ref a_p1), (2, .int x2), (3, .int i1)] → W p l e rmX0_decideDirect s m av9 below meth c H locs 0 0 Q (F0 m 2 ls []) := by
    intro nn
    induction nn with
    | zero =>
      intro i1 t_2 H locs ls hL w hl
      exact bq_lp_0 hL
    | succ nn ih =>
      intro i1 t_2 H locs ls hL w hl
      obtain ⟨oo2, hT2, hR2⟩ := bq_lp_el hL
      clear hL
      replace hT2 := bq_u2_el eB hT2
      unfold bX0_decideDirect_2 at hT2
      refine lv_iload_n hx hb dX0_decideDirect_2 rfl (lv_at hl 3 rfl) ?_
      refine lv_aload_n hx hb dX0_decideDirect_3 rfl (lv_at hl 1 rfl) ?_
      refine gt_X0_72 E K w 1 rfl rfl dX0_decideDirect_4 ?_
      refine lv_icmp_ge (tgt := 30) hx hb dX0_decideDirect_7 (by decide) (fun hc => ?_) (fun hc => ?_)
      · replace hT2 := bq_t hc hT2
        clear hc
        obtain rfl := Option.some.inj hT2
        replace hR2 := bq_lk_r hR2
        subst hR2
        exact X30 H locs ls w (lv_sub hl [] rfl)
      · replace hT2 := bq_f hc hT2
        clear hc
        refine lv_iload_n hx hb dX0_decideDirect_10 rfl (lv_at hl 2 rfl) ?_
        refine lv_iload_n hx hb dX0_decideDirect_11 rfl (lv_at hl 3 rfl) ?_
        obtain ⟨v4, hC, hT2⟩ := bq_bd_el hT2
        refine bq_SN0 (As := [.int x2, .int i1]) (rest := []) (st1 := [.int v4]) E K w hA (kX7_holds l D cI cJ x2 i1 v4 hC) cd_X7_holds mn_X0_29 in_X7 st_X7_holds hs_X7_holds ⟨Nat.le_of_ble_eq_true rfl, Nat.le_of_ble_eq_true rfl⟩ ⟨Nat.le_of_ble_eq_true rfl, Nat.le_of_ble_eq_true rfl⟩ rfl hl.1 rfl (Nat.le_of_ble_eq_true rfl) rfl dX0_decideDirect_12 (fun H locs w => bq_z ⟨rfl, rfl⟩ ?_)
        clear hC
        obtain ⟨t_5, hT24, hT2⟩ := bq_bd_el hT2
        have K24 : ∀ (H : Heap) (locs : List Loc) (ls : Array Slot), bq_w D A s.heap (wdX0_decideDirect cI a_t a_p1 a_p1_minus a_p1_pauses a_p1_plus u_p1_outBefore u_p1_cuts u_p1_groupOfStep t_5 p1 p1_minus p1_pauses p1_plus) H locs → lv_has ls 4 [(0, .ref a_t), (1, .ref a_p1), (2, .int x2), (3, .int i1)] → W p l e rmX0_decideDirect s m av9 below meth c H locs 0 0 Q (F0 m 24 ls []) := by
          intro H locs ls w hl
          obtain ⟨v7, e9, hT2⟩ := bq_let_el hT2
          refine lv_iinc (v := v7) (lv' := [(3, .int v7), (0, .ref a_t), (1, .ref a_p1), (2, .int x2)]) hx hb dX0_decideDirect_24 hl (k := 3) rfl (by rw [e9]; rfl) (by decide) rfl (fun ls hl => ?_)
          clear e9
          refine lv_goto (tgt := 2) hx hb dX0_decideDirect_27 (by decide) ?_
          obtain rfl := Option.some.inj hT2
          exact ih v7 t_5 H locs ls hR2 w (lv_sub hl [1, 2, 3, 0] rfl)
        clear hT2
        refine lv_if_eq (tgt := 24) hx hb dX0_decideDirect_15 (by decide) (fun hc => ?_) (fun hc => ?_)
        · replace hT24 := bq_t hc hT24
          clear hc
          obtain rfl := Option.some.inj hT24
          exact K24 H locs ls w (lv_sub hl [0, 1, 2, 3] rfl)
        · replace hT24 := bq_f hc hT24
          clear hc
          refine lv_aload_n hx hb dX0_decideDirect_18 rfl (lv_at hl 0 rfl) ?_
          refine lv_aload_n hx hb dX0_decideDirect_19 rfl (lv_at hl 1 rfl) ?_
          refine lv_iload_n hx hb dX0_decideDirect_20 rfl (lv_at hl 3 rfl) ?_
          obtain ⟨t_6, hC, hT24⟩ := bq_bd_el hT24
          refine bq_V (As := [.ref a_p1, .int i1]) (rest := []) (st1 := []) (ws' := wdX0_decideDirect cI a_t a_p1 a_p1_minus a_p1_pauses a_p1_plus u_p1_outBefore u_p1_cuts u_p1_groupOfStep t_6 p1 p1_minus p1_pauses p1_plus) E K w hA (kX0_switchOn l D cI cJ a_t a_p1 a_p1_minus a_p1_pauses a_p1_plus u_p1_outBefore u_p1_cuts u_p1_groupOfStep t_2 p1 p1_minus p1_pauses p1_plus i1 t_6 hC) (bq_gV ml_X0_75 im_X0_switchOn sl_X0_switchOn in_X0 cd_X0_switchOn) hd_X0_switchOn ⟨Nat.le_of_ble_eq_true rfl, Nat.le_of_ble_eq_true rfl⟩ ⟨Nat.le_of_ble_eq_true rfl, Nat.le_of_ble_eq_true rfl⟩ ⟨[0, 1, 2, 3, 4], [], [0, 1, 2, 3, 4], rfl, rfl, rfl, rfl, rfl, rfl, rfl, rfl, rfl⟩ 0 rfl rfl rfl hl.1 rfl (Nat.le_of_ble_eq_true rfl) rfl dX0_decideDirect_21 (fun H locs w => bq_z ⟨rfl, rfl⟩ ?_)
          clear hC
          obtain rfl := Option.some.inj hT24
          exact K24 H locs ls w (lv_sub hl [0, 1, 2, 3] rfl)
  exact L2 nn 0 t H locs ls hL w (lv_sub hl [1, 2, 3, 0] rfl)
abbrev wdX0_decideCascade (cI : ClassId) (a_t a_p1 a_p1_cuts a_p1_groupOfStep a_p1_minus a_p1_pauses a_p1_plus u_p1_outBefore : Nat) (t : Nat → Int32) (p1 : Nat → Int32) (p1_cuts : Nat → Int32) (p1_groupOfStep : Nat → Int32) (p1_minus : Nat → Int32) (p1_pauses : Nat → Int32) (p1_plus : Nat → Int32) : va_W := [(a_t, oX0 t), (a_p1, oX5 a_p1_plus a_p1_minus a_p1_pauses u_p1_outBefore a_p1_cuts a_p1_groupOfStep p1), (a_p1_cuts, oA cI 16 p1_cuts), (a_p1_groupOfStep, oA cI 16 p1_groupOfStep), (a_p1_minus, oA cI 16 p1_minus), (a_p1_pauses, oA cI 16 p1_pauses), (a_p1_plus, oA cI 16 p1_plus)]
abbrev rmX0_decideCascade : Room := { frames := 1, cells := 0, slots := 0, locals := 22 }
theorem hd_X0_decideCascade : yX0_decideCascade.cls = RX0 ∧ yX0_decideCascade.cls ≠ "java/lang/invoke/MethodHandle" ∧ yX0_decideCascade.cls ≠ "java/lang/invoke/VarHandle" ∧ (parseMethodDescriptor yX0_decideCascade.desc).map (fun d => d.parameters.length) = some 2 := by decide +kernel
set_option maxHeartbeats 4000000 in
set_option maxRecDepth 100000 in
theorem kX0_decideCascade (l : Launch) (D : va_G) (cI cJ : ClassId) (a_t a_p1 a_p1_cuts a_p1_groupOfStep a_p1_minus a_p1_pauses a_p1_plus u_p1_outBefore : Nat) (t p1 p1_cuts p1_groupOfStep p1_minus p1_pauses p1_plus : Nat → Int32) (x2 : Int32) (t_o : Nat → Int32) (hm : mX0_decideCascade t p1 p1_cuts p1_groupOfStep p1_minus p1_pauses p1_plus x2 = some t_o) : bq_M l D cI cJ yX0_decideCascade cX0_decideCascade 6 none rmX0_decideCascade [.ref a_t, .ref a_p1, .int x2] (wdX0_decideCascade cI a_t a_p1 a_p1_cuts a_p1_groupOfStep a_p1_minus a_p1_pauses a_p1_plus u_p1_outBefore t p1 p1_cuts p1_groupOfStep p1_minus p1_pauses p1_plus) (wdX0_decideCascade cI a_t a_p1 a_p1_cuts a_p1_groupOfStep a_p1_minus a_p1_pauses a_p1_plus u_p1_outBefore t_o p1 p1_cuts p1_groupOfStep p1_minus p1_pauses p1_plus) none := by
  refine bq_start (by decide) (Nat.le_of_ble_eq_true rfl) ?_
  intro p e s m av9 below meth c A ls Q H locs E K w hA hr hk hn hQ hl
  have E : bq_E p m c cX0_decideCascade 6 s av9 RX0 := E
  have hx := E.1
  have hb := E.2.1
  have hl : lv_has ls 6 [(0, .ref a_t), (1, .ref a_p1), (2, .int x2)] := hl
  unfold mX0_decideCascade at hm
  refine lv_aload_n hx hb dX0_decideCascade_0 rfl (lv_at hl 0 rfl) ?_
  refine gt_X0_15 E K w 0 rfl rfl dX0_decideCascade_1 ?_
  refine lv_iconst (v := 1) hx hb dX0_decideCascade_4 (by decide) ?_
  refine lv_iadd hx hb dX0_decideCascade_5 ?_
  refine lv_aload_n hx hb dX0_decideCascade_6 rfl (lv_at hl 1 rfl) ?_
  refine gt_X0_18 E K w 1 rfl rfl dX0_decideCascade_7 ?_
  obtain ⟨v1, hT23, hm⟩ := bq_let_el hm
  have K23 : ∀ (H : Heap) (locs : List Loc) (ls : Array Slot), bq_w D A s.heap (wdX0_decideCascade cI a_t a_p1 a_p1_cuts a_p1_groupOfStep a_p1_minus a_p1_pauses a_p1_plus u_p1_outBefore t p1 p1_cuts p1_groupOfStep p1_minus p1_pauses p1_plus) H locs → lv_has ls 6 [(0, .ref a_t), (1, .ref a_p1), (2, .int x2)] → W p l e rmX0_decideCascade s m av9 below meth c H locs 0 0 Q (F0 m 23 ls [.int v1]) := by
    intro H locs ls w hl
    refine lv_istore_n (lv' := [(3, .int v1), (0, .ref a_t), (1, .ref a_p1), (2, .int x2)]) hx hb dX0_decideCascade_23 rfl hl (by decide) rfl (fun ls hl => ?_)
    refine lv_iload_n hx hb dX0_decideCascade_24 rfl (lv_at hl 3 rfl) ?_
    refine lv_aload_n hx hb dX0_decideCascade_25 rfl (lv_at hl 2 rfl) ?_
    refine lv_iload_n hx hb dX0_decideCascade_26 rfl (lv_at hl 0 rfl) ?_
    obtain ⟨v2, hC, hm⟩ := bq_bd_el hm
    refine bq_V (As := [.int v1]) (rest := [.int x2]) (st1 := [.int v2, .int x2]) (ws' := wdX0_decideCascade cI a_t a_p1 a_p1_cuts a_p1_groupOfStep a_p1_minus a_p1_pauses a_p1_plus u_p1_outBefore t p1 p1_cuts p1_groupOfStep p1_minus p1_pauses p1_plus) E K w hA (kX5_firstStepOf l D cI cJ a_p1 a_p1_cuts a_p1_plus a_p1_minus a_p1_pauses u_p1_outBefore a_p1_groupOfStep p1 p1_cuts v1 v2 hC) (bq_gV ml_X0_78 im_X5_firstStepOf sl_X5_firstStepOf in_X5 cd_X5_firstStepOf) hd_X5_firstStepOf ⟨Nat.le_of_ble_eq_true rfl, Nat.le_of_ble_eq_true rfl⟩ ⟨Nat.le_of_ble_eq_true rfl, Nat.le_of_ble_eq_true rfl⟩ ⟨[1, 2], [0, 3, 4, 5, 6], [0, 5, 6, 1, 2, 3, 4], rfl, rfl, rfl, rfl, rfl, rfl, rfl, rfl, rfl⟩ 1 rfl rfl rfl hl.1 rfl (Nat.le_of_ble_eq_true rfl) rfl dX0_decideCascade_27 (fun H locs w => bq_z ⟨rfl, rfl⟩ ?_)
    clear hC
    obtain ⟨v3, hC, hm⟩ := bq_bd_el hm
    refine bq_SN0 (As := [.int x2, .int v2]) (rest := []) (st1 := [.int v3]) E K w hA (kX7_holds l D cI cJ x2 v2 v3 hC) cd_X7_holds mn_X0_29 in_X7 st_X7_holds hs_X7_holds ⟨Nat.le_of_ble_eq_true rfl, Nat.le_of_ble_eq_true rfl⟩ ⟨Nat.le_of_ble_eq_true rfl, Nat.le_of_ble_eq_true rfl⟩ rfl hl.1 rfl (Nat.le_of_ble_eq_true rfl) rfl dX0_decideCascade_30 (fun H locs w => bq_z ⟨rfl, rfl⟩ ?_)
    clear hC
    obtain ⟨t_4, hT41, hm⟩ := bq_bd_el hm
    have K41 : ∀ (H : Heap) (locs : List Loc) (ls : Array Slot), bq_w D A s.heap (wdX0_decideCascade cI a_t a_p1 a_p1_cuts a_p1_groupOfStep a_p1_minus a_p1_pauses a_p1_plus u_p1_outBefore t_4 p1 p1_cuts p1_groupOfStep p1_minus p1_pauses p1_plus) H locs → lv_has ls 6 [(0, .ref a_t), (1, .ref a_p1), (2, .int x2)] → W p l e rmX0_decideCascade s m av9 below meth c H locs 0 0 Q (F0 m 41 ls []) := by
      intro H locs ls w hl
      refine lv_aload_n hx hb dX0_decideCascade_41 rfl (lv_at hl 1 rfl) ?_
      refine lv_aload_n hx hb dX0_decideCascade_42 rfl (lv_at hl 0 rfl) ?_
      refine gt_X0_15 E K w 0 rfl rfl dX0_decideCascade_43 ?_
      obtain ⟨v6, hC, hm⟩ := bq_bd_el hm
      refine bq_V (As := [.int (t_4 1)]) (rest := []) (st1 := [.int v6]) (ws' := wdX0_decideCascade cI a_t a_p1 a_p1_cuts a_p1_groupOfStep a_p1_minus a_p1_pauses a_p1_plus u_p1_outBefore t_4 p1 p1_cuts p1_groupOfStep p1_minus p1_pauses p1_plus) E K w hA (kX5_firstStepOf l D cI cJ a_p1 a_p1_cuts a_p1_plus a_p1_minus a_p1_pauses u_p1_outBefore a_p1_groupOfStep p1 p1_cuts (t_4 1) v6 hC) (bq_gV ml_X0_78 im_X5_firstStepOf sl_X5_firstStepOf in_X5 cd_X5_firstStepOf) hd_X5_firstStepOf ⟨Nat.le_of_ble_eq_true rfl, Nat.le_of_ble_eq_true rfl⟩ ⟨Nat.le_of_ble_eq_true rfl, Nat.le_of_ble_eq_true rfl⟩ ⟨[1, 2], [0, 3, 4, 5, 6], [0, 5, 6, 1, 2, 3, 4], rfl, rfl, rfl, rfl, rfl, rfl, rfl, rfl, rfl⟩ 1 rfl rfl rfl hl.1 rfl (Nat.le_of_ble_eq_true rfl) rfl dX0_decideCascade_46 (fun H locs w => bq_z ⟨rfl, rfl⟩ ?_)
      clear hC
      refine lv_istore (lv' := [(4, .int v6), (0, .ref a_t), (1, .ref a_p1), (2, .int x2)]) hx hb dX0_decideCascade_49 hl (by decide) rfl (fun ls hl => ?_)
      refine lv_iconst (v := 0) hx hb dX0_decideCascade_51 (by decide) ?_
      refine lv_istore (lv' := [(5, .int 0), (4, .int v6), (0, .ref a_t), (1, .ref a_p1), (2, .int x2)]) hx hb dX0_decideCascade_52 hl (by decide) rfl (fun ls hl => ?_)
      obtain ⟨t_9, hL, hm⟩ := bq_bd_el hm
      obtain ⟨B, eB, nn, hL⟩ := bq_loop_B hL
      have X106 : ∀ (H : Heap) (locs : List Loc) (ls : Array Slot), bq_w D A s.heap (wdX0_decideCascade cI a_t a_p1 a_p1_cuts a_p1_groupOfStep a_p1_minus a_p1_pauses a_p1_plus u_p1_outBefore t_9 p1 p1_cuts p1_groupOfStep p1_minus p1_pauses p1_plus) H locs → lv_has ls 6 [] → W p l e rmX0_decideCascade s m av9 below meth c H locs 0 0 Q (F0 m 106 ls []) := by
        intro H locs ls w hl
        obtain rfl := Option.some.inj hm
        exact bq_vret E w hr hk dX0_decideCascade_106 hQ
      clear hm
      have L54 : ∀ (nn : Nat) (i7 : Int32) (t_8 : Nat → Int32) (H : Heap) (locs : List Loc) (ls : Array Slot), bq_lp B nn (i7, t_8) = some t_9 → bq_w D A s.heap (wdX0_decideCascade cI a_t a_p1 a_p1_cuts a_p1_groupOfStep a_p1_minus a_p1_pauses a_p1_plus u_p1_outBefore t_8 p1 p1_cuts p1_groupOfStep p1_minus p1_pauses p1_plus) H locs → lv_has ls 6 [(0, .ref a_t), (1, .ref a_p1), (2, .int x2), (4, .int v6), (5, .int i7)] → W p l e rmX0_decideCascade s m av9 below meth c H locs 0 0 Q (F0 m 54 ls []) := by
        intro nn
        induction nn with
        | zero =>
          intro i7 t_8 H locs ls hL w hl
          exact bq_lp_0 hL
        | succ nn ih =>
          intro i7 t_8 H locs ls hL w hl
          obtain ⟨oo54, hT54, hR54⟩ := bq_lp_el hL
          clear hL
          replace hT54 := bq_u2_el eB hT54
          unfold bX0_decideCascade_54 at hT54
          refine lv_iload hx hb dX0_decideCascade_54 (lv_at hl 4 rfl) ?_
          refine lv_aload_n hx hb dX0_decideCascade_56 rfl (lv_at hl 1 rfl) ?_
          refine gt_X0_72 E K w 1 rfl rfl dX0_decideCascade_57 ?_
          refine lv_icmp_ge (tgt := 106) hx hb dX0_decideCascade_60 (by decide) (fun hc => ?_) (fun hc => ?_)
          · replace hT54 := bq_t hc hT54
            clear hc
            obtain rfl := Option.some.inj hT54
            replace hR54 := bq_lk_r hR54
            subst hR54
            exact X106 H locs ls w (lv_sub hl [] rfl)
          · replace hT54 := bq_f hc hT54
            clear hc
            refine lv_aload_n hx hb dX0_decideCascade_63 rfl (lv_at hl 1 rfl) ?_
            refine gt_X0_81 E K w 1 rfl rfl dX0_decideCascade_64 ?_
            refine lv_iload hx hb dX0_decideCascade_67 (lv_at hl 4 rfl) ?_
            obtain ⟨hI, hT54⟩ := bq_ci_el hT54
            refine bq_ald E K w 3 rfl hI dX0_decideCascade_69 ?_
            refine lv_aload_n hx hb dX0_decideCascade_70 rfl (lv_at hl 0 rfl) ?_
            refine gt_X0_15 E K w 0 rfl rfl dX0_decideCascade_71 ?_
            obtain ⟨t_10, hT100, hT54⟩ := bq_bd_el hT54
            have K100 : ∀ (H : Heap) (locs : List Loc) (ls : Array Slot), bq_w D A s.heap (wdX0_decideCascade cI a_t a_p1 a_p1_cuts a_p1_groupOfStep a_p1_minus a_p1_pauses a_p1_plus u_p1_outBefore t_10 p1 p1_cuts p1_groupOfStep p1_minus p1_pauses p1_plus) H locs → lv_has ls 6 [(0, .ref a_t), (1, .ref a_p1), (2, .int x2), (4, .int v6), (5, .int i7)] → W p l e rmX0_decideCascade s m av9 below meth c H locs 0 0 Q (F0 m 100 ls []) := by
              intro H locs ls w hl
              obtain ⟨v14, e9, hT54⟩ := bq_let_el hT54
              refine lv_iinc (v := v14) (lv' := [(5, .int v14), (0, .ref a_t), (1, .ref a_p1), (2, .int x2), (4, .int v6)]) hx hb dX0_decideCascade_100 hl (k := 4) rfl (by rw [e9]; rfl) (by decide) rfl (fun ls hl => ?_)
              clear e9
              refine lv_goto (tgt := 54) hx hb dX0_decideCascade_103 (by decide) ?_
              obtain rfl := Option.some.inj hT54
              exact ih v14 t_10 H locs ls hR54 w (lv_sub hl [1, 2, 3, 4, 0] rfl)
            clear hT54
            refine lv_icmp_ne (tgt := 100) hx hb dX0_decideCascade_74 (by decide) (fun hc => ?_) (fun hc => ?_)
            · replace hT100 := bq_f hc hT100
              clear hc
              obtain rfl := Option.some.inj hT100
              exact K100 H locs ls w (lv_sub hl [0, 1, 2, 3, 4] rfl)
            · replace hT100 := bq_t hc hT100
              clear hc
              refine lv_iload hx hb dX0_decideCascade_77 (lv_at hl 4 rfl) ?_
              refine lv_iload hx hb dX0_decideCascade_79 (lv_at hl 3 rfl) ?_
              refine lv_icmp_eq (tgt := 93) hx hb dX0_decideCascade_81 (by decide) (fun hc => ?_) (fun hc => ?_)
              · replace hT100 := bq_t hc hT100
                clear hc
                refine lv_aload_n hx hb dX0_decideCascade_93 rfl (lv_at hl 0 rfl) ?_
                refine lv_aload_n hx hb dX0_decideCascade_94 rfl (lv_at hl 1 rfl) ?_
                refine lv_iload hx hb dX0_decideCascade_95 (lv_at hl 4 rfl) ?_
                obtain ⟨t_11, hC, hT100⟩ := bq_bd_el hT100
                refine bq_V (As := [.ref a_p1, .int i7]) (rest := []) (st1 := []) (ws' := wdX0_decideCascade cI a_t a_p1 a_p1_cuts a_p1_groupOfStep a_p1_minus a_p1_pauses a_p1_plus u_p1_outBefore t_11 p1 p1_cuts p1_groupOfStep p1_minus p1_pauses p1_plus) E K w hA (kX0_switchOn l D cI cJ a_t a_p1 a_p1_minus a_p1_pauses a_p1_plus u_p1_outBefore a_p1_cuts a_p1_groupOfStep t_8 p1 p1_minus p1_pauses p1_plus i7 t_11 hC) (bq_gV ml_X0_75 im_X0_switchOn sl_X0_switchOn in_X0 cd_X0_switchOn) hd_X0_switchOn ⟨Nat.le_of_ble_eq_true rfl, Nat.le_of_ble_eq_true rfl⟩ ⟨Nat.le_of_ble_eq_true rfl, Nat.le_of_ble_eq_true rfl⟩ ⟨[0, 1, 4, 5, 6], [2, 3], [2, 3, 0, 1, 4, 5, 6], rfl, rfl, rfl, rfl, rfl, rfl, rfl, rfl, rfl⟩ 0 rfl rfl rfl hl.1 rfl (Nat.le_of_ble_eq_true rfl) rfl dX0_decideCascade_97 (fun H locs w => bq_z ⟨rfl, rfl⟩ ?_)
                clear hC
                obtain rfl := Option.some.inj hT100
                exact K100 H locs ls w (lv_sub hl [0, 1, 2, 3, 4] rfl)
              · replace hT100 := bq_f hc hT100
                clear hc
                refine lv_iload_n hx hb dX0_decideCascade_84 rfl (lv_at hl 2 rfl) ?_
                refine lv_iload hx hb dX0_decideCascade_85 (lv_at hl 4 rfl) ?_
                obtain ⟨v12, hC, hT100⟩ := bq_bd_el hT100
                refine bq_SN0 (As := [.int x2, .int i7]) (rest := []) (st1 := [.int v12]) E K w hA (kX7_holds l D cI cJ x2 i7 v12 hC) cd_X7_holds mn_X0_29 in_X7 st_X7_holds hs_X7_holds ⟨Nat.le_of_ble_eq_true rfl, Nat.le_of_ble_eq_true rfl⟩ ⟨Nat.le_of_ble_eq_true rfl, Nat.le_of_ble_eq_true rfl⟩ rfl hl.1 rfl (Nat.le_of_ble_eq_true rfl) rfl dX0_decideCascade_87 (fun H locs w => bq_z ⟨rfl, rfl⟩ ?_)
                clear hC
                refine lv_if_eq (tgt := 100) hx hb dX0_decideCascade_90 (by decide) (fun hc => ?_) (fun hc => ?_)
                · replace hT100 := bq_t hc hT100
                  clear hc
                  obtain rfl := Option.some.inj hT100
                  exact K100 H locs ls w (lv_sub hl [0, 1, 2, 3, 4] rfl)
                · replace hT100 := bq_f hc hT100
                  clear hc
                  refine lv_aload_n hx hb dX0_decideCascade_93 rfl (lv_at hl 0 rfl) ?_
                  refine lv_aload_n hx hb dX0_decideCascade_94 rfl (lv_at hl 1 rfl) ?_
                  refine lv_iload hx hb dX0_decideCascade_95 (lv_at hl 4 rfl) ?_
                  obtain ⟨t_13, hC, hT100⟩ := bq_bd_el hT100
                  refine bq_V (As := [.ref a_p1, .int i7]) (rest := []) (st1 := []) (ws' := wdX0_decideCascade cI a_t a_p1 a_p1_cuts a_p1_groupOfStep a_p1_minus a_p1_pauses a_p1_plus u_p1_outBefore t_13 p1 p1_cuts p1_groupOfStep p1_minus p1_pauses p1_plus) E K w hA (kX0_switchOn l D cI cJ a_t a_p1 a_p1_minus a_p1_pauses a_p1_plus u_p1_outBefore a_p1_cuts a_p1_groupOfStep t_8 p1 p1_minus p1_pauses p1_plus i7 t_13 hC) (bq_gV ml_X0_75 im_X0_switchOn sl_X0_switchOn in_X0 cd_X0_switchOn) hd_X0_switchOn ⟨Nat.le_of_ble_eq_true rfl, Nat.le_of_ble_eq_true rfl⟩ ⟨Nat.le_of_ble_eq_true rfl, Nat.le_of_ble_eq_true rfl⟩ ⟨[0, 1, 4, 5, 6], [2, 3], [2, 3, 0, 1, 4, 5, 6], rfl, rfl, rfl, rfl, rfl, rfl, rfl, rfl, rfl⟩ 0 rfl rfl rfl hl.1 rfl (Nat.le_of_ble_eq_true rfl) rfl dX0_decideCascade_97 (fun H locs w => bq_z ⟨rfl, rfl⟩ ?_)
                  clear hC
                  obtain rfl := Option.some.inj hT100
                  exact K100 H locs ls w (lv_sub hl [0, 1, 2, 3, 4] rfl)
      exact L54 nn 0 t_4 H locs ls hL w (lv_sub hl [2, 3, 4, 1, 0] rfl)
    clear hm
    refine lv_if_eq (tgt := 41) hx hb dX0_decideCascade_33 (by decide) (fun hc => ?_) (fun hc => ?_)
    · replace hT41 := bq_t hc hT41
      clear hc
      obtain rfl := Option.some.inj hT41
      exact K41 H locs ls w (lv_sub hl [1, 2, 3] rfl)
    · replace hT41 := bq_f hc hT41
      clear hc
      refine lv_aload_n hx hb dX0_decideCascade_36 rfl (lv_at hl 1 rfl) ?_
      refine lv_iload_n hx hb dX0_decideCascade_37 rfl (lv_at hl 0 rfl) ?_
      obtain ⟨t_5, e9, hT41⟩ := bq_let_el hT41
      refine pt_X0_15 E K w 0 rfl (Nat.le_of_ble_eq_true rfl) dX0_decideCascade_38 (fun H locs w => ?_)
      replace w : bq_w D A s.heap (wdX0_decideCascade cI a_t a_p1 a_p1_cuts a_p1_groupOfStep a_p1_minus a_p1_pauses a_p1_plus u_p1_outBefore t_5 p1 p1_cuts p1_groupOfStep p1_minus p1_pauses p1_plus) H locs := by rw [e9]; exact w
      clear e9
      obtain rfl := Option.some.inj hT41
      exact K41 H locs ls w (lv_sub hl [1, 2, 3] rfl)
  clear hm
  refine lv_icmp_ge (tgt := 22) hx hb dX0_decideCascade_10 (by decide) (fun hc => ?_) (fun hc => ?_)
  · replace hT23 := bq_et hc hT23
    clear hc
    refine lv_iconst (v := 0) hx hb dX0_decideCascade_22 (by decide) ?_
    subst hT23
    exact K23 H locs ls w (lv_sub hl [0, 1, 2] rfl)
  · replace hT23 := bq_ef hc hT23
    clear hc
    refine lv_aload_n hx hb dX0_decideCascade_13 rfl (lv_at hl 0 rfl) ?_
    refine gt_X0_15 E K w 0 rfl rfl dX0_decideCascade_14 ?_
    refine lv_iconst (v := 1) hx hb dX0_decideCascade_17 (by decide) ?_
    refine lv_iadd hx hb dX0_decideCascade_18 ?_
    refine lv_goto (tgt := 23) hx hb dX0_decideCascade_19 (by decide) ?_
    subst hT23
    exact K23 H locs ls w (lv_sub hl [0, 1, 2] rfl)
abbrev wdX0_decideStepper (cI : ClassId) (a_t a_p1 a_p1_minus a_p1_pauses a_p1_plus u_p1_outBefore u_p1_cuts u_p1_groupOfStep : Nat) (t : Nat → Int32) (p1 : Nat → Int32) (p1_minus : Nat → Int32) (p1_pauses : Nat → Int32) (p1_plus : Nat → Int32) : va_W := [(a_t, oX0 t), (a_p1, oX5 a_p1_plus a_p1_minus a_p1_pauses u_p1_outBefore u_p1_cuts u_p1_groupOfStep p1), (a_p1_minus, oA cI 16 p1_minus), (a_p1_pauses, oA cI 16 p1_pauses), (a_p1_plus, oA cI 16 p1_plus)]
abbrev rmX0_decideStepper : Room := { frames := 1, cells := 0, slots := 0, locals := 22 }
theorem hd_X0_decideStepper : yX0_decideStepper.cls = RX0 ∧ yX0_decideStepper.cls ≠ "java/lang/invoke/MethodHandle" ∧ yX0_decideStepper.cls ≠ "java/lang/invoke/VarHandle" ∧ (parseMethodDescriptor yX0_decideStepper.desc).map (fun d => d.parameters.length) = some 3 := by decide +kernel
set_option maxHeartbeats 4000000 in
set_option maxRecDepth 100000 in
theorem kX0_decideStepper (l : Launch) (D : va_G) (cI cJ : ClassId) (a_t a_p1 a_p1_minus a_p1_pauses a_p1_plus u_p1_outBefore u_p1_cuts u_p1_groupOfStep : Nat) (t p1 p1_minus p1_pauses p1_plus : Nat → Int32) (x2 : Int32) (x3 : Int32) (t_o : Nat → Int32) (hm : mX0_decideStepper t p1 p1_minus p1_pauses p1_plus x2 x3 = some t_o) : bq_M l D cI cJ yX0_decideStepper cX0_decideStepper 4 none rmX0_decideStepper [.ref a_t, .ref a_p1, .int x2, .int x3] (wdX0_decideStepper cI a_t a_p1 a_p1_minus a_p1_pauses a_p1_plus u_p1_outBefore u_p1_cuts u_p1_groupOfStep t p1 p1_minus p1_pauses p1_plus) (wdX0_decideStepper cI a_t a_p1 a_p1_minus a_p1_pauses a_p1_plus u_p1_outBefore u_p1_cuts u_p1_groupOfStep t_o p1 p1_minus p1_pauses p1_plus) none := by
  refine bq_start (by decide) (Nat.le_of_ble_eq_true rfl) ?_
  intro p e s m av9 below meth c A ls Q H locs E K w hA hr hk hn hQ hl
  have E : bq_E p m c cX0_decideStepper 4 s av9 RX0 := E
  have hx := E.1
  have hb := E.2.1
  have hl : lv_has ls 4 [(0, .ref a_t), (1, .ref a_p1), (2, .int x2), (3, .int x3)] := hl
  unfold mX0_decideStepper at hm
  refine lv_aload_n hx hb dX0_decideStepper_0 rfl (lv_at hl 0 rfl) ?_
  refine gt_X0_15 E K w 0 rfl rfl dX0_decideStepper_1 ?_
  obtain ⟨t_1, hT61, hm⟩ := bq_bd_el hm
  have K61 : ∀ (H : Heap) (locs : List Loc) (ls : Array Slot), bq_w D A s.heap (wdX0_decideStepper cI a_t a_p1 a_p1_minus a_p1_pauses a_p1_plus u_p1_outBefore u_p1_cuts u_p1_groupOfStep t_1 p1 p1_minus p1_pauses p1_plus) H locs → lv_has ls 4 [(0, .ref a_t), (1, .ref a_p1)] → W p l e rmX0_decideStepper s m av9 below meth c H locs 0 0 Q (F0 m 61 ls []) := by
    intro H locs ls w hl
    refine lv_aload_n hx hb dX0_decideStepper_61 rfl (lv_at hl 0 rfl) ?_
    refine gt_X0_15 E K w 0 rfl rfl dX0_decideStepper_62 ?_
    obtain ⟨t_7, hT88, hm⟩ := bq_bd_el hm
    have K88 : ∀ (H : Heap) (locs : List Loc) (ls : Array Slot), bq_w D A s.heap (wdX0_decideStepper cI a_t a_p1 a_p1_minus a_p1_pauses a_p1_plus u_p1_outBefore u_p1_cuts u_p1_groupOfStep t_7 p1 p1_minus p1_pauses p1_plus) H locs → lv_has ls 4 [] → W p l e rmX0_decideStepper s m av9 below meth c H locs 0 0 Q (F0 m 88 ls []) := by
      intro H locs ls w hl
      obtain rfl := Option.some.inj hm
      exact bq_vret E w hr hk dX0_decideStepper_88 hQ
    clear hm
    refine lv_if_lt (tgt := 88) hx hb dX0_decideStepper_65 (by decide) (fun hc => ?_) (fun hc => ?_)
    · replace hT88 := bq_t hc hT88
      clear hc
      obtain rfl := Option.some.inj hT88
      exact K88 H locs ls w (lv_sub hl [] rfl)
    · replace hT88 := bq_f hc hT88
      clear hc
      refine lv_aload_n hx hb dX0_decideStepper_68 rfl (lv_at hl 0 rfl) ?_
      refine gt_X0_15 E K w 0 rfl rfl dX0_decideStepper_69 ?_
      refine lv_aload_n hx hb dX0_decideStepper_72 rfl (lv_at hl 1 rfl) ?_
      refine gt_X0_72 E K w 1 rfl rfl dX0_decideStepper_73 ?_
      refine lv_icmp_ge (tgt := 88) hx hb dX0_decideStepper_76 (by decide) (fun hc => ?_) (fun hc => ?_)
      · replace hT88 := bq_t hc hT88
        clear hc
        obtain rfl := Option.some.inj hT88
        exact K88 H locs ls w (lv_sub hl [] rfl)
      · replace hT88 := bq_f hc hT88
        clear hc
        refine lv_aload_n hx hb dX0_decideStepper_79 rfl (lv_at hl 0 rfl) ?_
        refine lv_aload_n hx hb dX0_decideStepper_80 rfl (lv_at hl 1 rfl) ?_
        refine lv_aload_n hx hb dX0_decideStepper_81 rfl (lv_at hl 0 rfl) ?_
        refine gt_X0_15 E K w 0 rfl rfl dX0_decideStepper_82 ?_
        obtain ⟨t_8, hC, hT88⟩ := bq_bd_el hT88
        refine bq_V (As := [.ref a_p1, .int (t_1 1)]) (rest := []) (st1 := []) (ws' := wdX0_decideStepper cI a_t a_p1 a_p1_minus a_p1_pauses a_p1_plus u_p1_outBefore u_p1_cuts u_p1_groupOfStep t_8 p1 p1_minus p1_pauses p1_plus) E K w hA (kX0_switchOn l D cI cJ a_t a_p1 a_p1_minus a_p1_pauses a_p1_plus u_p1_outBefore u_p1_cuts u_p1_groupOfStep t_1 p1 p1_minus p1_pauses p1_plus (t_1 1) t_8 hC) (bq_gV ml_X0_75 im_X0_switchOn sl_X0_switchOn in_X0 cd_X0_switchOn) hd_X0_switchOn ⟨Nat.le_of_ble_eq_true rfl, Nat.le_of_ble_eq_true rfl⟩ ⟨Nat.le_of_ble_eq_true rfl, Nat.le_of_ble_eq_true rfl⟩ ⟨[0, 1, 2, 3, 4], [], [0, 1, 2, 3, 4], rfl, rfl, rfl, rfl, rfl, rfl, rfl, rfl, rfl⟩ 0 rfl rfl rfl hl.1 rfl (Nat.le_of_ble_eq_true rfl) rfl dX0_decideStepper_85 (fun H locs w => bq_z ⟨rfl, rfl⟩ ?_)
        clear hC
        obtain rfl := Option.some.inj hT88
        exact K88 H locs ls w (lv_sub hl [] rfl)
  clear hm
  refine lv_if_ge (tgt := 23) hx hb dX0_decideStepper_4 (by decide) (fun hc => ?_) (fun hc => ?_)
  · replace hT61 := bq_t hc hT61
    clear hc
    refine lv_iload_n hx hb dX0_decideStepper_23 rfl (lv_at hl 2 rfl) ?_
    refine lv_aload_n hx hb dX0_decideStepper_24 rfl (lv_at hl 0 rfl) ?_
    refine gt_X0_15 E K w 0 rfl rfl dX0_decideStepper_25 ?_
    obtain ⟨v2, hC, hT61⟩ := bq_bd_el hT61
    refine bq_SN0 (As := [.int x2, .int (t 1)]) (rest := []) (st1 := [.int v2]) E K w hA (kX7_holds l D cI cJ x2 (t 1) v2 hC) cd_X7_holds mn_X0_29 in_X7 st_X7_holds hs_X7_holds ⟨Nat.le_of_ble_eq_true rfl, Nat.le_of_ble_eq_true rfl⟩ ⟨Nat.le_of_ble_eq_true rfl, Nat.le_of_ble_eq_true rfl⟩ rfl hl.1 rfl (Nat.le_of_ble_eq_true rfl) rfl dX0_decideStepper_28 (fun H locs w => bq_z ⟨rfl, rfl⟩ ?_)
    clear hC
    refine lv_if_eq (tgt := 61) hx hb dX0_decideStepper_31 (by decide) (fun hc => ?_) (fun hc => ?_)
    · replace hT61 := bq_t hc hT61
      clear hc
      obtain rfl := Option.some.inj hT61
      exact K61 H locs ls w (lv_sub hl [0, 1] rfl)
    · replace hT61 := bq_f hc hT61
      clear hc
      refine lv_aload_n hx hb dX0_decideStepper_34 rfl (lv_at hl 0 rfl) ?_
      refine lv_aload_n hx hb dX0_decideStepper_35 rfl (lv_at hl 0 rfl) ?_
      refine gt_X0_15 E K w 0 rfl rfl dX0_decideStepper_36 ?_
      refine lv_iconst (v := 1) hx hb dX0_decideStepper_39 (by decide) ?_
      refine lv_iadd hx hb dX0_decideStepper_40 ?_
      refine lv_aload_n hx hb dX0_decideStepper_41 rfl (lv_at hl 1 rfl) ?_
      refine gt_X0_72 E K w 1 rfl rfl dX0_decideStepper_42 ?_
      obtain ⟨v3, hT58, hT61⟩ := bq_let_el hT61
      have K58 : ∀ (H : Heap) (locs : List Loc) (ls : Array Slot), bq_w D A s.heap (wdX0_decideStepper cI a_t a_p1 a_p1_minus a_p1_pauses a_p1_plus u_p1_outBefore u_p1_cuts u_p1_groupOfStep t p1 p1_minus p1_pauses p1_plus) H locs → lv_has ls 4 [(0, .ref a_t), (1, .ref a_p1)] → W p l e rmX0_decideStepper s m av9 below meth c H locs 0 0 Q (F0 m 58 ls [.int v3, .ref a_t]) := by
        intro H locs ls w hl
        obtain ⟨t_4, e9, hT61⟩ := bq_let_el hT61
        refine pt_X0_15 E K w 0 rfl (Nat.le_of_ble_eq_true rfl) dX0_decideStepper_58 (fun H locs w => ?_)
        replace w : bq_w D A s.heap (wdX0_decideStepper cI a_t a_p1 a_p1_minus a_p1_pauses a_p1_plus u_p1_outBefore u_p1_cuts u_p1_groupOfStep t_4 p1 p1_minus p1_pauses p1_plus) H locs := by rw [e9]; exact w
        clear e9
        obtain rfl := Option.some.inj hT61
        exact K61 H locs ls w (lv_sub hl [0, 1] rfl)
      clear hT61
      refine lv_icmp_ge (tgt := 57) hx hb dX0_decideStepper_45 (by decide) (fun hc => ?_) (fun hc => ?_)
      · replace hT58 := bq_et hc hT58
        clear hc
        refine lv_iconst (v := (-1)) hx hb dX0_decideStepper_57 (by decide) ?_
        subst hT58
        exact K58 H locs ls w (lv_sub hl [0, 1] rfl)
      · replace hT58 := bq_ef hc hT58
        clear hc
        refine lv_aload_n hx hb dX0_decideStepper_48 rfl (lv_at hl 0 rfl) ?_
        refine gt_X0_15 E K w 0 rfl rfl dX0_decideStepper_49 ?_
        refine lv_iconst (v := 1) hx hb dX0_decideStepper_52 (by decide) ?_
        refine lv_iadd hx hb dX0_decideStepper_53 ?_
        refine lv_goto (tgt := 58) hx hb dX0_decideStepper_54 (by decide) ?_
        subst hT58
        exact K58 H locs ls w (lv_sub hl [0, 1] rfl)
  · replace hT61 := bq_f hc hT61
    clear hc
    refine lv_aload_n hx hb dX0_decideStepper_7 rfl (lv_at hl 0 rfl) ?_
    refine lv_iload_n hx hb dX0_decideStepper_8 rfl (lv_at hl 3 rfl) ?_
    obtain ⟨v5, hT17, hT61⟩ := bq_let_el hT61
    have K17 : ∀ (H : Heap) (locs : List Loc) (ls : Array Slot), bq_w D A s.heap (wdX0_decideStepper cI a_t a_p1 a_p1_minus a_p1_pauses a_p1_plus u_p1_outBefore u_p1_cuts u_p1_groupOfStep t p1 p1_minus p1_pauses p1_plus) H locs → lv_has ls 4 [(0, .ref a_t), (1, .ref a_p1)] → W p l e rmX0_decideStepper s m av9 below meth c H locs 0 0 Q (F0 m 17 ls [.int v5, .ref a_t]) := by
      intro H locs ls w hl
      obtain ⟨t_6, e9, hT61⟩ := bq_let_el hT61
      refine pt_X0_15 E K w 0 rfl (Nat.le_of_ble_eq_true rfl) dX0_decideStepper_17 (fun H locs w => ?_)
      replace w : bq_w D A s.heap (wdX0_decideStepper cI a_t a_p1 a_p1_minus a_p1_pauses a_p1_plus u_p1_outBefore u_p1_cuts u_p1_groupOfStep t_6 p1 p1_minus p1_pauses p1_plus) H locs := by rw [e9]; exact w
      clear e9
      refine lv_goto (tgt := 61) hx hb dX0_decideStepper_20 (by decide) ?_
      obtain rfl := Option.some.inj hT61
      exact K61 H locs ls w (lv_sub hl [0, 1] rfl)
    clear hT61
    refine lv_if_eq (tgt := 16) hx hb dX0_decideStepper_9 (by decide) (fun hc => ?_) (fun hc => ?_)
    · replace hT17 := bq_et hc hT17
      clear hc
      refine lv_iconst (v := (-1)) hx hb dX0_decideStepper_16 (by decide) ?_
      subst hT17
      exact K17 H locs ls w (lv_sub hl [0, 1] rfl)
    · replace hT17 := bq_ef hc hT17
      clear hc
      refine lv_iconst (v := 0) hx hb dX0_decideStepper_12 (by decide) ?_
      refine lv_goto (tgt := 17) hx hb dX0_decideStepper_13 (by decide) ?_
      subst hT17
      exact K17 H locs ls w (lv_sub hl [0, 1] rfl)
abbrev wdX0_decide (cI : ClassId) (a_t a_p1 a_p1_cuts a_p1_groupOfStep a_p1_minus a_p1_pauses a_p1_plus u_p1_outBefore : Nat) (t : Nat → Int32) (p1 : Nat → Int32) (p1_cuts : Nat → Int32) (p1_groupOfStep : Nat → Int32) (p1_minus : Nat → Int32) (p1_pauses : Nat → Int32) (p1_plus : Nat → Int32) : va_W := [(a_t, oX0 t), (a_p1, oX5 a_p1_plus a_p1_minus a_p1_pauses u_p1_outBefore a_p1_cuts a_p1_groupOfStep p1), (a_p1_cuts, oA cI 16 p1_cuts), (a_p1_groupOfStep, oA cI 16 p1_groupOfStep), (a_p1_minus, oA cI 16 p1_minus), (a_p1_pauses, oA cI 16 p1_pauses), (a_p1_plus, oA cI 16 p1_plus)]
abbrev rmX0_decide : Room := { frames := 2, cells := 0, slots := 0, locals := 47 }
theorem hd_X0_decide : yX0_decide.cls = RX0 ∧ yX0_decide.cls ≠ "java/lang/invoke/MethodHandle" ∧ yX0_decide.cls ≠ "java/lang/invoke/VarHandle" ∧ (parseMethodDescriptor yX0_decide.desc).map (fun d => d.parameters.length) = some 3 := by decide +kernel
set_option maxHeartbeats 4000000 in
set_option maxRecDepth 100000 in
theorem kX0_decide (l : Launch) (D : va_G) (cI cJ : ClassId) (a_t a_p1 a_p1_cuts a_p1_groupOfStep a_p1_minus a_p1_pauses a_p1_plus u_p1_outBefore : Nat) (t p1 p1_cuts p1_groupOfStep p1_minus p1_pauses p1_plus : Nat → Int32) (x2 : Int32) (x3 : Int32) (t_o : Nat → Int32) (hm : mX0_decide t p1 p1_cuts p1_groupOfStep p1_minus p1_pauses p1_plus x2 x3 = some t_o) : bq_M l D cI cJ yX0_decide cX0_decide 5 none rmX0_decide [.ref a_t, .ref a_p1, .int x2, .int x3] (wdX0_decide cI a_t a_p1 a_p1_cuts a_p1_groupOfStep a_p1_minus a_p1_pauses a_p1_plus u_p1_outBefore t p1 p1_cuts p1_groupOfStep p1_minus p1_pauses p1_plus) (wdX0_decide cI a_t a_p1 a_p1_cuts a_p1_groupOfStep a_p1_minus a_p1_pauses a_p1_plus u_p1_outBefore t_o p1 p1_cuts p1_groupOfStep p1_minus p1_pauses p1_plus) none := by
  refine bq_start (by decide) (Nat.le_of_ble_eq_true rfl) ?_
  intro p e s m av9 below meth c A ls Q H locs E K w hA hr hk hn hQ hl
  have E : bq_E p m c cX0_decide 5 s av9 RX0 := E
  have hx := E.1
  have hb := E.2.1
  have hl : lv_has ls 5 [(0, .ref a_t), (1, .ref a_p1), (2, .int x2), (3, .int x3)] := hl
  unfold mX0_decide at hm
  refine lv_aload_n hx hb dX0_decide_0 rfl (lv_at hl 0 rfl) ?_
  refine gt_X0_15 E K w 0 rfl rfl dX0_decide_1 ?_
  obtain ⟨v1, e9, hm⟩ := bq_let_el hm
  refine bq_nmi e9 ?_
  clear e9
  refine lv_istore (lv' := [(4, .int v1), (0, .ref a_t), (1, .ref a_p1), (2, .int x2), (3, .int x3)]) hx hb dX0_decide_4 hl (by decide) rfl (fun ls hl => ?_)
  refine lv_aload_n hx hb dX0_decide_6 rfl (lv_at hl 1 rfl) ?_
  obtain ⟨t_2, hC, hm⟩ := bq_bd_el hm
  refine bq_V (As := []) (rest := []) (st1 := []) (ws' := wdX0_decide cI a_t a_p1 a_p1_cuts a_p1_groupOfStep a_p1_minus a_p1_pauses a_p1_plus u_p1_outBefore t_2 p1 p1_cuts p1_groupOfStep p1_minus p1_pauses p1_plus) E K w hA (kX0_switchAllOff l D cI cJ a_t t t_2 hC) (bq_gV ml_X0_23 im_X0_switchAllOff sl_X0_switchAllOff in_X0 cd_X0_switchAllOff) hd_X0_switchAllOff ⟨Nat.le_of_ble_eq_true rfl, Nat.le_of_ble_eq_true rfl⟩ ⟨Nat.le_of_ble_eq_true rfl, Nat.le_of_ble_eq_true rfl⟩ ⟨[0], [1, 2, 3, 4, 5, 6], [6, 0, 1, 2, 3, 4, 5], rfl, rfl, rfl, rfl, rfl, rfl, rfl, rfl, rfl⟩ 0 rfl rfl rfl hl.1 rfl (Nat.le_of_ble_eq_true rfl) rfl dX0_decide_7 (fun H locs w => bq_z ⟨rfl, rfl⟩ ?_)
  clear hC
  refine lv_aload_n hx hb dX0_decide_10 rfl (lv_at hl 1 rfl) ?_
  refine gt_X0_9 E K w 0 rfl rfl dX0_decide_11 ?_
  obtain ⟨t_3, hT62, hm⟩ := bq_bd_el hm
  have K62 : ∀ (H : Heap) (locs : List Loc) (ls : Array Slot), bq_w D A s.heap (wdX0_decide cI a_t a_p1 a_p1_cuts a_p1_groupOfStep a_p1_minus a_p1_pauses a_p1_plus u_p1_outBefore t_3 p1 p1_cuts p1_groupOfStep p1_minus p1_pauses p1_plus) H locs → lv_has ls 5 [(0, .ref a_t), (4, .int v1)] → W p l e rmX0_decide s m av9 below meth c H locs 0 0 Q (F0 m 62 ls []) := by
    intro H locs ls w hl
    refine lv_aload_n hx hb dX0_decide_62 rfl (lv_at hl 0 rfl) ?_
    refine lv_aload_n hx hb dX0_decide_63 rfl (lv_at hl 0 rfl) ?_
    refine gt_X0_15 E K w 0 rfl rfl dX0_decide_64 ?_
    refine lv_iload hx hb dX0_decide_67 (lv_at hl 1 rfl) ?_
    obtain ⟨v9, hT77, hm⟩ := bq_let_el hm
    have K77 : ∀ (H : Heap) (locs : List Loc) (ls : Array Slot), bq_w D A s.heap (wdX0_decide cI a_t a_p1 a_p1_cuts a_p1_groupOfStep a_p1_minus a_p1_pauses a_p1_plus u_p1_outBefore t_3 p1 p1_cuts p1_groupOfStep p1_minus p1_pauses p1_plus) H locs → lv_has ls 5 [] → W p l e rmX0_decide s m av9 below meth c H locs 0 0 Q (F0 m 77 ls [.int v9, .ref a_t]) := by
      intro H locs ls w hl
      obtain ⟨hB, hm⟩ := bq_cb_el hm
      obtain ⟨t_10, e9, hm⟩ := bq_let_el hm
      refine pt_X0_51 E K w 0 rfl (Nat.le_of_ble_eq_true rfl) hB dX0_decide_77 (fun H locs w => ?_)
      replace w : bq_w D A s.heap (wdX0_decide cI a_t a_p1 a_p1_cuts a_p1_groupOfStep a_p1_minus a_p1_pauses a_p1_plus u_p1_outBefore t_10 p1 p1_cuts p1_groupOfStep p1_minus p1_pauses p1_plus) H locs := by rw [e9]; exact w
      clear e9
      obtain rfl := Option.some.inj hm
      exact bq_vret E w hr hk dX0_decide_80 hQ
    clear hm
    refine lv_icmp_eq (tgt := 76) hx hb dX0_decide_69 (by decide) (fun hc => ?_) (fun hc => ?_)
    · replace hT77 := bq_et hc hT77
      clear hc
      refine lv_iconst (v := 0) hx hb dX0_decide_76 (by decide) ?_
      subst hT77
      exact K77 H locs ls w (lv_sub hl [] rfl)
    · replace hT77 := bq_ef hc hT77
      clear hc
      refine lv_iconst (v := 1) hx hb dX0_decide_72 (by decide) ?_
      refine lv_goto (tgt := 77) hx hb dX0_decide_73 (by decide) ?_
      subst hT77
      exact K77 H locs ls w (lv_sub hl [] rfl)
  clear hm
  refine lv_if_ne (tgt := 32) hx hb dX0_decide_14 (by decide) (fun hc => ?_) (fun hc => ?_)
  · replace hT62 := bq_f hc hT62
    clear hc
    refine lv_aload_n hx hb dX0_decide_32 rfl (lv_at hl 1 rfl) ?_
    refine gt_X0_9 E K w 0 rfl rfl dX0_decide_33 ?_
    refine lv_iconst (v := 1) hx hb dX0_decide_36 (by decide) ?_
    refine lv_icmp_ne (tgt := 55) hx hb dX0_decide_37 (by decide) (fun hc => ?_) (fun hc => ?_)
    · replace hT62 := bq_f hc hT62
      clear hc
      refine lv_aload_n hx hb dX0_decide_55 rfl (lv_at hl 1 rfl) ?_
      refine lv_aload_n hx hb dX0_decide_56 rfl (lv_at hl 2 rfl) ?_
      refine lv_iload_n hx hb dX0_decide_57 rfl (lv_at hl 3 rfl) ?_
      refine lv_iload_n hx hb dX0_decide_58 rfl (lv_at hl 4 rfl) ?_
      obtain ⟨t_4, hC, hT62⟩ := bq_bd_el hT62
      refine bq_V (As := [.ref a_p1, .int x2, .int x3]) (rest := []) (st1 := []) (ws' := wdX0_decide cI a_t a_p1 a_p1_cuts a_p1_groupOfStep a_p1_minus a_p1_pauses a_p1_plus u_p1_outBefore t_4 p1 p1_cuts p1_groupOfStep p1_minus p1_pauses p1_plus) E K w hA (kX0_decideStepper l D cI cJ a_t a_p1 a_p1_minus a_p1_pauses a_p1_plus u_p1_outBefore a_p1_cuts a_p1_groupOfStep t_2 p1 p1_minus p1_pauses p1_plus x2 x3 t_4 hC) (bq_gV ml_X0_47 im_X0_decideStepper sl_X0_decideStepper in_X0 cd_X0_decideStepper) hd_X0_decideStepper ⟨Nat.le_of_ble_eq_true rfl, Nat.le_of_ble_eq_true rfl⟩ ⟨Nat.le_of_ble_eq_true rfl, Nat.le_of_ble_eq_true rfl⟩ ⟨[0, 1, 4, 5, 6], [2, 3], [2, 3, 0, 1, 4, 5, 6], rfl, rfl, rfl, rfl, rfl, rfl, rfl, rfl, rfl⟩ 0 rfl rfl rfl hl.1 rfl (Nat.le_of_ble_eq_true rfl) rfl dX0_decide_59 (fun H locs w => bq_z ⟨rfl, rfl⟩ ?_)
      clear hC
      obtain rfl := Option.some.inj hT62
      exact K62 H locs ls w (lv_sub hl [1, 0] rfl)
    · replace hT62 := bq_t hc hT62
      clear hc
      refine lv_aload_n hx hb dX0_decide_40 rfl (lv_at hl 1 rfl) ?_
      refine lv_aload_n hx hb dX0_decide_41 rfl (lv_at hl 2 rfl) ?_
      refine lv_aload_n hx hb dX0_decide_42 rfl (lv_at hl 1 rfl) ?_
      refine lv_aload_n hx hb dX0_decide_43 rfl (lv_at hl 2 rfl) ?_
      refine lv_iload_n hx hb dX0_decide_44 rfl (lv_at hl 3 rfl) ?_
      refine lv_iload_n hx hb dX0_decide_45 rfl (lv_at hl 4 rfl) ?_
      obtain ⟨v5, hC, hT62⟩ := bq_bd_el hT62
      refine bq_V (As := [.ref a_p1, .int x2, .int x3]) (rest := [.ref a_p1, .ref a_t]) (st1 := [.int v5, .ref a_p1, .ref a_t]) (ws' := wdX0_decide cI a_t a_p1 a_p1_cuts a_p1_groupOfStep a_p1_minus a_p1_pauses a_p1_plus u_p1_outBefore t_2 p1 p1_cuts p1_groupOfStep p1_minus p1_pauses p1_plus) E K w hA (kX0_readySteps l D cI cJ a_p1 a_p1_plus a_p1_minus a_p1_pauses u_p1_outBefore a_p1_cuts a_p1_groupOfStep a_t p1 x2 x3 v5 hC) (bq_gV ml_X0_36 im_X0_readySteps sl_X0_readySteps in_X0 cd_X0_readySteps) hd_X0_readySteps ⟨Nat.le_of_ble_eq_true rfl, Nat.le_of_ble_eq_true rfl⟩ ⟨Nat.le_of_ble_eq_true rfl, Nat.le_of_ble_eq_true rfl⟩ ⟨[1], [0, 2, 3, 4, 5, 6], [0, 6, 1, 2, 3, 4, 5], rfl, rfl, rfl, rfl, rfl, rfl, rfl, rfl, rfl⟩ 0 rfl rfl rfl hl.1 rfl (Nat.le_of_ble_eq_true rfl) rfl dX0_decide_46 (fun H locs w => bq_z ⟨rfl, rfl⟩ ?_)
      clear hC
      obtain ⟨t_6, hC, hT62⟩ := bq_bd_el hT62
      refine bq_V (As := [.ref a_p1, .int v5]) (rest := []) (st1 := []) (ws' := wdX0_decide cI a_t a_p1 a_p1_cuts a_p1_groupOfStep a_p1_minus a_p1_pauses a_p1_plus u_p1_outBefore t_6 p1 p1_cuts p1_groupOfStep p1_minus p1_pauses p1_plus) E K w hA (kX0_decideCascade l D cI cJ a_t a_p1 a_p1_cuts a_p1_groupOfStep a_p1_minus a_p1_pauses a_p1_plus u_p1_outBefore t_2 p1 p1_cuts p1_groupOfStep p1_minus p1_pauses p1_plus v5 t_6 hC) (bq_gV ml_X0_44 im_X0_decideCascade sl_X0_decideCascade in_X0 cd_X0_decideCascade) hd_X0_decideCascade ⟨Nat.le_of_ble_eq_true rfl, Nat.le_of_ble_eq_true rfl⟩ ⟨Nat.le_of_ble_eq_true rfl, Nat.le_of_ble_eq_true rfl⟩ ⟨[0, 1, 2, 3, 4, 5, 6], [], [0, 1, 2, 3, 4, 5, 6], rfl, rfl, rfl, rfl, rfl, rfl, rfl, rfl, rfl⟩ 0 rfl rfl rfl hl.1 rfl (Nat.le_of_ble_eq_true rfl) rfl dX0_decide_49 (fun H locs w => bq_z ⟨rfl, rfl⟩ ?_)
      clear hC
      refine lv_goto (tgt := 62) hx hb dX0_decide_52 (by decide) ?_
      obtain rfl := Option.some.inj hT62
      exact K62 H locs ls w (lv_sub hl [1, 0] rfl)
  · replace hT62 := bq_t hc hT62
    clear hc
    refine lv_aload_n hx hb dX0_decide_17 rfl (lv_at hl 1 rfl) ?_
    refine lv_aload_n hx hb dX0_decide_18 rfl (lv_at hl 2 rfl) ?_
    refine lv_aload_n hx hb dX0_decide_19 rfl (lv_at hl 1 rfl) ?_
    refine lv_aload_n hx hb dX0_decide_20 rfl (lv_at hl 2 rfl) ?_
    refine lv_iload_n hx hb dX0_decide_21 rfl (lv_at hl 3 rfl) ?_
    refine lv_iload_n hx hb dX0_decide_22 rfl (lv_at hl 4 rfl) ?_
    obtain ⟨v7, hC, hT62⟩ := bq_bd_el hT62
    refine bq_V (As := [.ref a_p1, .int x2, .int x3]) (rest := [.ref a_p1, .ref a_t]) (st1 := [.int v7, .ref a_p1, .ref a_t]) (ws' := wdX0_decide cI a_t a_p1 a_p1_cuts a_p1_groupOfStep a_p1_minus a_p1_pauses a_p1_plus u_p1_outBefore t_2 p1 p1_cuts p1_groupOfStep p1_minus p1_pauses p1_plus) E K w hA (kX0_readySteps l D cI cJ a_p1 a_p1_plus a_p1_minus a_p1_pauses u_p1_outBefore a_p1_cuts a_p1_groupOfStep a_t p1 x2 x3 v7 hC) (bq_gV ml_X0_36 im_X0_readySteps sl_X0_readySteps in_X0 cd_X0_readySteps) hd_X0_readySteps ⟨Nat.le_of_ble_eq_true rfl, Nat.le_of_ble_eq_true rfl⟩ ⟨Nat.le_of_ble_eq_true rfl, Nat.le_of_ble_eq_true rfl⟩ ⟨[1], [0, 2, 3, 4, 5, 6], [0, 6, 1, 2, 3, 4, 5], rfl, rfl, rfl, rfl, rfl, rfl, rfl, rfl, rfl⟩ 0 rfl rfl rfl hl.1 rfl (Nat.le_of_ble_eq_true rfl) rfl dX0_decide_23 (fun H locs w => bq_z ⟨rfl, rfl⟩ ?_)
    clear hC
    obtain ⟨t_8, hC, hT62⟩ := bq_bd_el hT62
    refine bq_V (As := [.ref a_p1, .int v7]) (rest := []) (st1 := []) (ws' := wdX0_decide cI a_t a_p1 a_p1_cuts a_p1_groupOfStep a_p1_minus a_p1_pauses a_p1_plus u_p1_outBefore t_8 p1 p1_cuts p1_groupOfStep p1_minus p1_pauses p1_plus) E K w hA (kX0_decideDirect l D cI cJ a_t a_p1 a_p1_minus a_p1_pauses a_p1_plus u_p1_outBefore a_p1_cuts a_p1_groupOfStep t_2 p1 p1_minus p1_pauses p1_plus v7 t_8 hC) (bq_gV ml_X0_40 im_X0_decideDirect sl_X0_decideDirect in_X0 cd_X0_decideDirect) hd_X0_decideDirect ⟨Nat.le_of_ble_eq_true rfl, Nat.le_of_ble_eq_true rfl⟩ ⟨Nat.le_of_ble_eq_true rfl, Nat.le_of_ble_eq_true rfl⟩ ⟨[0, 1, 4, 5, 6], [2, 3], [2, 3, 0, 1, 4, 5, 6], rfl, rfl, rfl, rfl, rfl, rfl, rfl, rfl, rfl⟩ 0 rfl rfl rfl hl.1 rfl (Nat.le_of_ble_eq_true rfl) rfl dX0_decide_26 (fun H locs w => bq_z ⟨rfl, rfl⟩ ?_)
    clear hC
    refine lv_goto (tgt := 62) hx hb dX0_decide_29 (by decide) ?_
    obtain rfl := Option.some.inj hT62
    exact K62 H locs ls w (lv_sub hl [1, 0] rfl)
