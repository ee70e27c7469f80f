abbrev rmJ6_bitCount_0f7a4 : Room := { frames := 0, cells := 0, slots := 0, locals := 0 }
theorem hs_J6_bitCount_0f7a4 : yJ6_bitCount_0f7a4.cls ≠ "java/lang/invoke/MethodHandle" ∧ yJ6_bitCount_0f7a4.cls ≠ "java/lang/invoke/VarHandle" ∧ (parseMethodDescriptor yJ6_bitCount_0f7a4.desc).map (fun d => d.parameters.length) = some 1 := by decide +kernel
set_option maxHeartbeats 4000000 in
set_option maxRecDepth 100000 in
theorem kJ6_bitCount_0f7a4 (l : Launch) (D : va_G) (cI cJ : ClassId) (x0 : Int32) (r : Int32) (hm : mJ6_bitCount_0f7a4 x0 = some r) : bq_M l D cI cJ yJ6_bitCount_0f7a4 cJ6_bitCount_0f7a4 1 (some .int) rmJ6_bitCount_0f7a4 [.int x0] ([]) ([]) (some (.int r)) := by
  refine bq_start (by decide) (Nat.le_of_ble_eq_true rfl) ?_
  intro p e s m av9 below meth c A ls Q H locs E K w hA hr hk hn hQ hl
  have E : bq_E p m c cJ6_bitCount_0f7a4 1 s av9 RJ6 := E
  have hx := E.1
  have hb := E.2.1
  have hl : lv_has ls 1 [(0, .int x0)] := hl
  unfold mJ6_bitCount_0f7a4 at hm
  refine lv_iload_n hx hb dJ6_bitCount_0f7a4_0 rfl (lv_at hl 0 rfl) ?_
  refine lv_iload_n hx hb dJ6_bitCount_0f7a4_1 rfl (lv_at hl 0 rfl) ?_
  refine lv_iconst (v := 1) hx hb dJ6_bitCount_0f7a4_2 (by decide) ?_
  refine lv_iushr hx hb dJ6_bitCount_0f7a4_3 rfl ?_
  refine lv_ldcw (v := 1431655765) hx hb E.2.2.2.1 (E.2.2.2.2 _ ct_J6_265) dJ6_bitCount_0f7a4_4 ?_
  refine lv_iand hx hb dJ6_bitCount_0f7a4_7 ?_
  refine lv_isub hx hb dJ6_bitCount_0f7a4_8 ?_
  obtain ⟨v1, e9, hm⟩ := bq_let_el hm
  refine bq_nmi e9 ?_
  clear e9
  refine lv_istore_n (lv' := [(0, .int v1)]) hx hb dJ6_bitCount_0f7a4_9 rfl hl (by decide) rfl (fun ls hl => ?_)
  refine lv_iload_n hx hb dJ6_bitCount_0f7a4_10 rfl (lv_at hl 0 rfl) ?_
  refine lv_ldcw (v := 858993459) hx hb E.2.2.2.1 (E.2.2.2.2 _ ct_J6_266) dJ6_bitCount_0f7a4_11 ?_
  refine lv_iand hx hb dJ6_bitCount_0f7a4_14 ?_
  refine lv_iload_n hx hb dJ6_bitCount_0f7a4_15 rfl (lv_at hl 0 rfl) ?_
  refine lv_iconst (v := 2) hx hb dJ6_bitCount_0f7a4_16 (by decide) ?_
  refine lv_iushr hx hb dJ6_bitCount_0f7a4_17 rfl ?_
  refine lv_ldcw (v := 858993459) hx hb E.2.2.2.1 (E.2.2.2.2 _ ct_J6_266) dJ6_bitCount_0f7a4_18 ?_
  refine lv_iand hx hb dJ6_bitCount_0f7a4_21 ?_
  refine lv_iadd hx hb dJ6_bitCount_0f7a4_22 ?_
  obtain ⟨v2, e9, hm⟩ := bq_let_el hm
  refine bq_nmi e9 ?_
  clear e9
  refine lv_istore_n (lv' := [(0, .int v2)]) hx hb dJ6_bitCount_0f7a4_23 rfl hl (by decide) rfl (fun ls hl => ?_)
  refine lv_iload_n hx hb dJ6_bitCount_0f7a4_24 rfl (lv_at hl 0 rfl) ?_
  refine lv_iload_n hx hb dJ6_bitCount_0f7a4_25 rfl (lv_at hl 0 rfl) ?_
  refine lv_iconst (v := 4) hx hb dJ6_bitCount_0f7a4_26 (by decide) ?_
  refine lv_iushr hx hb dJ6_bitCount_0f7a4_27 rfl ?_
  refine lv_iadd hx hb dJ6_bitCount_0f7a4_28 ?_
  refine lv_ldcw (v := 252645135) hx hb E.2.2.2.1 (E.2.2.2.2 _ ct_J6_267) dJ6_bitCount_0f7a4_29 ?_
  refine lv_iand hx hb dJ6_bitCount_0f7a4_32 ?_
  obtain ⟨v3, e9, hm⟩ := bq_let_el hm
  refine bq_nmi e9 ?_
  clear e9
  refine lv_istore_n (lv' := [(0, .int v3)]) hx hb dJ6_bitCount_0f7a4_33 rfl hl (by decide) rfl (fun ls hl => ?_)
  refine lv_iload_n hx hb dJ6_bitCount_0f7a4_34 rfl (lv_at hl 0 rfl) ?_
  refine lv_iload_n hx hb dJ6_bitCount_0f7a4_35 rfl (lv_at hl 0 rfl) ?_
  refine lv_bipush (v := 8) hx hb dJ6_bitCount_0f7a4_36 (by decide) ?_
  refine lv_iushr hx hb dJ6_bitCount_0f7a4_38 rfl ?_
  refine lv_iadd hx hb dJ6_bitCount_0f7a4_39 ?_
  obtain ⟨v4, e9, hm⟩ := bq_let_el hm
  refine bq_nmi e9 ?_
  clear e9
  refine lv_istore_n (lv' := [(0, .int v4)]) hx hb dJ6_bitCount_0f7a4_40 rfl hl (by decide) rfl (fun ls hl => ?_)
  refine lv_iload_n hx hb dJ6_bitCount_0f7a4_41 rfl (lv_at hl 0 rfl) ?_
  refine lv_iload_n hx hb dJ6_bitCount_0f7a4_42 rfl (lv_at hl 0 rfl) ?_
  refine lv_bipush (v := 16) hx hb dJ6_bitCount_0f7a4_43 (by decide) ?_
  refine lv_iushr hx hb dJ6_bitCount_0f7a4_45 rfl ?_
  refine lv_iadd hx hb dJ6_bitCount_0f7a4_46 ?_
  obtain ⟨v5, e9, hm⟩ := bq_let_el hm
  refine bq_nmi e9 ?_
  clear e9
  refine lv_istore_n (lv' := [(0, .int v5)]) hx hb dJ6_bitCount_0f7a4_47 rfl hl (by decide) rfl (fun ls hl => ?_)
  refine lv_iload_n hx hb dJ6_bitCount_0f7a4_48 rfl (lv_at hl 0 rfl) ?_
  refine lv_bipush (v := 63) hx hb dJ6_bitCount_0f7a4_49 (by decide) ?_
  refine lv_iand hx hb dJ6_bitCount_0f7a4_51 ?_
  obtain rfl := Option.some.inj hm
  exact bq_iret E w hr hk dJ6_bitCount_0f7a4_52 hQ
abbrev wdJ7_fill_53178 (cI : ClassId) (a_t n_t : Nat) (t : Nat → Int32) : va_W := [(a_t, oA cI n_t t)]
abbrev rmJ7_fill_53178 : Room := { frames := 0, cells := 0, slots := 0, locals := 0 }
theorem hs_J7_fill_53178 : yJ7_fill_53178.cls ≠ "java/lang/invoke/MethodHandle" ∧ yJ7_fill_53178.cls ≠ "java/lang/invoke/VarHandle" ∧ (parseMethodDescriptor yJ7_fill_53178.desc).map (fun d => d.parameters.length) = some 2 := by decide +kernel
set_option maxHeartbeats 4000000 in
set_option maxRecDepth 100000 in
theorem kJ7_fill_53178 (l : Launch) (D : va_G) (cI cJ : ClassId) (a_t n_t : Nat) (t : Nat → Int32) (x1 : Int32) (t_o : Nat → Int32) (hm : mJ7_fill_53178 n_t t x1 = some t_o) : bq_M l D cI cJ yJ7_fill_53178 cJ7_fill_53178 4 none rmJ7_fill_53178 [.ref a_t, .int x1] (wdJ7_fill_53178 cI a_t n_t t) (wdJ7_fill_53178 cI a_t n_t t_o) none := by
  refine bq_start (by decide) (Nat.le_of_ble_eq_true rfl) ?_
  intro p e s m av9 below meth c A ls Q H locs E K w hA hr hk hn hQ hl
  have E : bq_E p m c cJ7_fill_53178 4 s av9 RJ7 := E
  have hx := E.1
  have hb := E.2.1
  have hl : lv_has ls 4 [(0, .ref a_t), (1, .int x1)] := hl
  unfold mJ7_fill_53178 at hm
  refine lv_iconst (v := 0) hx hb dJ7_fill_53178_0 (by decide) ?_
  refine lv_istore_n (lv' := [(2, .int 0), (0, .ref a_t), (1, .int x1)]) hx hb dJ7_fill_53178_1 rfl hl (by decide) rfl (fun ls hl => ?_)
  refine lv_aload_n hx hb dJ7_fill_53178_2 rfl (lv_at hl 1 rfl) ?_
  refine bq_alen (v := (Int32.ofNat n_t)) E K w 0 rfl rfl dJ7_fill_53178_3 ?_
  obtain ⟨v1, e9, hm⟩ := bq_let_el hm
  refine bq_nmi e9 ?_
  clear e9
  refine lv_istore_n (lv' := [(3, .int v1), (2, .int 0), (0, .ref a_t), (1, .int x1)]) hx hb dJ7_fill_53178_4 rfl hl (by decide) rfl (fun ls hl => ?_)
  obtain ⟨t_4, hL, hm⟩ := bq_bd_el hm
  obtain ⟨B, eB, nn, hL⟩ := bq_loop_B hL
  have X20 : ∀ (H : Heap) (locs : List Loc) (ls : Array Slot), bq_w D A s.heap (wdJ7_fill_53178 cI a_t n_t t_4) H locs → lv_has ls 4 [] → W p l e rmJ7_fill_53178 s m av9 below meth c H locs 0 0 Q (F0 m 20 ls []) := by
    intro H locs ls w hl
    obtain rfl := Option.some.inj hm
    exact bq_vret E w hr hk dJ7_fill_53178_20 hQ
  clear hm
  have L5 : ∀ (nn : Nat) (i2 : Int32) (t_3 : Nat → Int32) (H : Heap) (locs : List Loc) (ls : Array Slot), bq_lp B nn (i2, t_3) = some t_4 → bq_w D A s.heap (wdJ7_fill_53178 cI a_t n_t t_3) H locs → lv_has ls 4 [(0, .ref a_t), (1, .int x1), (2, .int i2), (3, .int v1)] → W p l e rmJ7_fill_53178 s m av9 below meth c H locs 0 0 Q (F0 m 5 ls []) := by
    intro nn
    induction nn with
    | zero =>
      intro i2 t_3 H locs ls hL w hl
      exact bq_lp_0 hL
    | succ nn ih =>
      intro i2 t_3 H locs ls hL w hl
      obtain ⟨oo5, hT5, hR5⟩ := bq_lp_el hL
      clear hL
      replace hT5 := bq_u2_el eB hT5
      unfold bJ7_fill_53178_5 at hT5
      refine lv_iload_n hx hb dJ7_fill_53178_5 rfl (lv_at hl 2 rfl) ?_
      refine lv_iload_n hx hb dJ7_fill_53178_6 rfl (lv_at hl 3 rfl) ?_
      refine lv_icmp_ge (tgt := 20) hx hb dJ7_fill_53178_7 (by decide) (fun hc => ?_) (fun hc => ?_)
      · replace hT5 := bq_t hc hT5
        clear hc
        obtain rfl := Option.some.inj hT5
        replace hR5 := bq_lk_r hR5
        subst hR5
        exact X20 H locs ls w (lv_sub hl [] rfl)
      · replace hT5 := bq_f hc hT5
        clear hc
        refine lv_aload_n hx hb dJ7_fill_53178_10 rfl (lv_at hl 0 rfl) ?_
        refine lv_iload_n hx hb dJ7_fill_53178_11 rfl (lv_at hl 2 rfl) ?_
        refine lv_iload_n hx hb dJ7_fill_53178_12 rfl (lv_at hl 1 rfl) ?_
        obtain ⟨hI, hT5⟩ := bq_ci_el hT5
        obtain ⟨t_5, e9, hT5⟩ := bq_let_el hT5
        refine bq_ast E K w 0 rfl hI dJ7_fill_53178_13 (fun H locs w => ?_)
        replace w : bq_w D A s.heap (wdJ7_fill_53178 cI a_t n_t t_5) H locs := by rw [e9]; exact w
        clear e9
        obtain ⟨v6, e9, hT5⟩ := bq_let_el hT5
        refine lv_iinc (v := v6) (lv' := [(2, .int v6), (0, .ref a_t), (1, .int x1), (3, .int v1)]) hx hb dJ7_fill_53178_14 hl (k := 2) rfl (by rw [e9]; rfl) (by decide) rfl (fun ls hl => ?_)
        clear e9
        refine lv_goto (tgt := 5) hx hb dJ7_fill_53178_17 (by decide) ?_
        obtain rfl := Option.some.inj hT5
        exact ih v6 t_5 H locs ls hR5 w (lv_sub hl [1, 2, 0, 3] rfl)
  exact L5 nn 0 t H locs ls hL w (lv_sub hl [2, 3, 1, 0] rfl)
abbrev rmX7_holds : Room := { frames := 0, cells := 0, slots := 0, locals := 0 }
theorem hs_X7_holds : yX7_holds.cls ≠ "java/lang/invoke/MethodHandle" ∧ yX7_holds.cls ≠ "java/lang/invoke/VarHandle" ∧ (parseMethodDescriptor yX7_holds.desc).map (fun d => d.parameters.length) = some 2 := by decide +kernel
set_option maxHeartbeats 4000000 in
set_option maxRecDepth 100000 in
theorem kX7_holds (l : Launch) (D : va_G) (cI cJ : ClassId) (x0 : Int32) (x1 : Int32) (r : Int32) (hm : mX7_holds x0 x1 = some r) : bq_M l D cI cJ yX7_holds cX7_holds 2 (some .boolean) rmX7_holds [.int x0, .int x1] ([]) ([]) (some (.int r)) := by
  refine bq_start (by decide) (Nat.le_of_ble_eq_true rfl) ?_
  intro p e s m av9 below meth c A ls Q H locs E K w hA hr hk hn hQ hl
  have E : bq_E p m c cX7_holds 2 s av9 RX7 := E
  have hx := E.1
  have hb := E.2.1
  have hl : lv_has ls 2 [(0, .int x0), (1, .int x1)] := hl
  unfold mX7_holds at hm
  refine lv_iload_n hx hb dX7_holds_0 rfl (lv_at hl 0 rfl) ?_
  refine lv_iload_n hx hb dX7_holds_1 rfl (lv_at hl 1 rfl) ?_
  refine lv_ishr hx hb dX7_holds_2 ?_
  refine lv_iconst (v := 1) hx hb dX7_holds_3 (by decide) ?_
  refine lv_iand hx hb dX7_holds_4 ?_
  refine lv_iconst (v := 1) hx hb dX7_holds_5 (by decide) ?_
  obtain ⟨v1, hT14, hm⟩ := bq_let_el hm
  have K14 : ∀ (H : Heap) (locs : List Loc) (ls : Array Slot), bq_w D A s.heap ([]) H locs → lv_has ls 2 [] → W p l e rmX7_holds s m av9 below meth c H locs 0 0 Q (F0 m 14 ls [.int v1]) := by
    intro H locs ls w hl
    obtain ⟨hB, hm⟩ := bq_cb_el hm
    obtain rfl := Option.some.inj hm
    exact bq_zret E w hr hk hB dX7_holds_14 hQ
  clear hm
  refine lv_icmp_ne (tgt := 13) hx hb dX7_holds_6 (by decide) (fun hc => ?_) (fun hc => ?_)
  · replace hT14 := bq_ef hc hT14
    clear hc
    refine lv_iconst (v := 0) hx hb dX7_holds_13 (by decide) ?_
    subst hT14
    exact K14 H locs ls w (lv_sub hl [] rfl)
  · replace hT14 := bq_et hc hT14
    clear hc
    refine lv_iconst (v := 1) hx hb dX7_holds_9 (by decide) ?_
    refine lv_goto (tgt := 14) hx hb dX7_holds_10 (by decide) ?_
    subst hT14
    exact K14 H locs ls w (lv_sub hl [] rfl)
