abbrev rmX8_countOf : Room := { frames := 0, cells := 0, slots := 0, locals := 0 }
theorem hs_X8_countOf : yX8_countOf.cls ≠ "java/lang/invoke/MethodHandle" ∧ yX8_countOf.cls ≠ "java/lang/invoke/VarHandle" ∧ (parseMethodDescriptor yX8_countOf.desc).map (fun d => d.parameters.length) = some 1 := by decide +kernel
set_option maxHeartbeats 4000000 in
set_option maxRecDepth 100000 in
theorem kX8_countOf (l : Launch) (D : va_G) (cI cJ : ClassId) (x0 : Int32) (r : Int32) (hm : mX8_countOf x0 = some r) : bq_M l D cI cJ yX8_countOf cX8_countOf 3 (some .int) rmX8_countOf [.int x0] ([]) ([]) (some (.int r)) := by
  refine bq_start (by decide) (Nat.le_of_ble_eq_true rfl) ?_
  intro p e s m av9 below meth c A ls Q H locs E K w hA hr hk hn hQ hl
  have E : bq_E p m c cX8_countOf 3 s av9 RX8 := E
  have hx := E.1
  have hb := E.2.1
  have hl : lv_has ls 3 [(0, .int x0)] := hl
  unfold mX8_countOf at hm
  refine lv_iconst (v := 0) hx hb dX8_countOf_0 (by decide) ?_
  refine lv_istore_n (lv' := [(1, .int 0), (0, .int x0)]) hx hb dX8_countOf_1 rfl hl (by decide) rfl (fun ls hl => ?_)
  refine lv_iconst (v := 0) hx hb dX8_countOf_2 (by decide) ?_
  refine lv_istore_n (lv' := [(2, .int 0), (1, .int 0), (0, .int x0)]) hx hb dX8_countOf_3 rfl hl (by decide) rfl (fun ls hl => ?_)
  obtain ⟨v3, hL, hm⟩ := bq_bd_el hm
  obtain ⟨B, eB, nn, hL⟩ := bq_loop_B hL
  have X24 : ∀ (H : Heap) (locs : List Loc) (ls : Array Slot), bq_w D A s.heap ([]) H locs → lv_has ls 3 [(1, .int v3)] → W p l e rmX8_countOf s m av9 below meth c H locs 0 0 Q (F0 m 24 ls []) := by
    intro H locs ls w hl
    refine lv_iload_n hx hb dX8_countOf_24 rfl (lv_at hl 0 rfl) ?_
    obtain rfl := Option.some.inj hm
    exact bq_iret E w hr hk dX8_countOf_25 hQ
  clear hm
  have L4 : ∀ (nn : Nat) (i1 : Int32) (i2 : Int32) (H : Heap) (locs : List Loc) (ls : Array Slot), bq_lp B nn (i1, i2) = some v3 → bq_w D A s.heap ([]) H locs → lv_has ls 3 [(0, .int x0), (1, .int i2), (2, .int i1)] → W p l e rmX8_countOf s m av9 below meth c H locs 0 0 Q (F0 m 4 ls []) := by
    intro nn
    induction nn with
    | zero =>
      intro i1 i2 H locs ls hL w hl
      exact bq_lp_0 hL
    | succ nn ih =>
      intro i1 i2 H locs ls hL w hl
      obtain ⟨oo4, hT4, hR4⟩ := bq_lp_el hL
      clear hL
      replace hT4 := bq_u2_el eB hT4
      unfold bX8_countOf_4 at hT4
      refine lv_iload_n hx hb dX8_countOf_4 rfl (lv_at hl 2 rfl) ?_
      refine lv_bipush (v := 16) hx hb dX8_countOf_5 (by decide) ?_
      refine lv_icmp_ge (tgt := 24) hx hb dX8_countOf_7 (by decide) (fun hc => ?_) (fun hc => ?_)
      · replace hT4 := bq_t hc hT4
        clear hc
        obtain rfl := Option.some.inj hT4
        replace hR4 := bq_lk_r hR4
        subst hR4
        exact X24 H locs ls w (lv_sub hl [1] rfl)
      · replace hT4 := bq_f hc hT4
        clear hc
        refine lv_iload_n hx hb dX8_countOf_10 rfl (lv_at hl 1 rfl) ?_
        refine lv_iload_n hx hb dX8_countOf_11 rfl (lv_at hl 0 rfl) ?_
        refine lv_iload_n hx hb dX8_countOf_12 rfl (lv_at hl 2 rfl) ?_
        refine lv_ishr hx hb dX8_countOf_13 ?_
        refine lv_iconst (v := 1) hx hb dX8_countOf_14 (by decide) ?_
        refine lv_iand hx hb dX8_countOf_15 ?_
        refine lv_iadd hx hb dX8_countOf_16 ?_
        obtain ⟨v4, e9, hT4⟩ := bq_let_el hT4
        refine bq_nmi e9 ?_
        clear e9
        refine lv_istore_n (lv' := [(1, .int v4), (0, .int x0), (2, .int i1)]) hx hb dX8_countOf_17 rfl hl (by decide) rfl (fun ls hl => ?_)
        obtain ⟨v5, e9, hT4⟩ := bq_let_el hT4
        refine lv_iinc (v := v5) (lv' := [(2, .int v5), (1, .int v4), (0, .int x0)]) hx hb dX8_countOf_18 hl (k := 2) rfl (by rw [e9]; rfl) (by decide) rfl (fun ls hl => ?_)
        clear e9
        refine lv_goto (tgt := 4) hx hb dX8_countOf_21 (by decide) ?_
        obtain rfl := Option.some.inj hT4
        exact ih v5 v4 H locs ls hR4 w (lv_sub hl [2, 1, 0] rfl)
  exact L4 nn 0 0 H locs ls hL w (lv_sub hl [2, 1, 0] rfl)
abbrev wdX8_areGroups (cI : ClassId) (a_t a_t_backs a_t_outs u_t_rig u_t_trial u_t_strokes u_t_pauses u_t_cuts u_t_text u_t_readOuts u_t_readBacks u_t_readPauses : Nat) (t : Nat → Int32) (t_backs : Nat → Int32) (t_outs : Nat → Int32) : va_W := [(a_t, oX8 u_t_rig u_t_trial u_t_strokes a_t_outs a_t_backs u_t_pauses u_t_cuts u_t_text u_t_readOuts u_t_readBacks u_t_readPauses t), (a_t_backs, oA cI 16 t_backs), (a_t_outs, oA cI 16 t_outs)]
abbrev rmX8_areGroups : Room := { frames := 0, cells := 0, slots := 0, locals := 0 }
theorem hd_X8_areGroups : yX8_areGroups.cls = RX8 ∧ yX8_areGroups.cls ≠ "java/lang/invoke/MethodHandle" ∧ yX8_areGroups.cls ≠ "java/lang/invoke/VarHandle" ∧ (parseMethodDescriptor yX8_areGroups.desc).map (fun d => d.parameters.length) = some 1 := by decide +kernel
set_option maxHeartbeats 4000000 in
set_option maxRecDepth 100000 in
theorem kX8_areGroups (l : Launch) (D : va_G) (cI cJ : ClassId) (a_t a_t_backs a_t_outs u_t_rig u_t_trial u_t_strokes u_t_pauses u_t_cuts u_t_text u_t_readOuts u_t_readBacks u_t_readPauses : Nat) (t t_backs t_outs : Nat → Int32) (x1 : Int32) (r : Int32) (hm : mX8_areGroups t t_backs t_outs x1 = some r) : bq_M l D cI cJ yX8_areGroups cX8_areGroups 7 (some .boolean) rmX8_areGroups [.ref a_t, .int x1] (wdX8_areGroups cI a_t a_t_backs a_t_outs u_t_rig u_t_trial u_t_strokes u_t_pauses u_t_cuts u_t_text u_t_readOuts u_t_readBacks u_t_readPauses t t_backs t_outs) (wdX8_areGroups cI a_t a_t_backs a_t_outs u_t_rig u_t_trial u_t_strokes u_t_pauses u_t_cuts u_t_text u_t_readOuts u_t_readBacks u_t_readPauses t t_backs t_outs) (some (.int r)) := by
  refine bq_start (by decide) (Nat.le_of_ble_eq_true rfl) ?_
  intro p e s m av9 below meth c A ls Q H locs E K w hA hr hk hn hQ hl
  have E : bq_E p m c cX8_areGroups 7 s av9 RX8 := E
  have hx := E.1
  have hb := E.2.1
  have hl : lv_has ls 7 [(0, .ref a_t), (1, .int x1)] := hl
  unfold mX8_areGroups at hm
  refine lv_iconst (v := 0) hx hb dX8_areGroups_0 (by decide) ?_
  refine lv_istore_n (lv' := [(2, .int 0), (0, .ref a_t), (1, .int x1)]) hx hb dX8_areGroups_1 rfl hl (by decide) rfl (fun ls hl => ?_)
  obtain ⟨v2, hL, hm⟩ := bq_bd_el hm
  obtain ⟨B, eB, nn, hL⟩ := bq_loop_B hL
  have X16 : ∀ (H : Heap) (locs : List Loc) (ls : Array Slot), bq_w D A s.heap (wdX8_areGroups cI a_t a_t_backs a_t_outs u_t_rig u_t_trial u_t_strokes u_t_pauses u_t_cuts u_t_text u_t_readOuts u_t_readBacks u_t_readPauses t t_backs t_outs) H locs → lv_has ls 7 [(0, .ref a_t), (1, .int x1), (2, .int v2)] → W p l e rmX8_areGroups s m av9 below meth c H locs 0 0 Q (F0 m 16 ls []) := by
    intro H locs ls w hl
    refine lv_iconst (v := 0) hx hb dX8_areGroups_16 (by decide) ?_
    refine lv_istore_n (lv' := [(3, .int 0), (0, .ref a_t), (1, .int x1), (2, .int v2)]) hx hb dX8_areGroups_17 rfl hl (by decide) rfl (fun ls hl => ?_)
    refine lv_iconst (v := 0) hx hb dX8_areGroups_18 (by decide) ?_
    refine lv_istore (lv' := [(4, .int 0), (3, .int 0), (0, .ref a_t), (1, .int x1), (2, .int v2)]) hx hb dX8_areGroups_19 hl (by decide) rfl (fun ls hl => ?_)
    obtain ⟨rr21, hL, hm⟩ := bq_bd_el hm
    obtain ⟨B, eB, nn, hL⟩ := bq_loop_B hL
    have X94 : ∀ (hE : rr21 = .inl ()) (H : Heap) (locs : List Loc) (ls : Array Slot), bq_w D A s.heap (wdX8_areGroups cI a_t a_t_backs a_t_outs u_t_rig u_t_trial u_t_strokes u_t_pauses u_t_cuts u_t_text u_t_readOuts u_t_readBacks u_t_readPauses t t_backs t_outs) H locs → lv_has ls 7 [] → W p l e rmX8_areGroups s m av9 below meth c H locs 0 0 Q (F0 m 94 ls []) := by
      intro hE H locs ls w hl
      subst hE
      replace hm := bq_or1_l hm
      refine lv_iconst (v := 1) hx hb dX8_areGroups_94 (by decide) ?_
      obtain rfl := Option.some.inj hm
      exact bq_zret E w hr hk (by decide) dX8_areGroups_95 hQ
    have L21 : ∀ (nn : Nat) (i3 : Int32) (i4 : Int32) (H : Heap) (locs : List Loc) (ls : Array Slot), bq_lp B nn (i3, i4) = some rr21 → bq_w D A s.heap (wdX8_areGroups cI a_t a_t_backs a_t_outs u_t_rig u_t_trial u_t_strokes u_t_pauses u_t_cuts u_t_text u_t_readOuts u_t_readBacks u_t_readPauses t t_backs t_outs) H locs → lv_has ls 7 [(0, .ref a_t), (1, .int x1), (2, .int v2), (3, .int i4), (4, .int i3)] → W p l e rmX8_areGroups s m av9 below meth c H locs 0 0 Q (F0 m 21 ls []) := by
      intro nn
      induction nn with
      | zero =>
        intro i3 i4 H locs ls hL w hl
        exact bq_lp_0 hL
      | succ nn ih =>
        intro i3 i4 H locs ls hL w hl
        obtain ⟨oo21, hT21, hR21⟩ := bq_lp_el hL
        clear hL
        replace hT21 := bq_u2_el eB hT21
        unfold bX8_areGroups_21 at hT21
        refine lv_iload hx hb dX8_areGroups_21 (lv_at hl 4 rfl) ?_
        refine lv_aload_n hx hb dX8_areGroups_23 rfl (lv_at hl 0 rfl) ?_
        refine gt_X8_104 E K w 0 rfl rfl dX8_areGroups_24 ?_
        refine lv_icmp_ge (tgt := 94) hx hb dX8_areGroups_27 (by decide) (fun hc => ?_) (fun hc => ?_)
        · replace hT21 := bq_t hc hT21
          clear hc
          obtain rfl := Option.some.inj hT21
          replace hR21 := bq_lk_r hR21
          exact X94  hR21.symm H locs ls w (lv_sub hl [] rfl)
        · replace hT21 := bq_f hc hT21
          clear hc
          refine lv_iload_n hx hb dX8_areGroups_30 rfl (lv_at hl 2 rfl) ?_
          refine lv_iload hx hb dX8_areGroups_31 (lv_at hl 4 rfl) ?_
          refine lv_iadd hx hb dX8_areGroups_33 ?_
          refine lv_aload_n hx hb dX8_areGroups_34 rfl (lv_at hl 0 rfl) ?_
          refine gt_X8_104 E K w 0 rfl rfl dX8_areGroups_35 ?_
          obtain ⟨hZ, hT21⟩ := bq_cz_el hT21
          refine lv_irem hx hb dX8_areGroups_38 hZ ?_
          obtain ⟨v5, e9, hT21⟩ := bq_let_el hT21
          refine bq_nmi e9 ?_
          clear e9
          refine lv_istore (lv' := [(5, .int v5), (0, .ref a_t), (1, .int x1), (2, .int v2), (3, .int i4), (4, .int i3)]) hx hb dX8_areGroups_39 hl (by decide) rfl (fun ls hl => ?_)
          refine lv_iload_n hx hb dX8_areGroups_41 rfl (lv_at hl 2 rfl) ?_
          refine lv_iload hx hb dX8_areGroups_42 (lv_at hl 0 rfl) ?_
          refine lv_ishr hx hb dX8_areGroups_44 ?_
          refine lv_iconst (v := 1) hx hb dX8_areGroups_45 (by decide) ?_
          refine lv_iand hx hb dX8_areGroups_46 ?_
          refine lv_iconst (v := 1) hx hb dX8_areGroups_47 (by decide) ?_
          obtain ⟨v6, hT56, hT21⟩ := bq_let_el hT21
          have K56 : ∀ (H : Heap) (locs : List Loc) (ls : Array Slot), bq_w D A s.heap (wdX8_areGroups cI a_t a_t_backs a_t_outs u_t_rig u_t_trial u_t_strokes u_t_pauses u_t_cuts u_t_text u_t_readOuts u_t_readBacks u_t_readPauses t t_backs t_outs) H locs → lv_has ls 7 [(0, .ref a_t), (1, .int x1), (2, .int v2), (4, .int i3), (5, .int v5)] → W p l e rmX8_areGroups s m av9 below meth c H locs 0 0 Q (F0 m 56 ls [.int v6]) := by
            intro H locs ls w hl
            refine lv_istore_n (lv' := [(3, .int v6), (0, .ref a_t), (1, .int x1), (2, .int v2), (4, .int i3), (5, .int v5)]) hx hb dX8_areGroups_56 rfl hl (by decide) rfl (fun ls hl => ?_)
            refine lv_aload_n hx hb dX8_areGroups_57 rfl (lv_at hl 1 rfl) ?_
            refine gt_X8_19 E K w 0 rfl rfl dX8_areGroups_58 ?_
            refine lv_iload hx hb dX8_areGroups_61 (lv_at hl 5 rfl) ?_
            obtain ⟨hI, hT21⟩ := bq_ci_el hT21
            refine bq_ald E K w 2 rfl hI dX8_areGroups_63 ?_
            refine lv_aload_n hx hb dX8_areGroups_64 rfl (lv_at hl 1 rfl) ?_
            refine gt_X8_22 E K w 0 rfl rfl dX8_areGroups_65 ?_
            refine lv_iload hx hb dX8_areGroups_68 (lv_at hl 5 rfl) ?_
            obtain ⟨hI, hT21⟩ := bq_ci_el hT21
            refine bq_ald E K w 1 rfl hI dX8_areGroups_70 ?_
            refine lv_ior hx hb dX8_areGroups_71 ?_
            obtain ⟨v7, e9, hT21⟩ := bq_let_el hT21
            refine bq_nmi e9 ?_
            clear e9
            refine lv_istore (lv' := [(6, .int v7), (3, .int v6), (0, .ref a_t), (1, .int x1), (2, .int v2), (4, .int i3), (5, .int v5)]) hx hb dX8_areGroups_72 hl (by decide) rfl (fun ls hl => ?_)
            refine lv_iload_n hx hb dX8_areGroups_74 rfl (lv_at hl 1 rfl) ?_
            refine lv_iload hx hb dX8_areGroups_75 (lv_at hl 0 rfl) ?_
            refine lv_iand hx hb dX8_areGroups_77 ?_
            refine lv_if_eq (tgt := 83) hx hb dX8_areGroups_78 (by decide) (fun hc => ?_) (fun hc => ?_)
            · replace hT21 := bq_t hc hT21
              clear hc
              refine lv_iload_n hx hb dX8_areGroups_83 rfl (lv_at hl 1 rfl) ?_
              refine lv_iload hx hb dX8_areGroups_84 (lv_at hl 0 rfl) ?_
              refine lv_ior hx hb dX8_areGroups_86 ?_
              obtain ⟨v8, e9, hT21⟩ := bq_let_el hT21
              refine bq_nmi e9 ?_
              clear e9
              refine lv_istore_n (lv' := [(3, .int v8), (6, .int v7), (0, .ref a_t), (1, .int x1), (2, .int v2), (4, .int i3), (5, .int v5)]) hx hb dX8_areGroups_87 rfl hl (by decide) rfl (fun ls hl => ?_)
              obtain ⟨v9, e9, hT21⟩ := bq_let_el hT21
              refine lv_iinc (v := v9) (lv' := [(4, .int v9), (3, .int v8), (6, .int v7), (0, .ref a_t), (1, .int x1), (2, .int v2), (5, .int v5)]) hx hb dX8_areGroups_88 hl (k := 5) rfl (by rw [e9]; rfl) (by decide) rfl (fun ls hl => ?_)
              clear e9
              refine lv_goto (tgt := 21) hx hb dX8_areGroups_91 (by decide) ?_
              obtain rfl := Option.some.inj hT21
              exact ih v9 v8 H locs ls hR21 w (lv_sub hl [3, 4, 5, 1, 0] rfl)
            · replace hT21 := bq_f hc hT21
              clear hc
              refine lv_iconst (v := 0) hx hb dX8_areGroups_81 (by decide) ?_
              obtain rfl := Option.some.inj hT21
              replace hR21 := bq_lk_r hR21
              subst hR21
              replace hm := bq_or1_r hm
              obtain rfl := Option.some.inj hm
              exact bq_zret E w hr hk (by decide) dX8_areGroups_82 hQ
          clear hT21
          refine lv_icmp_ne (tgt := 55) hx hb dX8_areGroups_48 (by decide) (fun hc => ?_) (fun hc => ?_)
          · replace hT56 := bq_ef hc hT56
            clear hc
            refine lv_iload_n hx hb dX8_areGroups_55 rfl (lv_at hl 4 rfl) ?_
            subst hT56
            exact K56 H locs ls w (lv_sub hl [1, 2, 3, 5, 0] rfl)
          · replace hT56 := bq_et hc hT56
            clear hc
            refine lv_iconst (v := 0) hx hb dX8_areGroups_51 (by decide) ?_
            refine lv_goto (tgt := 56) hx hb dX8_areGroups_52 (by decide) ?_
            subst hT56
            exact K56 H locs ls w (lv_sub hl [1, 2, 3, 5, 0] rfl)
    exact L21 nn 0 0 H locs ls hL w (lv_sub hl [2, 3, 4, 1, 0] rfl)
  clear hm
  have L2 : ∀ (nn : Nat) (i1 : Int32) (H : Heap) (locs : List Loc) (ls : Array Slot), bq_lp B nn i1 = some v2 → bq_w D A s.heap (wdX8_areGroups cI a_t a_t_backs a_t_outs u_t_rig u_t_trial u_t_strokes u_t_pauses u_t_cuts u_t_text u_t_readOuts u_t_readBacks u_t_readPauses t t_backs t_outs) H locs → lv_has ls 7 [(0, .ref a_t), (1, .int x1), (2, .int i1)] → W p l e rmX8_areGroups s m av9 below meth c H locs 0 0 Q (F0 m 2 ls []) := by
    intro nn
    induction nn with
    | zero =>
      intro i1 H locs ls hL w hl
      exact bq_lp_0 hL
    | succ nn ih =>
      intro i1 H locs ls hL w hl
      obtain ⟨oo2, hT2, hR2⟩ := bq_lp_el hL
      clear hL
      replace hT2 := bq_u1_el eB hT2
      unfold bX8_areGroups_2 at hT2
      refine lv_iload_n hx hb dX8_areGroups_2 rfl (lv_at hl 1 rfl) ?_
      refine lv_iload_n hx hb dX8_areGroups_3 rfl (lv_at hl 2 rfl) ?_
      refine lv_ishr hx hb dX8_areGroups_4 ?_
      refine lv_iconst (v := 1) hx hb dX8_areGroups_5 (by decide) ?_
      refine lv_iand hx hb dX8_areGroups_6 ?_
      refine lv_if_ne (tgt := 16) hx hb dX8_areGroups_7 (by decide) (fun hc => ?_) (fun hc => ?_)
      · replace hT2 := bq_f hc hT2
        clear hc
        obtain rfl := Option.some.inj hT2
        replace hR2 := bq_lk_r hR2
        subst hR2
        exact X16 H locs ls w (lv_sub hl [0, 1, 2] rfl)
      · replace hT2 := bq_t hc hT2
        clear hc
        obtain ⟨v10, e9, hT2⟩ := bq_let_el hT2
        refine lv_iinc (v := v10) (lv' := [(2, .int v10), (0, .ref a_t), (1, .int x1)]) hx hb dX8_areGroups_10 hl (k := 2) rfl (by rw [e9]; rfl) (by decide) rfl (fun ls hl => ?_)
        clear e9
        refine lv_goto (tgt := 2) hx hb dX8_areGroups_13 (by decide) ?_
        obtain rfl := Option.some.inj hT2
        exact ih v10 H locs ls hR2 w (lv_sub hl [1, 2, 0] rfl)
  exact L2 nn 0 H locs ls hL w (lv_sub hl [1, 2, 0] rfl)
abbrev rmX8_isAhead : Room := { frames := 0, cells := 0, slots := 0, locals := 0 }
theorem hs_X8_isAhead : yX8_isAhead.cls ≠ "java/lang/invoke/MethodHandle" ∧ yX8_isAhead.cls ≠ "java/lang/invoke/VarHandle" ∧ (parseMethodDescriptor yX8_isAhead.desc).map (fun d => d.parameters.length) = some 2 := by decide +kernel
set_option maxHeartbeats 4000000 in
set_option maxRecDepth 100000 in
theorem kX8_isAhead (l : Launch) (D : va_G) (cI cJ : ClassId) (x0 : Int32) (x1 : Int32) (r : Int32) (hm : mX8_isAhead x0 x1 = some r) : bq_M l D cI cJ yX8_isAhead cX8_isAhead 3 (some .boolean) rmX8_isAhead [.int x0, .int x1] ([]) ([]) (some (.int r)) := by
  refine bq_start (by decide) (Nat.le_of_ble_eq_true rfl) ?_
  intro p e s m av9 below meth c A ls Q H locs E K w hA hr hk hn hQ hl
  have E : bq_E p m c cX8_isAhead 3 s av9 RX8 := E
  have hx := E.1
  have hb := E.2.1
  have hl : lv_has ls 3 [(0, .int x0), (1, .int x1)] := hl
  unfold mX8_isAhead at hm
  refine lv_iload_n hx hb dX8_isAhead_0 rfl (lv_at hl 0 rfl) ?_
  refine lv_iload_n hx hb dX8_isAhead_1 rfl (lv_at hl 1 rfl) ?_
  refine lv_ixor hx hb dX8_isAhead_2 ?_
  obtain ⟨v1, e9, hm⟩ := bq_let_el hm
  refine bq_nmi e9 ?_
  clear e9
  refine lv_istore_n (lv' := [(2, .int v1), (0, .int x0), (1, .int x1)]) hx hb dX8_isAhead_3 rfl hl (by decide) rfl (fun ls hl => ?_)
  refine lv_iload_n hx hb dX8_isAhead_4 rfl (lv_at hl 0 rfl) ?_
  obtain ⟨v2, hT22, hm⟩ := bq_let_el hm
  have K22 : ∀ (H : Heap) (locs : List Loc) (ls : Array Slot), bq_w D A s.heap ([]) H locs → lv_has ls 3 [] → W p l e rmX8_isAhead s m av9 below meth c H locs 0 0 Q (F0 m 22 ls [.int v2]) := by
    intro H locs ls w hl
    obtain ⟨hB, hm⟩ := bq_cb_el hm
    obtain rfl := Option.some.inj hm
    exact bq_zret E w hr hk hB dX8_isAhead_22 hQ
  clear hm
  refine lv_if_eq (tgt := 21) hx hb dX8_isAhead_5 (by decide) (fun hc => ?_) (fun hc => ?_)
  · replace hT22 := bq_et hc hT22
    clear hc
    refine lv_iconst (v := 0) hx hb dX8_isAhead_21 (by decide) ?_
    subst hT22
    exact K22 H locs ls w (lv_sub hl [] rfl)
  · replace hT22 := bq_ef hc hT22
    clear hc
    refine lv_iload_n hx hb dX8_isAhead_8 rfl (lv_at hl 1 rfl) ?_
    refine lv_iload_n hx hb dX8_isAhead_9 rfl (lv_at hl 0 rfl) ?_
    refine lv_iand hx hb dX8_isAhead_10 ?_
    refine lv_iload_n hx hb dX8_isAhead_11 rfl (lv_at hl 0 rfl) ?_
    refine lv_ineg hx hb dX8_isAhead_12 ?_
    refine lv_iand hx hb dX8_isAhead_13 ?_
    refine lv_if_eq (tgt := 21) hx hb dX8_isAhead_14 (by decide) (fun hc => ?_) (fun hc => ?_)
    · replace hT22 := bq_et hc hT22
      clear hc
      refine lv_iconst (v := 0) hx hb dX8_isAhead_21 (by decide) ?_
      subst hT22
      exact K22 H locs ls w (lv_sub hl [] rfl)
    · replace hT22 := bq_ef hc hT22
      clear hc
      refine lv_iconst (v := 1) hx hb dX8_isAhead_17 (by decide) ?_
      refine lv_goto (tgt := 22) hx hb dX8_isAhead_18 (by decide) ?_
      subst hT22
      exact K22 H locs ls w (lv_sub hl [] rfl)
abbrev wdX8_divides (cI : ClassId) (a_t a_t_backs a_t_cuts a_t_outs u_t_rig u_t_trial u_t_strokes u_t_pauses u_t_text u_t_readOuts u_t_readBacks u_t_readPauses : Nat) (t : Nat → Int32) (t_backs : Nat → Int32) (t_cuts : Nat → Int32) (t_outs : Nat → Int32) : va_W := [(a_t, oX8 u_t_rig u_t_trial u_t_strokes a_t_outs a_t_backs u_t_pauses a_t_cuts u_t_text u_t_readOuts u_t_readBacks u_t_readPauses t), (a_t_backs, oA cI 16 t_backs), (a_t_cuts, oA cI 16 t_cuts), (a_t_outs, oA cI 16 t_outs)]
abbrev rmX8_divides : Room := { frames := 1, cells := 0, slots := 0, locals := 26 }
theorem hd_X8_divides : yX8_divides.cls = RX8 ∧ yX8_divides.cls ≠ "java/lang/invoke/MethodHandle" ∧ yX8_divides.cls ≠ "java/lang/invoke/VarHandle" ∧ (parseMethodDescriptor yX8_divides.desc).map (fun d => d.parameters.length) = some 0 := by decide +kernel
set_option maxHeartbeats 4000000 in
set_option maxRecDepth 100000 in
theorem kX8_divides (l : Launch) (D : va_G) (cI cJ : ClassId) (a_t a_t_backs a_t_cuts a_t_outs u_t_rig u_t_trial u_t_strokes u_t_pauses u_t_text u_t_readOuts u_t_readBacks u_t_readPauses : Nat) (t t_backs t_cuts t_outs : Nat → Int32) (t_o : Nat → Int32) (t_cuts_o : Nat → Int32) (hm : mX8_divides t t_backs t_cuts t_outs = some (t_o, t_cuts_o)) : bq_M l D cI cJ yX8_divides cX8_divides 5 none rmX8_divides [.ref a_t] (wdX8_divides cI a_t a_t_backs a_t_cuts a_t_outs u_t_rig u_t_trial u_t_strokes u_t_pauses u_t_text u_t_readOuts u_t_readBacks u_t_readPauses t t_backs t_cuts t_outs) (wdX8_divides cI a_t a_t_backs a_t_cuts a_t_outs u_t_rig u_t_trial u_t_strokes u_t_pauses u_t_text u_t_readOuts u_t_readBacks u_t_readPauses t_o t_backs t_cuts_o t_outs) none := by
  refine bq_start (by decide) (Nat.le_of_ble_eq_true rfl) ?_
  intro p e s m av9 below meth c A ls Q H locs E K w hA hr hk hn hQ hl
  have E : bq_E p m c cX8_divides 5 s av9 RX8 := E
  have hx := E.1
  have hb := E.2.1
  have hl : lv_has ls 5 [(0, .ref a_t)] := hl
  unfold mX8_divides at hm
  refine lv_iconst (v := 0) hx hb dX8_divides_0 (by decide) ?_
  refine lv_istore_n (lv' := [(1, .int 0), (0, .ref a_t)]) hx hb dX8_divides_1 rfl hl (by decide) rfl (fun ls hl => ?_)
  refine lv_bipush (v := 17) hx hb dX8_divides_2 (by decide) ?_
  refine lv_istore_n (lv' := [(2, .int 17), (1, .int 0), (0, .ref a_t)]) hx hb dX8_divides_4 rfl hl (by decide) rfl (fun ls hl => ?_)
  refine lv_iconst (v := 1) hx hb dX8_divides_5 (by decide) ?_
  refine lv_istore_n (lv' := [(3, .int 1), (2, .int 17), (1, .int 0), (0, .ref a_t)]) hx hb dX8_divides_6 rfl hl (by decide) rfl (fun ls hl => ?_)
  obtain ⟨v4, hL, hm⟩ := bq_bd_el hm
  obtain ⟨B, eB, nn, hL⟩ := bq_loop_B hL
  have X62 : ∀ (H : Heap) (locs : List Loc) (ls : Array Slot), bq_w D A s.heap (wdX8_divides cI a_t a_t_backs a_t_cuts a_t_outs u_t_rig u_t_trial u_t_strokes u_t_pauses u_t_text u_t_readOuts u_t_readBacks u_t_readPauses t t_backs t_cuts t_outs) H locs → lv_has ls 5 [(0, .ref a_t), (1, .int v4)] → W p l e rmX8_divides s m av9 below meth c H locs 0 0 Q (F0 m 62 ls []) := by
    intro H locs ls w hl
    refine lv_aload_n hx hb dX8_divides_62 rfl (lv_at hl 0 rfl) ?_
    refine lv_iconst (v := 0) hx hb dX8_divides_63 (by decide) ?_
    obtain ⟨t_5, e9, hm⟩ := bq_let_el hm
    refine pt_X8_136 E K w 0 rfl (Nat.le_of_ble_eq_true rfl) dX8_divides_64 (fun H locs w => ?_)
    replace w : bq_w D A s.heap (wdX8_divides cI a_t a_t_backs a_t_cuts a_t_outs u_t_rig u_t_trial u_t_strokes u_t_pauses u_t_text u_t_readOuts u_t_readBacks u_t_readPauses t_5 t_backs t_cuts t_outs) H locs := by rw [e9]; exact w
    clear e9
    refine lv_iconst (v := 0) hx hb dX8_divides_67 (by decide) ?_
    refine lv_istore_n (lv' := [(3, .int 0), (0, .ref a_t), (1, .int v4)]) hx hb dX8_divides_68 rfl hl (by decide) rfl (fun ls hl => ?_)
    obtain ⟨t_9, t_cuts_10, hL, hm⟩ := bq_b2_el hm
    obtain ⟨B, eB, nn, hL⟩ := bq_loop_B hL
    have X112 : ∀ (H : Heap) (locs : List Loc) (ls : Array Slot), bq_w D A s.heap (wdX8_divides cI a_t a_t_backs a_t_cuts a_t_outs u_t_rig u_t_trial u_t_strokes u_t_pauses u_t_text u_t_readOuts u_t_readBacks u_t_readPauses t_9 t_backs t_cuts_10 t_outs) H locs → lv_has ls 5 [] → W p l e rmX8_divides s m av9 below meth c H locs 0 0 Q (F0 m 112 ls []) := by
      intro H locs ls w hl
      obtain ⟨rfl, rfl⟩ := bq_in2 (Option.some.inj hm)
      exact bq_vret E w hr hk dX8_divides_112 hQ
    clear hm
    have L69 : ∀ (nn : Nat) (i6 : Int32) (t_7 : Nat → Int32) (t_cuts_8 : Nat → Int32) (H : Heap) (locs : List Loc) (ls : Array Slot), bq_lp B nn (i6, t_7, t_cuts_8) = some (t_9, t_cuts_10) → bq_w D A s.heap (wdX8_divides cI a_t a_t_backs a_t_cuts a_t_outs u_t_rig u_t_trial u_t_strokes u_t_pauses u_t_text u_t_readOuts u_t_readBacks u_t_readPauses t_7 t_backs t_cuts_8 t_outs) H locs → lv_has ls 5 [(0, .ref a_t), (1, .int v4), (3, .int i6)] → W p l e rmX8_divides s m av9 below meth c H locs 0 0 Q (F0 m 69 ls []) := by
      intro nn
      induction nn with
      | zero =>
        intro i6 t_7 t_cuts_8 H locs ls hL w hl
        exact bq_lp_0 hL
      | succ nn ih =>
        intro i6 t_7 t_cuts_8 H locs ls hL w hl
        obtain ⟨oo69, hT69, hR69⟩ := bq_lp_el hL
        clear hL
        replace hT69 := bq_u3_el eB hT69
        unfold bX8_divides_69 at hT69
        refine lv_iload_n hx hb dX8_divides_69 rfl (lv_at hl 2 rfl) ?_
        refine lv_aload_n hx hb dX8_divides_70 rfl (lv_at hl 0 rfl) ?_
        refine gt_X8_104 E K w 0 rfl rfl dX8_divides_71 ?_
        refine lv_icmp_ge (tgt := 112) hx hb dX8_divides_74 (by decide) (fun hc => ?_) (fun hc => ?_)
        · replace hT69 := bq_t hc hT69
          clear hc
          obtain rfl := Option.some.inj hT69
          replace hR69 := bq_lk_r hR69
          obtain ⟨rfl, rfl⟩ := bq_in2 hR69
          exact X112 H locs ls w (lv_sub hl [] rfl)
        · replace hT69 := bq_f hc hT69
          clear hc
          refine lv_iload_n hx hb dX8_divides_77 rfl (lv_at hl 1 rfl) ?_
          refine lv_iload_n hx hb dX8_divides_78 rfl (lv_at hl 2 rfl) ?_
          refine lv_ishr hx hb dX8_divides_79 ?_
          refine lv_iconst (v := 1) hx hb dX8_divides_80 (by decide) ?_
          refine lv_iand hx hb dX8_divides_81 ?_
          refine lv_iconst (v := 1) hx hb dX8_divides_82 (by decide) ?_
          obtain ⟨t_11, t_cuts_12, hT106, hT69⟩ := bq_b2_el hT69
          have K106 : ∀ (H : Heap) (locs : List Loc) (ls : Array Slot), bq_w D A s.heap (wdX8_divides cI a_t a_t_backs a_t_cuts a_t_outs u_t_rig u_t_trial u_t_strokes u_t_pauses u_t_text u_t_readOuts u_t_readBacks u_t_readPauses t_11 t_backs t_cuts_12 t_outs) H locs → lv_has ls 5 [(0, .ref a_t), (1, .int v4), (3, .int i6)] → W p l e rmX8_divides s m av9 below meth c H locs 0 0 Q (F0 m 106 ls []) := by
            intro H locs ls w hl
            obtain ⟨v15, e9, hT69⟩ := bq_let_el hT69
            refine lv_iinc (v := v15) (lv' := [(3, .int v15), (0, .ref a_t), (1, .int v4)]) hx hb dX8_divides_106 hl (k := 2) rfl (by rw [e9]; rfl) (by decide) rfl (fun ls hl => ?_)
            clear e9
            refine lv_goto (tgt := 69) hx hb dX8_divides_109 (by decide) ?_
            obtain rfl := Option.some.inj hT69
            exact ih v15 t_11 t_cuts_12 H locs ls hR69 w (lv_sub hl [1, 2, 0] rfl)
          clear hT69
          refine lv_icmp_ne (tgt := 106) hx hb dX8_divides_83 (by decide) (fun hc => ?_) (fun hc => ?_)
          · replace hT106 := bq_f hc hT106
            clear hc
            obtain ⟨rfl, rfl⟩ := bq_in2 (Option.some.inj hT106)
            exact K106 H locs ls w (lv_sub hl [0, 1, 2] rfl)
          · replace hT106 := bq_t hc hT106
            clear hc
            refine lv_aload_n hx hb dX8_divides_86 rfl (lv_at hl 0 rfl) ?_
            refine gt_X8_28 E K w 0 rfl rfl dX8_divides_87 ?_
            refine lv_aload_n hx hb dX8_divides_90 rfl (lv_at hl 0 rfl) ?_
            refine gt_X8_136 E K w 0 rfl rfl dX8_divides_91 ?_
            refine lv_iload_n hx hb dX8_divides_94 rfl (lv_at hl 2 rfl) ?_
            obtain ⟨hI, hT106⟩ := bq_ci_el hT106
            obtain ⟨t_cuts_13, e9, hT106⟩ := bq_let_el hT106
            refine bq_ast E K w 2 rfl hI dX8_divides_95 (fun H locs w => ?_)
            replace w : bq_w D A s.heap (wdX8_divides cI a_t a_t_backs a_t_cuts a_t_outs u_t_rig u_t_trial u_t_strokes u_t_pauses u_t_text u_t_readOuts u_t_readBacks u_t_readPauses t_7 t_backs t_cuts_13 t_outs) H locs := by rw [e9]; exact w
            clear e9
            refine lv_aload_n hx hb dX8_divides_96 rfl (lv_at hl 0 rfl) ?_
            refine lv_dup hx hb dX8_divides_97 rfl ?_
            refine gt_X8_136 E K w 0 rfl rfl dX8_divides_98 ?_
            refine lv_iconst (v := 1) hx hb dX8_divides_101 (by decide) ?_
            refine lv_iadd hx hb dX8_divides_102 ?_
            obtain ⟨t_14, e9, hT106⟩ := bq_let_el hT106
            refine pt_X8_136 E K w 0 rfl (Nat.le_of_ble_eq_true rfl) dX8_divides_103 (fun H locs w => ?_)
            replace w : bq_w D A s.heap (wdX8_divides cI a_t a_t_backs a_t_cuts a_t_outs u_t_rig u_t_trial u_t_strokes u_t_pauses u_t_text u_t_readOuts u_t_readBacks u_t_readPauses t_14 t_backs t_cuts_13 t_outs) H locs := by rw [e9]; exact w
            clear e9
            obtain ⟨rfl, rfl⟩ := bq_in2 (Option.some.inj hT106)
            exact K106 H locs ls w (lv_sub hl [0, 1, 2] rfl)
    exact L69 nn 0 t_5 t_cuts H locs ls hL w (lv_sub hl [1, 2, 0] rfl)
  clear hm
  have L7 : ∀ (nn : Nat) (i1 : Int32) (i2 : Int32) (i3 : Int32) (H : Heap) (locs : List Loc) (ls : Array Slot), bq_lp B nn (i1, i2, i3) = some v4 → bq_w D A s.heap (wdX8_divides cI a_t a_t_backs a_t_cuts a_t_outs u_t_rig u_t_trial u_t_strokes u_t_pauses u_t_text u_t_readOuts u_t_readBacks u_t_readPauses t t_backs t_cuts t_outs) H locs → lv_has ls 5 [(0, .ref a_t), (1, .int i3), (2, .int i2), (3, .int i1)] → W p l e rmX8_divides s m av9 below meth c H locs 0 0 Q (F0 m 7 ls []) := by
    intro nn
    induction nn with
    | zero =>
      intro i1 i2 i3 H locs ls hL w hl
      exact bq_lp_0 hL
    | succ nn ih =>
      intro i1 i2 i3 H locs ls hL w hl
      obtain ⟨oo7, hT7, hR7⟩ := bq_lp_el hL
      clear hL
      replace hT7 := bq_u3_el eB hT7
      unfold bX8_divides_7 at hT7
      refine lv_iload_n hx hb dX8_divides_7 rfl (lv_at hl 3 rfl) ?_
      refine lv_iconst (v := 1) hx hb dX8_divides_8 (by decide) ?_
      refine lv_aload_n hx hb dX8_divides_9 rfl (lv_at hl 0 rfl) ?_
      refine gt_X8_104 E K w 0 rfl rfl dX8_divides_10 ?_
      refine lv_ishl hx hb dX8_divides_13 ?_
      refine lv_icmp_ge (tgt := 62) hx hb dX8_divides_14 (by decide) (fun hc => ?_) (fun hc => ?_)
      · replace hT7 := bq_t hc hT7
        clear hc
        obtain rfl := Option.some.inj hT7
        replace hR7 := bq_lk_r hR7
        subst hR7
        exact X62 H locs ls w (lv_sub hl [0, 1] rfl)
      · replace hT7 := bq_f hc hT7
        clear hc
        refine lv_iload_n hx hb dX8_divides_17 rfl (lv_at hl 3 rfl) ?_
        obtain ⟨v16, hC, hT7⟩ := bq_bd_el hT7
        refine bq_S0 (As := [.int i1]) (rest := []) (st1 := [.int v16]) E K w hA (kX8_countOf l D cI cJ i1 v16 hC) cd_X8_countOf ml_X8_126 in_X8 st_X8_countOf hs_X8_countOf ⟨Nat.le_of_ble_eq_true rfl, Nat.le_of_ble_eq_true rfl⟩ ⟨Nat.le_of_ble_eq_true rfl, Nat.le_of_ble_eq_true rfl⟩ rfl hl.1 rfl (Nat.le_of_ble_eq_true rfl) rfl dX8_divides_18 (fun H locs w => bq_z ⟨rfl, rfl⟩ ?_)
        clear hC
        refine lv_istore (lv' := [(4, .int v16), (0, .ref a_t), (1, .int i3), (2, .int i2), (3, .int i1)]) hx hb dX8_divides_21 hl (by decide) rfl (fun ls hl => ?_)
        refine lv_iload hx hb dX8_divides_23 (lv_at hl 0 rfl) ?_
        refine lv_iload_n hx hb dX8_divides_25 rfl (lv_at hl 3 rfl) ?_
        obtain ⟨v17, v18, hT56, hT7⟩ := bq_b2_el hT7
        have K56 : ∀ (H : Heap) (locs : List Loc) (ls : Array Slot), bq_w D A s.heap (wdX8_divides cI a_t a_t_backs a_t_cuts a_t_outs u_t_rig u_t_trial u_t_strokes u_t_pauses u_t_text u_t_readOuts u_t_readBacks u_t_readPauses t t_backs t_cuts t_outs) H locs → lv_has ls 5 [(0, .ref a_t), (1, .int v17), (2, .int v18), (3, .int i1)] → W p l e rmX8_divides s m av9 below meth c H locs 0 0 Q (F0 m 56 ls []) := by
          intro H locs ls w hl
          obtain ⟨v22, e9, hT7⟩ := bq_let_el hT7
          refine lv_iinc (v := v22) (lv' := [(3, .int v22), (0, .ref a_t), (1, .int v17), (2, .int v18)]) hx hb dX8_divides_56 hl (k := 3) rfl (by rw [e9]; rfl) (by decide) rfl (fun ls hl => ?_)
          clear e9
          refine lv_goto (tgt := 7) hx hb dX8_divides_59 (by decide) ?_
          obtain rfl := Option.some.inj hT7
          exact ih v22 v18 v17 H locs ls hR7 w (lv_sub hl [1, 2, 3, 0] rfl)
        clear hT7
        refine lv_icmp_lt (tgt := 43) hx hb dX8_divides_26 (by decide) (fun hc => ?_) (fun hc => ?_)
        · replace hT56 := bq_t hc hT56
          clear hc
          refine lv_aload_n hx hb dX8_divides_43 rfl (lv_at hl 1 rfl) ?_
          refine lv_iload_n hx hb dX8_divides_44 rfl (lv_at hl 4 rfl) ?_
          obtain ⟨v19, hC, hT56⟩ := bq_bd_el hT56
          refine bq_V (As := [.int i1]) (rest := []) (st1 := [.int v19]) (ws' := wdX8_divides cI a_t a_t_backs a_t_cuts a_t_outs u_t_rig u_t_trial u_t_strokes u_t_pauses u_t_text u_t_readOuts u_t_readBacks u_t_readPauses t t_backs t_cuts t_outs) E K w hA (kX8_areGroups l D cI cJ a_t a_t_backs a_t_outs u_t_rig u_t_trial u_t_strokes u_t_pauses a_t_cuts u_t_text u_t_readOuts u_t_readBacks u_t_readPauses t t_backs t_outs i1 v19 hC) (bq_gV ml_X8_133 im_X8_areGroups sl_X8_areGroups in_X8 cd_X8_areGroups) hd_X8_areGroups ⟨Nat.le_of_ble_eq_true rfl, Nat.le_of_ble_eq_true rfl⟩ ⟨Nat.le_of_ble_eq_true rfl, Nat.le_of_ble_eq_true rfl⟩ ⟨[0, 1, 3], [2], [1, 2, 0, 3], rfl, rfl, rfl, rfl, rfl, rfl, rfl, rfl, rfl⟩ 0 rfl rfl rfl hl.1 rfl (Nat.le_of_ble_eq_true rfl) rfl dX8_divides_45 (fun H locs w => bq_z ⟨rfl, rfl⟩ ?_)
          clear hC
          refine lv_if_eq (tgt := 56) hx hb dX8_divides_48 (by decide) (fun hc => ?_) (fun hc => ?_)
          · replace hT56 := bq_t hc hT56
            clear hc
            obtain ⟨rfl, rfl⟩ := bq_in2 (Option.some.inj hT56)
            exact K56 H locs ls w (lv_sub hl [1, 2, 3, 4] rfl)
          · replace hT56 := bq_f hc hT56
            clear hc
            refine lv_iload_n hx hb dX8_divides_51 rfl (lv_at hl 4 rfl) ?_
            refine lv_istore_n (lv' := [(1, .int i1), (4, .int v16), (0, .ref a_t), (2, .int i2), (3, .int i1)]) hx hb dX8_divides_52 rfl hl (by decide) rfl (fun ls hl => ?_)
            refine lv_iload hx hb dX8_divides_53 (lv_at hl 1 rfl) ?_
            refine lv_istore_n (lv' := [(2, .int v16), (1, .int i1), (4, .int v16), (0, .ref a_t), (3, .int i1)]) hx hb dX8_divides_55 rfl hl (by decide) rfl (fun ls hl => ?_)
            obtain ⟨rfl, rfl⟩ := bq_in2 (Option.some.inj hT56)
            exact K56 H locs ls w (lv_sub hl [3, 1, 0, 4] rfl)
        · replace hT56 := bq_f hc hT56
          clear hc
          refine lv_iload hx hb dX8_divides_29 (lv_at hl 0 rfl) ?_
          refine lv_iload_n hx hb dX8_divides_31 rfl (lv_at hl 3 rfl) ?_
          refine lv_icmp_ne (tgt := 56) hx hb dX8_divides_32 (by decide) (fun hc => ?_) (fun hc => ?_)
          · replace hT56 := bq_f hc hT56
            clear hc
            obtain ⟨rfl, rfl⟩ := bq_in2 (Option.some.inj hT56)
            exact K56 H locs ls w (lv_sub hl [1, 2, 3, 4] rfl)
          · replace hT56 := bq_t hc hT56
            clear hc
            refine lv_iload_n hx hb dX8_divides_35 rfl (lv_at hl 4 rfl) ?_
            refine lv_iload_n hx hb dX8_divides_36 rfl (lv_at hl 2 rfl) ?_
            obtain ⟨v20, hC, hT56⟩ := bq_bd_el hT56
            refine bq_S0 (As := [.int i1, .int i3]) (rest := []) (st1 := [.int v20]) E K w hA (kX8_isAhead l D cI cJ i1 i3 v20 hC) cd_X8_isAhead ml_X8_129 in_X8 st_X8_isAhead hs_X8_isAhead ⟨Nat.le_of_ble_eq_true rfl, Nat.le_of_ble_eq_true rfl⟩ ⟨Nat.le_of_ble_eq_true rfl, Nat.le_of_ble_eq_true rfl⟩ rfl hl.1 rfl (Nat.le_of_ble_eq_true rfl) rfl dX8_divides_37 (fun H locs w => bq_z ⟨rfl, rfl⟩ ?_)
            clear hC
            refine lv_if_eq (tgt := 56) hx hb dX8_divides_40 (by decide) (fun hc => ?_) (fun hc => ?_)
            · replace hT56 := bq_t hc hT56
              clear hc
              obtain ⟨rfl, rfl⟩ := bq_in2 (Option.some.inj hT56)
              exact K56 H locs ls w (lv_sub hl [1, 2, 3, 4] rfl)
            · replace hT56 := bq_f hc hT56
              clear hc
              refine lv_aload_n hx hb dX8_divides_43 rfl (lv_at hl 1 rfl) ?_
              refine lv_iload_n hx hb dX8_divides_44 rfl (lv_at hl 4 rfl) ?_
              obtain ⟨v21, hC, hT56⟩ := bq_bd_el hT56
              refine bq_V (As := [.int i1]) (rest := []) (st1 := [.int v21]) (ws' := wdX8_divides cI a_t a_t_backs a_t_cuts a_t_outs u_t_rig u_t_trial u_t_strokes u_t_pauses u_t_text u_t_readOuts u_t_readBacks u_t_readPauses t t_backs t_cuts t_outs) E K w hA (kX8_areGroups l D cI cJ a_t a_t_backs a_t_outs u_t_rig u_t_trial u_t_strokes u_t_pauses a_t_cuts u_t_text u_t_readOuts u_t_readBacks u_t_readPauses t t_backs t_outs i1 v21 hC) (bq_gV ml_X8_133 im_X8_areGroups sl_X8_areGroups in_X8 cd_X8_areGroups) hd_X8_areGroups ⟨Nat.le_of_ble_eq_true rfl, Nat.le_of_ble_eq_true rfl⟩ ⟨Nat.le_of_ble_eq_true rfl, Nat.le_of_ble_eq_true rfl⟩ ⟨[0, 1, 3], [2], [1, 2, 0, 3], rfl, rfl, rfl, rfl, rfl, rfl, rfl, rfl, rfl⟩ 0 rfl rfl rfl hl.1 rfl (Nat.le_of_ble_eq_true rfl) rfl dX8_divides_45 (fun H locs w => bq_z ⟨rfl, rfl⟩ ?_)
              clear hC
              refine lv_if_eq (tgt := 56) hx hb dX8_divides_48 (by decide) (fun hc => ?_) (fun hc => ?_)
              · replace hT56 := bq_t hc hT56
                clear hc
                obtain ⟨rfl, rfl⟩ := bq_in2 (Option.some.inj hT56)
                exact K56 H locs ls w (lv_sub hl [1, 2, 3, 4] rfl)
              · replace hT56 := bq_f hc hT56
                clear hc
                refine lv_iload_n hx hb dX8_divides_51 rfl (lv_at hl 4 rfl) ?_
                refine lv_istore_n (lv' := [(1, .int i1), (4, .int v16), (0, .ref a_t), (2, .int i2), (3, .int i1)]) hx hb dX8_divides_52 rfl hl (by decide) rfl (fun ls hl => ?_)
                refine lv_iload hx hb dX8_divides_53 (lv_at hl 1 rfl) ?_
                refine lv_istore_n (lv' := [(2, .int v16), (1, .int i1), (4, .int v16), (0, .ref a_t), (3, .int i1)]) hx hb dX8_divides_55 rfl hl (by decide) rfl (fun ls hl => ?_)
                obtain ⟨rfl, rfl⟩ := bq_in2 (Option.some.inj hT56)
                exact K56 H locs ls w (lv_sub hl [3, 1, 0, 4] rfl)
  exact L7 nn 1 17 0 H locs ls hL w (lv_sub hl [3, 2, 1, 0] rfl)
abbrev wdX8_groupFor (cI : ClassId) (a_t a_t_cuts u_t_rig u_t_trial u_t_strokes u_t_outs u_t_backs u_t_pauses u_t_text u_t_readOuts u_t_readBacks u_t_readPauses : Nat) (t : Nat → Int32) (t_cuts : Nat → Int32) : va_W := [(a_t, oX8 u_t_rig u_t_trial u_t_strokes u_t_outs u_t_backs u_t_pauses a_t_cuts u_t_text u_t_readOuts u_t_readBacks u_t_readPauses t), (a_t_cuts, oA cI 16 t_cuts)]
abbrev rmX8_groupFor : Room := { frames := 0, cells := 0, slots := 0, locals := 0 }
theorem hd_X8_groupFor : yX8_groupFor.cls = RX8 ∧ yX8_groupFor.cls ≠ "java/lang/invoke/MethodHandle" ∧ yX8_groupFor.cls ≠ "java/lang/invoke/VarHandle" ∧ (parseMethodDescriptor yX8_groupFor.desc).map (fun d => d.parameters.length) = some 1 := by decide +kernel
set_option maxHeartbeats 4000000 in
set_option maxRecDepth 100000 in
theorem kX8_groupFor (l : Launch) (D : va_G) (cI cJ : ClassId) (a_t a_t_cuts u_t_rig u_t_trial u_t_strokes u_t_outs u_t_backs u_t_pauses u_t_text u_t_readOuts u_t_readBacks u_t_readPauses : Nat) (t t_cuts : Nat → Int32) (x1 : Int32) (r : Int32) (hm : mX8_groupFor t t_cuts x1 = some r) : bq_M l D cI cJ yX8_groupFor cX8_groupFor 4 (some .int) rmX8_groupFor [.ref a_t, .int x1] (wdX8_groupFor cI a_t a_t_cuts u_t_rig u_t_trial u_t_strokes u_t_outs u_t_backs u_t_pauses u_t_text u_t_readOuts u_t_readBacks u_t_readPauses t t_cuts) (wdX8_groupFor cI a_t a_t_cuts u_t_rig u_t_trial u_t_strokes u_t_outs u_t_backs u_t_pauses u_t_text u_t_readOuts u_t_readBacks u_t_readPauses t t_cuts) (some (.int r)) := by
  refine bq_start (by decide) (Nat.le_of_ble_eq_true rfl) ?_
  intro p e s m av9 below meth c A ls Q H locs E K w hA hr hk hn hQ hl
  have E : bq_E p m c cX8_groupFor 4 s av9 RX8 := E
  have hx := E.1
  have hb := E.2.1
  have hl : lv_has ls 4 [(0, .ref a_t), (1, .int x1)] := hl
  unfold mX8_groupFor at hm
  refine lv_aload_n hx hb dX8_groupFor_0 rfl (lv_at hl 0 rfl) ?_
  refine gt_X8_136 E K w 0 rfl rfl dX8_groupFor_1 ?_
  refine lv_iconst (v := 1) hx hb dX8_groupFor_4 (by decide) ?_
  refine lv_isub hx hb dX8_groupFor_5 ?_
  obtain ⟨v1, e9, hm⟩ := bq_let_el hm
  refine bq_nmi e9 ?_
  clear e9
  refine lv_istore_n (lv' := [(2, .int v1), (0, .ref a_t), (1, .int x1)]) hx hb dX8_groupFor_6 rfl hl (by decide) rfl (fun ls hl => ?_)
  refine lv_iconst (v := 0) hx hb dX8_groupFor_7 (by decide) ?_
  refine lv_istore_n (lv' := [(3, .int 0), (2, .int v1), (0, .ref a_t), (1, .int x1)]) hx hb dX8_groupFor_8 rfl hl (by decide) rfl (fun ls hl => ?_)
  obtain ⟨v4, hL, hm⟩ := bq_bd_el hm
  obtain ⟨B, eB, nn, hL⟩ := bq_loop_B hL
  have X39 : ∀ (H : Heap) (locs : List Loc) (ls : Array Slot), bq_w D A s.heap (wdX8_groupFor cI a_t a_t_cuts u_t_rig u_t_trial u_t_strokes u_t_outs u_t_backs u_t_pauses u_t_text u_t_readOuts u_t_readBacks u_t_readPauses t t_cuts) H locs → lv_has ls 4 [(2, .int v4)] → W p l e rmX8_groupFor s m av9 below meth c H locs 0 0 Q (F0 m 39 ls []) := by
    intro H locs ls w hl
    refine lv_iload_n hx hb dX8_groupFor_39 rfl (lv_at hl 0 rfl) ?_
    obtain rfl := Option.some.inj hm
    exact bq_iret E w hr hk dX8_groupFor_40 hQ
  clear hm
  have L9 : ∀ (nn : Nat) (i2 : Int32) (i3 : Int32) (H : Heap) (locs : List Loc) (ls : Array Slot), bq_lp B nn (i2, i3) = some v4 → bq_w D A s.heap (wdX8_groupFor cI a_t a_t_cuts u_t_rig u_t_trial u_t_strokes u_t_outs u_t_backs u_t_pauses u_t_text u_t_readOuts u_t_readBacks u_t_readPauses t t_cuts) H locs → lv_has ls 4 [(0, .ref a_t), (1, .int x1), (2, .int i3), (3, .int i2)] → W p l e rmX8_groupFor s m av9 below meth c H locs 0 0 Q (F0 m 9 ls []) := by
    intro nn
    induction nn with
    | zero =>
      intro i2 i3 H locs ls hL w hl
      exact bq_lp_0 hL
    | succ nn ih =>
      intro i2 i3 H locs ls hL w hl
      obtain ⟨oo9, hT9, hR9⟩ := bq_lp_el hL
      clear hL
      replace hT9 := bq_u2_el eB hT9
      unfold bX8_groupFor_9 at hT9
      refine lv_iload_n hx hb dX8_groupFor_9 rfl (lv_at hl 3 rfl) ?_
      refine lv_aload_n hx hb dX8_groupFor_10 rfl (lv_at hl 0 rfl) ?_
      refine gt_X8_136 E K w 0 rfl rfl dX8_groupFor_11 ?_
      refine lv_icmp_ge (tgt := 39) hx hb dX8_groupFor_14 (by decide) (fun hc => ?_) (fun hc => ?_)
      · replace hT9 := bq_t hc hT9
        clear hc
        obtain rfl := Option.some.inj hT9
        replace hR9 := bq_lk_r hR9
        subst hR9
        exact X39 H locs ls w (lv_sub hl [2] rfl)
      · replace hT9 := bq_f hc hT9
        clear hc
        refine lv_aload_n hx hb dX8_groupFor_17 rfl (lv_at hl 0 rfl) ?_
        refine gt_X8_28 E K w 0 rfl rfl dX8_groupFor_18 ?_
        refine lv_iload_n hx hb dX8_groupFor_21 rfl (lv_at hl 3 rfl) ?_
        obtain ⟨hI, hT9⟩ := bq_ci_el hT9
        refine bq_ald E K w 1 rfl hI dX8_groupFor_22 ?_
        refine lv_iload_n hx hb dX8_groupFor_23 rfl (lv_at hl 1 rfl) ?_
        obtain ⟨v5, hT32, hT9⟩ := bq_let_el hT9
        have K32 : ∀ (H : Heap) (locs : List Loc) (ls : Array Slot), bq_w D A s.heap (wdX8_groupFor cI a_t a_t_cuts u_t_rig u_t_trial u_t_strokes u_t_outs u_t_backs u_t_pauses u_t_text u_t_readOuts u_t_readBacks u_t_readPauses t t_cuts) H locs → lv_has ls 4 [(0, .ref a_t), (1, .int x1), (3, .int i2)] → W p l e rmX8_groupFor s m av9 below meth c H locs 0 0 Q (F0 m 32 ls [.int v5]) := by
          intro H locs ls w hl
          refine lv_istore_n (lv' := [(2, .int v5), (0, .ref a_t), (1, .int x1), (3, .int i2)]) hx hb dX8_groupFor_32 rfl hl (by decide) rfl (fun ls hl => ?_)
          obtain ⟨v6, e9, hT9⟩ := bq_let_el hT9
          refine lv_iinc (v := v6) (lv' := [(3, .int v6), (2, .int v5), (0, .ref a_t), (1, .int x1)]) hx hb dX8_groupFor_33 hl (k := 3) rfl (by rw [e9]; rfl) (by decide) rfl (fun ls hl => ?_)
          clear e9
          refine lv_goto (tgt := 9) hx hb dX8_groupFor_36 (by decide) ?_
          obtain rfl := Option.some.inj hT9
          exact ih v6 v5 H locs ls hR9 w (lv_sub hl [2, 3, 1, 0] rfl)
        clear hT9
        refine lv_icmp_gt (tgt := 31) hx hb dX8_groupFor_24 (by decide) (fun hc => ?_) (fun hc => ?_)
        · replace hT32 := bq_et hc hT32
          clear hc
          refine lv_iload_n hx hb dX8_groupFor_31 rfl (lv_at hl 2 rfl) ?_
          subst hT32
          exact K32 H locs ls w (lv_sub hl [0, 1, 3] rfl)
        · replace hT32 := bq_ef hc hT32
          clear hc
          refine lv_iload_n hx hb dX8_groupFor_27 rfl (lv_at hl 3 rfl) ?_
          refine lv_goto (tgt := 32) hx hb dX8_groupFor_28 (by decide) ?_
          subst hT32
          exact K32 H locs ls w (lv_sub hl [0, 1, 3] rfl)
  exact L9 nn 0 v1 H locs ls hL w (lv_sub hl [2, 3, 1, 0] rfl)
abbrev wdX8_groups (cI : ClassId) (a_t u_t_rig u_t_trial u_t_strokes u_t_outs u_t_backs u_t_pauses u_t_cuts u_t_text u_t_readOuts u_t_readBacks u_t_readPauses : Nat) (t : Nat → Int32) : va_W := [(a_t, oX8 u_t_rig u_t_trial u_t_strokes u_t_outs u_t_backs u_t_pauses u_t_cuts u_t_text u_t_readOuts u_t_readBacks u_t_readPauses t)]
abbrev rmX8_groups : Room := { frames := 1, cells := 0, slots := 0, locals := 21 }
theorem hd_X8_groups : yX8_groups.cls = RX8 ∧ yX8_groups.cls ≠ "java/lang/invoke/MethodHandle" ∧ yX8_groups.cls ≠ "java/lang/invoke/VarHandle" ∧ (parseMethodDescriptor yX8_groups.desc).map (fun d => d.parameters.length) = some 0 := by decide +kernel
set_option maxHeartbeats 4000000 in
set_option maxRecDepth 100000 in
theorem kX8_groups (l : Launch) (D : va_G) (cI cJ : ClassId) (a_t u_t_rig u_t_trial u_t_strokes u_t_outs u_t_backs u_t_pauses u_t_cuts u_t_text u_t_readOuts u_t_readBacks u_t_readPauses : Nat) (t : Nat → Int32) (r : Int32) (t_o : Nat → Int32) (hm : mX8_groups t = some (r, t_o)) : bq_M l D cI cJ yX8_groups cX8_groups 1 (some .int) rmX8_groups [.ref a_t] (wdX8_groups cI a_t u_t_rig u_t_trial u_t_strokes u_t_outs u_t_backs u_t_pauses u_t_cuts u_t_text u_t_readOuts u_t_readBacks u_t_readPauses t) (wdX8_groups cI a_t u_t_rig u_t_trial u_t_strokes u_t_outs u_t_backs u_t_pauses u_t_cuts u_t_text u_t_readOuts u_t_readBacks u_t_readPauses t_o) (some (.int r)) := by
  refine bq_start (by decide) (Nat.le_of_ble_eq_true rfl) ?_
  intro p e s m av9 below meth c A ls Q H locs E K w hA hr hk hn hQ hl
  have E : bq_E p m c cX8_groups 1 s av9 RX8 := E
  have hx := E.1
  have hb := E.2.1
  have hl : lv_has ls 1 [(0, .ref a_t)] := hl
  unfold mX8_groups at hm
  refine lv_aload_n hx hb dX8_groups_0 rfl (lv_at hl 0 rfl) ?_
  refine lv_iconst (v := 0) hx hb dX8_groups_1 (by decide) ?_
  obtain ⟨t_1, e9, hm⟩ := bq_let_el hm
  refine pt_X8_47 E K w 0 rfl (Nat.le_of_ble_eq_true rfl) dX8_groups_2 (fun H locs w => ?_)
  replace w : bq_w D A s.heap (wdX8_groups cI a_t u_t_rig u_t_trial u_t_strokes u_t_outs u_t_backs u_t_pauses u_t_cuts u_t_text u_t_readOuts u_t_readBacks u_t_readPauses t_1) H locs := by rw [e9]; exact w
  clear e9
  refine lv_aload_n hx hb dX8_groups_5 rfl (lv_at hl 0 rfl) ?_
  refine gt_X8_104 E K w 0 rfl rfl dX8_groups_6 ?_
  obtain ⟨v2, t_3, hT24, hm⟩ := bq_b2_el hm
  have K24 : ∀ (H : Heap) (locs : List Loc) (ls : Array Slot), bq_w D A s.heap (wdX8_groups cI a_t u_t_rig u_t_trial u_t_strokes u_t_outs u_t_backs u_t_pauses u_t_cuts u_t_text u_t_readOuts u_t_readBacks u_t_readPauses t_3) H locs → lv_has ls 1 [] → W p l e rmX8_groups s m av9 below meth c H locs 0 0 Q (F0 m 24 ls [.int v2]) := by
    intro H locs ls w hl
    obtain ⟨rfl, rfl⟩ := bq_in2 (Option.some.inj hm)
    exact bq_iret E w hr hk dX8_groups_24 hQ
  clear hm
  refine lv_if_ne (tgt := 20) hx hb dX8_groups_9 (by decide) (fun hc => ?_) (fun hc => ?_)
  · replace hT24 := bq_f hc hT24
    clear hc
    refine lv_aload_n hx hb dX8_groups_20 rfl (lv_at hl 0 rfl) ?_
    refine gt_X8_136 E K w 0 rfl rfl dX8_groups_21 ?_
    obtain ⟨rfl, rfl⟩ := bq_in2 (Option.some.inj hT24)
    exact K24 H locs ls w (lv_sub hl [] rfl)
  · replace hT24 := bq_t hc hT24
    clear hc
    refine lv_aload_n hx hb dX8_groups_12 rfl (lv_at hl 0 rfl) ?_
    refine lv_iconst (v := 1) hx hb dX8_groups_13 (by decide) ?_
    obtain ⟨v4, t_5, hC, hT24⟩ := bq_b2_el hT24
    refine bq_V (As := [.int 1]) (rest := []) (st1 := [.int v4]) (ws' := wdX8_groups cI a_t u_t_rig u_t_trial u_t_strokes u_t_outs u_t_backs u_t_pauses u_t_cuts u_t_text u_t_readOuts u_t_readBacks u_t_readPauses t_5) E K w hA (kX8_fails l D cI cJ a_t u_t_rig u_t_trial u_t_strokes u_t_outs u_t_backs u_t_pauses u_t_cuts u_t_text u_t_readOuts u_t_readBacks u_t_readPauses t_1 1 v4 t_5 hC) (bq_gV ml_X8_55 im_X8_fails sl_X8_fails in_X8 cd_X8_fails) hd_X8_fails ⟨Nat.le_of_ble_eq_true rfl, Nat.le_of_ble_eq_true rfl⟩ ⟨Nat.le_of_ble_eq_true rfl, Nat.le_of_ble_eq_true rfl⟩ ⟨[0], [], [0], rfl, rfl, rfl, rfl, rfl, rfl, rfl, rfl, rfl⟩ 0 rfl rfl rfl hl.1 rfl (Nat.le_of_ble_eq_true rfl) rfl dX8_groups_14 (fun H locs w => bq_z ⟨rfl, rfl⟩ ?_)
    clear hC
    refine lv_goto (tgt := 24) hx hb dX8_groups_17 (by decide) ?_
    obtain ⟨rfl, rfl⟩ := bq_in2 (Option.some.inj hT24)
    exact K24 H locs ls w (lv_sub hl [] rfl)
abbrev wdX8_cut (cI : ClassId) (a_t a_t_cuts u_t_rig u_t_trial u_t_strokes u_t_outs u_t_backs u_t_pauses u_t_text u_t_readOuts u_t_readBacks u_t_readPauses : Nat) (t : Nat → Int32) (t_cuts : Nat → Int32) : va_W := [(a_t, oX8 u_t_rig u_t_trial u_t_strokes u_t_outs u_t_backs u_t_pauses a_t_cuts u_t_text u_t_readOuts u_t_readBacks u_t_readPauses t), (a_t_cuts, oA cI 16 t_cuts)]
abbrev rmX8_cut : Room := { frames := 1, cells := 0, slots := 0, locals := 22 }
theorem hd_X8_cut : yX8_cut.cls = RX8 ∧ yX8_cut.cls ≠ "java/lang/invoke/MethodHandle" ∧ yX8_cut.cls ≠ "java/lang/invoke/VarHandle" ∧ (parseMethodDescriptor yX8_cut.desc).map (fun d => d.parameters.length) = some 1 := by decide +kernel
set_option maxHeartbeats 4000000 in
set_option maxRecDepth 100000 in
theorem kX8_cut (l : Launch) (D : va_G) (cI cJ : ClassId) (a_t a_t_cuts u_t_rig u_t_trial u_t_strokes u_t_outs u_t_backs u_t_pauses u_t_text u_t_readOuts u_t_readBacks u_t_readPauses : Nat) (t t_cuts : Nat → Int32) (x1 : Int32) (r : Int32) (t_o : Nat → Int32) (hm : mX8_cut t t_cuts x1 = some (r, t_o)) : bq_M l D cI cJ yX8_cut cX8_cut 2 (some .int) rmX8_cut [.ref a_t, .int x1] (wdX8_cut cI a_t a_t_cuts u_t_rig u_t_trial u_t_strokes u_t_outs u_t_backs u_t_pauses u_t_text u_t_readOuts u_t_readBacks u_t_readPauses t t_cuts) (wdX8_cut cI a_t a_t_cuts u_t_rig u_t_trial u_t_strokes u_t_outs u_t_backs u_t_pauses u_t_text u_t_readOuts u_t_readBacks u_t_readPauses t_o t_cuts) (some (.int r)) := by
  refine bq_start (by decide) (Nat.le_of_ble_eq_true rfl) ?_
  intro p e s m av9 below meth c A ls Q H locs E K w hA hr hk hn hQ hl
  have E : bq_E p m c cX8_cut 2 s av9 RX8 := E
  have hx := E.1
  have hb := E.2.1
  have hl : lv_has ls 2 [(0, .ref a_t), (1, .int x1)] := hl
  unfold mX8_cut at hm
  refine lv_aload_n hx hb dX8_cut_0 rfl (lv_at hl 0 rfl) ?_
  refine lv_iconst (v := 0) hx hb dX8_cut_1 (by decide) ?_
  obtain ⟨t_1, e9, hm⟩ := bq_let_el hm
  refine pt_X8_47 E K w 0 rfl (Nat.le_of_ble_eq_true rfl) dX8_cut_2 (fun H locs w => ?_)
  replace w : bq_w D A s.heap (wdX8_cut cI a_t a_t_cuts u_t_rig u_t_trial u_t_strokes u_t_outs u_t_backs u_t_pauses u_t_text u_t_readOuts u_t_readBacks u_t_readPauses t_1 t_cuts) H locs := by rw [e9]; exact w
  clear e9
  refine lv_aload_n hx hb dX8_cut_5 rfl (lv_at hl 0 rfl) ?_
  refine gt_X8_104 E K w 0 rfl rfl dX8_cut_6 ?_
  obtain ⟨v2, t_3, hT40, hm⟩ := bq_b2_el hm
  have K40 : ∀ (H : Heap) (locs : List Loc) (ls : Array Slot), bq_w D A s.heap (wdX8_cut cI a_t a_t_cuts u_t_rig u_t_trial u_t_strokes u_t_outs u_t_backs u_t_pauses u_t_text u_t_readOuts u_t_readBacks u_t_readPauses t_3 t_cuts) H locs → lv_has ls 2 [] → W p l e rmX8_cut s m av9 below meth c H locs 0 0 Q (F0 m 40 ls [.int v2]) := by
    intro H locs ls w hl
    obtain ⟨rfl, rfl⟩ := bq_in2 (Option.some.inj hm)
    exact bq_iret E w hr hk dX8_cut_40 hQ
  clear hm
  refine lv_if_le (tgt := 35) hx hb dX8_cut_9 (by decide) (fun hc => ?_) (fun hc => ?_)
  · replace hT40 := bq_t hc hT40
    clear hc
    refine lv_aload_n hx hb dX8_cut_35 rfl (lv_at hl 0 rfl) ?_
    refine lv_iconst (v := 1) hx hb dX8_cut_36 (by decide) ?_
    obtain ⟨v4, t_5, hC, hT40⟩ := bq_b2_el hT40
    refine bq_V (As := [.int 1]) (rest := []) (st1 := [.int v4]) (ws' := wdX8_cut cI a_t a_t_cuts u_t_rig u_t_trial u_t_strokes u_t_outs u_t_backs u_t_pauses u_t_text u_t_readOuts u_t_readBacks u_t_readPauses t_5 t_cuts) E K w hA (kX8_fails l D cI cJ a_t u_t_rig u_t_trial u_t_strokes u_t_outs u_t_backs u_t_pauses a_t_cuts u_t_text u_t_readOuts u_t_readBacks u_t_readPauses t_1 1 v4 t_5 hC) (bq_gV ml_X8_55 im_X8_fails sl_X8_fails in_X8 cd_X8_fails) hd_X8_fails ⟨Nat.le_of_ble_eq_true rfl, Nat.le_of_ble_eq_true rfl⟩ ⟨Nat.le_of_ble_eq_true rfl, Nat.le_of_ble_eq_true rfl⟩ ⟨[0], [1], [1, 0], rfl, rfl, rfl, rfl, rfl, rfl, rfl, rfl, rfl⟩ 0 rfl rfl rfl hl.1 rfl (Nat.le_of_ble_eq_true rfl) rfl dX8_cut_37 (fun H locs w => bq_z ⟨rfl, rfl⟩ ?_)
    clear hC
    obtain ⟨rfl, rfl⟩ := bq_in2 (Option.some.inj hT40)
    exact K40 H locs ls w (lv_sub hl [] rfl)
  · replace hT40 := bq_f hc hT40
    clear hc
    refine lv_iload_n hx hb dX8_cut_12 rfl (lv_at hl 1 rfl) ?_
    refine lv_iconst (v := 0) hx hb dX8_cut_13 (by decide) ?_
    refine lv_aload_n hx hb dX8_cut_14 rfl (lv_at hl 0 rfl) ?_
    refine gt_X8_136 E K w 0 rfl rfl dX8_cut_15 ?_
    refine lv_iconst (v := 1) hx hb dX8_cut_18 (by decide) ?_
    refine lv_isub hx hb dX8_cut_19 ?_
    obtain ⟨v6, hC, hT40⟩ := bq_bd_el hT40
    refine bq_S0 (As := [.int x1, .int 0, .int ((t_1 8) - 1)]) (rest := []) (st1 := [.int v6]) E K w hA (kX8_in l D cI cJ x1 0 ((t_1 8) - 1) v6 hC) cd_X8_in ml_X8_51 in_X8 st_X8_in hs_X8_in ⟨Nat.le_of_ble_eq_true rfl, Nat.le_of_ble_eq_true rfl⟩ ⟨Nat.le_of_ble_eq_true rfl, Nat.le_of_ble_eq_true rfl⟩ rfl hl.1 rfl (Nat.le_of_ble_eq_true rfl) rfl dX8_cut_20 (fun H locs w => bq_z ⟨rfl, rfl⟩ ?_)
    clear hC
    refine lv_if_eq (tgt := 35) hx hb dX8_cut_23 (by decide) (fun hc => ?_) (fun hc => ?_)
    · replace hT40 := bq_t hc hT40
      clear hc
      refine lv_aload_n hx hb dX8_cut_35 rfl (lv_at hl 0 rfl) ?_
      refine lv_iconst (v := 1) hx hb dX8_cut_36 (by decide) ?_
      obtain ⟨v7, t_8, hC, hT40⟩ := bq_b2_el hT40
      refine bq_V (As := [.int 1]) (rest := []) (st1 := [.int v7]) (ws' := wdX8_cut cI a_t a_t_cuts u_t_rig u_t_trial u_t_strokes u_t_outs u_t_backs u_t_pauses u_t_text u_t_readOuts u_t_readBacks u_t_readPauses t_8 t_cuts) E K w hA (kX8_fails l D cI cJ a_t u_t_rig u_t_trial u_t_strokes u_t_outs u_t_backs u_t_pauses a_t_cuts u_t_text u_t_readOuts u_t_readBacks u_t_readPauses t_1 1 v7 t_8 hC) (bq_gV ml_X8_55 im_X8_fails sl_X8_fails in_X8 cd_X8_fails) hd_X8_fails ⟨Nat.le_of_ble_eq_true rfl, Nat.le_of_ble_eq_true rfl⟩ ⟨Nat.le_of_ble_eq_true rfl, Nat.le_of_ble_eq_true rfl⟩ ⟨[0], [1], [1, 0], rfl, rfl, rfl, rfl, rfl, rfl, rfl, rfl, rfl⟩ 0 rfl rfl rfl hl.1 rfl (Nat.le_of_ble_eq_true rfl) rfl dX8_cut_37 (fun H locs w => bq_z ⟨rfl, rfl⟩ ?_)
      clear hC
      obtain ⟨rfl, rfl⟩ := bq_in2 (Option.some.inj hT40)
      exact K40 H locs ls w (lv_sub hl [] rfl)
    · replace hT40 := bq_f hc hT40
      clear hc
      refine lv_aload_n hx hb dX8_cut_26 rfl (lv_at hl 0 rfl) ?_
      refine gt_X8_28 E K w 0 rfl rfl dX8_cut_27 ?_
      refine lv_iload_n hx hb dX8_cut_30 rfl (lv_at hl 1 rfl) ?_
      obtain ⟨hI, hT40⟩ := bq_ci_el hT40
      refine bq_ald E K w 1 rfl hI dX8_cut_31 ?_
      refine lv_goto (tgt := 40) hx hb dX8_cut_32 (by decide) ?_
      obtain ⟨rfl, rfl⟩ := bq_in2 (Option.some.inj hT40)
      exact K40 H locs ls w (lv_sub hl [] rfl)
abbrev wdX8_groupOf (cI : ClassId) (a_t a_t_cuts u_t_rig u_t_trial u_t_strokes u_t_outs u_t_backs u_t_pauses u_t_text u_t_readOuts u_t_readBacks u_t_readPauses : Nat) (t : Nat → Int32) (t_cuts : Nat → Int32) : va_W := [(a_t, oX8 u_t_rig u_t_trial u_t_strokes u_t_outs u_t_backs u_t_pauses a_t_cuts u_t_text u_t_readOuts u_t_readBacks u_t_readPauses t), (a_t_cuts, oA cI 16 t_cuts)]
abbrev rmX8_groupOf : Room := { frames := 2, cells := 0, slots := 0, locals := 43 }
theorem hd_X8_groupOf : yX8_groupOf.cls = RX8 ∧ yX8_groupOf.cls ≠ "java/lang/invoke/MethodHandle" ∧ yX8_groupOf.cls ≠ "java/lang/invoke/VarHandle" ∧ (parseMethodDescriptor yX8_groupOf.desc).map (fun d => d.parameters.length) = some 1 := by decide +kernel
set_option maxHeartbeats 4000000 in
set_option maxRecDepth 100000 in
theorem kX8_groupOf (l : Launch) (D : va_G) (cI cJ : ClassId) (a_t a_t_cuts u_t_rig u_t_trial u_t_strokes u_t_outs u_t_backs u_t_pauses u_t_text u_t_readOuts u_t_readBacks u_t_readPauses : Nat) (t t_cuts : Nat → Int32) (x1 : Int32) (r : Int32) (t_o : Nat → Int32) (hm : mX8_groupOf t t_cuts x1 = some (r, t_o)) : bq_M l D cI cJ yX8_groupOf cX8_groupOf 2 (some .int) rmX8_groupOf [.ref a_t, .int x1] (wdX8_groupOf cI a_t a_t_cuts u_t_rig u_t_trial u_t_strokes u_t_outs u_t_backs u_t_pauses u_t_text u_t_readOuts u_t_readBacks u_t_readPauses t t_cuts) (wdX8_groupOf cI a_t a_t_cuts u_t_rig u_t_trial u_t_strokes u_t_outs u_t_backs u_t_pauses u_t_text u_t_readOuts u_t_readBacks u_t_readPauses t_o t_cuts) (some (.int r)) := by
  refine bq_start (by decide) (Nat.le_of_ble_eq_true rfl) ?_
  intro p e s m av9 below meth c A ls Q H locs E K w hA hr hk hn hQ hl
  have E : bq_E p m c cX8_groupOf 2 s av9 RX8 := E
  have hx := E.1
  have hb := E.2.1
  have hl : lv_has ls 2 [(0, .ref a_t), (1, .int x1)] := hl
  unfold mX8_groupOf at hm
  refine lv_aload_n hx hb dX8_groupOf_0 rfl (lv_at hl 0 rfl) ?_
  refine lv_iconst (v := 0) hx hb dX8_groupOf_1 (by decide) ?_
  obtain ⟨t_1, e9, hm⟩ := bq_let_el hm
  refine pt_X8_47 E K w 0 rfl (Nat.le_of_ble_eq_true rfl) dX8_groupOf_2 (fun H locs w => ?_)
  replace w : bq_w D A s.heap (wdX8_groupOf cI a_t a_t_cuts u_t_rig u_t_trial u_t_strokes u_t_outs u_t_backs u_t_pauses u_t_text u_t_readOuts u_t_readBacks u_t_readPauses t_1 t_cuts) H locs := by rw [e9]; exact w
  clear e9
  refine lv_aload_n hx hb dX8_groupOf_5 rfl (lv_at hl 0 rfl) ?_
  refine lv_iload_n hx hb dX8_groupOf_6 rfl (lv_at hl 1 rfl) ?_
  obtain ⟨v2, hC, hm⟩ := bq_bd_el hm
  refine bq_V (As := [.int x1]) (rest := []) (st1 := [.int v2]) (ws' := wdX8_groupOf cI a_t a_t_cuts u_t_rig u_t_trial u_t_strokes u_t_outs u_t_backs u_t_pauses u_t_text u_t_readOuts u_t_readBacks u_t_readPauses t_1 t_cuts) E K w hA (kX8_isStep l D cI cJ a_t u_t_rig u_t_trial u_t_strokes u_t_outs u_t_backs u_t_pauses a_t_cuts u_t_text u_t_readOuts u_t_readBacks u_t_readPauses t_1 x1 v2 hC) (bq_gV ml_X8_110 im_X8_isStep sl_X8_isStep in_X8 cd_X8_isStep) hd_X8_isStep ⟨Nat.le_of_ble_eq_true rfl, Nat.le_of_ble_eq_true rfl⟩ ⟨Nat.le_of_ble_eq_true rfl, Nat.le_of_ble_eq_true rfl⟩ ⟨[0], [1], [1, 0], rfl, rfl, rfl, rfl, rfl, rfl, rfl, rfl, rfl⟩ 0 rfl rfl rfl hl.1 rfl (Nat.le_of_ble_eq_true rfl) rfl dX8_groupOf_7 (fun H locs w => bq_z ⟨rfl, rfl⟩ ?_)
  clear hC
  obtain ⟨v3, t_4, hT26, hm⟩ := bq_b2_el hm
  have K26 : ∀ (H : Heap) (locs : List Loc) (ls : Array Slot), bq_w D A s.heap (wdX8_groupOf cI a_t a_t_cuts u_t_rig u_t_trial u_t_strokes u_t_outs u_t_backs u_t_pauses u_t_text u_t_readOuts u_t_readBacks u_t_readPauses t_4 t_cuts) H locs → lv_has ls 2 [] → W p l e rmX8_groupOf s m av9 below meth c H locs 0 0 Q (F0 m 26 ls [.int v3]) := by
    intro H locs ls w hl
    obtain ⟨rfl, rfl⟩ := bq_in2 (Option.some.inj hm)
    exact bq_iret E w hr hk dX8_groupOf_26 hQ
  clear hm
  refine lv_if_eq (tgt := 21) hx hb dX8_groupOf_10 (by decide) (fun hc => ?_) (fun hc => ?_)
  · replace hT26 := bq_t hc hT26
    clear hc
    refine lv_aload_n hx hb dX8_groupOf_21 rfl (lv_at hl 0 rfl) ?_
    refine lv_iconst (v := 1) hx hb dX8_groupOf_22 (by decide) ?_
    obtain ⟨v5, t_6, hC, hT26⟩ := bq_b2_el hT26
    refine bq_V (As := [.int 1]) (rest := []) (st1 := [.int v5]) (ws' := wdX8_groupOf cI a_t a_t_cuts u_t_rig u_t_trial u_t_strokes u_t_outs u_t_backs u_t_pauses u_t_text u_t_readOuts u_t_readBacks u_t_readPauses t_6 t_cuts) E K w hA (kX8_fails l D cI cJ a_t u_t_rig u_t_trial u_t_strokes u_t_outs u_t_backs u_t_pauses a_t_cuts u_t_text u_t_readOuts u_t_readBacks u_t_readPauses t_1 1 v5 t_6 hC) (bq_gV ml_X8_55 im_X8_fails sl_X8_fails in_X8 cd_X8_fails) hd_X8_fails ⟨Nat.le_of_ble_eq_true rfl, Nat.le_of_ble_eq_true rfl⟩ ⟨Nat.le_of_ble_eq_true rfl, Nat.le_of_ble_eq_true rfl⟩ ⟨[0], [1], [1, 0], rfl, rfl, rfl, rfl, rfl, rfl, rfl, rfl, rfl⟩ 0 rfl rfl rfl hl.1 rfl (Nat.le_of_ble_eq_true rfl) rfl dX8_groupOf_23 (fun H locs w => bq_z ⟨rfl, rfl⟩ ?_)
    clear hC
    obtain ⟨rfl, rfl⟩ := bq_in2 (Option.some.inj hT26)
    exact K26 H locs ls w (lv_sub hl [] rfl)
  · replace hT26 := bq_f hc hT26
    clear hc
    refine lv_aload_n hx hb dX8_groupOf_13 rfl (lv_at hl 0 rfl) ?_
    refine lv_iload_n hx hb dX8_groupOf_14 rfl (lv_at hl 1 rfl) ?_
    obtain ⟨v7, hC, hT26⟩ := bq_bd_el hT26
    refine bq_V (As := [.int x1]) (rest := []) (st1 := [.int v7]) (ws' := wdX8_groupOf cI a_t a_t_cuts u_t_rig u_t_trial u_t_strokes u_t_outs u_t_backs u_t_pauses u_t_text u_t_readOuts u_t_readBacks u_t_readPauses t_1 t_cuts) E K w hA (kX8_groupFor l D cI cJ a_t a_t_cuts u_t_rig u_t_trial u_t_strokes u_t_outs u_t_backs u_t_pauses u_t_text u_t_readOuts u_t_readBacks u_t_readPauses t_1 t_cuts x1 v7 hC) (bq_gV ml_X8_139 im_X8_groupFor sl_X8_groupFor in_X8 cd_X8_groupFor) hd_X8_groupFor ⟨Nat.le_of_ble_eq_true rfl, Nat.le_of_ble_eq_true rfl⟩ ⟨Nat.le_of_ble_eq_true rfl, Nat.le_of_ble_eq_true rfl⟩ ⟨[0, 1], [], [0, 1], rfl, rfl, rfl, rfl, rfl, rfl, rfl, rfl, rfl⟩ 0 rfl rfl rfl hl.1 rfl (Nat.le_of_ble_eq_true rfl) rfl dX8_groupOf_15 (fun H locs w => bq_z ⟨rfl, rfl⟩ ?_)
    clear hC
    refine lv_goto (tgt := 26) hx hb dX8_groupOf_18 (by decide) ?_
    obtain ⟨rfl, rfl⟩ := bq_in2 (Option.some.inj hT26)
    exact K26 H locs ls w (lv_sub hl [] rfl)
abbrev wdX8_valvesOf (cI : ClassId) (a_t a_t_outs u_t_rig u_t_trial u_t_strokes u_t_backs u_t_pauses u_t_cuts u_t_text u_t_readOuts u_t_readBacks u_t_readPauses : Nat) (t : Nat → Int32) (t_outs : Nat → Int32) : va_W := [(a_t, oX8 u_t_rig u_t_trial u_t_strokes a_t_outs u_t_backs u_t_pauses u_t_cuts u_t_text u_t_readOuts u_t_readBacks u_t_readPauses t), (a_t_outs, oA cI 16 t_outs)]
abbrev rmX8_valvesOf : Room := { frames := 1, cells := 0, slots := 0, locals := 22 }
theorem hd_X8_valvesOf : yX8_valvesOf.cls = RX8 ∧ yX8_valvesOf.cls ≠ "java/lang/invoke/MethodHandle" ∧ yX8_valvesOf.cls ≠ "java/lang/invoke/VarHandle" ∧ (parseMethodDescriptor yX8_valvesOf.desc).map (fun d => d.parameters.length) = some 1 := by decide +kernel
set_option maxHeartbeats 4000000 in
set_option maxRecDepth 100000 in
theorem kX8_valvesOf (l : Launch) (D : va_G) (cI cJ : ClassId) (a_t a_t_outs u_t_rig u_t_trial u_t_strokes u_t_backs u_t_pauses u_t_cuts u_t_text u_t_readOuts u_t_readBacks u_t_readPauses : Nat) (t t_outs : Nat → Int32) (x1 : Int32) (r : Int32) (hm : mX8_valvesOf t t_outs x1 = some r) : bq_M l D cI cJ yX8_valvesOf cX8_valvesOf 4 (some .int) rmX8_valvesOf [.ref a_t, .int x1] (wdX8_valvesOf cI a_t a_t_outs u_t_rig u_t_trial u_t_strokes u_t_backs u_t_pauses u_t_cuts u_t_text u_t_readOuts u_t_readBacks u_t_readPauses t t_outs) (wdX8_valvesOf cI a_t a_t_outs u_t_rig u_t_trial u_t_strokes u_t_backs u_t_pauses u_t_cuts u_t_text u_t_readOuts u_t_readBacks u_t_readPauses t t_outs) (some (.int r)) := by
  refine bq_start (by decide) (Nat.le_of_ble_eq_true rfl) ?_
  intro p e s m av9 below meth c A ls Q H locs E K w hA hr hk hn hQ hl
  have E : bq_E p m c cX8_valvesOf 4 s av9 RX8 := E
  have hx := E.1
  have hb := E.2.1
  have hl : lv_has ls 4 [(0, .ref a_t), (1, .int x1)] := hl
  unfold mX8_valvesOf at hm
  refine lv_iconst (v := 0) hx hb dX8_valvesOf_0 (by decide) ?_
  refine lv_istore_n (lv' := [(2, .int 0), (0, .ref a_t), (1, .int x1)]) hx hb dX8_valvesOf_1 rfl hl (by decide) rfl (fun ls hl => ?_)
  refine lv_iconst (v := 0) hx hb dX8_valvesOf_2 (by decide) ?_
  refine lv_istore_n (lv' := [(3, .int 0), (2, .int 0), (0, .ref a_t), (1, .int x1)]) hx hb dX8_valvesOf_3 rfl hl (by decide) rfl (fun ls hl => ?_)
  obtain ⟨v3, hL, hm⟩ := bq_bd_el hm
  obtain ⟨B, eB, nn, hL⟩ := bq_loop_B hL
  have X27 : ∀ (H : Heap) (locs : List Loc) (ls : Array Slot), bq_w D A s.heap (wdX8_valvesOf cI a_t a_t_outs u_t_rig u_t_trial u_t_strokes u_t_backs u_t_pauses u_t_cuts u_t_text u_t_readOuts u_t_readBacks u_t_readPauses t t_outs) H locs → lv_has ls 4 [(0, .ref a_t), (1, .int x1), (2, .int v3)] → W p l e rmX8_valvesOf s m av9 below meth c H locs 0 0 Q (F0 m 27 ls []) := by
    intro H locs ls w hl
    refine lv_iload_n hx hb dX8_valvesOf_27 rfl (lv_at hl 2 rfl) ?_
    obtain ⟨v4, hC, hm⟩ := bq_bd_el hm
    refine bq_S0 (As := [.int v3]) (rest := []) (st1 := [.int v4]) E K w hA (kX8_countOf l D cI cJ v3 v4 hC) cd_X8_countOf ml_X8_126 in_X8 st_X8_countOf hs_X8_countOf ⟨Nat.le_of_ble_eq_true rfl, Nat.le_of_ble_eq_true rfl⟩ ⟨Nat.le_of_ble_eq_true rfl, Nat.le_of_ble_eq_true rfl⟩ rfl hl.1 rfl (Nat.le_of_ble_eq_true rfl) rfl dX8_valvesOf_28 (fun H locs w => bq_z ⟨rfl, rfl⟩ ?_)
    clear hC
    refine lv_iload_n hx hb dX8_valvesOf_31 rfl (lv_at hl 1 rfl) ?_
    refine lv_iconst (v := 1) hx hb dX8_valvesOf_32 (by decide) ?_
    obtain ⟨v5, hT58, hm⟩ := bq_let_el hm
    have K58 : ∀ (H : Heap) (locs : List Loc) (ls : Array Slot), bq_w D A s.heap (wdX8_valvesOf cI a_t a_t_outs u_t_rig u_t_trial u_t_strokes u_t_backs u_t_pauses u_t_cuts u_t_text u_t_readOuts u_t_readBacks u_t_readPauses t t_outs) H locs → lv_has ls 4 [] → W p l e rmX8_valvesOf s m av9 below meth c H locs 0 0 Q (F0 m 58 ls [.int v5, .int v4]) := by
      intro H locs ls w hl
      refine lv_iadd hx hb dX8_valvesOf_58 ?_
      obtain rfl := Option.some.inj hm
      exact bq_iret E w hr hk dX8_valvesOf_59 hQ
    clear hm
    refine lv_icmp_ne (tgt := 45) hx hb dX8_valvesOf_33 (by decide) (fun hc => ?_) (fun hc => ?_)
    · replace hT58 := bq_ef hc hT58
      clear hc
      refine lv_iload_n hx hb dX8_valvesOf_45 rfl (lv_at hl 1 rfl) ?_
      refine lv_iconst (v := 2) hx hb dX8_valvesOf_46 (by decide) ?_
      refine lv_icmp_ne (tgt := 57) hx hb dX8_valvesOf_47 (by decide) (fun hc => ?_) (fun hc => ?_)
      · replace hT58 := bq_ef hc hT58
        clear hc
        refine lv_iconst (v := 0) hx hb dX8_valvesOf_57 (by decide) ?_
        subst hT58
        exact K58 H locs ls w (lv_sub hl [] rfl)
      · replace hT58 := bq_et hc hT58
        clear hc
        refine lv_aload_n hx hb dX8_valvesOf_50 rfl (lv_at hl 0 rfl) ?_
        refine gt_X8_104 E K w 0 rfl rfl dX8_valvesOf_51 ?_
        refine lv_goto (tgt := 58) hx hb dX8_valvesOf_54 (by decide) ?_
        subst hT58
        exact K58 H locs ls w (lv_sub hl [] rfl)
    · replace hT58 := bq_et hc hT58
      clear hc
      refine lv_aload_n hx hb dX8_valvesOf_36 rfl (lv_at hl 0 rfl) ?_
      refine gt_X8_136 E K w 0 rfl rfl dX8_valvesOf_37 ?_
      refine lv_iconst (v := 1) hx hb dX8_valvesOf_40 (by decide) ?_
      refine lv_isub hx hb dX8_valvesOf_41 ?_
      refine lv_goto (tgt := 58) hx hb dX8_valvesOf_42 (by decide) ?_
      subst hT58
      exact K58 H locs ls w (lv_sub hl [] rfl)
  clear hm
  have L4 : ∀ (nn : Nat) (i1 : Int32) (i2 : Int32) (H : Heap) (locs : List Loc) (ls : Array Slot), bq_lp B nn (i1, i2) = some v3 → bq_w D A s.heap (wdX8_valvesOf cI a_t a_t_outs u_t_rig u_t_trial u_t_strokes u_t_backs u_t_pauses u_t_cuts u_t_text u_t_readOuts u_t_readBacks u_t_readPauses t t_outs) H locs → lv_has ls 4 [(0, .ref a_t), (1, .int x1), (2, .int i2), (3, .int i1)] → W p l e rmX8_valvesOf s m av9 below meth c H locs 0 0 Q (F0 m 4 ls []) := by
    intro nn
    induction nn with
    | zero =>
      intro i1 i2 H locs ls hL w hl
      exact bq_lp_0 hL
    | succ nn ih =>
      intro i1 i2 H locs ls hL w hl
      obtain ⟨oo4, hT4, hR4⟩ := bq_lp_el hL
      clear hL
      replace hT4 := bq_u2_el eB hT4
      unfold bX8_valvesOf_4 at hT4
      refine lv_iload_n hx hb dX8_valvesOf_4 rfl (lv_at hl 3 rfl) ?_
      refine lv_aload_n hx hb dX8_valvesOf_5 rfl (lv_at hl 0 rfl) ?_
      refine gt_X8_104 E K w 0 rfl rfl dX8_valvesOf_6 ?_
      refine lv_icmp_ge (tgt := 27) hx hb dX8_valvesOf_9 (by decide) (fun hc => ?_) (fun hc => ?_)
      · replace hT4 := bq_t hc hT4
        clear hc
        obtain rfl := Option.some.inj hT4
        replace hR4 := bq_lk_r hR4
        subst hR4
        exact X27 H locs ls w (lv_sub hl [0, 1, 2] rfl)
      · replace hT4 := bq_f hc hT4
        clear hc
        refine lv_iload_n hx hb dX8_valvesOf_12 rfl (lv_at hl 2 rfl) ?_
        refine lv_aload_n hx hb dX8_valvesOf_13 rfl (lv_at hl 0 rfl) ?_
        refine gt_X8_19 E K w 0 rfl rfl dX8_valvesOf_14 ?_
        refine lv_iload_n hx hb dX8_valvesOf_17 rfl (lv_at hl 3 rfl) ?_
        obtain ⟨hI, hT4⟩ := bq_ci_el hT4
        refine bq_ald E K w 1 rfl hI dX8_valvesOf_18 ?_
        refine lv_ior hx hb dX8_valvesOf_19 ?_
        obtain ⟨v6, e9, hT4⟩ := bq_let_el hT4
        refine bq_nmi e9 ?_
        clear e9
        refine lv_istore_n (lv' := [(2, .int v6), (0, .ref a_t), (1, .int x1), (3, .int i1)]) hx hb dX8_valvesOf_20 rfl hl (by decide) rfl (fun ls hl => ?_)
        obtain ⟨v7, e9, hT4⟩ := bq_let_el hT4
        refine lv_iinc (v := v7) (lv' := [(3, .int v7), (2, .int v6), (0, .ref a_t), (1, .int x1)]) hx hb dX8_valvesOf_21 hl (k := 3) rfl (by rw [e9]; rfl) (by decide) rfl (fun ls hl => ?_)
        clear e9
        refine lv_goto (tgt := 4) hx hb dX8_valvesOf_24 (by decide) ?_
        obtain rfl := Option.some.inj hT4
        exact ih v7 v6 H locs ls hR4 w (lv_sub hl [2, 3, 1, 0] rfl)
  exact L4 nn 0 0 H locs ls hL w (lv_sub hl [2, 3, 1, 0] rfl)
abbrev wdX8_lacks (cI : ClassId) (a_t u_t_rig u_t_trial u_t_strokes u_t_outs u_t_backs u_t_pauses u_t_cuts u_t_text u_t_readOuts u_t_readBacks u_t_readPauses : Nat) (t : Nat → Int32) : va_W := [(a_t, oX8 u_t_rig u_t_trial u_t_strokes u_t_outs u_t_backs u_t_pauses u_t_cuts u_t_text u_t_readOuts u_t_readBacks u_t_readPauses t)]
abbrev rmX8_lacks : Room := { frames := 1, cells := 0, slots := 0, locals := 22 }
theorem hd_X8_lacks : yX8_lacks.cls = RX8 ∧ yX8_lacks.cls ≠ "java/lang/invoke/MethodHandle" ∧ yX8_lacks.cls ≠ "java/lang/invoke/VarHandle" ∧ (parseMethodDescriptor yX8_lacks.desc).map (fun d => d.parameters.length) = some 1 := by decide +kernel
set_option maxHeartbeats 4000000 in
set_option maxRecDepth 100000 in
theorem kX8_lacks (l : Launch) (D : va_G) (cI cJ : ClassId) (a_t u_t_rig u_t_trial u_t_strokes u_t_outs u_t_backs u_t_pauses u_t_cuts u_t_text u_t_readOuts u_t_readBacks u_t_readPauses : Nat) (t : Nat → Int32) (x1 : Int32) (r : Int32) (t_o : Nat → Int32) (hm : mX8_lacks t x1 = some (r, t_o)) : bq_M l D cI cJ yX8_lacks cX8_lacks 2 (some .boolean) rmX8_lacks [.ref a_t, .int x1] (wdX8_lacks cI a_t u_t_rig u_t_trial u_t_strokes u_t_outs u_t_backs u_t_pauses u_t_cuts u_t_text u_t_readOuts u_t_readBacks u_t_readPauses t) (wdX8_lacks cI a_t u_t_rig u_t_trial u_t_strokes u_t_outs u_t_backs u_t_pauses u_t_cuts u_t_text u_t_readOuts u_t_readBacks u_t_readPauses t_o) (some (.int r)) := by
  refine bq_start (by decide) (Nat.le_of_ble_eq_true rfl) ?_
  intro p e s m av9 below meth c A ls Q H locs E K w hA hr hk hn hQ hl
  have E : bq_E p m c cX8_lacks 2 s av9 RX8 := E
  have hx := E.1
  have hb := E.2.1
  have hl : lv_has ls 2 [(0, .ref a_t), (1, .int x1)] := hl
  unfold mX8_lacks at hm
  refine lv_aload_n hx hb dX8_lacks_0 rfl (lv_at hl 0 rfl) ?_
  refine lv_iload_n hx hb dX8_lacks_1 rfl (lv_at hl 1 rfl) ?_
  refine lv_iconst (v := 0) hx hb dX8_lacks_2 (by decide) ?_
  refine lv_iconst (v := 2) hx hb dX8_lacks_3 (by decide) ?_
  obtain ⟨v1, hC, hm⟩ := bq_bd_el hm
  refine bq_S0 (As := [.int x1, .int 0, .int 2]) (rest := [.ref a_t]) (st1 := [.int v1, .ref a_t]) E K w hA (kX8_in l D cI cJ x1 0 2 v1 hC) cd_X8_in ml_X8_51 in_X8 st_X8_in hs_X8_in ⟨Nat.le_of_ble_eq_true rfl, Nat.le_of_ble_eq_true rfl⟩ ⟨Nat.le_of_ble_eq_true rfl, Nat.le_of_ble_eq_true rfl⟩ rfl hl.1 rfl (Nat.le_of_ble_eq_true rfl) rfl dX8_lacks_4 (fun H locs w => bq_z ⟨rfl, rfl⟩ ?_)
  clear hC
  obtain ⟨v2, hT26, hm⟩ := bq_let_el hm
  have K26 : ∀ (H : Heap) (locs : List Loc) (ls : Array Slot), bq_w D A s.heap (wdX8_lacks cI a_t u_t_rig u_t_trial u_t_strokes u_t_outs u_t_backs u_t_pauses u_t_cuts u_t_text u_t_readOuts u_t_readBacks u_t_readPauses t) H locs → lv_has ls 2 [(0, .ref a_t)] → W p l e rmX8_lacks s m av9 below meth c H locs 0 0 Q (F0 m 26 ls [.int v2, .ref a_t]) := by
    intro H locs ls w hl
    obtain ⟨t_3, e9, hm⟩ := bq_let_el hm
    refine pt_X8_47 E K w 0 rfl (Nat.le_of_ble_eq_true rfl) dX8_lacks_26 (fun H locs w => ?_)
    replace w : bq_w D A s.heap (wdX8_lacks cI a_t u_t_rig u_t_trial u_t_strokes u_t_outs u_t_backs u_t_pauses u_t_cuts u_t_text u_t_readOuts u_t_readBacks u_t_readPauses t_3) H locs := by rw [e9]; exact w
    clear e9
    refine lv_aload_n hx hb dX8_lacks_29 rfl (lv_at hl 0 rfl) ?_
    refine gt_X8_47 E K w 0 rfl rfl dX8_lacks_30 ?_
    obtain ⟨v4, hT41, hm⟩ := bq_let_el hm
    have K41 : ∀ (H : Heap) (locs : List Loc) (ls : Array Slot), bq_w D A s.heap (wdX8_lacks cI a_t u_t_rig u_t_trial u_t_strokes u_t_outs u_t_backs u_t_pauses u_t_cuts u_t_text u_t_readOuts u_t_readBacks u_t_readPauses t_3) H locs → lv_has ls 2 [] → W p l e rmX8_lacks s m av9 below meth c H locs 0 0 Q (F0 m 41 ls [.int v4]) := by
      intro H locs ls w hl
      obtain ⟨hB, hm⟩ := bq_cb_el hm
      obtain ⟨rfl, rfl⟩ := bq_in2 (Option.some.inj hm)
      exact bq_zret E w hr hk hB dX8_lacks_41 hQ
    clear hm
    refine lv_if_eq (tgt := 40) hx hb dX8_lacks_33 (by decide) (fun hc => ?_) (fun hc => ?_)
    · replace hT41 := bq_et hc hT41
      clear hc
      refine lv_iconst (v := 0) hx hb dX8_lacks_40 (by decide) ?_
      subst hT41
      exact K41 H locs ls w (lv_sub hl [] rfl)
    · replace hT41 := bq_ef hc hT41
      clear hc
      refine lv_iconst (v := 1) hx hb dX8_lacks_36 (by decide) ?_
      refine lv_goto (tgt := 41) hx hb dX8_lacks_37 (by decide) ?_
      subst hT41
      exact K41 H locs ls w (lv_sub hl [] rfl)
  clear hm
  refine lv_if_ne (tgt := 14) hx hb dX8_lacks_7 (by decide) (fun hc => ?_) (fun hc => ?_)
  · replace hT26 := bq_ef hc hT26
    clear hc
    refine lv_aload_n hx hb dX8_lacks_14 rfl (lv_at hl 0 rfl) ?_
    refine gt_X8_104 E K w 0 rfl rfl dX8_lacks_15 ?_
    refine lv_if_ne (tgt := 25) hx hb dX8_lacks_18 (by decide) (fun hc => ?_) (fun hc => ?_)
    · replace hT26 := bq_ef hc hT26
      clear hc
      refine lv_iconst (v := 0) hx hb dX8_lacks_25 (by decide) ?_
      subst hT26
      exact K26 H locs ls w (lv_sub hl [0] rfl)
    · replace hT26 := bq_et hc hT26
      clear hc
      refine lv_iconst (v := 2) hx hb dX8_lacks_21 (by decide) ?_
      refine lv_goto (tgt := 26) hx hb dX8_lacks_22 (by decide) ?_
      subst hT26
      exact K26 H locs ls w (lv_sub hl [0] rfl)
  · replace hT26 := bq_et hc hT26
    clear hc
    refine lv_iconst (v := 1) hx hb dX8_lacks_10 (by decide) ?_
    refine lv_goto (tgt := 26) hx hb dX8_lacks_11 (by decide) ?_
    subst hT26
    exact K26 H locs ls w (lv_sub hl [0] rfl)
abbrev wdX8_valves (cI : ClassId) (a_t a_t_outs u_t_rig u_t_trial u_t_strokes u_t_backs u_t_pauses u_t_cuts u_t_text u_t_readOuts u_t_readBacks u_t_readPauses : Nat) (t : Nat → Int32) (t_outs : Nat → Int32) : va_W := [(a_t, oX8 u_t_rig u_t_trial u_t_strokes a_t_outs u_t_backs u_t_pauses u_t_cuts u_t_text u_t_readOuts u_t_readBacks u_t_readPauses t), (a_t_outs, oA cI 16 t_outs)]
abbrev rmX8_valves : Room := { frames := 2, cells := 0, slots := 0, locals := 45 }
theorem hd_X8_valves : yX8_valves.cls = RX8 ∧ yX8_valves.cls ≠ "java/lang/invoke/MethodHandle" ∧ yX8_valves.cls ≠ "java/lang/invoke/VarHandle" ∧ (parseMethodDescriptor yX8_valves.desc).map (fun d => d.parameters.length) = some 1 := by decide +kernel
set_option maxHeartbeats 4000000 in
set_option maxRecDepth 100000 in
theorem kX8_valves (l : Launch) (D : va_G) (cI cJ : ClassId) (a_t a_t_outs u_t_rig u_t_trial u_t_strokes u_t_backs u_t_pauses u_t_cuts u_t_text u_t_readOuts u_t_readBacks u_t_readPauses : Nat) (t t_outs : Nat → Int32) (x1 : Int32) (r : Int32) (t_o : Nat → Int32) (hm : mX8_valves t t_outs x1 = some (r, t_o)) : bq_M l D cI cJ yX8_valves cX8_valves 2 (some .int) rmX8_valves [.ref a_t, .int x1] (wdX8_valves cI a_t a_t_outs u_t_rig u_t_trial u_t_strokes u_t_backs u_t_pauses u_t_cuts u_t_text u_t_readOuts u_t_readBacks u_t_readPauses t t_outs) (wdX8_valves cI a_t a_t_outs u_t_rig u_t_trial u_t_strokes u_t_backs u_t_pauses u_t_cuts u_t_text u_t_readOuts u_t_readBacks u_t_readPauses t_o t_outs) (some (.int r)) := by
  refine bq_start (by decide) (Nat.le_of_ble_eq_true rfl) ?_
  intro p e s m av9 below meth c A ls Q H locs E K w hA hr hk hn hQ hl
  have E : bq_E p m c cX8_valves 2 s av9 RX8 := E
  have hx := E.1
  have hb := E.2.1
  have hl : lv_has ls 2 [(0, .ref a_t), (1, .int x1)] := hl
  unfold mX8_valves at hm
  refine lv_aload_n hx hb dX8_valves_0 rfl (lv_at hl 0 rfl) ?_
  refine lv_iload_n hx hb dX8_valves_1 rfl (lv_at hl 1 rfl) ?_
  obtain ⟨v1, t_2, hC, hm⟩ := bq_b2_el hm
  refine bq_V (As := [.int x1]) (rest := []) (st1 := [.int v1]) (ws' := wdX8_valves cI a_t a_t_outs u_t_rig u_t_trial u_t_strokes u_t_backs u_t_pauses u_t_cuts u_t_text u_t_readOuts u_t_readBacks u_t_readPauses t_2 t_outs) E K w hA (kX8_lacks l D cI cJ a_t u_t_rig u_t_trial u_t_strokes a_t_outs u_t_backs u_t_pauses u_t_cuts u_t_text u_t_readOuts u_t_readBacks u_t_readPauses t x1 v1 t_2 hC) (bq_gV ml_X8_142 im_X8_lacks sl_X8_lacks in_X8 cd_X8_lacks) hd_X8_lacks ⟨Nat.le_of_ble_eq_true rfl, Nat.le_of_ble_eq_true rfl⟩ ⟨Nat.le_of_ble_eq_true rfl, Nat.le_of_ble_eq_true rfl⟩ ⟨[0], [1], [1, 0], rfl, rfl, rfl, rfl, rfl, rfl, rfl, rfl, rfl⟩ 0 rfl rfl rfl hl.1 rfl (Nat.le_of_ble_eq_true rfl) rfl dX8_valves_2 (fun H locs w => bq_z ⟨rfl, rfl⟩ ?_)
  clear hC
  obtain ⟨v3, hT17, hm⟩ := bq_bd_el hm
  have K17 : ∀ (H : Heap) (locs : List Loc) (ls : Array Slot), bq_w D A s.heap (wdX8_valves cI a_t a_t_outs u_t_rig u_t_trial u_t_strokes u_t_backs u_t_pauses u_t_cuts u_t_text u_t_readOuts u_t_readBacks u_t_readPauses t_2 t_outs) H locs → lv_has ls 2 [] → W p l e rmX8_valves s m av9 below meth c H locs 0 0 Q (F0 m 17 ls [.int v3]) := by
    intro H locs ls w hl
    obtain ⟨rfl, rfl⟩ := bq_in2 (Option.some.inj hm)
    exact bq_iret E w hr hk dX8_valves_17 hQ
  clear hm
  refine lv_if_eq (tgt := 12) hx hb dX8_valves_5 (by decide) (fun hc => ?_) (fun hc => ?_)
  · replace hT17 := bq_t hc hT17
    clear hc
    refine lv_aload_n hx hb dX8_valves_12 rfl (lv_at hl 0 rfl) ?_
    refine lv_iload_n hx hb dX8_valves_13 rfl (lv_at hl 1 rfl) ?_
    obtain ⟨v4, hC, hT17⟩ := bq_bd_el hT17
    refine bq_V (As := [.int x1]) (rest := []) (st1 := [.int v4]) (ws' := wdX8_valves cI a_t a_t_outs u_t_rig u_t_trial u_t_strokes u_t_backs u_t_pauses u_t_cuts u_t_text u_t_readOuts u_t_readBacks u_t_readPauses t_2 t_outs) E K w hA (kX8_valvesOf l D cI cJ a_t a_t_outs u_t_rig u_t_trial u_t_strokes u_t_backs u_t_pauses u_t_cuts u_t_text u_t_readOuts u_t_readBacks u_t_readPauses t_2 t_outs x1 v4 hC) (bq_gV ml_X8_145 im_X8_valvesOf sl_X8_valvesOf in_X8 cd_X8_valvesOf) hd_X8_valvesOf ⟨Nat.le_of_ble_eq_true rfl, Nat.le_of_ble_eq_true rfl⟩ ⟨Nat.le_of_ble_eq_true rfl, Nat.le_of_ble_eq_true rfl⟩ ⟨[0, 1], [], [0, 1], rfl, rfl, rfl, rfl, rfl, rfl, rfl, rfl, rfl⟩ 0 rfl rfl rfl hl.1 rfl (Nat.le_of_ble_eq_true rfl) rfl dX8_valves_14 (fun H locs w => bq_z ⟨rfl, rfl⟩ ?_)
    clear hC
    obtain rfl := Option.some.inj hT17
    exact K17 H locs ls w (lv_sub hl [] rfl)
  · replace hT17 := bq_f hc hT17
    clear hc
    refine lv_iconst (v := 0) hx hb dX8_valves_8 (by decide) ?_
    refine lv_goto (tgt := 17) hx hb dX8_valves_9 (by decide) ?_
    obtain rfl := Option.some.inj hT17
    exact K17 H locs ls w (lv_sub hl [] rfl)
abbrev wdX8_firstWithMoves (cI : ClassId) (a_t a_t_pauses u_t_rig u_t_trial u_t_strokes u_t_outs u_t_backs u_t_cuts u_t_text u_t_readOuts u_t_readBacks u_t_readPauses : Nat) (t : Nat → Int32) (t_pauses : Nat → Int32) : va_W := [(a_t, oX8 u_t_rig u_t_trial u_t_strokes u_t_outs u_t_backs a_t_pauses u_t_cuts u_t_text u_t_readOuts u_t_readBacks u_t_readPauses t), (a_t_pauses, oA cI 16 t_pauses)]
abbrev rmX8_firstWithMoves : Room := { frames := 0, cells := 0, slots := 0, locals := 0 }
theorem hd_X8_firstWithMoves : yX8_firstWithMoves.cls = RX8 ∧ yX8_firstWithMoves.cls ≠ "java/lang/invoke/MethodHandle" ∧ yX8_firstWithMoves.cls ≠ "java/lang/invoke/VarHandle" ∧ (parseMethodDescriptor yX8_firstWithMoves.desc).map (fun d => d.parameters.length) = some 0 := by decide +kernel
set_option maxHeartbeats 4000000 in
set_option maxRecDepth 100000 in
theorem kX8_firstWithMoves (l : Launch) (D : va_G) (cI cJ : ClassId) (a_t a_t_pauses u_t_rig u_t_trial u_t_strokes u_t_outs u_t_backs u_t_cuts u_t_text u_t_readOuts u_t_readBacks u_t_readPauses : Nat) (t t_pauses : Nat → Int32) (r : Int32) (hm : mX8_firstWithMoves t t_pauses = some r) : bq_M l D cI cJ yX8_firstWithMoves cX8_firstWithMoves 2 (some .int) rmX8_firstWithMoves [.ref a_t] (wdX8_firstWithMoves cI a_t a_t_pauses u_t_rig u_t_trial u_t_strokes u_t_outs u_t_backs u_t_cuts u_t_text u_t_readOuts u_t_readBacks u_t_readPauses t t_pauses) (wdX8_firstWithMoves cI a_t a_t_pauses u_t_rig u_t_trial u_t_strokes u_t_outs u_t_backs u_t_cuts u_t_text u_t_readOuts u_t_readBacks u_t_readPauses t t_pauses) (some (.int r)) := by
  refine bq_start (by decide) (Nat.le_of_ble_eq_true rfl) ?_
  intro p e s m av9 below meth c A ls Q H locs E K w hA hr hk hn hQ hl
  have E : bq_E p m c cX8_firstWithMoves 2 s av9 RX8 := E
  have hx := E.1
  have hb := E.2.1
  have hl : lv_has ls 2 [(0, .ref a_t)] := hl
  unfold mX8_firstWithMoves at hm
  refine lv_iconst (v := 0) hx hb dX8_firstWithMoves_0 (by decide) ?_
  refine lv_istore_n (lv' := [(1, .int 0), (0, .ref a_t)]) hx hb dX8_firstWithMoves_1 rfl hl (by decide) rfl (fun ls hl => ?_)
  obtain ⟨v2, hL, hm⟩ := bq_bd_el hm
  obtain ⟨B, eB, nn, hL⟩ := bq_loop_B hL
  have X25 : ∀ (H : Heap) (locs : List Loc) (ls : Array Slot), bq_w D A s.heap (wdX8_firstWithMoves cI a_t a_t_pauses u_t_rig u_t_trial u_t_strokes u_t_outs u_t_backs u_t_cuts u_t_text u_t_readOuts u_t_readBacks u_t_readPauses t t_pauses) H locs → lv_has ls 2 [(1, .int v2)] → W p l e rmX8_firstWithMoves s m av9 below meth c H locs 0 0 Q (F0 m 25 ls []) := by
    intro H locs ls w hl
    refine lv_iload_n hx hb dX8_firstWithMoves_25 rfl (lv_at hl 0 rfl) ?_
    obtain rfl := Option.some.inj hm
    exact bq_iret E w hr hk dX8_firstWithMoves_26 hQ
  clear hm
  have L2 : ∀ (nn : Nat) (i1 : Int32) (H : Heap) (locs : List Loc) (ls : Array Slot), bq_lp B nn i1 = some v2 → bq_w D A s.heap (wdX8_firstWithMoves cI a_t a_t_pauses u_t_rig u_t_trial u_t_strokes u_t_outs u_t_backs u_t_cuts u_t_text u_t_readOuts u_t_readBacks u_t_readPauses t t_pauses) H locs → lv_has ls 2 [(0, .ref a_t), (1, .int i1)] → W p l e rmX8_firstWithMoves s m av9 below meth c H locs 0 0 Q (F0 m 2 ls []) := by
    intro nn
    induction nn with
    | zero =>
      intro i1 H locs ls hL w hl
      exact bq_lp_0 hL
    | succ nn ih =>
      intro i1 H locs ls hL w hl
      obtain ⟨oo2, hT2, hR2⟩ := bq_lp_el hL
      clear hL
      replace hT2 := bq_u1_el eB hT2
      unfold bX8_firstWithMoves_2 at hT2
      refine lv_iload_n hx hb dX8_firstWithMoves_2 rfl (lv_at hl 1 rfl) ?_
      refine lv_aload_n hx hb dX8_firstWithMoves_3 rfl (lv_at hl 0 rfl) ?_
      refine gt_X8_104 E K w 0 rfl rfl dX8_firstWithMoves_4 ?_
      refine lv_icmp_ge (tgt := 25) hx hb dX8_firstWithMoves_7 (by decide) (fun hc => ?_) (fun hc => ?_)
      · replace hT2 := bq_t hc hT2
        clear hc
        obtain rfl := Option.some.inj hT2
        replace hR2 := bq_lk_r hR2
        subst hR2
        exact X25 H locs ls w (lv_sub hl [1] rfl)
      · replace hT2 := bq_f hc hT2
        clear hc
        refine lv_aload_n hx hb dX8_firstWithMoves_10 rfl (lv_at hl 0 rfl) ?_
        refine gt_X8_25 E K w 0 rfl rfl dX8_firstWithMoves_11 ?_
        refine lv_iload_n hx hb dX8_firstWithMoves_14 rfl (lv_at hl 1 rfl) ?_
        obtain ⟨hI, hT2⟩ := bq_ci_el hT2
        refine bq_ald E K w 1 rfl hI dX8_firstWithMoves_15 ?_
        refine lv_if_le (tgt := 25) hx hb dX8_firstWithMoves_16 (by decide) (fun hc => ?_) (fun hc => ?_)
        · replace hT2 := bq_t hc hT2
          clear hc
          obtain rfl := Option.some.inj hT2
          replace hR2 := bq_lk_r hR2
          subst hR2
          exact X25 H locs ls w (lv_sub hl [1] rfl)
        · replace hT2 := bq_f hc hT2
          clear hc
          obtain ⟨v3, e9, hT2⟩ := bq_let_el hT2
          refine lv_iinc (v := v3) (lv' := [(1, .int v3), (0, .ref a_t)]) hx hb dX8_firstWithMoves_19 hl (k := 1) rfl (by rw [e9]; rfl) (by decide) rfl (fun ls hl => ?_)
          clear e9
          refine lv_goto (tgt := 2) hx hb dX8_firstWithMoves_22 (by decide) ?_
          obtain rfl := Option.some.inj hT2
          exact ih v3 H locs ls hR2 w (lv_sub hl [1, 0] rfl)
  exact L2 nn 0 H locs ls hL w (lv_sub hl [1, 0] rfl)
abbrev wdX8_movesOf (cI : ClassId) (a_t a_t_backs a_t_outs u_t_rig u_t_trial u_t_strokes u_t_pauses u_t_cuts u_t_text u_t_readOuts u_t_readBacks u_t_readPauses : Nat) (t : Nat → Int32) (t_backs : Nat → Int32) (t_outs : Nat → Int32) : va_W := [(a_t, oX8 u_t_rig u_t_trial u_t_strokes a_t_outs a_t_backs u_t_pauses u_t_cuts u_t_text u_t_readOuts u_t_readBacks u_t_readPauses t), (a_t_backs, oA cI 16 t_backs), (a_t_outs, oA cI 16 t_outs)]
abbrev rmX8_movesOf : Room := { frames := 0, cells := 0, slots := 0, locals := 0 }
theorem hd_X8_movesOf : yX8_movesOf.cls = RX8 ∧ yX8_movesOf.cls ≠ "java/lang/invoke/MethodHandle" ∧ yX8_movesOf.cls ≠ "java/lang/invoke/VarHandle" ∧ (parseMethodDescriptor yX8_movesOf.desc).map (fun d => d.parameters.length) = some 1 := by decide +kernel
set_option maxHeartbeats 4000000 in
set_option maxRecDepth 100000 in
theorem kX8_movesOf (l : Launch) (D : va_G) (cI cJ : ClassId) (a_t a_t_backs a_t_outs u_t_rig u_t_trial u_t_strokes u_t_pauses u_t_cuts u_t_text u_t_readOuts u_t_readBacks u_t_readPauses : Nat) (t t_backs t_outs : Nat → Int32) (x1 : Int32) (r : Int32) (hm : mX8_movesOf t t_backs t_outs x1 = some r) : bq_M l D cI cJ yX8_movesOf cX8_movesOf 2 (some .int) rmX8_movesOf [.ref a_t, .int x1] (wdX8_movesOf cI a_t a_t_backs a_t_outs u_t_rig u_t_trial u_t_strokes u_t_pauses u_t_cuts u_t_text u_t_readOuts u_t_readBacks u_t_readPauses t t_backs t_outs) (wdX8_movesOf cI a_t a_t_backs a_t_outs u_t_rig u_t_trial u_t_strokes u_t_pauses u_t_cuts u_t_text u_t_readOuts u_t_readBacks u_t_readPauses t t_backs t_outs) (some (.int r)) := by
  refine bq_start (by decide) (Nat.le_of_ble_eq_true rfl) ?_
  intro p e s m av9 below meth c A ls Q H locs E K w hA hr hk hn hQ hl
  have E : bq_E p m c cX8_movesOf 2 s av9 RX8 := E
  have hx := E.1
  have hb := E.2.1
  have hl : lv_has ls 2 [(0, .ref a_t), (1, .int x1)] := hl
  unfold mX8_movesOf at hm
  refine lv_aload_n hx hb dX8_movesOf_0 rfl (lv_at hl 0 rfl) ?_
  refine gt_X8_104 E K w 0 rfl rfl dX8_movesOf_1 ?_
  obtain ⟨v1, hT27, hm⟩ := bq_bd_el hm
  have K27 : ∀ (H : Heap) (locs : List Loc) (ls : Array Slot), bq_w D A s.heap (wdX8_movesOf cI a_t a_t_backs a_t_outs u_t_rig u_t_trial u_t_strokes u_t_pauses u_t_cuts u_t_text u_t_readOuts u_t_readBacks u_t_readPauses t t_backs t_outs) H locs → lv_has ls 2 [] → W p l e rmX8_movesOf s m av9 below meth c H locs 0 0 Q (F0 m 27 ls [.int v1]) := by
    intro H locs ls w hl
    obtain rfl := Option.some.inj hm
    exact bq_iret E w hr hk dX8_movesOf_27 hQ
  clear hm
  refine lv_if_ne (tgt := 11) hx hb dX8_movesOf_4 (by decide) (fun hc => ?_) (fun hc => ?_)
  · replace hT27 := bq_f hc hT27
    clear hc
    refine lv_aload_n hx hb dX8_movesOf_11 rfl (lv_at hl 0 rfl) ?_
    refine gt_X8_19 E K w 0 rfl rfl dX8_movesOf_12 ?_
    refine lv_iload_n hx hb dX8_movesOf_15 rfl (lv_at hl 1 rfl) ?_
    obtain ⟨hI, hT27⟩ := bq_ci_el hT27
    refine bq_ald E K w 2 rfl hI dX8_movesOf_16 ?_
    refine lv_aload_n hx hb dX8_movesOf_17 rfl (lv_at hl 0 rfl) ?_
    refine gt_X8_22 E K w 0 rfl rfl dX8_movesOf_18 ?_
    refine lv_iload_n hx hb dX8_movesOf_21 rfl (lv_at hl 1 rfl) ?_
    obtain ⟨hI, hT27⟩ := bq_ci_el hT27
    refine bq_ald E K w 1 rfl hI dX8_movesOf_22 ?_
    refine lv_bipush (v := 6) hx hb dX8_movesOf_23 (by decide) ?_
    refine lv_ishl hx hb dX8_movesOf_25 ?_
    refine lv_ior hx hb dX8_movesOf_26 ?_
    obtain rfl := Option.some.inj hT27
    exact K27 H locs ls w (lv_sub hl [] rfl)
  · replace hT27 := bq_t hc hT27
    clear hc
    refine lv_iconst (v := 0) hx hb dX8_movesOf_7 (by decide) ?_
    refine lv_goto (tgt := 27) hx hb dX8_movesOf_8 (by decide) ?_
    obtain rfl := Option.some.inj hT27
    exact K27 H locs ls w (lv_sub hl [] rfl)
abbrev wdX8_rests (cI : ClassId) (a_t a_t_backs a_t_outs a_t_pauses a_p1 u_t_rig u_t_trial u_t_strokes u_t_cuts u_t_text u_t_readOuts u_t_readBacks u_t_readPauses : Nat) (t : Nat → Int32) (t_backs : Nat → Int32) (t_outs : Nat → Int32) (t_pauses : Nat → Int32) (p1 : Nat → Int32) : va_W := [(a_t, oX8 u_t_rig u_t_trial u_t_strokes a_t_outs a_t_backs a_t_pauses u_t_cuts u_t_text u_t_readOuts u_t_readBacks u_t_readPauses t), (a_t_backs, oA cI 16 t_backs), (a_t_outs, oA cI 16 t_outs), (a_t_pauses, oA cI 16 t_pauses), (a_p1, oA cI 140 p1)]
abbrev rmX8_rests : Room := { frames := 1, cells := 0, slots := 0, locals := 22 }
theorem hd_X8_rests : yX8_rests.cls = RX8 ∧ yX8_rests.cls ≠ "java/lang/invoke/MethodHandle" ∧ yX8_rests.cls ≠ "java/lang/invoke/VarHandle" ∧ (parseMethodDescriptor yX8_rests.desc).map (fun d => d.parameters.length) = some 1 := by decide +kernel
set_option maxHeartbeats 4000000 in
set_option maxRecDepth 100000 in
theorem kX8_rests (l : Launch) (D : va_G) (cI cJ : ClassId) (a_t a_t_backs a_t_outs a_t_pauses a_p1 u_t_rig u_t_trial u_t_strokes u_t_cuts u_t_text u_t_readOuts u_t_readBacks u_t_readPauses : Nat) (t t_backs t_outs t_pauses p1 : Nat → Int32) (p1_o : Nat → Int32) (hm : mX8_rests t t_backs t_outs t_pauses p1 = some p1_o) : bq_M l D cI cJ yX8_rests cX8_rests 4 none rmX8_rests [.ref a_t, .ref a_p1] (wdX8_rests cI a_t a_t_backs a_t_outs a_t_pauses a_p1 u_t_rig u_t_trial u_t_strokes u_t_cuts u_t_text u_t_readOuts u_t_readBacks u_t_readPauses t t_backs t_outs t_pauses p1) (wdX8_rests cI a_t a_t_backs a_t_outs a_t_pauses a_p1 u_t_rig u_t_trial u_t_strokes u_t_cuts u_t_text u_t_readOuts u_t_readBacks u_t_readPauses t t_backs t_outs t_pauses p1_o) none := by
  refine bq_start (by decide) (Nat.le_of_ble_eq_true rfl) ?_
  intro p e s m av9 below meth c A ls Q H locs E K w hA hr hk hn hQ hl
  have E : bq_E p m c cX8_rests 4 s av9 RX8 := E
  have hx := E.1
  have hb := E.2.1
  have hl : lv_has ls 4 [(0, .ref a_t), (1, .ref a_p1)] := hl
  unfold mX8_rests at hm
  refine lv_iconst (v := 0) hx hb dX8_rests_0 (by decide) ?_
  refine lv_istore_n (lv' := [(2, .int 0), (0, .ref a_t), (1, .ref a_p1)]) hx hb dX8_rests_1 rfl hl (by decide) rfl (fun ls hl => ?_)
  obtain ⟨p1_3, hL, hm⟩ := bq_bd_el hm
  obtain ⟨B, eB, nn, hL⟩ := bq_loop_B hL
  have X56 : ∀ (H : Heap) (locs : List Loc) (ls : Array Slot), bq_w D A s.heap (wdX8_rests cI a_t a_t_backs a_t_outs a_t_pauses a_p1 u_t_rig u_t_trial u_t_strokes u_t_cuts u_t_text u_t_readOuts u_t_readBacks u_t_readPauses t t_backs t_outs t_pauses p1_3) H locs → lv_has ls 4 [(0, .ref a_t), (1, .ref a_p1)] → W p l e rmX8_rests s m av9 below meth c H locs 0 0 Q (F0 m 56 ls []) := by
    intro H locs ls w hl
    refine lv_aload_n hx hb dX8_rests_56 rfl (lv_at hl 1 rfl) ?_
    refine lv_iconst (v := 3) hx hb dX8_rests_57 (by decide) ?_
    refine lv_aload_n hx hb dX8_rests_58 rfl (lv_at hl 0 rfl) ?_
    refine gt_X8_104 E K w 0 rfl rfl dX8_rests_59 ?_
    obtain ⟨v4, hT82, hm⟩ := bq_let_el hm
    have K82 : ∀ (H : Heap) (locs : List Loc) (ls : Array Slot), bq_w D A s.heap (wdX8_rests cI a_t a_t_backs a_t_outs a_t_pauses a_p1 u_t_rig u_t_trial u_t_strokes u_t_cuts u_t_text u_t_readOuts u_t_readBacks u_t_readPauses t t_backs t_outs t_pauses p1_3) H locs → lv_has ls 4 [(0, .ref a_t), (1, .ref a_p1)] → W p l e rmX8_rests s m av9 below meth c H locs 0 0 Q (F0 m 82 ls [.int v4, .int 3, .ref a_p1]) := by
      intro H locs ls w hl
      obtain ⟨p1_5, e9, hm⟩ := bq_let_el hm
      refine bq_astk E K w 4 rfl 3 (by decide) (by unfold vp_in; decide) dX8_rests_82 (fun H locs w => ?_)
      replace w : bq_w D A s.heap (wdX8_rests cI a_t a_t_backs a_t_outs a_t_pauses a_p1 u_t_rig u_t_trial u_t_strokes u_t_cuts u_t_text u_t_readOuts u_t_readBacks u_t_readPauses t t_backs t_outs t_pauses p1_5) H locs := by rw [e9]; exact w
      clear e9
      refine lv_aload_n hx hb dX8_rests_83 rfl (lv_at hl 1 rfl) ?_
      refine lv_bipush (v := 7) hx hb dX8_rests_84 (by decide) ?_
      refine lv_aload_n hx hb dX8_rests_86 rfl (lv_at hl 0 rfl) ?_
      obtain ⟨v6, hC, hm⟩ := bq_bd_el hm
      refine bq_V (As := []) (rest := [.int 7, .ref a_p1]) (st1 := [.int v6, .int 7, .ref a_p1]) (ws' := wdX8_rests cI a_t a_t_backs a_t_outs a_t_pauses a_p1 u_t_rig u_t_trial u_t_strokes u_t_cuts u_t_text u_t_readOuts u_t_readBacks u_t_readPauses t t_backs t_outs t_pauses p1_5) E K w hA (kX8_firstWithMoves l D cI cJ a_t a_t_pauses u_t_rig u_t_trial u_t_strokes a_t_outs a_t_backs u_t_cuts u_t_text u_t_readOuts u_t_readBacks u_t_readPauses t t_pauses v6 hC) (bq_gV ml_X8_148 im_X8_firstWithMoves sl_X8_firstWithMoves in_X8 cd_X8_firstWithMoves) hd_X8_firstWithMoves ⟨Nat.le_of_ble_eq_true rfl, Nat.le_of_ble_eq_true rfl⟩ ⟨Nat.le_of_ble_eq_true rfl, Nat.le_of_ble_eq_true rfl⟩ ⟨[0, 3], [1, 2, 4], [3, 0, 1, 4, 2], rfl, rfl, rfl, rfl, rfl, rfl, rfl, rfl, rfl⟩ 0 rfl rfl rfl hl.1 rfl (Nat.le_of_ble_eq_true rfl) rfl dX8_rests_87 (fun H locs w => bq_z ⟨rfl, rfl⟩ ?_)
      clear hC
      obtain ⟨p1_7, e9, hm⟩ := bq_let_el hm
      refine bq_astk E K w 4 rfl 7 (by decide) (by unfold vp_in; decide) dX8_rests_90 (fun H locs w => ?_)
      replace w : bq_w D A s.heap (wdX8_rests cI a_t a_t_backs a_t_outs a_t_pauses a_p1 u_t_rig u_t_trial u_t_strokes u_t_cuts u_t_text u_t_readOuts u_t_readBacks u_t_readPauses t t_backs t_outs t_pauses p1_7) H locs := by rw [e9]; exact w
      clear e9
      refine lv_aload_n hx hb dX8_rests_91 rfl (lv_at hl 1 rfl) ?_
      refine lv_bipush (v := 8) hx hb dX8_rests_92 (by decide) ?_
      refine lv_aload_n hx hb dX8_rests_94 rfl (lv_at hl 0 rfl) ?_
      refine lv_aload_n hx hb dX8_rests_95 rfl (lv_at hl 1 rfl) ?_
      refine lv_bipush (v := 7) hx hb dX8_rests_96 (by decide) ?_
      refine bq_aldk E K w 4 rfl 7 (by decide) (by unfold vp_in; decide) dX8_rests_98 ?_
      obtain ⟨v8, hC, hm⟩ := bq_bd_el hm
      refine bq_V (As := [.int (p1_7 7)]) (rest := [.int 8, .ref a_p1]) (st1 := [.int v8, .int 8, .ref a_p1]) (ws' := wdX8_rests cI a_t a_t_backs a_t_outs a_t_pauses a_p1 u_t_rig u_t_trial u_t_strokes u_t_cuts u_t_text u_t_readOuts u_t_readBacks u_t_readPauses t t_backs t_outs t_pauses p1_7) E K w hA (kX8_movesOf l D cI cJ a_t a_t_backs a_t_outs u_t_rig u_t_trial u_t_strokes a_t_pauses u_t_cuts u_t_text u_t_readOuts u_t_readBacks u_t_readPauses t t_backs t_outs (p1_7 7) v8 hC) (bq_gV ml_X8_152 im_X8_movesOf sl_X8_movesOf in_X8 cd_X8_movesOf) hd_X8_movesOf ⟨Nat.le_of_ble_eq_true rfl, Nat.le_of_ble_eq_true rfl⟩ ⟨Nat.le_of_ble_eq_true rfl, Nat.le_of_ble_eq_true rfl⟩ ⟨[0, 1, 2], [3, 4], [2, 3, 4, 0, 1], rfl, rfl, rfl, rfl, rfl, rfl, rfl, rfl, rfl⟩ 0 rfl rfl rfl hl.1 rfl (Nat.le_of_ble_eq_true rfl) rfl dX8_rests_99 (fun H locs w => bq_z ⟨rfl, rfl⟩ ?_)
      clear hC
      obtain ⟨p1_9, e9, hm⟩ := bq_let_el hm
      refine bq_astk E K w 4 rfl 8 (by decide) (by unfold vp_in; decide) dX8_rests_102 (fun H locs w => ?_)
      replace w : bq_w D A s.heap (wdX8_rests cI a_t a_t_backs a_t_outs a_t_pauses a_p1 u_t_rig u_t_trial u_t_strokes u_t_cuts u_t_text u_t_readOuts u_t_readBacks u_t_readPauses t t_backs t_outs t_pauses p1_9) H locs := by rw [e9]; exact w
      clear e9
      refine lv_aload_n hx hb dX8_rests_103 rfl (lv_at hl 1 rfl) ?_
      refine lv_bipush (v := 11) hx hb dX8_rests_104 (by decide) ?_
      refine lv_iconst (v := (-1)) hx hb dX8_rests_106 (by decide) ?_
      obtain ⟨p1_10, e9, hm⟩ := bq_let_el hm
      refine bq_astk E K w 4 rfl 11 (by decide) (by unfold vp_in; decide) dX8_rests_107 (fun H locs w => ?_)
      replace w : bq_w D A s.heap (wdX8_rests cI a_t a_t_backs a_t_outs a_t_pauses a_p1 u_t_rig u_t_trial u_t_strokes u_t_cuts u_t_text u_t_readOuts u_t_readBacks u_t_readPauses t t_backs t_outs t_pauses p1_10) H locs := by rw [e9]; exact w
      clear e9
      refine lv_aload_n hx hb dX8_rests_108 rfl (lv_at hl 1 rfl) ?_
      refine lv_bipush (v := 12) hx hb dX8_rests_109 (by decide) ?_
      refine lv_iconst (v := (-1)) hx hb dX8_rests_111 (by decide) ?_
      obtain ⟨p1_11, e9, hm⟩ := bq_let_el hm
      refine bq_astk E K w 4 rfl 12 (by decide) (by unfold vp_in; decide) dX8_rests_112 (fun H locs w => ?_)
      replace w : bq_w D A s.heap (wdX8_rests cI a_t a_t_backs a_t_outs a_t_pauses a_p1 u_t_rig u_t_trial u_t_strokes u_t_cuts u_t_text u_t_readOuts u_t_readBacks u_t_readPauses t t_backs t_outs t_pauses p1_11) H locs := by rw [e9]; exact w
      clear e9
      obtain rfl := Option.some.inj hm
      exact bq_vret E w hr hk dX8_rests_113 hQ
    clear hm
    refine lv_if_le (tgt := 81) hx hb dX8_rests_62 (by decide) (fun hc => ?_) (fun hc => ?_)
    · replace hT82 := bq_et hc hT82
      clear hc
      refine lv_iconst (v := (-1)) hx hb dX8_rests_81 (by decide) ?_
      subst hT82
      exact K82 H locs ls w (lv_sub hl [0, 1] rfl)
    · replace hT82 := bq_ef hc hT82
      clear hc
      refine lv_aload_n hx hb dX8_rests_65 rfl (lv_at hl 1 rfl) ?_
      refine lv_iconst (v := 1) hx hb dX8_rests_66 (by decide) ?_
      refine bq_aldk E K w 4 rfl 1 (by decide) (by unfold vp_in; decide) dX8_rests_67 ?_
      refine lv_iconst (v := 1) hx hb dX8_rests_68 (by decide) ?_
      refine lv_icmp_ne (tgt := 81) hx hb dX8_rests_69 (by decide) (fun hc => ?_) (fun hc => ?_)
      · replace hT82 := bq_ef hc hT82
        clear hc
        refine lv_iconst (v := (-1)) hx hb dX8_rests_81 (by decide) ?_
        subst hT82
        exact K82 H locs ls w (lv_sub hl [0, 1] rfl)
      · replace hT82 := bq_et hc hT82
        clear hc
        refine lv_aload_n hx hb dX8_rests_72 rfl (lv_at hl 0 rfl) ?_
        refine gt_X8_136 E K w 0 rfl rfl dX8_rests_73 ?_
        refine lv_iconst (v := 1) hx hb dX8_rests_76 (by decide) ?_
        refine lv_isub hx hb dX8_rests_77 ?_
        refine lv_goto (tgt := 82) hx hb dX8_rests_78 (by decide) ?_
        subst hT82
        exact K82 H locs ls w (lv_sub hl [0, 1] rfl)
  clear hm
  have L2 : ∀ (nn : Nat) (i1 : Int32) (p1_2 : Nat → Int32) (H : Heap) (locs : List Loc) (ls : Array Slot), bq_lp B nn (i1, p1_2) = some p1_3 → bq_w D A s.heap (wdX8_rests cI a_t a_t_backs a_t_outs a_t_pauses a_p1 u_t_rig u_t_trial u_t_strokes u_t_cuts u_t_text u_t_readOuts u_t_readBacks u_t_readPauses t t_backs t_outs t_pauses p1_2) H locs → lv_has ls 4 [(0, .ref a_t), (1, .ref a_p1), (2, .int i1)] → W p l e rmX8_rests s m av9 below meth c H locs 0 0 Q (F0 m 2 ls []) := by
    intro nn
    induction nn with
    | zero =>
      intro i1 p1_2 H locs ls hL w hl
      exact bq_lp_0 hL
    | succ nn ih =>
      intro i1 p1_2 H locs ls hL w hl
      obtain ⟨oo2, hT2, hR2⟩ := bq_lp_el hL
      clear hL
      replace hT2 := bq_u2_el eB hT2
      unfold bX8_rests_2 at hT2
      refine lv_iload_n hx hb dX8_rests_2 rfl (lv_at hl 2 rfl) ?_
      refine lv_sipush (v := 140) hx hb dX8_rests_3 (by decide) ?_
      refine lv_icmp_ge (tgt := 56) hx hb dX8_rests_6 (by decide) (fun hc => ?_) (fun hc => ?_)
      · replace hT2 := bq_t hc hT2
        clear hc
        obtain rfl := Option.some.inj hT2
        replace hR2 := bq_lk_r hR2
        subst hR2
        exact X56 H locs ls w (lv_sub hl [0, 1] rfl)
      · replace hT2 := bq_f hc hT2
        clear hc
        refine lv_iload_n hx hb dX8_rests_9 rfl (lv_at hl 2 rfl) ?_
        refine lv_iconst (v := 1) hx hb dX8_rests_10 (by decide) ?_
        obtain ⟨v12, hT35, hT2⟩ := bq_bd_el hT2
        have K35 : ∀ (H : Heap) (locs : List Loc) (ls : Array Slot), bq_w D A s.heap (wdX8_rests cI a_t a_t_backs a_t_outs a_t_pauses a_p1 u_t_rig u_t_trial u_t_strokes u_t_cuts u_t_text u_t_readOuts u_t_readBacks u_t_readPauses t t_backs t_outs t_pauses p1_2) H locs → lv_has ls 4 [(0, .ref a_t), (1, .ref a_p1), (2, .int i1)] → W p l e rmX8_rests s m av9 below meth c H locs 0 0 Q (F0 m 35 ls [.int v12]) := by
          intro H locs ls w hl
          refine lv_istore_n (lv' := [(3, .int v12), (0, .ref a_t), (1, .ref a_p1), (2, .int i1)]) hx hb dX8_rests_35 rfl hl (by decide) rfl (fun ls hl => ?_)
          refine lv_aload_n hx hb dX8_rests_36 rfl (lv_at hl 2 rfl) ?_
          refine lv_iload_n hx hb dX8_rests_37 rfl (lv_at hl 3 rfl) ?_
          refine lv_iload_n hx hb dX8_rests_38 rfl (lv_at hl 0 rfl) ?_
          obtain ⟨v14, hT49, hT2⟩ := bq_bd_el hT2
          have K49 : ∀ (H : Heap) (locs : List Loc) (ls : Array Slot), bq_w D A s.heap (wdX8_rests cI a_t a_t_backs a_t_outs a_t_pauses a_p1 u_t_rig u_t_trial u_t_strokes u_t_cuts u_t_text u_t_readOuts u_t_readBacks u_t_readPauses t t_backs t_outs t_pauses p1_2) H locs → lv_has ls 4 [(0, .ref a_t), (1, .ref a_p1), (2, .int i1)] → W p l e rmX8_rests s m av9 below meth c H locs 0 0 Q (F0 m 49 ls [.int v14, .int i1, .ref a_p1]) := by
            intro H locs ls w hl
            obtain ⟨hI, hT2⟩ := bq_ci_el hT2
            obtain ⟨p1_15, e9, hT2⟩ := bq_let_el hT2
            refine bq_ast E K w 4 rfl hI dX8_rests_49 (fun H locs w => ?_)
            replace w : bq_w D A s.heap (wdX8_rests cI a_t a_t_backs a_t_outs a_t_pauses a_p1 u_t_rig u_t_trial u_t_strokes u_t_cuts u_t_text u_t_readOuts u_t_readBacks u_t_readPauses t t_backs t_outs t_pauses p1_15) H locs := by rw [e9]; exact w
            clear e9
            obtain ⟨v16, e9, hT2⟩ := bq_let_el hT2
            refine lv_iinc (v := v16) (lv' := [(2, .int v16), (0, .ref a_t), (1, .ref a_p1)]) hx hb dX8_rests_50 hl (k := 2) rfl (by rw [e9]; rfl) (by decide) rfl (fun ls hl => ?_)
            clear e9
            refine lv_goto (tgt := 2) hx hb dX8_rests_53 (by decide) ?_
            obtain rfl := Option.some.inj hT2
            exact ih v16 p1_15 H locs ls hR2 w (lv_sub hl [1, 2, 0] rfl)
          clear hT2
          refine lv_if_eq (tgt := 48) hx hb dX8_rests_39 (by decide) (fun hc => ?_) (fun hc => ?_)
          · replace hT49 := bq_t hc hT49
            clear hc
            refine lv_iconst (v := 0) hx hb dX8_rests_48 (by decide) ?_
            obtain rfl := Option.some.inj hT49
            exact K49 H locs ls w (lv_sub hl [1, 2, 3] rfl)
          · replace hT49 := bq_f hc hT49
            clear hc
            refine lv_aload_n hx hb dX8_rests_42 rfl (lv_at hl 2 rfl) ?_
            refine lv_iload_n hx hb dX8_rests_43 rfl (lv_at hl 3 rfl) ?_
            obtain ⟨hI, hT49⟩ := bq_ci_el hT49
            refine bq_ald E K w 4 rfl hI dX8_rests_44 ?_
            refine lv_goto (tgt := 49) hx hb dX8_rests_45 (by decide) ?_
            obtain rfl := Option.some.inj hT49
            exact K49 H locs ls w (lv_sub hl [1, 2, 3] rfl)
        clear hT2
        refine lv_icmp_eq (tgt := 30) hx hb dX8_rests_11 (by decide) (fun hc => ?_) (fun hc => ?_)
        · replace hT35 := bq_t hc hT35
          clear hc
          refine lv_iconst (v := 1) hx hb dX8_rests_30 (by decide) ?_
          refine lv_goto (tgt := 35) hx hb dX8_rests_31 (by decide) ?_
          obtain rfl := Option.some.inj hT35
          exact K35 H locs ls w (lv_sub hl [0, 1, 2] rfl)
        · replace hT35 := bq_f hc hT35
          clear hc
          refine lv_iload_n hx hb dX8_rests_14 rfl (lv_at hl 2 rfl) ?_
          refine lv_iconst (v := 2) hx hb dX8_rests_15 (by decide) ?_
          refine lv_icmp_eq (tgt := 30) hx hb dX8_rests_16 (by decide) (fun hc => ?_) (fun hc => ?_)
          · replace hT35 := bq_t hc hT35
            clear hc
            refine lv_iconst (v := 1) hx hb dX8_rests_30 (by decide) ?_
            refine lv_goto (tgt := 35) hx hb dX8_rests_31 (by decide) ?_
            obtain rfl := Option.some.inj hT35
            exact K35 H locs ls w (lv_sub hl [0, 1, 2] rfl)
          · replace hT35 := bq_f hc hT35
            clear hc
            refine lv_iload_n hx hb dX8_rests_19 rfl (lv_at hl 2 rfl) ?_
            refine lv_bipush (v := 38) hx hb dX8_rests_20 (by decide) ?_
            refine lv_bipush (v := 43) hx hb dX8_rests_22 (by decide) ?_
            obtain ⟨v13, hC, hT35⟩ := bq_bd_el hT35
            refine bq_S0 (As := [.int i1, .int 38, .int 43]) (rest := []) (st1 := [.int v13]) E K w hA (kX8_in l D cI cJ i1 38 43 v13 hC) cd_X8_in ml_X8_51 in_X8 st_X8_in hs_X8_in ⟨Nat.le_of_ble_eq_true rfl, Nat.le_of_ble_eq_true rfl⟩ ⟨Nat.le_of_ble_eq_true rfl, Nat.le_of_ble_eq_true rfl⟩ rfl hl.1 rfl (Nat.le_of_ble_eq_true rfl) rfl dX8_rests_24 (fun H locs w => bq_z ⟨rfl, rfl⟩ ?_)
            clear hC
            refine lv_if_eq (tgt := 34) hx hb dX8_rests_27 (by decide) (fun hc => ?_) (fun hc => ?_)
            · replace hT35 := bq_t hc hT35
              clear hc
              refine lv_iconst (v := 0) hx hb dX8_rests_34 (by decide) ?_
              obtain rfl := Option.some.inj hT35
              exact K35 H locs ls w (lv_sub hl [0, 1, 2] rfl)
            · replace hT35 := bq_f hc hT35
              clear hc
              refine lv_iconst (v := 1) hx hb dX8_rests_30 (by decide) ?_
              refine lv_goto (tgt := 35) hx hb dX8_rests_31 (by decide) ?_
              obtain rfl := Option.some.inj hT35
              exact K35 H locs ls w (lv_sub hl [0, 1, 2] rfl)
  exact L2 nn 0 p1 H locs ls hL w (lv_sub hl [1, 2, 0] rfl)
abbrev wdX8_readSequence (cI : ClassId) (a_t a_t_backs a_t_cuts a_t_outs a_t_pauses a_t_readBacks a_t_readOuts a_t_readPauses a_t_rig a_t_text u_t_trial u_t_strokes : Nat) (t : Nat → Int32) (t_backs : Nat → Int32) (t_cuts : Nat → Int32) (t_outs : Nat → Int32) (t_pauses : Nat → Int32) (t_readBacks : Nat → Int32) (t_readOuts : Nat → Int32) (t_readPauses : Nat → Int32) (t_rig : Nat → Int32) (t_text : Nat → Int32) : va_W := [(a_t, oX8 a_t_rig u_t_trial u_t_strokes a_t_outs a_t_backs a_t_pauses a_t_cuts a_t_text a_t_readOuts a_t_readBacks a_t_readPauses t), (a_t_backs, oA cI 16 t_backs), (a_t_cuts, oA cI 16 t_cuts), (a_t_outs, oA cI 16 t_outs), (a_t_pauses, oA cI 16 t_pauses), (a_t_readBacks, oA cI 17 t_readBacks), (a_t_readOuts, oA cI 17 t_readOuts), (a_t_readPauses, oA cI 17 t_readPauses), (a_t_rig, oA cI 140 t_rig), (a_t_text, oA cI 80 t_text)]
abbrev rmX8_readSequence : Room := { frames := 5, cells := 0, slots := 0, locals := 113 }
theorem hd_X8_readSequence : yX8_readSequence.cls = RX8 ∧ yX8_readSequence.cls ≠ "java/lang/invoke/MethodHandle" ∧ yX8_readSequence.cls ≠ "java/lang/invoke/VarHandle" ∧ (parseMethodDescriptor yX8_readSequence.desc).map (fun d => d.parameters.length) = some 0 := by decide +kernel
set_option maxHeartbeats 4000000 in
set_option maxRecDepth 100000 in
theorem kX8_readSequence (l : Launch) (D : va_G) (cI cJ : ClassId) (a_t a_t_backs a_t_cuts a_t_outs a_t_pauses a_t_readBacks a_t_readOuts a_t_readPauses a_t_rig a_t_text u_t_trial u_t_strokes : Nat) (t t_backs t_cuts t_outs t_pauses t_readBacks t_readOuts t_readPauses t_rig t_text : Nat → Int32) (r : Int32) (t_o : Nat → Int32) (t_backs_o : Nat → Int32) (t_cuts_o : Nat → Int32) (t_outs_o : Nat → Int32) (t_pauses_o : Nat → Int32) (t_readBacks_o : Nat → Int32) (t_readOuts_o : Nat → Int32) (t_readPauses_o : Nat → Int32) (t_rig_o : Nat → Int32) (hm : mX8_readSequence t t_backs t_cuts t_outs t_pauses t_readBacks t_readOuts t_readPauses t_rig t_text = some (r, t_o, t_backs_o, t_cuts_o, t_outs_o, t_pauses_o, t_readBacks_o, t_readOuts_o, t_readPauses_o, t_rig_o)) : bq_M l D cI cJ yX8_readSequence cX8_readSequence 2 (some .int) rmX8_readSequence [.ref a_t] (wdX8_readSequence cI a_t a_t_backs a_t_cuts a_t_outs a_t_pauses a_t_readBacks a_t_readOuts a_t_readPauses a_t_rig a_t_text u_t_trial u_t_strokes t t_backs t_cuts t_outs t_pauses t_readBacks t_readOuts t_readPauses t_rig t_text) (wdX8_readSequence cI a_t a_t_backs a_t_cuts a_t_outs a_t_pauses a_t_readBacks a_t_readOuts a_t_readPauses a_t_rig a_t_text u_t_trial u_t_strokes t_o t_backs_o t_cuts_o t_outs_o t_pauses_o t_readBacks_o t_readOuts_o t_readPauses_o t_rig_o t_text) (some (.int r)) := by
  refine bq_start (by decide) (Nat.le_of_ble_eq_true rfl) ?_
  intro p e s m av9 below meth c A ls Q H locs E K w hA hr hk hn hQ hl
  have E : bq_E p m c cX8_readSequence 2 s av9 RX8 := E
  have hx := E.1
  have hb := E.2.1
  have hl : lv_has ls 2 [(0, .ref a_t)] := hl
  unfold mX8_readSequence at hm
  refine lv_aload_n hx hb dX8_readSequence_0 rfl (lv_at hl 0 rfl) ?_
  refine lv_iconst (v := 0) hx hb dX8_readSequence_1 (by decide) ?_
  obtain ⟨t_1, e9, hm⟩ := bq_let_el hm
  refine pt_X8_47 E K w 0 rfl (Nat.le_of_ble_eq_true rfl) dX8_readSequence_2 (fun H locs w => ?_)
  replace w : bq_w D A s.heap (wdX8_readSequence cI a_t a_t_backs a_t_cuts a_t_outs a_t_pauses a_t_readBacks a_t_readOuts a_t_readPauses a_t_rig a_t_text u_t_trial u_t_strokes t_1 t_backs t_cuts t_outs t_pauses t_readBacks t_readOuts t_readPauses t_rig t_text) H locs := by rw [e9]; exact w
  clear e9
  refine lv_aload_n hx hb dX8_readSequence_5 rfl (lv_at hl 0 rfl) ?_
  obtain ⟨v2, t_3, t_readBacks_4, t_readOuts_5, t_readPauses_6, hC, hm⟩ := bq_b5_el hm
  refine bq_V (As := []) (rest := []) (st1 := [.int v2]) (ws' := wdX8_readSequence cI a_t a_t_backs a_t_cuts a_t_outs a_t_pauses a_t_readBacks a_t_readOuts a_t_readPauses a_t_rig a_t_text u_t_trial u_t_strokes t_3 t_backs t_cuts t_outs t_pauses t_readBacks_4 t_readOuts_5 t_readPauses_6 t_rig t_text) E K w hA (kX8_reads l D cI cJ a_t a_t_readBacks a_t_readOuts a_t_readPauses a_t_text a_t_rig u_t_trial u_t_strokes a_t_outs a_t_backs a_t_pauses a_t_cuts t_1 t_readBacks t_readOuts t_readPauses t_text v2 t_3 t_readBacks_4 t_readOuts_5 t_readPauses_6 hC) (bq_gV ml_X8_100 im_X8_reads sl_X8_reads in_X8 cd_X8_reads) hd_X8_reads ⟨Nat.le_of_ble_eq_true rfl, Nat.le_of_ble_eq_true rfl⟩ ⟨Nat.le_of_ble_eq_true rfl, Nat.le_of_ble_eq_true rfl⟩ ⟨[0, 5, 6, 7, 9], [1, 2, 3, 4, 8], [5, 0, 1, 2, 3, 6, 7, 8, 4, 9], rfl, rfl, rfl, rfl, rfl, rfl, rfl, rfl, rfl⟩ 0 rfl rfl rfl hl.1 rfl (Nat.le_of_ble_eq_true rfl) rfl dX8_readSequence_6 (fun H locs w => bq_z ⟨rfl, rfl⟩ ?_)
  clear hC
  refine lv_if_ne (tgt := 19) hx hb dX8_readSequence_9 (by decide) (fun hc => ?_) (fun hc => ?_)
  · replace hm := bq_f hc hm
    clear hc
    refine lv_aload_n hx hb dX8_readSequence_19 rfl (lv_at hl 0 rfl) ?_
    refine lv_aload_n hx hb dX8_readSequence_20 rfl (lv_at hl 0 rfl) ?_
    refine gt_X8_65 E K w 0 rfl rfl dX8_readSequence_21 ?_
    obtain ⟨t_7, e9, hm⟩ := bq_let_el hm
    refine pt_X8_104 E K w 0 rfl (Nat.le_of_ble_eq_true rfl) dX8_readSequence_24 (fun H locs w => ?_)
    replace w : bq_w D A s.heap (wdX8_readSequence cI a_t a_t_backs a_t_cuts a_t_outs a_t_pauses a_t_readBacks a_t_readOuts a_t_readPauses a_t_rig a_t_text u_t_trial u_t_strokes t_7 t_backs t_cuts t_outs t_pauses t_readBacks_4 t_readOuts_5 t_readPauses_6 t_rig t_text) H locs := by rw [e9]; exact w
    clear e9
    refine lv_iconst (v := 0) hx hb dX8_readSequence_27 (by decide) ?_
    refine lv_istore_n (lv' := [(1, .int 0), (0, .ref a_t)]) hx hb dX8_readSequence_28 rfl hl (by decide) rfl (fun ls hl => ?_)
    obtain ⟨t_backs_12, t_outs_13, t_pauses_14, hL, hm⟩ := bq_b3_el hm
    obtain ⟨B, eB, nn, hL⟩ := bq_loop_B hL
    have X79 : ∀ (H : Heap) (locs : List Loc) (ls : Array Slot), bq_w D A s.heap (wdX8_readSequence cI a_t a_t_backs a_t_cuts a_t_outs a_t_pauses a_t_readBacks a_t_readOuts a_t_readPauses a_t_rig a_t_text u_t_trial u_t_strokes t_7 t_backs_12 t_cuts t_outs_13 t_pauses_14 t_readBacks_4 t_readOuts_5 t_readPauses_6 t_rig t_text) H locs → lv_has ls 2 [(0, .ref a_t)] → W p l e rmX8_readSequence s m av9 below meth c H locs 0 0 Q (F0 m 79 ls []) := by
      intro H locs ls w hl
      refine lv_aload_n hx hb dX8_readSequence_79 rfl (lv_at hl 0 rfl) ?_
      obtain ⟨t_15, t_cuts_16, hC, hm⟩ := bq_b2_el hm
      refine bq_V (As := []) (rest := []) (st1 := []) (ws' := wdX8_readSequence cI a_t a_t_backs a_t_cuts a_t_outs a_t_pauses a_t_readBacks a_t_readOuts a_t_readPauses a_t_rig a_t_text u_t_trial u_t_strokes t_15 t_backs_12 t_cuts_16 t_outs_13 t_pauses_14 t_readBacks_4 t_readOuts_5 t_readPauses_6 t_rig t_text) E K w hA (kX8_divides l D cI cJ a_t a_t_backs a_t_cuts a_t_outs a_t_rig u_t_trial u_t_strokes a_t_pauses a_t_text a_t_readOuts a_t_readBacks a_t_readPauses t_7 t_backs_12 t_cuts t_outs_13 t_15 t_cuts_16 hC) (bq_gV ml_X8_107 im_X8_divides sl_X8_divides in_X8 cd_X8_divides) hd_X8_divides ⟨Nat.le_of_ble_eq_true rfl, Nat.le_of_ble_eq_true rfl⟩ ⟨Nat.le_of_ble_eq_true rfl, Nat.le_of_ble_eq_true rfl⟩ ⟨[0, 1, 2, 3], [4, 5, 6, 7, 8, 9], [6, 7, 8, 9, 0, 1, 2, 3, 4, 5], rfl, rfl, rfl, rfl, rfl, rfl, rfl, rfl, rfl⟩ 0 rfl rfl rfl hl.1 rfl (Nat.le_of_ble_eq_true rfl) rfl dX8_readSequence_80 (fun H locs w => bq_z ⟨rfl, rfl⟩ ?_)
      clear hC
      refine lv_aload_n hx hb dX8_readSequence_83 rfl (lv_at hl 0 rfl) ?_
      refine lv_iconst (v := 0) hx hb dX8_readSequence_84 (by decide) ?_
      obtain ⟨t_17, e9, hm⟩ := bq_let_el hm
      refine pt_X8_59 E K w 0 rfl (Nat.le_of_ble_eq_true rfl) dX8_readSequence_85 (fun H locs w => ?_)
      replace w : bq_w D A s.heap (wdX8_readSequence cI a_t a_t_backs a_t_cuts a_t_outs a_t_pauses a_t_readBacks a_t_readOuts a_t_readPauses a_t_rig a_t_text u_t_trial u_t_strokes t_17 t_backs_12 t_cuts_16 t_outs_13 t_pauses_14 t_readBacks_4 t_readOuts_5 t_readPauses_6 t_rig t_text) H locs := by rw [e9]; exact w
      clear e9
      refine lv_aload_n hx hb dX8_readSequence_88 rfl (lv_at hl 0 rfl) ?_
      refine lv_aload_n hx hb dX8_readSequence_89 rfl (lv_at hl 0 rfl) ?_
      refine gt_X8_7 E K w 0 rfl rfl dX8_readSequence_90 ?_
      obtain ⟨t_rig_18, hC, hm⟩ := bq_bd_el hm
      refine bq_V (As := [.ref a_t_rig]) (rest := []) (st1 := []) (ws' := wdX8_readSequence cI a_t a_t_backs a_t_cuts a_t_outs a_t_pauses a_t_readBacks a_t_readOuts a_t_readPauses a_t_rig a_t_text u_t_trial u_t_strokes t_17 t_backs_12 t_cuts_16 t_outs_13 t_pauses_14 t_readBacks_4 t_readOuts_5 t_readPauses_6 t_rig_18 t_text) E K w hA (kX8_rests l D cI cJ a_t a_t_backs a_t_outs a_t_pauses a_t_rig a_t_rig u_t_trial u_t_strokes a_t_cuts a_t_text a_t_readOuts a_t_readBacks a_t_readPauses t_17 t_backs_12 t_outs_13 t_pauses_14 t_rig t_rig_18 hC) (bq_gV ml_X8_43 im_X8_rests sl_X8_rests in_X8 cd_X8_rests) hd_X8_rests ⟨Nat.le_of_ble_eq_true rfl, Nat.le_of_ble_eq_true rfl⟩ ⟨Nat.le_of_ble_eq_true rfl, Nat.le_of_ble_eq_true rfl⟩ ⟨[0, 1, 3, 4, 8], [2, 5, 6, 7, 9], [5, 6, 0, 7, 8, 1, 2, 3, 9, 4], rfl, rfl, rfl, rfl, rfl, rfl, rfl, rfl, rfl⟩ 0 rfl rfl rfl hl.1 rfl (Nat.le_of_ble_eq_true rfl) rfl dX8_readSequence_93 (fun H locs w => bq_z ⟨rfl, rfl⟩ ?_)
      clear hC
      refine lv_aload_n hx hb dX8_readSequence_96 rfl (lv_at hl 0 rfl) ?_
      refine gt_X8_104 E K w 0 rfl rfl dX8_readSequence_97 ?_
      obtain ⟨rfl, rfl, rfl, rfl, rfl, rfl, rfl, rfl, rfl, rfl⟩ := bq_in10 (Option.some.inj hm)
      exact bq_iret E w hr hk dX8_readSequence_100 hQ
    clear hm
    have L29 : ∀ (nn : Nat) (i8 : Int32) (t_backs_9 : Nat → Int32) (t_outs_10 : Nat → Int32) (t_pauses_11 : Nat → Int32) (H : Heap) (locs : List Loc) (ls : Array Slot), bq_lp B nn (i8, t_backs_9, t_outs_10, t_pauses_11) = some (t_backs_12, t_outs_13, t_pauses_14) → bq_w D A s.heap (wdX8_readSequence cI a_t a_t_backs a_t_cuts a_t_outs a_t_pauses a_t_readBacks a_t_readOuts a_t_readPauses a_t_rig a_t_text u_t_trial u_t_strokes t_7 t_backs_9 t_cuts t_outs_10 t_pauses_11 t_readBacks_4 t_readOuts_5 t_readPauses_6 t_rig t_text) H locs → lv_has ls 2 [(0, .ref a_t), (1, .int i8)] → W p l e rmX8_readSequence s m av9 below meth c H locs 0 0 Q (F0 m 29 ls []) := by
      intro nn
      induction nn with
      | zero =>
        intro i8 t_backs_9 t_outs_10 t_pauses_11 H locs ls hL w hl
        exact bq_lp_0 hL
      | succ nn ih =>
        intro i8 t_backs_9 t_outs_10 t_pauses_11 H locs ls hL w hl
        obtain ⟨oo29, hT29, hR29⟩ := bq_lp_el hL
        clear hL
        replace hT29 := bq_u4_el eB hT29
        unfold bX8_readSequence_29 at hT29
        refine lv_iload_n hx hb dX8_readSequence_29 rfl (lv_at hl 1 rfl) ?_
        refine lv_aload_n hx hb dX8_readSequence_30 rfl (lv_at hl 0 rfl) ?_
        refine gt_X8_104 E K w 0 rfl rfl dX8_readSequence_31 ?_
        refine lv_icmp_ge (tgt := 79) hx hb dX8_readSequence_34 (by decide) (fun hc => ?_) (fun hc => ?_)
        · replace hT29 := bq_t hc hT29
          clear hc
          obtain rfl := Option.some.inj hT29
          replace hR29 := bq_lk_r hR29
          obtain ⟨rfl, rfl, rfl⟩ := bq_in3 hR29
          exact X79 H locs ls w (lv_sub hl [0] rfl)
        · replace hT29 := bq_f hc hT29
          clear hc
          refine lv_aload_n hx hb dX8_readSequence_37 rfl (lv_at hl 0 rfl) ?_
          refine gt_X8_19 E K w 0 rfl rfl dX8_readSequence_38 ?_
          refine lv_iload_n hx hb dX8_readSequence_41 rfl (lv_at hl 1 rfl) ?_
          refine lv_aload_n hx hb dX8_readSequence_42 rfl (lv_at hl 0 rfl) ?_
          refine gt_X8_34 E K w 0 rfl rfl dX8_readSequence_43 ?_
          refine lv_iload_n hx hb dX8_readSequence_46 rfl (lv_at hl 1 rfl) ?_
          obtain ⟨hI, hT29⟩ := bq_ci_el hT29
          refine bq_ald E K w 6 rfl hI dX8_readSequence_47 ?_
          obtain ⟨hI, hT29⟩ := bq_ci_el hT29
          obtain ⟨t_outs_19, e9, hT29⟩ := bq_let_el hT29
          refine bq_ast E K w 3 rfl hI dX8_readSequence_48 (fun H locs w => ?_)
          replace w : bq_w D A s.heap (wdX8_readSequence cI a_t a_t_backs a_t_cuts a_t_outs a_t_pauses a_t_readBacks a_t_readOuts a_t_readPauses a_t_rig a_t_text u_t_trial u_t_strokes t_7 t_backs_9 t_cuts t_outs_19 t_pauses_11 t_readBacks_4 t_readOuts_5 t_readPauses_6 t_rig t_text) H locs := by rw [e9]; exact w
          clear e9
          refine lv_aload_n hx hb dX8_readSequence_49 rfl (lv_at hl 0 rfl) ?_
          refine gt_X8_22 E K w 0 rfl rfl dX8_readSequence_50 ?_
          refine lv_iload_n hx hb dX8_readSequence_53 rfl (lv_at hl 1 rfl) ?_
          refine lv_aload_n hx hb dX8_readSequence_54 rfl (lv_at hl 0 rfl) ?_
          refine gt_X8_37 E K w 0 rfl rfl dX8_readSequence_55 ?_
          refine lv_iload_n hx hb dX8_readSequence_58 rfl (lv_at hl 1 rfl) ?_
          obtain ⟨hI, hT29⟩ := bq_ci_el hT29
          refine bq_ald E K w 5 rfl hI dX8_readSequence_59 ?_
          obtain ⟨hI, hT29⟩ := bq_ci_el hT29
          obtain ⟨t_backs_20, e9, hT29⟩ := bq_let_el hT29
          refine bq_ast E K w 1 rfl hI dX8_readSequence_60 (fun H locs w => ?_)
          replace w : bq_w D A s.heap (wdX8_readSequence cI a_t a_t_backs a_t_cuts a_t_outs a_t_pauses a_t_readBacks a_t_readOuts a_t_readPauses a_t_rig a_t_text u_t_trial u_t_strokes t_7 t_backs_20 t_cuts t_outs_19 t_pauses_11 t_readBacks_4 t_readOuts_5 t_readPauses_6 t_rig t_text) H locs := by rw [e9]; exact w
          clear e9
          refine lv_aload_n hx hb dX8_readSequence_61 rfl (lv_at hl 0 rfl) ?_
          refine gt_X8_25 E K w 0 rfl rfl dX8_readSequence_62 ?_
          refine lv_iload_n hx hb dX8_readSequence_65 rfl (lv_at hl 1 rfl) ?_
          refine lv_aload_n hx hb dX8_readSequence_66 rfl (lv_at hl 0 rfl) ?_
          refine gt_X8_40 E K w 0 rfl rfl dX8_readSequence_67 ?_
          refine lv_iload_n hx hb dX8_readSequence_70 rfl (lv_at hl 1 rfl) ?_
          obtain ⟨hI, hT29⟩ := bq_ci_el hT29
          refine bq_ald E K w 7 rfl hI dX8_readSequence_71 ?_
          obtain ⟨hI, hT29⟩ := bq_ci_el hT29
          obtain ⟨t_pauses_21, e9, hT29⟩ := bq_let_el hT29
          refine bq_ast E K w 4 rfl hI dX8_readSequence_72 (fun H locs w => ?_)
          replace w : bq_w D A s.heap (wdX8_readSequence cI a_t a_t_backs a_t_cuts a_t_outs a_t_pauses a_t_readBacks a_t_readOuts a_t_readPauses a_t_rig a_t_text u_t_trial u_t_strokes t_7 t_backs_20 t_cuts t_outs_19 t_pauses_21 t_readBacks_4 t_readOuts_5 t_readPauses_6 t_rig t_text) H locs := by rw [e9]; exact w
          clear e9
          obtain ⟨v22, e9, hT29⟩ := bq_let_el hT29
          refine lv_iinc (v := v22) (lv' := [(1, .int v22), (0, .ref a_t)]) hx hb dX8_readSequence_73 hl (k := 1) rfl (by rw [e9]; rfl) (by decide) rfl (fun ls hl => ?_)
          clear e9
          refine lv_goto (tgt := 29) hx hb dX8_readSequence_76 (by decide) ?_
          obtain rfl := Option.some.inj hT29
          exact ih v22 t_backs_20 t_outs_19 t_pauses_21 H locs ls hR29 w (lv_sub hl [1, 0] rfl)
    exact L29 nn 0 t_backs t_outs t_pauses H locs ls hL w (lv_sub hl [1, 0] rfl)
  · replace hm := bq_t hc hm
    clear hc
    refine lv_iconst (v := (-1)) hx hb dX8_readSequence_12 (by decide) ?_
    refine lv_aload_n hx hb dX8_readSequence_13 rfl (lv_at hl 0 rfl) ?_
    refine gt_X8_97 E K w 0 rfl rfl dX8_readSequence_14 ?_
    refine lv_isub hx hb dX8_readSequence_17 ?_
    obtain ⟨rfl, rfl, rfl, rfl, rfl, rfl, rfl, rfl, rfl, rfl⟩ := bq_in10 (Option.some.inj hm)
    exact bq_iret E w hr hk dX8_readSequence_18 hQ
abbrev wdX8_senses (cI : ClassId) (a_t a_t_strokes a_p1 u_t_rig u_t_trial u_t_outs u_t_backs u_t_pauses u_t_cuts u_t_text u_t_readOuts u_t_readBacks u_t_readPauses : Nat) (t : Nat → Int32) (t_strokes : Nat → Int32) (p1 : Nat → Int32) : va_W := [(a_t, oX8 u_t_rig u_t_trial a_t_strokes u_t_outs u_t_backs u_t_pauses u_t_cuts u_t_text u_t_readOuts u_t_readBacks u_t_readPauses t), (a_t_strokes, oA cI 6 t_strokes), (a_p1, oA cI 140 p1)]
abbrev rmX8_senses : Room := { frames := 0, cells := 0, slots := 0, locals := 0 }
theorem hd_X8_senses : yX8_senses.cls = RX8 ∧ yX8_senses.cls ≠ "java/lang/invoke/MethodHandle" ∧ yX8_senses.cls ≠ "java/lang/invoke/VarHandle" ∧ (parseMethodDescriptor yX8_senses.desc).map (fun d => d.parameters.length) = some 3 := by decide +kernel
set_option maxHeartbeats 4000000 in
set_option maxRecDepth 100000 in
theorem kX8_senses (l : Launch) (D : va_G) (cI cJ : ClassId) (a_t a_t_strokes a_p1 u_t_rig u_t_trial u_t_outs u_t_backs u_t_pauses u_t_cuts u_t_text u_t_readOuts u_t_readBacks u_t_readPauses : Nat) (t t_strokes p1 : Nat → Int32) (x2 : Int32) (x3 : Int32) (r : Int32) (hm : mX8_senses t_strokes p1 x2 x3 = some r) : bq_M l D cI cJ yX8_senses cX8_senses 6 (some .boolean) rmX8_senses [.ref a_t, .ref a_p1, .int x2, .int x3] (wdX8_senses cI a_t a_t_strokes a_p1 u_t_rig u_t_trial u_t_outs u_t_backs u_t_pauses u_t_cuts u_t_text u_t_readOuts u_t_readBacks u_t_readPauses t t_strokes p1) (wdX8_senses cI a_t a_t_strokes a_p1 u_t_rig u_t_trial u_t_outs u_t_backs u_t_pauses u_t_cuts u_t_text u_t_readOuts u_t_readBacks u_t_readPauses t t_strokes p1) (some (.int r)) := by
  refine bq_start (by decide) (Nat.le_of_ble_eq_true rfl) ?_
  intro p e s m av9 below meth c A ls Q H locs E K w hA hr hk hn hQ hl
  have E : bq_E p m c cX8_senses 6 s av9 RX8 := E
  have hx := E.1
  have hb := E.2.1
  have hl : lv_has ls 6 [(0, .ref a_t), (1, .ref a_p1), (2, .int x2), (3, .int x3)] := hl
  unfold mX8_senses at hm
  refine lv_aload_n hx hb dX8_senses_0 rfl (lv_at hl 1 rfl) ?_
  refine lv_bipush (v := 20) hx hb dX8_senses_1 (by decide) ?_
  refine lv_iload_n hx hb dX8_senses_3 rfl (lv_at hl 2 rfl) ?_
  refine lv_iadd hx hb dX8_senses_4 ?_
  obtain ⟨hI, hm⟩ := bq_ci_el hm
  refine bq_ald E K w 2 rfl hI dX8_senses_5 ?_
  refine lv_iload_n hx hb dX8_senses_6 rfl (lv_at hl 3 rfl) ?_
  obtain ⟨v1, hT20, hm⟩ := bq_bd_el hm
  have K20 : ∀ (H : Heap) (locs : List Loc) (ls : Array Slot), bq_w D A s.heap (wdX8_senses cI a_t a_t_strokes a_p1 u_t_rig u_t_trial u_t_outs u_t_backs u_t_pauses u_t_cuts u_t_text u_t_readOuts u_t_readBacks u_t_readPauses t t_strokes p1) H locs → lv_has ls 6 [(1, .ref a_p1), (2, .int x2), (3, .int x3)] → W p l e rmX8_senses s m av9 below meth c H locs 0 0 Q (F0 m 20 ls [.int v1, .int (p1 ((20 + x2) : Int32).toNatClampNeg)]) := by
    intro H locs ls w hl
    obtain ⟨v2, hT28, hm⟩ := bq_let_el hm
    have K28 : ∀ (H : Heap) (locs : List Loc) (ls : Array Slot), bq_w D A s.heap (wdX8_senses cI a_t a_t_strokes a_p1 u_t_rig u_t_trial u_t_outs u_t_backs u_t_pauses u_t_cuts u_t_text u_t_readOuts u_t_readBacks u_t_readPauses t t_strokes p1) H locs → lv_has ls 6 [(1, .ref a_p1), (2, .int x2), (3, .int x3)] → W p l e rmX8_senses s m av9 below meth c H locs 0 0 Q (F0 m 28 ls [.int v2]) := by
      intro H locs ls w hl
      refine lv_istore (lv' := [(4, .int v2), (1, .ref a_p1), (2, .int x2), (3, .int x3)]) hx hb dX8_senses_28 hl (by decide) rfl (fun ls hl => ?_)
      refine lv_aload_n hx hb dX8_senses_30 rfl (lv_at hl 1 rfl) ?_
      refine lv_bipush (v := 38) hx hb dX8_senses_31 (by decide) ?_
      refine lv_iload_n hx hb dX8_senses_33 rfl (lv_at hl 2 rfl) ?_
      refine lv_iadd hx hb dX8_senses_34 ?_
      obtain ⟨hI, hm⟩ := bq_ci_el hm
      refine bq_ald E K w 2 rfl hI dX8_senses_35 ?_
      refine lv_iconst (v := 1) hx hb dX8_senses_36 (by decide) ?_
      refine lv_iconst (v := 2) hx hb dX8_senses_37 (by decide) ?_
      refine lv_iload_n hx hb dX8_senses_38 rfl (lv_at hl 3 rfl) ?_
      refine lv_imul hx hb dX8_senses_39 ?_
      refine lv_iadd hx hb dX8_senses_40 ?_
      refine lv_ishr hx hb dX8_senses_41 ?_
      obtain ⟨v3, e9, hm⟩ := bq_let_el hm
      refine bq_nmi e9 ?_
      clear e9
      refine lv_istore (lv' := [(5, .int v3), (4, .int v2), (1, .ref a_p1), (2, .int x2), (3, .int x3)]) hx hb dX8_senses_42 hl (by decide) rfl (fun ls hl => ?_)
      refine lv_iload hx hb dX8_senses_44 (lv_at hl 0 rfl) ?_
      refine lv_iconst (v := 1) hx hb dX8_senses_46 (by decide) ?_
      refine lv_iand hx hb dX8_senses_47 ?_
      obtain ⟨v4, hT68, hm⟩ := bq_let_el hm
      have K68 : ∀ (H : Heap) (locs : List Loc) (ls : Array Slot), bq_w D A s.heap (wdX8_senses cI a_t a_t_strokes a_p1 u_t_rig u_t_trial u_t_outs u_t_backs u_t_pauses u_t_cuts u_t_text u_t_readOuts u_t_readBacks u_t_readPauses t t_strokes p1) H locs → lv_has ls 6 [] → W p l e rmX8_senses s m av9 below meth c H locs 0 0 Q (F0 m 68 ls [.int v4]) := by
        intro H locs ls w hl
        obtain ⟨hB, hm⟩ := bq_cb_el hm
        obtain rfl := Option.some.inj hm
        exact bq_zret E w hr hk hB dX8_senses_68 hQ
      clear hm
      refine lv_if_ne (tgt := 67) hx hb dX8_senses_48 (by decide) (fun hc => ?_) (fun hc => ?_)
      · replace hT68 := bq_ef hc hT68
        clear hc
        refine lv_iconst (v := 0) hx hb dX8_senses_67 (by decide) ?_
        subst hT68
        exact K68 H locs ls w (lv_sub hl [] rfl)
      · replace hT68 := bq_et hc hT68
        clear hc
        refine lv_iload hx hb dX8_senses_51 (lv_at hl 1 rfl) ?_
        refine lv_if_ne (tgt := 63) hx hb dX8_senses_53 (by decide) (fun hc => ?_) (fun hc => ?_)
        · replace hT68 := bq_ef hc hT68
          clear hc
          refine lv_iconst (v := 1) hx hb dX8_senses_63 (by decide) ?_
          refine lv_goto (tgt := 68) hx hb dX8_senses_64 (by decide) ?_
          subst hT68
          exact K68 H locs ls w (lv_sub hl [] rfl)
        · replace hT68 := bq_et hc hT68
          clear hc
          refine lv_iload hx hb dX8_senses_56 (lv_at hl 0 rfl) ?_
          refine lv_iconst (v := 2) hx hb dX8_senses_58 (by decide) ?_
          refine lv_iand hx hb dX8_senses_59 ?_
          refine lv_if_eq (tgt := 67) hx hb dX8_senses_60 (by decide) (fun hc => ?_) (fun hc => ?_)
          · replace hT68 := bq_et hc hT68
            clear hc
            refine lv_iconst (v := 0) hx hb dX8_senses_67 (by decide) ?_
            subst hT68
            exact K68 H locs ls w (lv_sub hl [] rfl)
          · replace hT68 := bq_ef hc hT68
            clear hc
            refine lv_iconst (v := 1) hx hb dX8_senses_63 (by decide) ?_
            refine lv_goto (tgt := 68) hx hb dX8_senses_64 (by decide) ?_
            subst hT68
            exact K68 H locs ls w (lv_sub hl [] rfl)
    clear hm
    refine lv_icmp_ne (tgt := 27) hx hb dX8_senses_20 (by decide) (fun hc => ?_) (fun hc => ?_)
    · replace hT28 := bq_ef hc hT28
      clear hc
      refine lv_iconst (v := 0) hx hb dX8_senses_27 (by decide) ?_
      subst hT28
      exact K28 H locs ls w (lv_sub hl [0, 1, 2] rfl)
    · replace hT28 := bq_et hc hT28
      clear hc
      refine lv_iconst (v := 1) hx hb dX8_senses_23 (by decide) ?_
      refine lv_goto (tgt := 28) hx hb dX8_senses_24 (by decide) ?_
      subst hT28
      exact K28 H locs ls w (lv_sub hl [0, 1, 2] rfl)
  clear hm
  refine lv_if_ne (tgt := 14) hx hb dX8_senses_7 (by decide) (fun hc => ?_) (fun hc => ?_)
  · replace hT20 := bq_f hc hT20
    clear hc
    refine lv_aload_n hx hb dX8_senses_14 rfl (lv_at hl 0 rfl) ?_
    refine gt_X8_16 E K w 0 rfl rfl dX8_senses_15 ?_
    refine lv_iload_n hx hb dX8_senses_18 rfl (lv_at hl 2 rfl) ?_
    obtain ⟨hI, hT20⟩ := bq_ci_el hT20
    refine bq_ald E K w 1 rfl hI dX8_senses_19 ?_
    obtain rfl := Option.some.inj hT20
    exact K20 H locs ls w (lv_sub hl [1, 2, 3] rfl)
  · replace hT20 := bq_t hc hT20
    clear hc
    refine lv_iconst (v := 0) hx hb dX8_senses_10 (by decide) ?_
    refine lv_goto (tgt := 20) hx hb dX8_senses_11 (by decide) ?_
    obtain rfl := Option.some.inj hT20
    exact K20 H locs ls w (lv_sub hl [1, 2, 3] rfl)
abbrev wdX8_isComplete (cI : ClassId) (a_t a_t_backs a_t_outs a_t_pauses a_t_strokes a_p1 u_t_rig u_t_trial u_t_cuts u_t_text u_t_readOuts u_t_readBacks u_t_readPauses : Nat) (t : Nat → Int32) (t_backs : Nat → Int32) (t_outs : Nat → Int32) (t_pauses : Nat → Int32) (t_strokes : Nat → Int32) (p1 : Nat → Int32) : va_W := [(a_t, oX8 u_t_rig u_t_trial a_t_strokes a_t_outs a_t_backs a_t_pauses u_t_cuts u_t_text u_t_readOuts u_t_readBacks u_t_readPauses t), (a_t_backs, oA cI 16 t_backs), (a_t_outs, oA cI 16 t_outs), (a_t_pauses, oA cI 16 t_pauses), (a_t_strokes, oA cI 6 t_strokes), (a_p1, oA cI 140 p1)]
abbrev rmX8_isComplete : Room := { frames := 1, cells := 0, slots := 0, locals := 25 }
theorem hd_X8_isComplete : yX8_isComplete.cls = RX8 ∧ yX8_isComplete.cls ≠ "java/lang/invoke/MethodHandle" ∧ yX8_isComplete.cls ≠ "java/lang/invoke/VarHandle" ∧ (parseMethodDescriptor yX8_isComplete.desc).map (fun d => d.parameters.length) = some 2 := by decide +kernel
set_option maxHeartbeats 4000000 in
set_option maxRecDepth 100000 in
theorem kX8_isComplete (l : Launch) (D : va_G) (cI cJ : ClassId) (a_t a_t_backs a_t_outs a_t_pauses a_t_strokes a_p1 u_t_rig u_t_trial u_t_cuts u_t_text u_t_readOuts u_t_readBacks u_t_readPauses : Nat) (t t_backs t_outs t_pauses t_strokes p1 : Nat → Int32) (x2 : Int32) (r : Int32) (hm : mX8_isComplete t_backs t_outs t_pauses t_strokes p1 x2 = some r) : bq_M l D cI cJ yX8_isComplete cX8_isComplete 6 (some .boolean) rmX8_isComplete [.ref a_t, .ref a_p1, .int x2] (wdX8_isComplete cI a_t a_t_backs a_t_outs a_t_pauses a_t_strokes a_p1 u_t_rig u_t_trial u_t_cuts u_t_text u_t_readOuts u_t_readBacks u_t_readPauses t t_backs t_outs t_pauses t_strokes p1) (wdX8_isComplete cI a_t a_t_backs a_t_outs a_t_pauses a_t_strokes a_p1 u_t_rig u_t_trial u_t_cuts u_t_text u_t_readOuts u_t_readBacks u_t_readPauses t t_backs t_outs t_pauses t_strokes p1) (some (.int r)) := by
  refine bq_start (by decide) (Nat.le_of_ble_eq_true rfl) ?_
  intro p e s m av9 below meth c A ls Q H locs E K w hA hr hk hn hQ hl
  have E : bq_E p m c cX8_isComplete 6 s av9 RX8 := E
  have hx := E.1
  have hb := E.2.1
  have hl : lv_has ls 6 [(0, .ref a_t), (1, .ref a_p1), (2, .int x2)] := hl
  unfold mX8_isComplete at hm
  refine lv_aload_n hx hb dX8_isComplete_0 rfl (lv_at hl 1 rfl) ?_
  refine lv_bipush (v := 44) hx hb dX8_isComplete_1 (by decide) ?_
  refine lv_iload_n hx hb dX8_isComplete_3 rfl (lv_at hl 2 rfl) ?_
  refine lv_iadd hx hb dX8_isComplete_4 ?_
  obtain ⟨hI, hm⟩ := bq_ci_el hm
  refine bq_ald E K w 5 rfl hI dX8_isComplete_5 ?_
  refine lv_aload_n hx hb dX8_isComplete_6 rfl (lv_at hl 0 rfl) ?_
  refine gt_X8_25 E K w 0 rfl rfl dX8_isComplete_7 ?_
  refine lv_iload_n hx hb dX8_isComplete_10 rfl (lv_at hl 2 rfl) ?_
  obtain ⟨hI, hm⟩ := bq_ci_el hm
  refine bq_ald E K w 3 rfl hI dX8_isComplete_11 ?_
  obtain ⟨v1, hT20, hm⟩ := bq_let_el hm
  have K20 : ∀ (H : Heap) (locs : List Loc) (ls : Array Slot), bq_w D A s.heap (wdX8_isComplete cI a_t a_t_backs a_t_outs a_t_pauses a_t_strokes a_p1 u_t_rig u_t_trial u_t_cuts u_t_text u_t_readOuts u_t_readBacks u_t_readPauses t t_backs t_outs t_pauses t_strokes p1) H locs → lv_has ls 6 [(0, .ref a_t), (1, .ref a_p1), (2, .int x2)] → W p l e rmX8_isComplete s m av9 below meth c H locs 0 0 Q (F0 m 20 ls [.int v1]) := by
    intro H locs ls w hl
    refine lv_istore_n (lv' := [(3, .int v1), (0, .ref a_t), (1, .ref a_p1), (2, .int x2)]) hx hb dX8_isComplete_20 rfl hl (by decide) rfl (fun ls hl => ?_)
    refine lv_iconst (v := 0) hx hb dX8_isComplete_21 (by decide) ?_
    refine lv_istore (lv' := [(4, .int 0), (3, .int v1), (0, .ref a_t), (1, .ref a_p1), (2, .int x2)]) hx hb dX8_isComplete_22 hl (by decide) rfl (fun ls hl => ?_)
    obtain ⟨v4, hL, hm⟩ := bq_bd_el hm
    obtain ⟨B, eB, nn, hL⟩ := bq_loop_B hL
    have X81 : ∀ (H : Heap) (locs : List Loc) (ls : Array Slot), bq_w D A s.heap (wdX8_isComplete cI a_t a_t_backs a_t_outs a_t_pauses a_t_strokes a_p1 u_t_rig u_t_trial u_t_cuts u_t_text u_t_readOuts u_t_readBacks u_t_readPauses t t_backs t_outs t_pauses t_strokes p1) H locs → lv_has ls 6 [(3, .int v4)] → W p l e rmX8_isComplete s m av9 below meth c H locs 0 0 Q (F0 m 81 ls []) := by
      intro H locs ls w hl
      refine lv_iload_n hx hb dX8_isComplete_81 rfl (lv_at hl 0 rfl) ?_
      obtain ⟨hB, hm⟩ := bq_cb_el hm
      obtain rfl := Option.some.inj hm
      exact bq_zret E w hr hk hB dX8_isComplete_82 hQ
    clear hm
    have L24 : ∀ (nn : Nat) (i2 : Int32) (i3 : Int32) (H : Heap) (locs : List Loc) (ls : Array Slot), bq_lp B nn (i2, i3) = some v4 → bq_w D A s.heap (wdX8_isComplete cI a_t a_t_backs a_t_outs a_t_pauses a_t_strokes a_p1 u_t_rig u_t_trial u_t_cuts u_t_text u_t_readOuts u_t_readBacks u_t_readPauses t t_backs t_outs t_pauses t_strokes p1) H locs → lv_has ls 6 [(0, .ref a_t), (1, .ref a_p1), (2, .int x2), (3, .int i3), (4, .int i2)] → W p l e rmX8_isComplete s m av9 below meth c H locs 0 0 Q (F0 m 24 ls []) := by
      intro nn
      induction nn with
      | zero =>
        intro i2 i3 H locs ls hL w hl
        exact bq_lp_0 hL
      | succ nn ih =>
        intro i2 i3 H locs ls hL w hl
        obtain ⟨oo24, hT24, hR24⟩ := bq_lp_el hL
        clear hL
        replace hT24 := bq_u2_el eB hT24
        unfold bX8_isComplete_24 at hT24
        refine lv_iload hx hb dX8_isComplete_24 (lv_at hl 4 rfl) ?_
        refine lv_bipush (v := 6) hx hb dX8_isComplete_26 (by decide) ?_
        refine lv_icmp_ge (tgt := 81) hx hb dX8_isComplete_28 (by decide) (fun hc => ?_) (fun hc => ?_)
        · replace hT24 := bq_t hc hT24
          clear hc
          obtain rfl := Option.some.inj hT24
          replace hR24 := bq_lk_r hR24
          subst hR24
          exact X81 H locs ls w (lv_sub hl [3] rfl)
        · replace hT24 := bq_f hc hT24
          clear hc
          refine lv_aload_n hx hb dX8_isComplete_31 rfl (lv_at hl 0 rfl) ?_
          refine lv_iload_n hx hb dX8_isComplete_32 rfl (lv_at hl 2 rfl) ?_
          refine lv_iload hx hb dX8_isComplete_33 (lv_at hl 4 rfl) ?_
          obtain ⟨v5, hC, hT24⟩ := bq_bd_el hT24
          refine bq_V (As := [.int x2, .int i2]) (rest := []) (st1 := [.int v5]) (ws' := wdX8_isComplete cI a_t a_t_backs a_t_outs a_t_pauses a_t_strokes a_p1 u_t_rig u_t_trial u_t_cuts u_t_text u_t_readOuts u_t_readBacks u_t_readPauses t t_backs t_outs t_pauses t_strokes p1) E K w hA (kX8_directionOf l D cI cJ a_t a_t_backs a_t_outs u_t_rig u_t_trial a_t_strokes a_t_pauses u_t_cuts u_t_text u_t_readOuts u_t_readBacks u_t_readPauses t t_backs t_outs x2 i2 v5 hC) (bq_gV ml_X8_113 im_X8_directionOf sl_X8_directionOf in_X8 cd_X8_directionOf) hd_X8_directionOf ⟨Nat.le_of_ble_eq_true rfl, Nat.le_of_ble_eq_true rfl⟩ ⟨Nat.le_of_ble_eq_true rfl, Nat.le_of_ble_eq_true rfl⟩ ⟨[0, 1, 2], [3, 4, 5], [3, 4, 5, 0, 1, 2], rfl, rfl, rfl, rfl, rfl, rfl, rfl, rfl, rfl⟩ 0 rfl rfl rfl hl.1 rfl (Nat.le_of_ble_eq_true rfl) rfl dX8_isComplete_35 (fun H locs w => bq_z ⟨rfl, rfl⟩ ?_)
          clear hC
          refine lv_istore (lv' := [(5, .int v5), (0, .ref a_t), (1, .ref a_p1), (2, .int x2), (3, .int i3), (4, .int i2)]) hx hb dX8_isComplete_38 hl (by decide) rfl (fun ls hl => ?_)
          refine lv_iload_n hx hb dX8_isComplete_40 rfl (lv_at hl 4 rfl) ?_
          obtain ⟨v6, hT74, hT24⟩ := bq_bd_el hT24
          have K74 : ∀ (H : Heap) (locs : List Loc) (ls : Array Slot), bq_w D A s.heap (wdX8_isComplete cI a_t a_t_backs a_t_outs a_t_pauses a_t_strokes a_p1 u_t_rig u_t_trial u_t_cuts u_t_text u_t_readOuts u_t_readBacks u_t_readPauses t t_backs t_outs t_pauses t_strokes p1) H locs → lv_has ls 6 [(0, .ref a_t), (1, .ref a_p1), (2, .int x2), (4, .int i2)] → W p l e rmX8_isComplete s m av9 below meth c H locs 0 0 Q (F0 m 74 ls [.int v6]) := by
            intro H locs ls w hl
            refine lv_istore_n (lv' := [(3, .int v6), (0, .ref a_t), (1, .ref a_p1), (2, .int x2), (4, .int i2)]) hx hb dX8_isComplete_74 rfl hl (by decide) rfl (fun ls hl => ?_)
            obtain ⟨v9, e9, hT24⟩ := bq_let_el hT24
            refine lv_iinc (v := v9) (lv' := [(4, .int v9), (3, .int v6), (0, .ref a_t), (1, .ref a_p1), (2, .int x2)]) hx hb dX8_isComplete_75 hl (k := 4) rfl (by rw [e9]; rfl) (by decide) rfl (fun ls hl => ?_)
            clear e9
            refine lv_goto (tgt := 24) hx hb dX8_isComplete_78 (by decide) ?_
            obtain rfl := Option.some.inj hT24
            exact ih v9 v6 H locs ls hR24 w (lv_sub hl [2, 3, 4, 1, 0] rfl)
          clear hT24
          refine lv_if_eq (tgt := 73) hx hb dX8_isComplete_41 (by decide) (fun hc => ?_) (fun hc => ?_)
          · replace hT74 := bq_t hc hT74
            clear hc
            refine lv_iconst (v := 0) hx hb dX8_isComplete_73 (by decide) ?_
            obtain rfl := Option.some.inj hT74
            exact K74 H locs ls w (lv_sub hl [1, 2, 3, 5] rfl)
          · replace hT74 := bq_f hc hT74
            clear hc
            refine lv_iload hx hb dX8_isComplete_44 (lv_at hl 0 rfl) ?_
            refine lv_if_eq (tgt := 69) hx hb dX8_isComplete_46 (by decide) (fun hc => ?_) (fun hc => ?_)
            · replace hT74 := bq_t hc hT74
              clear hc
              refine lv_iconst (v := 1) hx hb dX8_isComplete_69 (by decide) ?_
              refine lv_goto (tgt := 74) hx hb dX8_isComplete_70 (by decide) ?_
              obtain rfl := Option.some.inj hT74
              exact K74 H locs ls w (lv_sub hl [1, 2, 3, 5] rfl)
            · replace hT74 := bq_f hc hT74
              clear hc
              refine lv_aload_n hx hb dX8_isComplete_49 rfl (lv_at hl 1 rfl) ?_
              refine lv_aload_n hx hb dX8_isComplete_50 rfl (lv_at hl 2 rfl) ?_
              refine lv_iload hx hb dX8_isComplete_51 (lv_at hl 5 rfl) ?_
              refine lv_iload hx hb dX8_isComplete_53 (lv_at hl 0 rfl) ?_
              obtain ⟨v7, hT63, hT74⟩ := bq_let_el hT74
              have K63 : ∀ (H : Heap) (locs : List Loc) (ls : Array Slot), bq_w D A s.heap (wdX8_isComplete cI a_t a_t_backs a_t_outs a_t_pauses a_t_strokes a_p1 u_t_rig u_t_trial u_t_cuts u_t_text u_t_readOuts u_t_readBacks u_t_readPauses t t_backs t_outs t_pauses t_strokes p1) H locs → lv_has ls 6 [(0, .ref a_t), (1, .ref a_p1), (2, .int x2), (4, .int i2)] → W p l e rmX8_isComplete s m av9 below meth c H locs 0 0 Q (F0 m 63 ls [.int v7, .int i2, .ref a_p1, .ref a_t]) := by
                intro H locs ls w hl
                obtain ⟨v8, hC, hT74⟩ := bq_bd_el hT74
                refine bq_V (As := [.ref a_p1, .int i2, .int v7]) (rest := []) (st1 := [.int v8]) (ws' := wdX8_isComplete cI a_t a_t_backs a_t_outs a_t_pauses a_t_strokes a_p1 u_t_rig u_t_trial u_t_cuts u_t_text u_t_readOuts u_t_readBacks u_t_readPauses t t_backs t_outs t_pauses t_strokes p1) E K w hA (kX8_senses l D cI cJ a_t a_t_strokes a_p1 u_t_rig u_t_trial a_t_outs a_t_backs a_t_pauses u_t_cuts u_t_text u_t_readOuts u_t_readBacks u_t_readPauses t t_strokes p1 i2 v7 v8 hC) (bq_gV ml_X8_155 im_X8_senses sl_X8_senses in_X8 cd_X8_senses) hd_X8_senses ⟨Nat.le_of_ble_eq_true rfl, Nat.le_of_ble_eq_true rfl⟩ ⟨Nat.le_of_ble_eq_true rfl, Nat.le_of_ble_eq_true rfl⟩ ⟨[0, 4, 5], [1, 2, 3], [3, 0, 1, 2, 4, 5], rfl, rfl, rfl, rfl, rfl, rfl, rfl, rfl, rfl⟩ 0 rfl rfl rfl hl.1 rfl (Nat.le_of_ble_eq_true rfl) rfl dX8_isComplete_63 (fun H locs w => bq_z ⟨rfl, rfl⟩ ?_)
                clear hC
                refine lv_if_eq (tgt := 73) hx hb dX8_isComplete_66 (by decide) (fun hc => ?_) (fun hc => ?_)
                · replace hT74 := bq_t hc hT74
                  clear hc
                  refine lv_iconst (v := 0) hx hb dX8_isComplete_73 (by decide) ?_
                  obtain rfl := Option.some.inj hT74
                  exact K74 H locs ls w (lv_sub hl [0, 1, 2, 3] rfl)
                · replace hT74 := bq_f hc hT74
                  clear hc
                  refine lv_iconst (v := 1) hx hb dX8_isComplete_69 (by decide) ?_
                  refine lv_goto (tgt := 74) hx hb dX8_isComplete_70 (by decide) ?_
                  obtain rfl := Option.some.inj hT74
                  exact K74 H locs ls w (lv_sub hl [0, 1, 2, 3] rfl)
              clear hT74
              refine lv_if_le (tgt := 62) hx hb dX8_isComplete_55 (by decide) (fun hc => ?_) (fun hc => ?_)
              · replace hT63 := bq_et hc hT63
                clear hc
                refine lv_iconst (v := 0) hx hb dX8_isComplete_62 (by decide) ?_
                subst hT63
                exact K63 H locs ls w (lv_sub hl [1, 2, 3, 5] rfl)
              · replace hT63 := bq_ef hc hT63
                clear hc
                refine lv_iconst (v := 1) hx hb dX8_isComplete_58 (by decide) ?_
                refine lv_goto (tgt := 63) hx hb dX8_isComplete_59 (by decide) ?_
                subst hT63
                exact K63 H locs ls w (lv_sub hl [1, 2, 3, 5] rfl)
    exact L24 nn 0 v1 H locs ls hL w (lv_sub hl [2, 3, 4, 1, 0] rfl)
  clear hm
  refine lv_icmp_lt (tgt := 19) hx hb dX8_isComplete_12 (by decide) (fun hc => ?_) (fun hc => ?_)
  · replace hT20 := bq_et hc hT20
    clear hc
    refine lv_iconst (v := 0) hx hb dX8_isComplete_19 (by decide) ?_
    subst hT20
    exact K20 H locs ls w (lv_sub hl [0, 1, 2] rfl)
  · replace hT20 := bq_ef hc hT20
    clear hc
    refine lv_iconst (v := 1) hx hb dX8_isComplete_15 (by decide) ?_
    refine lv_goto (tgt := 20) hx hb dX8_isComplete_16 (by decide) ?_
    subst hT20
    exact K20 H locs ls w (lv_sub hl [0, 1, 2] rfl)
abbrev wdX8_decides (cI : ClassId) (a_t a_t_backs a_t_cuts a_t_outs a_t_pauses a_t_strokes a_p1 u_t_rig u_t_trial u_t_text u_t_readOuts u_t_readBacks u_t_readPauses : Nat) (t : Nat → Int32) (t_backs : Nat → Int32) (t_cuts : Nat → Int32) (t_outs : Nat → Int32) (t_pauses : Nat → Int32) (t_strokes : Nat → Int32) (p1 : Nat → Int32) : va_W := [(a_t, oX8 u_t_rig u_t_trial a_t_strokes a_t_outs a_t_backs a_t_pauses a_t_cuts u_t_text u_t_readOuts u_t_readBacks u_t_readPauses t), (a_t_backs, oA cI 16 t_backs), (a_t_cuts, oA cI 16 t_cuts), (a_t_outs, oA cI 16 t_outs), (a_t_pauses, oA cI 16 t_pauses), (a_t_strokes, oA cI 6 t_strokes), (a_p1, oA cI 140 p1)]
abbrev rmX8_decides : Room := { frames := 2, cells := 0, slots := 0, locals := 50 }
theorem hd_X8_decides : yX8_decides.cls = RX8 ∧ yX8_decides.cls ≠ "java/lang/invoke/MethodHandle" ∧ yX8_decides.cls ≠ "java/lang/invoke/VarHandle" ∧ (parseMethodDescriptor yX8_decides.desc).map (fun d => d.parameters.length) = some 1 := by decide +kernel
set_option maxHeartbeats 4000000 in
set_option maxRecDepth 100000 in
theorem kX8_decides (l : Launch) (D : va_G) (cI cJ : ClassId) (a_t a_t_backs a_t_cuts a_t_outs a_t_pauses a_t_strokes a_p1 u_t_rig u_t_trial u_t_text u_t_readOuts u_t_readBacks u_t_readPauses : Nat) (t t_backs t_cuts t_outs t_pauses t_strokes p1 : Nat → Int32) (r : Int32) (p1_o : Nat → Int32) (hm : mX8_decides t t_backs t_cuts t_outs t_pauses t_strokes p1 = some (r, p1_o)) : bq_M l D cI cJ yX8_decides cX8_decides 8 (some .int) rmX8_decides [.ref a_t, .ref a_p1] (wdX8_decides cI a_t a_t_backs a_t_cuts a_t_outs a_t_pauses a_t_strokes a_p1 u_t_rig u_t_trial u_t_text u_t_readOuts u_t_readBacks u_t_readPauses t t_backs t_cuts t_outs t_pauses t_strokes p1) (wdX8_decides cI a_t a_t_backs a_t_cuts a_t_outs a_t_pauses a_t_strokes a_p1 u_t_rig u_t_trial u_t_text u_t_readOuts u_t_readBacks u_t_readPauses t t_backs t_cuts t_outs t_pauses t_strokes p1_o) (some (.int r)) := by
  refine bq_start (by decide) (Nat.le_of_ble_eq_true rfl) ?_
  intro p e s m av9 below meth c A ls Q H locs E K w hA hr hk hn hQ hl
  have E : bq_E p m c cX8_decides 8 s av9 RX8 := E
  have hx := E.1
  have hb := E.2.1
  have hl : lv_has ls 8 [(0, .ref a_t), (1, .ref a_p1)] := hl
  unfold mX8_decides at hm
  refine lv_iconst (v := 0) hx hb dX8_decides_0 (by decide) ?_
  refine lv_istore_n (lv' := [(2, .int 0), (0, .ref a_t), (1, .ref a_p1)]) hx hb dX8_decides_1 rfl hl (by decide) rfl (fun ls hl => ?_)
  refine lv_aload_n hx hb dX8_decides_2 rfl (lv_at hl 2 rfl) ?_
  refine lv_iconst (v := 2) hx hb dX8_decides_3 (by decide) ?_
  refine bq_aldk E K w 6 rfl 2 (by decide) (by unfold vp_in; decide) dX8_decides_4 ?_
  refine lv_iconst (v := 1) hx hb dX8_decides_5 (by decide) ?_
  obtain ⟨v1, hT14, hm⟩ := bq_let_el hm
  have K14 : ∀ (H : Heap) (locs : List Loc) (ls : Array Slot), bq_w D A s.heap (wdX8_decides cI a_t a_t_backs a_t_cuts a_t_outs a_t_pauses a_t_strokes a_p1 u_t_rig u_t_trial u_t_text u_t_readOuts u_t_readBacks u_t_readPauses t t_backs t_cuts t_outs t_pauses t_strokes p1) H locs → lv_has ls 8 [(0, .ref a_t), (1, .ref a_p1), (2, .int 0)] → W p l e rmX8_decides s m av9 below meth c H locs 0 0 Q (F0 m 14 ls [.int v1]) := by
    intro H locs ls w hl
    refine lv_istore_n (lv' := [(3, .int v1), (0, .ref a_t), (1, .ref a_p1), (2, .int 0)]) hx hb dX8_decides_14 rfl hl (by decide) rfl (fun ls hl => ?_)
    refine lv_aload_n hx hb dX8_decides_15 rfl (lv_at hl 2 rfl) ?_
    refine lv_iconst (v := 1) hx hb dX8_decides_16 (by decide) ?_
    refine bq_aldk E K w 6 rfl 1 (by decide) (by unfold vp_in; decide) dX8_decides_17 ?_
    refine lv_if_ne (tgt := 75) hx hb dX8_decides_18 (by decide) (fun hc => ?_) (fun hc => ?_)
    · replace hm := bq_f hc hm
      clear hc
      refine lv_aload_n hx hb dX8_decides_75 rfl (lv_at hl 2 rfl) ?_
      refine lv_iconst (v := 1) hx hb dX8_decides_76 (by decide) ?_
      refine bq_aldk E K w 6 rfl 1 (by decide) (by unfold vp_in; decide) dX8_decides_77 ?_
      refine lv_iconst (v := 2) hx hb dX8_decides_78 (by decide) ?_
      refine lv_icmp_ne (tgt := 155) hx hb dX8_decides_79 (by decide) (fun hc => ?_) (fun hc => ?_)
      · replace hm := bq_f hc hm
        clear hc
        refine lv_aload_n hx hb dX8_decides_155 rfl (lv_at hl 2 rfl) ?_
        refine lv_iconst (v := 3) hx hb dX8_decides_156 (by decide) ?_
        refine bq_aldk E K w 6 rfl 3 (by decide) (by unfold vp_in; decide) dX8_decides_157 ?_
        refine lv_iconst (v := 1) hx hb dX8_decides_158 (by decide) ?_
        refine lv_iadd hx hb dX8_decides_159 ?_
        refine lv_aload_n hx hb dX8_decides_160 rfl (lv_at hl 1 rfl) ?_
        refine gt_X8_136 E K w 0 rfl rfl dX8_decides_161 ?_
        obtain ⟨hZ, hm⟩ := bq_cz_el hm
        refine lv_irem hx hb dX8_decides_164 hZ ?_
        obtain ⟨v2, e9, hm⟩ := bq_let_el hm
        refine bq_nmi e9 ?_
        clear e9
        refine lv_istore (lv' := [(4, .int v2), (3, .int v1), (0, .ref a_t), (1, .ref a_p1), (2, .int 0)]) hx hb dX8_decides_165 hl (by decide) rfl (fun ls hl => ?_)
        refine lv_aload_n hx hb dX8_decides_167 rfl (lv_at hl 2 rfl) ?_
        refine lv_aload_n hx hb dX8_decides_168 rfl (lv_at hl 3 rfl) ?_
        refine lv_aload_n hx hb dX8_decides_169 rfl (lv_at hl 2 rfl) ?_
        refine lv_aload_n hx hb dX8_decides_170 rfl (lv_at hl 2 rfl) ?_
        refine gt_X8_28 E K w 0 rfl rfl dX8_decides_171 ?_
        refine lv_iload hx hb dX8_decides_174 (lv_at hl 0 rfl) ?_
        obtain ⟨hI, hm⟩ := bq_ci_el hm
        refine bq_ald E K w 2 rfl hI dX8_decides_176 ?_
        obtain ⟨v3, hC, hm⟩ := bq_bd_el hm
        refine bq_V (As := [.int (t_cuts (v2 : Int32).toNatClampNeg)]) (rest := [.ref a_p1, .ref a_t]) (st1 := [.int v3, .ref a_p1, .ref a_t]) (ws' := wdX8_decides cI a_t a_t_backs a_t_cuts a_t_outs a_t_pauses a_t_strokes a_p1 u_t_rig u_t_trial u_t_text u_t_readOuts u_t_readBacks u_t_readPauses t t_backs t_cuts t_outs t_pauses t_strokes p1) E K w hA (kX8_before l D cI cJ a_t u_t_rig u_t_trial a_t_strokes a_t_outs a_t_backs a_t_pauses a_t_cuts u_t_text u_t_readOuts u_t_readBacks u_t_readPauses t (t_cuts (v2 : Int32).toNatClampNeg) v3 hC) (bq_gV ml_X8_120 im_X8_before sl_X8_before in_X8 cd_X8_before) hd_X8_before ⟨Nat.le_of_ble_eq_true rfl, Nat.le_of_ble_eq_true rfl⟩ ⟨Nat.le_of_ble_eq_true rfl, Nat.le_of_ble_eq_true rfl⟩ ⟨[0], [1, 2, 3, 4, 5, 6], [6, 0, 1, 2, 3, 4, 5], rfl, rfl, rfl, rfl, rfl, rfl, rfl, rfl, rfl⟩ 0 rfl rfl rfl hl.1 rfl (Nat.le_of_ble_eq_true rfl) rfl dX8_decides_177 (fun H locs w => bq_z ⟨rfl, rfl⟩ ?_)
        clear hC
        obtain ⟨v4, hC, hm⟩ := bq_bd_el hm
        refine bq_V (As := [.ref a_p1, .int v3]) (rest := []) (st1 := [.int v4]) (ws' := wdX8_decides cI a_t a_t_backs a_t_cuts a_t_outs a_t_pauses a_t_strokes a_p1 u_t_rig u_t_trial u_t_text u_t_readOuts u_t_readBacks u_t_readPauses t t_backs t_cuts t_outs t_pauses t_strokes p1) E K w hA (kX8_isComplete l D cI cJ a_t a_t_backs a_t_outs a_t_pauses a_t_strokes a_p1 u_t_rig u_t_trial a_t_cuts u_t_text u_t_readOuts u_t_readBacks u_t_readPauses t t_backs t_outs t_pauses t_strokes p1 v3 v4 hC) (bq_gV ml_X8_159 im_X8_isComplete sl_X8_isComplete in_X8 cd_X8_isComplete) hd_X8_isComplete ⟨Nat.le_of_ble_eq_true rfl, Nat.le_of_ble_eq_true rfl⟩ ⟨Nat.le_of_ble_eq_true rfl, Nat.le_of_ble_eq_true rfl⟩ ⟨[0, 1, 3, 4, 5, 6], [2], [1, 2, 0, 3, 4, 5, 6], rfl, rfl, rfl, rfl, rfl, rfl, rfl, rfl, rfl⟩ 0 rfl rfl rfl hl.1 rfl (Nat.le_of_ble_eq_true rfl) rfl dX8_decides_180 (fun H locs w => bq_z ⟨rfl, rfl⟩ ?_)
        clear hC
        obtain ⟨p1_5, hT205, hm⟩ := bq_bd_el hm
        have K205 : ∀ (H : Heap) (locs : List Loc) (ls : Array Slot), bq_w D A s.heap (wdX8_decides cI a_t a_t_backs a_t_cuts a_t_outs a_t_pauses a_t_strokes a_p1 u_t_rig u_t_trial u_t_text u_t_readOuts u_t_readBacks u_t_readPauses t t_backs t_cuts t_outs t_pauses t_strokes p1_5) H locs → lv_has ls 8 [(0, .ref a_t), (1, .ref a_p1), (2, .int 0), (3, .int v1)] → W p l e rmX8_decides s m av9 below meth c H locs 0 0 Q (F0 m 205 ls []) := by
          intro H locs ls w hl
          refine lv_aload_n hx hb dX8_decides_205 rfl (lv_at hl 0 rfl) ?_
          refine gt_X8_28 E K w 0 rfl rfl dX8_decides_206 ?_
          refine lv_aload_n hx hb dX8_decides_209 rfl (lv_at hl 1 rfl) ?_
          refine lv_iconst (v := 3) hx hb dX8_decides_210 (by decide) ?_
          refine bq_aldk E K w 6 rfl 3 (by decide) (by unfold vp_in; decide) dX8_decides_211 ?_
          obtain ⟨hI, hm⟩ := bq_ci_el hm
          refine bq_ald E K w 2 rfl hI dX8_decides_212 ?_
          obtain ⟨v8, e9, hm⟩ := bq_let_el hm
          refine bq_nmi e9 ?_
          clear e9
          refine lv_istore (lv' := [(5, .int v8), (0, .ref a_t), (1, .ref a_p1), (2, .int 0), (3, .int v1)]) hx hb dX8_decides_213 hl (by decide) rfl (fun ls hl => ?_)
          refine lv_iconst (v := 0) hx hb dX8_decides_215 (by decide) ?_
          refine lv_istore (lv' := [(6, .int 0), (5, .int v8), (0, .ref a_t), (1, .ref a_p1), (2, .int 0), (3, .int v1)]) hx hb dX8_decides_216 hl (by decide) rfl (fun ls hl => ?_)
          obtain ⟨v11, hL, hm⟩ := bq_bd_el hm
          obtain ⟨B, eB, nn, hL⟩ := bq_loop_B hL
          have X298 : ∀ (H : Heap) (locs : List Loc) (ls : Array Slot), bq_w D A s.heap (wdX8_decides cI a_t a_t_backs a_t_cuts a_t_outs a_t_pauses a_t_strokes a_p1 u_t_rig u_t_trial u_t_text u_t_readOuts u_t_readBacks u_t_readPauses t t_backs t_cuts t_outs t_pauses t_strokes p1_5) H locs → lv_has ls 8 [(2, .int v11)] → W p l e rmX8_decides s m av9 below meth c H locs 0 0 Q (F0 m 298 ls []) := by
            intro H locs ls w hl
            refine lv_iload_n hx hb dX8_decides_298 rfl (lv_at hl 0 rfl) ?_
            obtain ⟨rfl, rfl⟩ := bq_in2 (Option.some.inj hm)
            exact bq_iret E w hr hk dX8_decides_299 hQ
          clear hm
          have L218 : ∀ (nn : Nat) (i9 : Int32) (i10 : Int32) (H : Heap) (locs : List Loc) (ls : Array Slot), bq_lp B nn (i9, i10) = some v11 → bq_w D A s.heap (wdX8_decides cI a_t a_t_backs a_t_cuts a_t_outs a_t_pauses a_t_strokes a_p1 u_t_rig u_t_trial u_t_text u_t_readOuts u_t_readBacks u_t_readPauses t t_backs t_cuts t_outs t_pauses t_strokes p1_5) H locs → lv_has ls 8 [(0, .ref a_t), (1, .ref a_p1), (2, .int i10), (3, .int v1), (5, .int v8), (6, .int i9)] → W p l e rmX8_decides s m av9 below meth c H locs 0 0 Q (F0 m 218 ls []) := by
            intro nn
            induction nn with
            | zero =>
              intro i9 i10 H locs ls hL w hl
              exact bq_lp_0 hL
            | succ nn ih =>
              intro i9 i10 H locs ls hL w hl
              obtain ⟨oo218, hT218, hR218⟩ := bq_lp_el hL
              clear hL
              replace hT218 := bq_u2_el eB hT218
              unfold bX8_decides_218 at hT218
              refine lv_iload hx hb dX8_decides_218 (lv_at hl 5 rfl) ?_
              refine lv_aload_n hx hb dX8_decides_220 rfl (lv_at hl 0 rfl) ?_
              refine gt_X8_104 E K w 0 rfl rfl dX8_decides_221 ?_
              refine lv_icmp_ge (tgt := 298) hx hb dX8_decides_224 (by decide) (fun hc => ?_) (fun hc => ?_)
              · replace hT218 := bq_t hc hT218
                clear hc
                obtain rfl := Option.some.inj hT218
                replace hR218 := bq_lk_r hR218
                subst hR218
                exact X298 H locs ls w (lv_sub hl [2] rfl)
              · replace hT218 := bq_f hc hT218
                clear hc
                refine lv_iload hx hb dX8_decides_227 (lv_at hl 5 rfl) ?_
                refine lv_iload hx hb dX8_decides_229 (lv_at hl 4 rfl) ?_
                obtain ⟨v12, hT262, hT218⟩ := bq_bd_el hT218
                have K262 : ∀ (H : Heap) (locs : List Loc) (ls : Array Slot), bq_w D A s.heap (wdX8_decides cI a_t a_t_backs a_t_cuts a_t_outs a_t_pauses a_t_strokes a_p1 u_t_rig u_t_trial u_t_text u_t_readOuts u_t_readBacks u_t_readPauses t t_backs t_cuts t_outs t_pauses t_strokes p1_5) H locs → lv_has ls 8 [(0, .ref a_t), (1, .ref a_p1), (2, .int i10), (3, .int v1), (5, .int v8), (6, .int i9)] → W p l e rmX8_decides s m av9 below meth c H locs 0 0 Q (F0 m 262 ls [.int v12]) := by
                  intro H locs ls w hl
                  refine lv_istore (lv' := [(7, .int v12), (0, .ref a_t), (1, .ref a_p1), (2, .int i10), (3, .int v1), (5, .int v8), (6, .int i9)]) hx hb dX8_decides_262 hl (by decide) rfl (fun ls hl => ?_)
                  refine lv_iload_n hx hb dX8_decides_264 rfl (lv_at hl 3 rfl) ?_
                  refine lv_aload_n hx hb dX8_decides_265 rfl (lv_at hl 1 rfl) ?_
                  refine lv_iload hx hb dX8_decides_266 (lv_at hl 6 rfl) ?_
                  obtain ⟨v15, hC, hT218⟩ := bq_bd_el hT218
                  refine bq_V (As := [.int i9]) (rest := [.int i10]) (st1 := [.int v15, .int i10]) (ws' := wdX8_decides cI a_t a_t_backs a_t_cuts a_t_outs a_t_pauses a_t_strokes a_p1 u_t_rig u_t_trial u_t_text u_t_readOuts u_t_readBacks u_t_readPauses t t_backs t_cuts t_outs t_pauses t_strokes p1_5) E K w hA (kX8_groupFor l D cI cJ a_t a_t_cuts u_t_rig u_t_trial a_t_strokes a_t_outs a_t_backs a_t_pauses u_t_text u_t_readOuts u_t_readBacks u_t_readPauses t t_cuts i9 v15 hC) (bq_gV ml_X8_139 im_X8_groupFor sl_X8_groupFor in_X8 cd_X8_groupFor) hd_X8_groupFor ⟨Nat.le_of_ble_eq_true rfl, Nat.le_of_ble_eq_true rfl⟩ ⟨Nat.le_of_ble_eq_true rfl, Nat.le_of_ble_eq_true rfl⟩ ⟨[0, 2], [1, 3, 4, 5, 6], [5, 0, 6, 1, 2, 3, 4], rfl, rfl, rfl, rfl, rfl, rfl, rfl, rfl, rfl⟩ 0 rfl rfl rfl hl.1 rfl (Nat.le_of_ble_eq_true rfl) rfl dX8_decides_268 (fun H locs w => bq_z ⟨rfl, rfl⟩ ?_)
                  clear hC
                  refine lv_aload_n hx hb dX8_decides_271 rfl (lv_at hl 2 rfl) ?_
                  refine lv_iconst (v := 3) hx hb dX8_decides_272 (by decide) ?_
                  refine bq_aldk E K w 6 rfl 3 (by decide) (by unfold vp_in; decide) dX8_decides_273 ?_
                  obtain ⟨v16, hT290, hT218⟩ := bq_let_el hT218
                  have K290 : ∀ (H : Heap) (locs : List Loc) (ls : Array Slot), bq_w D A s.heap (wdX8_decides cI a_t a_t_backs a_t_cuts a_t_outs a_t_pauses a_t_strokes a_p1 u_t_rig u_t_trial u_t_text u_t_readOuts u_t_readBacks u_t_readPauses t t_backs t_cuts t_outs t_pauses t_strokes p1_5) H locs → lv_has ls 8 [(0, .ref a_t), (1, .ref a_p1), (3, .int v1), (5, .int v8), (6, .int i9)] → W p l e rmX8_decides s m av9 below meth c H locs 0 0 Q (F0 m 290 ls [.int v16, .int i10]) := by
                    intro H locs ls w hl
                    refine lv_ior hx hb dX8_decides_290 ?_
                    obtain ⟨v17, e9, hT218⟩ := bq_let_el hT218
                    refine bq_nmi e9 ?_
                    clear e9
                    refine lv_istore_n (lv' := [(2, .int v17), (0, .ref a_t), (1, .ref a_p1), (3, .int v1), (5, .int v8), (6, .int i9)]) hx hb dX8_decides_291 rfl hl (by decide) rfl (fun ls hl => ?_)
                    obtain ⟨v18, e9, hT218⟩ := bq_let_el hT218
                    refine lv_iinc (v := v18) (lv' := [(6, .int v18), (2, .int v17), (0, .ref a_t), (1, .ref a_p1), (3, .int v1), (5, .int v8)]) hx hb dX8_decides_292 hl (k := 5) rfl (by rw [e9]; rfl) (by decide) rfl (fun ls hl => ?_)
                    clear e9
                    refine lv_goto (tgt := 218) hx hb dX8_decides_295 (by decide) ?_
                    obtain rfl := Option.some.inj hT218
                    exact ih v18 v17 H locs ls hR218 w (lv_sub hl [2, 3, 1, 4, 5, 0] rfl)
                  clear hT218
                  refine lv_icmp_ne (tgt := 289) hx hb dX8_decides_274 (by decide) (fun hc => ?_) (fun hc => ?_)
                  · replace hT290 := bq_ef hc hT290
                    clear hc
                    refine lv_iconst (v := 0) hx hb dX8_decides_289 (by decide) ?_
                    subst hT290
                    exact K290 H locs ls w (lv_sub hl [1, 2, 4, 5, 6] rfl)
                  · replace hT290 := bq_et hc hT290
                    clear hc
                    refine lv_iload hx hb dX8_decides_277 (lv_at hl 0 rfl) ?_
                    refine lv_if_eq (tgt := 289) hx hb dX8_decides_279 (by decide) (fun hc => ?_) (fun hc => ?_)
                    · replace hT290 := bq_et hc hT290
                      clear hc
                      refine lv_iconst (v := 0) hx hb dX8_decides_289 (by decide) ?_
                      subst hT290
                      exact K290 H locs ls w (lv_sub hl [1, 2, 4, 5, 6] rfl)
                    · replace hT290 := bq_ef hc hT290
                      clear hc
                      refine lv_iconst (v := 1) hx hb dX8_decides_282 (by decide) ?_
                      refine lv_iload hx hb dX8_decides_283 (lv_at hl 6 rfl) ?_
                      refine lv_ishl hx hb dX8_decides_285 ?_
                      refine lv_goto (tgt := 290) hx hb dX8_decides_286 (by decide) ?_
                      subst hT290
                      exact K290 H locs ls w (lv_sub hl [1, 2, 4, 5, 6] rfl)
                clear hT218
                refine lv_icmp_eq (tgt := 257) hx hb dX8_decides_231 (by decide) (fun hc => ?_) (fun hc => ?_)
                · replace hT262 := bq_t hc hT262
                  clear hc
                  refine lv_iconst (v := 1) hx hb dX8_decides_257 (by decide) ?_
                  refine lv_goto (tgt := 262) hx hb dX8_decides_258 (by decide) ?_
                  obtain rfl := Option.some.inj hT262
                  exact K262 H locs ls w (lv_sub hl [0, 1, 2, 3, 4, 5] rfl)
                · replace hT262 := bq_f hc hT262
                  clear hc
                  refine lv_aload_n hx hb dX8_decides_234 rfl (lv_at hl 0 rfl) ?_
                  refine lv_aload_n hx hb dX8_decides_235 rfl (lv_at hl 1 rfl) ?_
                  refine lv_aload_n hx hb dX8_decides_236 rfl (lv_at hl 0 rfl) ?_
                  refine lv_iload hx hb dX8_decides_237 (lv_at hl 5 rfl) ?_
                  obtain ⟨v13, hC, hT262⟩ := bq_bd_el hT262
                  refine bq_V (As := [.int i9]) (rest := [.ref a_p1, .ref a_t]) (st1 := [.int v13, .ref a_p1, .ref a_t]) (ws' := wdX8_decides cI a_t a_t_backs a_t_cuts a_t_outs a_t_pauses a_t_strokes a_p1 u_t_rig u_t_trial u_t_text u_t_readOuts u_t_readBacks u_t_readPauses t t_backs t_cuts t_outs t_pauses t_strokes p1_5) E K w hA (kX8_before l D cI cJ a_t u_t_rig u_t_trial a_t_strokes a_t_outs a_t_backs a_t_pauses a_t_cuts u_t_text u_t_readOuts u_t_readBacks u_t_readPauses t i9 v13 hC) (bq_gV ml_X8_120 im_X8_before sl_X8_before in_X8 cd_X8_before) hd_X8_before ⟨Nat.le_of_ble_eq_true rfl, Nat.le_of_ble_eq_true rfl⟩ ⟨Nat.le_of_ble_eq_true rfl, Nat.le_of_ble_eq_true rfl⟩ ⟨[0], [1, 2, 3, 4, 5, 6], [6, 0, 1, 2, 3, 4, 5], rfl, rfl, rfl, rfl, rfl, rfl, rfl, rfl, rfl⟩ 0 rfl rfl rfl hl.1 rfl (Nat.le_of_ble_eq_true rfl) rfl dX8_decides_239 (fun H locs w => bq_z ⟨rfl, rfl⟩ ?_)
                  clear hC
                  obtain ⟨v14, hC, hT262⟩ := bq_bd_el hT262
                  refine bq_V (As := [.ref a_p1, .int v13]) (rest := []) (st1 := [.int v14]) (ws' := wdX8_decides cI a_t a_t_backs a_t_cuts a_t_outs a_t_pauses a_t_strokes a_p1 u_t_rig u_t_trial u_t_text u_t_readOuts u_t_readBacks u_t_readPauses t t_backs t_cuts t_outs t_pauses t_strokes p1_5) E K w hA (kX8_isComplete l D cI cJ a_t a_t_backs a_t_outs a_t_pauses a_t_strokes a_p1 u_t_rig u_t_trial a_t_cuts u_t_text u_t_readOuts u_t_readBacks u_t_readPauses t t_backs t_outs t_pauses t_strokes p1_5 v13 v14 hC) (bq_gV ml_X8_159 im_X8_isComplete sl_X8_isComplete in_X8 cd_X8_isComplete) hd_X8_isComplete ⟨Nat.le_of_ble_eq_true rfl, Nat.le_of_ble_eq_true rfl⟩ ⟨Nat.le_of_ble_eq_true rfl, Nat.le_of_ble_eq_true rfl⟩ ⟨[0, 1, 3, 4, 5, 6], [2], [1, 2, 0, 3, 4, 5, 6], rfl, rfl, rfl, rfl, rfl, rfl, rfl, rfl, rfl⟩ 0 rfl rfl rfl hl.1 rfl (Nat.le_of_ble_eq_true rfl) rfl dX8_decides_242 (fun H locs w => bq_z ⟨rfl, rfl⟩ ?_)
                  clear hC
                  refine lv_if_eq (tgt := 261) hx hb dX8_decides_245 (by decide) (fun hc => ?_) (fun hc => ?_)
                  · replace hT262 := bq_t hc hT262
                    clear hc
                    refine lv_iconst (v := 0) hx hb dX8_decides_261 (by decide) ?_
                    obtain rfl := Option.some.inj hT262
                    exact K262 H locs ls w (lv_sub hl [0, 1, 2, 3, 4, 5] rfl)
                  · replace hT262 := bq_f hc hT262
                    clear hc
                    refine lv_iload hx hb dX8_decides_248 (lv_at hl 5 rfl) ?_
                    refine lv_if_gt (tgt := 257) hx hb dX8_decides_250 (by decide) (fun hc => ?_) (fun hc => ?_)
                    · replace hT262 := bq_t hc hT262
                      clear hc
                      refine lv_iconst (v := 1) hx hb dX8_decides_257 (by decide) ?_
                      refine lv_goto (tgt := 262) hx hb dX8_decides_258 (by decide) ?_
                      obtain rfl := Option.some.inj hT262
                      exact K262 H locs ls w (lv_sub hl [0, 1, 2, 3, 4, 5] rfl)
                    · replace hT262 := bq_f hc hT262
                      clear hc
                      refine lv_iload_n hx hb dX8_decides_253 rfl (lv_at hl 3 rfl) ?_
                      refine lv_if_eq (tgt := 261) hx hb dX8_decides_254 (by decide) (fun hc => ?_) (fun hc => ?_)
                      · replace hT262 := bq_t hc hT262
                        clear hc
                        refine lv_iconst (v := 0) hx hb dX8_decides_261 (by decide) ?_
                        obtain rfl := Option.some.inj hT262
                        exact K262 H locs ls w (lv_sub hl [0, 1, 2, 3, 4, 5] rfl)
                      · replace hT262 := bq_f hc hT262
                        clear hc
                        refine lv_iconst (v := 1) hx hb dX8_decides_257 (by decide) ?_
                        refine lv_goto (tgt := 262) hx hb dX8_decides_258 (by decide) ?_
                        obtain rfl := Option.some.inj hT262
                        exact K262 H locs ls w (lv_sub hl [0, 1, 2, 3, 4, 5] rfl)
          exact L218 nn 0 0 H locs ls hL w (lv_sub hl [2, 3, 4, 5, 1, 0] rfl)
        clear hm
        refine lv_if_eq (tgt := 205) hx hb dX8_decides_183 (by decide) (fun hc => ?_) (fun hc => ?_)
        · replace hT205 := bq_t hc hT205
          clear hc
          obtain rfl := Option.some.inj hT205
          exact K205 H locs ls w (lv_sub hl [2, 3, 4, 1] rfl)
        · replace hT205 := bq_f hc hT205
          clear hc
          refine lv_aload_n hx hb dX8_decides_186 rfl (lv_at hl 2 rfl) ?_
          refine gt_X8_28 E K w 0 rfl rfl dX8_decides_187 ?_
          refine lv_iload hx hb dX8_decides_190 (lv_at hl 0 rfl) ?_
          obtain ⟨hI, hT205⟩ := bq_ci_el hT205
          refine bq_ald E K w 2 rfl hI dX8_decides_192 ?_
          refine lv_if_gt (tgt := 200) hx hb dX8_decides_193 (by decide) (fun hc => ?_) (fun hc => ?_)
          · replace hT205 := bq_t hc hT205
            clear hc
            refine lv_aload_n hx hb dX8_decides_200 rfl (lv_at hl 3 rfl) ?_
            refine lv_iconst (v := 3) hx hb dX8_decides_201 (by decide) ?_
            refine lv_iload hx hb dX8_decides_202 (lv_at hl 0 rfl) ?_
            obtain ⟨p1_6, e9, hT205⟩ := bq_let_el hT205
            refine bq_astk E K w 6 rfl 3 (by decide) (by unfold vp_in; decide) dX8_decides_204 (fun H locs w => ?_)
            replace w : bq_w D A s.heap (wdX8_decides cI a_t a_t_backs a_t_cuts a_t_outs a_t_pauses a_t_strokes a_p1 u_t_rig u_t_trial u_t_text u_t_readOuts u_t_readBacks u_t_readPauses t t_backs t_cuts t_outs t_pauses t_strokes p1_6) H locs := by rw [e9]; exact w
            clear e9
            obtain rfl := Option.some.inj hT205
            exact K205 H locs ls w (lv_sub hl [2, 3, 4, 1] rfl)
          · replace hT205 := bq_f hc hT205
            clear hc
            refine lv_iload_n hx hb dX8_decides_196 rfl (lv_at hl 1 rfl) ?_
            refine lv_if_eq (tgt := 205) hx hb dX8_decides_197 (by decide) (fun hc => ?_) (fun hc => ?_)
            · replace hT205 := bq_t hc hT205
              clear hc
              obtain rfl := Option.some.inj hT205
              exact K205 H locs ls w (lv_sub hl [2, 3, 4, 1] rfl)
            · replace hT205 := bq_f hc hT205
              clear hc
              refine lv_aload_n hx hb dX8_decides_200 rfl (lv_at hl 3 rfl) ?_
              refine lv_iconst (v := 3) hx hb dX8_decides_201 (by decide) ?_
              refine lv_iload hx hb dX8_decides_202 (lv_at hl 0 rfl) ?_
              obtain ⟨p1_7, e9, hT205⟩ := bq_let_el hT205
              refine bq_astk E K w 6 rfl 3 (by decide) (by unfold vp_in; decide) dX8_decides_204 (fun H locs w => ?_)
              replace w : bq_w D A s.heap (wdX8_decides cI a_t a_t_backs a_t_cuts a_t_outs a_t_pauses a_t_strokes a_p1 u_t_rig u_t_trial u_t_text u_t_readOuts u_t_readBacks u_t_readPauses t t_backs t_cuts t_outs t_pauses t_strokes p1_7) H locs := by rw [e9]; exact w
              clear e9
              obtain rfl := Option.some.inj hT205
              exact K205 H locs ls w (lv_sub hl [2, 3, 4, 1] rfl)
      · replace hm := bq_t hc hm
        clear hc
        refine lv_aload_n hx hb dX8_decides_82 rfl (lv_at hl 2 rfl) ?_
        refine lv_iconst (v := 3) hx hb dX8_decides_83 (by decide) ?_
        refine bq_aldk E K w 6 rfl 3 (by decide) (by unfold vp_in; decide) dX8_decides_84 ?_
        obtain ⟨v19, e9, hm⟩ := bq_let_el hm
        refine bq_nmi e9 ?_
        clear e9
        refine lv_istore (lv' := [(4, .int v19), (3, .int v1), (0, .ref a_t), (1, .ref a_p1), (2, .int 0)]) hx hb dX8_decides_85 hl (by decide) rfl (fun ls hl => ?_)
        refine lv_iload hx hb dX8_decides_87 (lv_at hl 0 rfl) ?_
        obtain ⟨p1_20, hT139, hm⟩ := bq_bd_el hm
        have K139 : ∀ (H : Heap) (locs : List Loc) (ls : Array Slot), bq_w D A s.heap (wdX8_decides cI a_t a_t_backs a_t_cuts a_t_outs a_t_pauses a_t_strokes a_p1 u_t_rig u_t_trial u_t_text u_t_readOuts u_t_readBacks u_t_readPauses t t_backs t_cuts t_outs t_pauses t_strokes p1_20) H locs → lv_has ls 8 [(1, .ref a_p1)] → W p l e rmX8_decides s m av9 below meth c H locs 0 0 Q (F0 m 139 ls []) := by
          intro H locs ls w hl
          refine lv_aload_n hx hb dX8_decides_139 rfl (lv_at hl 0 rfl) ?_
          refine lv_iconst (v := 3) hx hb dX8_decides_140 (by decide) ?_
          refine bq_aldk E K w 6 rfl 3 (by decide) (by unfold vp_in; decide) dX8_decides_141 ?_
          obtain ⟨v26, hT154, hm⟩ := bq_let_el hm
          have K154 : ∀ (H : Heap) (locs : List Loc) (ls : Array Slot), bq_w D A s.heap (wdX8_decides cI a_t a_t_backs a_t_cuts a_t_outs a_t_pauses a_t_strokes a_p1 u_t_rig u_t_trial u_t_text u_t_readOuts u_t_readBacks u_t_readPauses t t_backs t_cuts t_outs t_pauses t_strokes p1_20) H locs → lv_has ls 8 [] → W p l e rmX8_decides s m av9 below meth c H locs 0 0 Q (F0 m 154 ls [.int v26]) := by
            intro H locs ls w hl
            obtain ⟨rfl, rfl⟩ := bq_in2 (Option.some.inj hm)
            exact bq_iret E w hr hk dX8_decides_154 hQ
          clear hm
          refine lv_if_ge (tgt := 149) hx hb dX8_decides_142 (by decide) (fun hc => ?_) (fun hc => ?_)
          · replace hT154 := bq_et hc hT154
            clear hc
            refine lv_iconst (v := 1) hx hb dX8_decides_149 (by decide) ?_
            refine lv_aload_n hx hb dX8_decides_150 rfl (lv_at hl 0 rfl) ?_
            refine lv_iconst (v := 3) hx hb dX8_decides_151 (by decide) ?_
            refine bq_aldk E K w 6 rfl 3 (by decide) (by unfold vp_in; decide) dX8_decides_152 ?_
            refine lv_ishl hx hb dX8_decides_153 ?_
            subst hT154
            exact K154 H locs ls w (lv_sub hl [] rfl)
          · replace hT154 := bq_ef hc hT154
            clear hc
            refine lv_iconst (v := 0) hx hb dX8_decides_145 (by decide) ?_
            refine lv_goto (tgt := 154) hx hb dX8_decides_146 (by decide) ?_
            subst hT154
            exact K154 H locs ls w (lv_sub hl [] rfl)
        clear hm
        refine lv_if_ge (tgt := 107) hx hb dX8_decides_89 (by decide) (fun hc => ?_) (fun hc => ?_)
        · replace hT139 := bq_t hc hT139
          clear hc
          refine lv_aload_n hx hb dX8_decides_107 rfl (lv_at hl 2 rfl) ?_
          refine lv_aload_n hx hb dX8_decides_108 rfl (lv_at hl 3 rfl) ?_
          refine lv_iload hx hb dX8_decides_109 (lv_at hl 0 rfl) ?_
          obtain ⟨v21, hC, hT139⟩ := bq_bd_el hT139
          refine bq_V (As := [.ref a_p1, .int v19]) (rest := []) (st1 := [.int v21]) (ws' := wdX8_decides cI a_t a_t_backs a_t_cuts a_t_outs a_t_pauses a_t_strokes a_p1 u_t_rig u_t_trial u_t_text u_t_readOuts u_t_readBacks u_t_readPauses t t_backs t_cuts t_outs t_pauses t_strokes p1) E K w hA (kX8_isComplete l D cI cJ a_t a_t_backs a_t_outs a_t_pauses a_t_strokes a_p1 u_t_rig u_t_trial a_t_cuts u_t_text u_t_readOuts u_t_readBacks u_t_readPauses t t_backs t_outs t_pauses t_strokes p1 v19 v21 hC) (bq_gV ml_X8_159 im_X8_isComplete sl_X8_isComplete in_X8 cd_X8_isComplete) hd_X8_isComplete ⟨Nat.le_of_ble_eq_true rfl, Nat.le_of_ble_eq_true rfl⟩ ⟨Nat.le_of_ble_eq_true rfl, Nat.le_of_ble_eq_true rfl⟩ ⟨[0, 1, 3, 4, 5, 6], [2], [1, 2, 0, 3, 4, 5, 6], rfl, rfl, rfl, rfl, rfl, rfl, rfl, rfl, rfl⟩ 0 rfl rfl rfl hl.1 rfl (Nat.le_of_ble_eq_true rfl) rfl dX8_decides_111 (fun H locs w => bq_z ⟨rfl, rfl⟩ ?_)
          clear hC
          refine lv_if_eq (tgt := 139) hx hb dX8_decides_114 (by decide) (fun hc => ?_) (fun hc => ?_)
          · replace hT139 := bq_t hc hT139
            clear hc
            obtain rfl := Option.some.inj hT139
            exact K139 H locs ls w (lv_sub hl [3] rfl)
          · replace hT139 := bq_f hc hT139
            clear hc
            refine lv_aload_n hx hb dX8_decides_117 rfl (lv_at hl 3 rfl) ?_
            refine lv_iconst (v := 3) hx hb dX8_decides_118 (by decide) ?_
            refine lv_iload hx hb dX8_decides_119 (lv_at hl 0 rfl) ?_
            refine lv_iconst (v := 1) hx hb dX8_decides_121 (by decide) ?_
            refine lv_iadd hx hb dX8_decides_122 ?_
            refine lv_aload_n hx hb dX8_decides_123 rfl (lv_at hl 2 rfl) ?_
            refine gt_X8_104 E K w 0 rfl rfl dX8_decides_124 ?_
            obtain ⟨v22, hT138, hT139⟩ := bq_let_el hT139
            have K138 : ∀ (H : Heap) (locs : List Loc) (ls : Array Slot), bq_w D A s.heap (wdX8_decides cI a_t a_t_backs a_t_cuts a_t_outs a_t_pauses a_t_strokes a_p1 u_t_rig u_t_trial u_t_text u_t_readOuts u_t_readBacks u_t_readPauses t t_backs t_cuts t_outs t_pauses t_strokes p1) H locs → lv_has ls 8 [(1, .ref a_p1)] → W p l e rmX8_decides s m av9 below meth c H locs 0 0 Q (F0 m 138 ls [.int v22, .int 3, .ref a_p1]) := by
              intro H locs ls w hl
              obtain ⟨p1_23, e9, hT139⟩ := bq_let_el hT139
              refine bq_astk E K w 6 rfl 3 (by decide) (by unfold vp_in; decide) dX8_decides_138 (fun H locs w => ?_)
              replace w : bq_w D A s.heap (wdX8_decides cI a_t a_t_backs a_t_cuts a_t_outs a_t_pauses a_t_strokes a_p1 u_t_rig u_t_trial u_t_text u_t_readOuts u_t_readBacks u_t_readPauses t t_backs t_cuts t_outs t_pauses t_strokes p1_23) H locs := by rw [e9]; exact w
              clear e9
              obtain rfl := Option.some.inj hT139
              exact K139 H locs ls w (lv_sub hl [0] rfl)
            clear hT139
            refine lv_icmp_ge (tgt := 137) hx hb dX8_decides_127 (by decide) (fun hc => ?_) (fun hc => ?_)
            · replace hT138 := bq_et hc hT138
              clear hc
              refine lv_iconst (v := (-1)) hx hb dX8_decides_137 (by decide) ?_
              subst hT138
              exact K138 H locs ls w (lv_sub hl [3] rfl)
            · replace hT138 := bq_ef hc hT138
              clear hc
              refine lv_iload hx hb dX8_decides_130 (lv_at hl 0 rfl) ?_
              refine lv_iconst (v := 1) hx hb dX8_decides_132 (by decide) ?_
              refine lv_iadd hx hb dX8_decides_133 ?_
              refine lv_goto (tgt := 138) hx hb dX8_decides_134 (by decide) ?_
              subst hT138
              exact K138 H locs ls w (lv_sub hl [3] rfl)
        · replace hT139 := bq_f hc hT139
          clear hc
          refine lv_aload_n hx hb dX8_decides_92 rfl (lv_at hl 3 rfl) ?_
          refine lv_iconst (v := 3) hx hb dX8_decides_93 (by decide) ?_
          refine lv_iload_n hx hb dX8_decides_94 rfl (lv_at hl 1 rfl) ?_
          obtain ⟨v24, hT103, hT139⟩ := bq_let_el hT139
          have K103 : ∀ (H : Heap) (locs : List Loc) (ls : Array Slot), bq_w D A s.heap (wdX8_decides cI a_t a_t_backs a_t_cuts a_t_outs a_t_pauses a_t_strokes a_p1 u_t_rig u_t_trial u_t_text u_t_readOuts u_t_readBacks u_t_readPauses t t_backs t_cuts t_outs t_pauses t_strokes p1) H locs → lv_has ls 8 [(1, .ref a_p1)] → W p l e rmX8_decides s m av9 below meth c H locs 0 0 Q (F0 m 103 ls [.int v24, .int 3, .ref a_p1]) := by
            intro H locs ls w hl
            obtain ⟨p1_25, e9, hT139⟩ := bq_let_el hT139
            refine bq_astk E K w 6 rfl 3 (by decide) (by unfold vp_in; decide) dX8_decides_103 (fun H locs w => ?_)
            replace w : bq_w D A s.heap (wdX8_decides cI a_t a_t_backs a_t_cuts a_t_outs a_t_pauses a_t_strokes a_p1 u_t_rig u_t_trial u_t_text u_t_readOuts u_t_readBacks u_t_readPauses t t_backs t_cuts t_outs t_pauses t_strokes p1_25) H locs := by rw [e9]; exact w
            clear e9
            refine lv_goto (tgt := 139) hx hb dX8_decides_104 (by decide) ?_
            obtain rfl := Option.some.inj hT139
            exact K139 H locs ls w (lv_sub hl [0] rfl)
          clear hT139
          refine lv_if_eq (tgt := 102) hx hb dX8_decides_95 (by decide) (fun hc => ?_) (fun hc => ?_)
          · replace hT103 := bq_et hc hT103
            clear hc
            refine lv_iconst (v := (-1)) hx hb dX8_decides_102 (by decide) ?_
            subst hT103
            exact K103 H locs ls w (lv_sub hl [3] rfl)
          · replace hT103 := bq_ef hc hT103
            clear hc
            refine lv_iconst (v := 0) hx hb dX8_decides_98 (by decide) ?_
            refine lv_goto (tgt := 103) hx hb dX8_decides_99 (by decide) ?_
            subst hT103
            exact K103 H locs ls w (lv_sub hl [3] rfl)
    · replace hm := bq_t hc hm
      clear hc
      refine lv_iconst (v := 0) hx hb dX8_decides_21 (by decide) ?_
      refine lv_istore (lv' := [(4, .int 0), (3, .int v1), (0, .ref a_t), (1, .ref a_p1), (2, .int 0)]) hx hb dX8_decides_22 hl (by decide) rfl (fun ls hl => ?_)
      obtain ⟨v29, hL, hm⟩ := bq_bd_el hm
      obtain ⟨B, eB, nn, hL⟩ := bq_loop_B hL
      have X73 : ∀ (H : Heap) (locs : List Loc) (ls : Array Slot), bq_w D A s.heap (wdX8_decides cI a_t a_t_backs a_t_cuts a_t_outs a_t_pauses a_t_strokes a_p1 u_t_rig u_t_trial u_t_text u_t_readOuts u_t_readBacks u_t_readPauses t t_backs t_cuts t_outs t_pauses t_strokes p1) H locs → lv_has ls 8 [(2, .int v29)] → W p l e rmX8_decides s m av9 below meth c H locs 0 0 Q (F0 m 73 ls []) := by
        intro H locs ls w hl
        refine lv_iload_n hx hb dX8_decides_73 rfl (lv_at hl 0 rfl) ?_
        obtain ⟨rfl, rfl⟩ := bq_in2 (Option.some.inj hm)
        exact bq_iret E w hr hk dX8_decides_74 hQ
      clear hm
      have L24 : ∀ (nn : Nat) (i27 : Int32) (i28 : Int32) (H : Heap) (locs : List Loc) (ls : Array Slot), bq_lp B nn (i27, i28) = some v29 → bq_w D A s.heap (wdX8_decides cI a_t a_t_backs a_t_cuts a_t_outs a_t_pauses a_t_strokes a_p1 u_t_rig u_t_trial u_t_text u_t_readOuts u_t_readBacks u_t_readPauses t t_backs t_cuts t_outs t_pauses t_strokes p1) H locs → lv_has ls 8 [(0, .ref a_t), (1, .ref a_p1), (2, .int i28), (3, .int v1), (4, .int i27)] → W p l e rmX8_decides s m av9 below meth c H locs 0 0 Q (F0 m 24 ls []) := by
        intro nn
        induction nn with
        | zero =>
          intro i27 i28 H locs ls hL w hl
          exact bq_lp_0 hL
        | succ nn ih =>
          intro i27 i28 H locs ls hL w hl
          obtain ⟨oo24, hT24, hR24⟩ := bq_lp_el hL
          clear hL
          replace hT24 := bq_u2_el eB hT24
          unfold bX8_decides_24 at hT24
          refine lv_iload hx hb dX8_decides_24 (lv_at hl 4 rfl) ?_
          refine lv_aload_n hx hb dX8_decides_26 rfl (lv_at hl 0 rfl) ?_
          refine gt_X8_104 E K w 0 rfl rfl dX8_decides_27 ?_
          refine lv_icmp_ge (tgt := 73) hx hb dX8_decides_30 (by decide) (fun hc => ?_) (fun hc => ?_)
          · replace hT24 := bq_t hc hT24
            clear hc
            obtain rfl := Option.some.inj hT24
            replace hR24 := bq_lk_r hR24
            subst hR24
            exact X73 H locs ls w (lv_sub hl [2] rfl)
          · replace hT24 := bq_f hc hT24
            clear hc
            refine lv_iload_n hx hb dX8_decides_33 rfl (lv_at hl 2 rfl) ?_
            refine lv_aload_n hx hb dX8_decides_34 rfl (lv_at hl 0 rfl) ?_
            refine lv_aload_n hx hb dX8_decides_35 rfl (lv_at hl 1 rfl) ?_
            refine lv_aload_n hx hb dX8_decides_36 rfl (lv_at hl 0 rfl) ?_
            refine lv_iload hx hb dX8_decides_37 (lv_at hl 4 rfl) ?_
            obtain ⟨v30, hC, hT24⟩ := bq_bd_el hT24
            refine bq_V (As := [.int i27]) (rest := [.ref a_p1, .ref a_t, .int i28]) (st1 := [.int v30, .ref a_p1, .ref a_t, .int i28]) (ws' := wdX8_decides cI a_t a_t_backs a_t_cuts a_t_outs a_t_pauses a_t_strokes a_p1 u_t_rig u_t_trial u_t_text u_t_readOuts u_t_readBacks u_t_readPauses t t_backs t_cuts t_outs t_pauses t_strokes p1) E K w hA (kX8_before l D cI cJ a_t u_t_rig u_t_trial a_t_strokes a_t_outs a_t_backs a_t_pauses a_t_cuts u_t_text u_t_readOuts u_t_readBacks u_t_readPauses t i27 v30 hC) (bq_gV ml_X8_120 im_X8_before sl_X8_before in_X8 cd_X8_before) hd_X8_before ⟨Nat.le_of_ble_eq_true rfl, Nat.le_of_ble_eq_true rfl⟩ ⟨Nat.le_of_ble_eq_true rfl, Nat.le_of_ble_eq_true rfl⟩ ⟨[0], [1, 2, 3, 4, 5, 6], [6, 0, 1, 2, 3, 4, 5], rfl, rfl, rfl, rfl, rfl, rfl, rfl, rfl, rfl⟩ 0 rfl rfl rfl hl.1 rfl (Nat.le_of_ble_eq_true rfl) rfl dX8_decides_39 (fun H locs w => bq_z ⟨rfl, rfl⟩ ?_)
            clear hC
            obtain ⟨v31, hC, hT24⟩ := bq_bd_el hT24
            refine bq_V (As := [.ref a_p1, .int v30]) (rest := [.int i28]) (st1 := [.int v31, .int i28]) (ws' := wdX8_decides cI a_t a_t_backs a_t_cuts a_t_outs a_t_pauses a_t_strokes a_p1 u_t_rig u_t_trial u_t_text u_t_readOuts u_t_readBacks u_t_readPauses t t_backs t_cuts t_outs t_pauses t_strokes p1) E K w hA (kX8_isComplete l D cI cJ a_t a_t_backs a_t_outs a_t_pauses a_t_strokes a_p1 u_t_rig u_t_trial a_t_cuts u_t_text u_t_readOuts u_t_readBacks u_t_readPauses t t_backs t_outs t_pauses t_strokes p1 v30 v31 hC) (bq_gV ml_X8_159 im_X8_isComplete sl_X8_isComplete in_X8 cd_X8_isComplete) hd_X8_isComplete ⟨Nat.le_of_ble_eq_true rfl, Nat.le_of_ble_eq_true rfl⟩ ⟨Nat.le_of_ble_eq_true rfl, Nat.le_of_ble_eq_true rfl⟩ ⟨[0, 1, 3, 4, 5, 6], [2], [1, 2, 0, 3, 4, 5, 6], rfl, rfl, rfl, rfl, rfl, rfl, rfl, rfl, rfl⟩ 0 rfl rfl rfl hl.1 rfl (Nat.le_of_ble_eq_true rfl) rfl dX8_decides_42 (fun H locs w => bq_z ⟨rfl, rfl⟩ ?_)
            clear hC
            obtain ⟨v32, hT65, hT24⟩ := bq_let_el hT24
            have K65 : ∀ (H : Heap) (locs : List Loc) (ls : Array Slot), bq_w D A s.heap (wdX8_decides cI a_t a_t_backs a_t_cuts a_t_outs a_t_pauses a_t_strokes a_p1 u_t_rig u_t_trial u_t_text u_t_readOuts u_t_readBacks u_t_readPauses t t_backs t_cuts t_outs t_pauses t_strokes p1) H locs → lv_has ls 8 [(0, .ref a_t), (1, .ref a_p1), (3, .int v1), (4, .int i27)] → W p l e rmX8_decides s m av9 below meth c H locs 0 0 Q (F0 m 65 ls [.int v32, .int i28]) := by
              intro H locs ls w hl
              refine lv_ior hx hb dX8_decides_65 ?_
              obtain ⟨v33, e9, hT24⟩ := bq_let_el hT24
              refine bq_nmi e9 ?_
              clear e9
              refine lv_istore_n (lv' := [(2, .int v33), (0, .ref a_t), (1, .ref a_p1), (3, .int v1), (4, .int i27)]) hx hb dX8_decides_66 rfl hl (by decide) rfl (fun ls hl => ?_)
              obtain ⟨v34, e9, hT24⟩ := bq_let_el hT24
              refine lv_iinc (v := v34) (lv' := [(4, .int v34), (2, .int v33), (0, .ref a_t), (1, .ref a_p1), (3, .int v1)]) hx hb dX8_decides_67 hl (k := 4) rfl (by rw [e9]; rfl) (by decide) rfl (fun ls hl => ?_)
              clear e9
              refine lv_goto (tgt := 24) hx hb dX8_decides_70 (by decide) ?_
              obtain rfl := Option.some.inj hT24
              exact ih v34 v33 H locs ls hR24 w (lv_sub hl [2, 3, 1, 4, 0] rfl)
            clear hT24
            refine lv_if_eq (tgt := 64) hx hb dX8_decides_45 (by decide) (fun hc => ?_) (fun hc => ?_)
            · replace hT65 := bq_et hc hT65
              clear hc
              refine lv_iconst (v := 0) hx hb dX8_decides_64 (by decide) ?_
              subst hT65
              exact K65 H locs ls w (lv_sub hl [0, 1, 3, 4] rfl)
            · replace hT65 := bq_ef hc hT65
              clear hc
              refine lv_iload hx hb dX8_decides_48 (lv_at hl 4 rfl) ?_
              refine lv_if_gt (tgt := 57) hx hb dX8_decides_50 (by decide) (fun hc => ?_) (fun hc => ?_)
              · replace hT65 := bq_et hc hT65
                clear hc
                refine lv_iconst (v := 1) hx hb dX8_decides_57 (by decide) ?_
                refine lv_iload hx hb dX8_decides_58 (lv_at hl 4 rfl) ?_
                refine lv_ishl hx hb dX8_decides_60 ?_
                refine lv_goto (tgt := 65) hx hb dX8_decides_61 (by decide) ?_
                subst hT65
                exact K65 H locs ls w (lv_sub hl [0, 1, 3, 4] rfl)
              · replace hT65 := bq_ef hc hT65
                clear hc
                refine lv_iload_n hx hb dX8_decides_53 rfl (lv_at hl 3 rfl) ?_
                refine lv_if_eq (tgt := 64) hx hb dX8_decides_54 (by decide) (fun hc => ?_) (fun hc => ?_)
                · replace hT65 := bq_et hc hT65
                  clear hc
                  refine lv_iconst (v := 0) hx hb dX8_decides_64 (by decide) ?_
                  subst hT65
                  exact K65 H locs ls w (lv_sub hl [0, 1, 3, 4] rfl)
                · replace hT65 := bq_ef hc hT65
                  clear hc
                  refine lv_iconst (v := 1) hx hb dX8_decides_57 (by decide) ?_
                  refine lv_iload hx hb dX8_decides_58 (lv_at hl 4 rfl) ?_
                  refine lv_ishl hx hb dX8_decides_60 ?_
                  refine lv_goto (tgt := 65) hx hb dX8_decides_61 (by decide) ?_
                  subst hT65
                  exact K65 H locs ls w (lv_sub hl [0, 1, 3, 4] rfl)
      exact L24 nn 0 0 H locs ls hL w (lv_sub hl [2, 3, 4, 1, 0] rfl)
  clear hm
  refine lv_icmp_ne (tgt := 13) hx hb dX8_decides_6 (by decide) (fun hc => ?_) (fun hc => ?_)
  · replace hT14 := bq_ef hc hT14
    clear hc
    refine lv_iconst (v := 0) hx hb dX8_decides_13 (by decide) ?_
    subst hT14
    exact K14 H locs ls w (lv_sub hl [1, 2, 0] rfl)
  · replace hT14 := bq_et hc hT14
    clear hc
    refine lv_iconst (v := 1) hx hb dX8_decides_9 (by decide) ?_
    refine lv_goto (tgt := 14) hx hb dX8_decides_10 (by decide) ?_
    subst hT14
    exact K14 H locs ls w (lv_sub hl [1, 2, 0] rfl)
abbrev wdX8_notesEvent (cI : ClassId) (a_t a_t_backs a_t_outs a_t_pauses a_p1 u_t_rig u_t_trial u_t_strokes u_t_cuts u_t_text u_t_readOuts u_t_readBacks u_t_readPauses : Nat) (t : Nat → Int32) (t_backs : Nat → Int32) (t_outs : Nat → Int32) (t_pauses : Nat → Int32) (p1 : Nat → Int32) : va_W := [(a_t, oX8 u_t_rig u_t_trial u_t_strokes a_t_outs a_t_backs a_t_pauses u_t_cuts u_t_text u_t_readOuts u_t_readBacks u_t_readPauses t), (a_t_backs, oA cI 16 t_backs), (a_t_outs, oA cI 16 t_outs), (a_t_pauses, oA cI 16 t_pauses), (a_p1, oA cI 140 p1)]
abbrev rmX8_notesEvent : Room := { frames := 1, cells := 0, slots := 0, locals := 21 }
theorem hd_X8_notesEvent : yX8_notesEvent.cls = RX8 ∧ yX8_notesEvent.cls ≠ "java/lang/invoke/MethodHandle" ∧ yX8_notesEvent.cls ≠ "java/lang/invoke/VarHandle" ∧ (parseMethodDescriptor yX8_notesEvent.desc).map (fun d => d.parameters.length) = some 3 := by decide +kernel
set_option maxHeartbeats 4000000 in
set_option maxRecDepth 100000 in
theorem kX8_notesEvent (l : Launch) (D : va_G) (cI cJ : ClassId) (a_t a_t_backs a_t_outs a_t_pauses a_p1 u_t_rig u_t_trial u_t_strokes u_t_cuts u_t_text u_t_readOuts u_t_readBacks u_t_readPauses : Nat) (t t_backs t_outs t_pauses p1 : Nat → Int32) (x2 : Int32) (x3 : Int32) (p1_o : Nat → Int32) (hm : mX8_notesEvent t t_backs t_outs t_pauses p1 x2 x3 = some p1_o) : bq_M l D cI cJ yX8_notesEvent cX8_notesEvent 7 none rmX8_notesEvent [.ref a_t, .ref a_p1, .int x2, .int x3] (wdX8_notesEvent cI a_t a_t_backs a_t_outs a_t_pauses a_p1 u_t_rig u_t_trial u_t_strokes u_t_cuts u_t_text u_t_readOuts u_t_readBacks u_t_readPauses t t_backs t_outs t_pauses p1) (wdX8_notesEvent cI a_t a_t_backs a_t_outs a_t_pauses a_p1 u_t_rig u_t_trial u_t_strokes u_t_cuts u_t_text u_t_readOuts u_t_readBacks u_t_readPauses t t_backs t_outs t_pauses p1_o) none := by
  refine bq_start (by decide) (Nat.le_of_ble_eq_true rfl) ?_
  intro p e s m av9 below meth c A ls Q H locs E K w hA hr hk hn hQ hl
  have E : bq_E p m c cX8_notesEvent 7 s av9 RX8 := E
  have hx := E.1
  have hb := E.2.1
  have hl : lv_has ls 7 [(0, .ref a_t), (1, .ref a_p1), (2, .int x2), (3, .int x3)] := hl
  unfold mX8_notesEvent at hm
  refine lv_aload_n hx hb dX8_notesEvent_0 rfl (lv_at hl 1 rfl) ?_
  refine lv_iconst (v := 4) hx hb dX8_notesEvent_1 (by decide) ?_
  refine bq_aldk E K w 4 rfl 4 (by decide) (by unfold vp_in; decide) dX8_notesEvent_2 ?_
  refine lv_bipush (v := 40) hx hb dX8_notesEvent_3 (by decide) ?_
  refine lv_irem hx hb dX8_notesEvent_5 (by decide) ?_
  obtain ⟨v1, e9, hm⟩ := bq_let_el hm
  refine bq_nmi e9 ?_
  clear e9
  refine lv_istore (lv' := [(4, .int v1), (0, .ref a_t), (1, .ref a_p1), (2, .int x2), (3, .int x3)]) hx hb dX8_notesEvent_6 hl (by decide) rfl (fun ls hl => ?_)
  refine lv_aload_n hx hb dX8_notesEvent_8 rfl (lv_at hl 2 rfl) ?_
  refine lv_bipush (v := 60) hx hb dX8_notesEvent_9 (by decide) ?_
  refine lv_iload hx hb dX8_notesEvent_11 (lv_at hl 0 rfl) ?_
  refine lv_iadd hx hb dX8_notesEvent_13 ?_
  refine lv_aload_n hx hb dX8_notesEvent_14 rfl (lv_at hl 2 rfl) ?_
  refine lv_iconst (v := 0) hx hb dX8_notesEvent_15 (by decide) ?_
  refine bq_aldk E K w 4 rfl 0 (by decide) (by unfold vp_in; decide) dX8_notesEvent_16 ?_
  obtain ⟨hI, hm⟩ := bq_ci_el hm
  obtain ⟨p1_2, e9, hm⟩ := bq_let_el hm
  refine bq_ast E K w 4 rfl hI dX8_notesEvent_17 (fun H locs w => ?_)
  replace w : bq_w D A s.heap (wdX8_notesEvent cI a_t a_t_backs a_t_outs a_t_pauses a_p1 u_t_rig u_t_trial u_t_strokes u_t_cuts u_t_text u_t_readOuts u_t_readBacks u_t_readPauses t t_backs t_outs t_pauses p1_2) H locs := by rw [e9]; exact w
  clear e9
  refine lv_aload_n hx hb dX8_notesEvent_18 rfl (lv_at hl 2 rfl) ?_
  refine lv_bipush (v := 100) hx hb dX8_notesEvent_19 (by decide) ?_
  refine lv_iload hx hb dX8_notesEvent_21 (lv_at hl 0 rfl) ?_
  refine lv_iadd hx hb dX8_notesEvent_23 ?_
  refine lv_iconst (v := 2) hx hb dX8_notesEvent_24 (by decide) ?_
  refine lv_iload_n hx hb dX8_notesEvent_25 rfl (lv_at hl 3 rfl) ?_
  refine lv_imul hx hb dX8_notesEvent_26 ?_
  refine lv_iload_n hx hb dX8_notesEvent_27 rfl (lv_at hl 4 rfl) ?_
  obtain ⟨v3, hT36, hm⟩ := bq_let_el hm
  have K36 : ∀ (H : Heap) (locs : List Loc) (ls : Array Slot), bq_w D A s.heap (wdX8_notesEvent cI a_t a_t_backs a_t_outs a_t_pauses a_p1 u_t_rig u_t_trial u_t_strokes u_t_cuts u_t_text u_t_readOuts u_t_readBacks u_t_readPauses t t_backs t_outs t_pauses p1_2) H locs → lv_has ls 7 [(0, .ref a_t), (1, .ref a_p1), (2, .int x2), (3, .int x3)] → W p l e rmX8_notesEvent s m av9 below meth c H locs 0 0 Q (F0 m 36 ls [.int v3, .int (2 * x2), .int (100 + v1), .ref a_p1]) := by
    intro H locs ls w hl
    refine lv_iadd hx hb dX8_notesEvent_36 ?_
    obtain ⟨hI, hm⟩ := bq_ci_el hm
    obtain ⟨p1_4, e9, hm⟩ := bq_let_el hm
    refine bq_ast E K w 4 rfl hI dX8_notesEvent_37 (fun H locs w => ?_)
    replace w : bq_w D A s.heap (wdX8_notesEvent cI a_t a_t_backs a_t_outs a_t_pauses a_p1 u_t_rig u_t_trial u_t_strokes u_t_cuts u_t_text u_t_readOuts u_t_readBacks u_t_readPauses t t_backs t_outs t_pauses p1_4) H locs := by rw [e9]; exact w
    clear e9
    refine lv_aload_n hx hb dX8_notesEvent_38 rfl (lv_at hl 1 rfl) ?_
    refine lv_iconst (v := 4) hx hb dX8_notesEvent_39 (by decide) ?_
    refine lv_dup2_11 hx hb dX8_notesEvent_40 rfl rfl ?_
    refine bq_aldk E K w 4 rfl 4 (by decide) (by unfold vp_in; decide) dX8_notesEvent_41 ?_
    refine lv_iconst (v := 1) hx hb dX8_notesEvent_42 (by decide) ?_
    refine lv_iadd hx hb dX8_notesEvent_43 ?_
    obtain ⟨p1_5, e9, hm⟩ := bq_let_el hm
    refine bq_astk E K w 4 rfl 4 (by decide) (by unfold vp_in; decide) dX8_notesEvent_44 (fun H locs w => ?_)
    replace w : bq_w D A s.heap (wdX8_notesEvent cI a_t a_t_backs a_t_outs a_t_pauses a_p1 u_t_rig u_t_trial u_t_strokes u_t_cuts u_t_text u_t_readOuts u_t_readBacks u_t_readPauses t t_backs t_outs t_pauses p1_5) H locs := by rw [e9]; exact w
    clear e9
    refine lv_iconst (v := 1) hx hb dX8_notesEvent_45 (by decide) ?_
    refine lv_iload_n hx hb dX8_notesEvent_46 rfl (lv_at hl 3 rfl) ?_
    obtain ⟨v6, hT58, hm⟩ := bq_let_el hm
    have K58 : ∀ (H : Heap) (locs : List Loc) (ls : Array Slot), bq_w D A s.heap (wdX8_notesEvent cI a_t a_t_backs a_t_outs a_t_pauses a_p1 u_t_rig u_t_trial u_t_strokes u_t_cuts u_t_text u_t_readOuts u_t_readBacks u_t_readPauses t t_backs t_outs t_pauses p1_5) H locs → lv_has ls 7 [(0, .ref a_t), (1, .ref a_p1)] → W p l e rmX8_notesEvent s m av9 below meth c H locs 0 0 Q (F0 m 58 ls [.int v6, .int 1]) := by
      intro H locs ls w hl
      refine lv_ishl hx hb dX8_notesEvent_58 ?_
      obtain ⟨v7, e9, hm⟩ := bq_let_el hm
      refine bq_nmi e9 ?_
      clear e9
      refine lv_istore (lv' := [(5, .int v7), (0, .ref a_t), (1, .ref a_p1)]) hx hb dX8_notesEvent_59 hl (by decide) rfl (fun ls hl => ?_)
      refine lv_aload_n hx hb dX8_notesEvent_61 rfl (lv_at hl 2 rfl) ?_
      refine lv_bipush (v := 6) hx hb dX8_notesEvent_62 (by decide) ?_
      refine bq_aldk E K w 4 rfl 6 (by decide) (by unfold vp_in; decide) dX8_notesEvent_64 ?_
      refine lv_iconst (v := 1) hx hb dX8_notesEvent_65 (by decide) ?_
      refine lv_icmp_eq (tgt := 79) hx hb dX8_notesEvent_66 (by decide) (fun hc => ?_) (fun hc => ?_)
      · replace hm := bq_t hc hm
        clear hc
        refine lv_aload_n hx hb dX8_notesEvent_79 rfl (lv_at hl 2 rfl) ?_
        refine lv_bipush (v := 6) hx hb dX8_notesEvent_80 (by decide) ?_
        refine lv_iconst (v := 1) hx hb dX8_notesEvent_82 (by decide) ?_
        obtain ⟨p1_8, e9, hm⟩ := bq_let_el hm
        refine bq_astk E K w 4 rfl 6 (by decide) (by unfold vp_in; decide) dX8_notesEvent_83 (fun H locs w => ?_)
        replace w : bq_w D A s.heap (wdX8_notesEvent cI a_t a_t_backs a_t_outs a_t_pauses a_p1 u_t_rig u_t_trial u_t_strokes u_t_cuts u_t_text u_t_readOuts u_t_readBacks u_t_readPauses t t_backs t_outs t_pauses p1_8) H locs := by rw [e9]; exact w
        clear e9
        obtain rfl := Option.some.inj hm
        exact bq_vret E w hr hk dX8_notesEvent_84 hQ
      · replace hm := bq_f hc hm
        clear hc
        refine lv_aload_n hx hb dX8_notesEvent_69 rfl (lv_at hl 2 rfl) ?_
        refine lv_bipush (v := 8) hx hb dX8_notesEvent_70 (by decide) ?_
        refine bq_aldk E K w 4 rfl 8 (by decide) (by unfold vp_in; decide) dX8_notesEvent_72 ?_
        refine lv_iload hx hb dX8_notesEvent_73 (lv_at hl 0 rfl) ?_
        refine lv_iand hx hb dX8_notesEvent_75 ?_
        refine lv_if_ne (tgt := 85) hx hb dX8_notesEvent_76 (by decide) (fun hc => ?_) (fun hc => ?_)
        · replace hm := bq_f hc hm
          clear hc
          refine lv_aload_n hx hb dX8_notesEvent_85 rfl (lv_at hl 2 rfl) ?_
          refine lv_iconst (v := 5) hx hb dX8_notesEvent_86 (by decide) ?_
          refine lv_dup2_11 hx hb dX8_notesEvent_87 rfl rfl ?_
          refine bq_aldk E K w 4 rfl 5 (by decide) (by unfold vp_in; decide) dX8_notesEvent_88 ?_
          refine lv_iconst (v := 1) hx hb dX8_notesEvent_89 (by decide) ?_
          refine lv_iadd hx hb dX8_notesEvent_90 ?_
          obtain ⟨p1_9, e9, hm⟩ := bq_let_el hm
          refine bq_astk E K w 4 rfl 5 (by decide) (by unfold vp_in; decide) dX8_notesEvent_91 (fun H locs w => ?_)
          replace w : bq_w D A s.heap (wdX8_notesEvent cI a_t a_t_backs a_t_outs a_t_pauses a_p1 u_t_rig u_t_trial u_t_strokes u_t_cuts u_t_text u_t_readOuts u_t_readBacks u_t_readPauses t t_backs t_outs t_pauses p1_9) H locs := by rw [e9]; exact w
          clear e9
          refine lv_aload_n hx hb dX8_notesEvent_92 rfl (lv_at hl 2 rfl) ?_
          refine lv_bipush (v := 8) hx hb dX8_notesEvent_93 (by decide) ?_
          refine lv_dup2_11 hx hb dX8_notesEvent_95 rfl rfl ?_
          refine bq_aldk E K w 4 rfl 8 (by decide) (by unfold vp_in; decide) dX8_notesEvent_96 ?_
          refine lv_iload hx hb dX8_notesEvent_97 (lv_at hl 0 rfl) ?_
          refine lv_iconst (v := (-1)) hx hb dX8_notesEvent_99 (by decide) ?_
          refine lv_ixor hx hb dX8_notesEvent_100 ?_
          refine lv_iand hx hb dX8_notesEvent_101 ?_
          obtain ⟨p1_10, e9, hm⟩ := bq_let_el hm
          refine bq_astk E K w 4 rfl 8 (by decide) (by unfold vp_in; decide) dX8_notesEvent_102 (fun H locs w => ?_)
          replace w : bq_w D A s.heap (wdX8_notesEvent cI a_t a_t_backs a_t_outs a_t_pauses a_p1 u_t_rig u_t_trial u_t_strokes u_t_cuts u_t_text u_t_readOuts u_t_readBacks u_t_readPauses t t_backs t_outs t_pauses p1_10) H locs := by rw [e9]; exact w
          clear e9
          refine lv_aload_n hx hb dX8_notesEvent_103 rfl (lv_at hl 2 rfl) ?_
          refine lv_bipush (v := 8) hx hb dX8_notesEvent_104 (by decide) ?_
          refine bq_aldk E K w 4 rfl 8 (by decide) (by unfold vp_in; decide) dX8_notesEvent_106 ?_
          refine lv_if_eq (tgt := 111) hx hb dX8_notesEvent_107 (by decide) (fun hc => ?_) (fun hc => ?_)
          · replace hm := bq_t hc hm
            clear hc
            refine lv_aload_n hx hb dX8_notesEvent_111 rfl (lv_at hl 2 rfl) ?_
            refine lv_bipush (v := 7) hx hb dX8_notesEvent_112 (by decide) ?_
            refine bq_aldk E K w 4 rfl 7 (by decide) (by unfold vp_in; decide) dX8_notesEvent_114 ?_
            obtain ⟨v11, e9, hm⟩ := bq_let_el hm
            refine bq_nmi e9 ?_
            clear e9
            refine lv_istore (lv' := [(6, .int v11), (5, .int v7), (0, .ref a_t), (1, .ref a_p1)]) hx hb dX8_notesEvent_115 hl (by decide) rfl (fun ls hl => ?_)
            refine lv_iload hx hb dX8_notesEvent_117 (lv_at hl 0 rfl) ?_
            refine lv_iconst (v := 1) hx hb dX8_notesEvent_119 (by decide) ?_
            refine lv_iadd hx hb dX8_notesEvent_120 ?_
            refine lv_aload_n hx hb dX8_notesEvent_121 rfl (lv_at hl 2 rfl) ?_
            refine gt_X8_104 E K w 0 rfl rfl dX8_notesEvent_122 ?_
            obtain ⟨v12, hT136, hm⟩ := bq_let_el hm
            have K136 : ∀ (H : Heap) (locs : List Loc) (ls : Array Slot), bq_w D A s.heap (wdX8_notesEvent cI a_t a_t_backs a_t_outs a_t_pauses a_p1 u_t_rig u_t_trial u_t_strokes u_t_cuts u_t_text u_t_readOuts u_t_readBacks u_t_readPauses t t_backs t_outs t_pauses p1_10) H locs → lv_has ls 7 [(0, .ref a_t), (1, .ref a_p1)] → W p l e rmX8_notesEvent s m av9 below meth c H locs 0 0 Q (F0 m 136 ls [.int v12]) := by
              intro H locs ls w hl
              refine lv_istore (lv' := [(6, .int v12), (0, .ref a_t), (1, .ref a_p1)]) hx hb dX8_notesEvent_136 hl (by decide) rfl (fun ls hl => ?_)
              obtain ⟨v14, hL, hm⟩ := bq_bd_el hm
              obtain ⟨B, eB, nn, hL⟩ := bq_loop_B hL
              have X172 : ∀ (H : Heap) (locs : List Loc) (ls : Array Slot), bq_w D A s.heap (wdX8_notesEvent cI a_t a_t_backs a_t_outs a_t_pauses a_p1 u_t_rig u_t_trial u_t_strokes u_t_cuts u_t_text u_t_readOuts u_t_readBacks u_t_readPauses t t_backs t_outs t_pauses p1_10) H locs → lv_has ls 7 [(0, .ref a_t), (1, .ref a_p1), (6, .int v14)] → W p l e rmX8_notesEvent s m av9 below meth c H locs 0 0 Q (F0 m 172 ls []) := by
                intro H locs ls w hl
                refine lv_aload_n hx hb dX8_notesEvent_172 rfl (lv_at hl 1 rfl) ?_
                refine lv_bipush (v := 7) hx hb dX8_notesEvent_173 (by decide) ?_
                refine lv_iload hx hb dX8_notesEvent_175 (lv_at hl 2 rfl) ?_
                obtain ⟨p1_15, e9, hm⟩ := bq_let_el hm
                refine bq_astk E K w 4 rfl 7 (by decide) (by unfold vp_in; decide) dX8_notesEvent_177 (fun H locs w => ?_)
                replace w : bq_w D A s.heap (wdX8_notesEvent cI a_t a_t_backs a_t_outs a_t_pauses a_p1 u_t_rig u_t_trial u_t_strokes u_t_cuts u_t_text u_t_readOuts u_t_readBacks u_t_readPauses t t_backs t_outs t_pauses p1_15) H locs := by rw [e9]; exact w
                clear e9
                refine lv_aload_n hx hb dX8_notesEvent_178 rfl (lv_at hl 1 rfl) ?_
                refine lv_bipush (v := 8) hx hb dX8_notesEvent_179 (by decide) ?_
                refine lv_aload_n hx hb dX8_notesEvent_181 rfl (lv_at hl 0 rfl) ?_
                refine lv_iload hx hb dX8_notesEvent_182 (lv_at hl 2 rfl) ?_
                obtain ⟨v16, hC, hm⟩ := bq_bd_el hm
                refine bq_V (As := [.int v14]) (rest := [.int 8, .ref a_p1]) (st1 := [.int v16, .int 8, .ref a_p1]) (ws' := wdX8_notesEvent cI a_t a_t_backs a_t_outs a_t_pauses a_p1 u_t_rig u_t_trial u_t_strokes u_t_cuts u_t_text u_t_readOuts u_t_readBacks u_t_readPauses t t_backs t_outs t_pauses p1_15) E K w hA (kX8_movesOf l D cI cJ a_t a_t_backs a_t_outs u_t_rig u_t_trial u_t_strokes a_t_pauses u_t_cuts u_t_text u_t_readOuts u_t_readBacks u_t_readPauses t t_backs t_outs v14 v16 hC) (bq_gV ml_X8_152 im_X8_movesOf sl_X8_movesOf in_X8 cd_X8_movesOf) hd_X8_movesOf ⟨Nat.le_of_ble_eq_true rfl, Nat.le_of_ble_eq_true rfl⟩ ⟨Nat.le_of_ble_eq_true rfl, Nat.le_of_ble_eq_true rfl⟩ ⟨[0, 1, 2], [3, 4], [2, 3, 4, 0, 1], rfl, rfl, rfl, rfl, rfl, rfl, rfl, rfl, rfl⟩ 0 rfl rfl rfl hl.1 rfl (Nat.le_of_ble_eq_true rfl) rfl dX8_notesEvent_184 (fun H locs w => bq_z ⟨rfl, rfl⟩ ?_)
                clear hC
                obtain ⟨p1_17, e9, hm⟩ := bq_let_el hm
                refine bq_astk E K w 4 rfl 8 (by decide) (by unfold vp_in; decide) dX8_notesEvent_187 (fun H locs w => ?_)
                replace w : bq_w D A s.heap (wdX8_notesEvent cI a_t a_t_backs a_t_outs a_t_pauses a_p1 u_t_rig u_t_trial u_t_strokes u_t_cuts u_t_text u_t_readOuts u_t_readBacks u_t_readPauses t t_backs t_outs t_pauses p1_17) H locs := by rw [e9]; exact w
                clear e9
                refine lv_iload hx hb dX8_notesEvent_188 (lv_at hl 2 rfl) ?_
                refine lv_aload_n hx hb dX8_notesEvent_190 rfl (lv_at hl 0 rfl) ?_
                obtain ⟨v18, hC, hm⟩ := bq_bd_el hm
                refine bq_V (As := []) (rest := [.int v14]) (st1 := [.int v18, .int v14]) (ws' := wdX8_notesEvent cI a_t a_t_backs a_t_outs a_t_pauses a_p1 u_t_rig u_t_trial u_t_strokes u_t_cuts u_t_text u_t_readOuts u_t_readBacks u_t_readPauses t t_backs t_outs t_pauses p1_17) E K w hA (kX8_firstWithMoves l D cI cJ a_t a_t_pauses u_t_rig u_t_trial u_t_strokes a_t_outs a_t_backs u_t_cuts u_t_text u_t_readOuts u_t_readBacks u_t_readPauses t t_pauses v18 hC) (bq_gV ml_X8_148 im_X8_firstWithMoves sl_X8_firstWithMoves in_X8 cd_X8_firstWithMoves) hd_X8_firstWithMoves ⟨Nat.le_of_ble_eq_true rfl, Nat.le_of_ble_eq_true rfl⟩ ⟨Nat.le_of_ble_eq_true rfl, Nat.le_of_ble_eq_true rfl⟩ ⟨[0, 3], [1, 2, 4], [3, 0, 1, 4, 2], rfl, rfl, rfl, rfl, rfl, rfl, rfl, rfl, rfl⟩ 0 rfl rfl rfl hl.1 rfl (Nat.le_of_ble_eq_true rfl) rfl dX8_notesEvent_191 (fun H locs w => bq_z ⟨rfl, rfl⟩ ?_)
                clear hC
                obtain ⟨p1_19, hT249, hm⟩ := bq_bd_el hm
                have K249 : ∀ (H : Heap) (locs : List Loc) (ls : Array Slot), bq_w D A s.heap (wdX8_notesEvent cI a_t a_t_backs a_t_outs a_t_pauses a_p1 u_t_rig u_t_trial u_t_strokes u_t_cuts u_t_text u_t_readOuts u_t_readBacks u_t_readPauses t t_backs t_outs t_pauses p1_19) H locs → lv_has ls 7 [] → W p l e rmX8_notesEvent s m av9 below meth c H locs 0 0 Q (F0 m 249 ls []) := by
                  intro H locs ls w hl
                  obtain rfl := Option.some.inj hm
                  exact bq_vret E w hr hk dX8_notesEvent_249 hQ
                clear hm
                refine lv_icmp_ne (tgt := 249) hx hb dX8_notesEvent_194 (by decide) (fun hc => ?_) (fun hc => ?_)
                · replace hT249 := bq_f hc hT249
                  clear hc
                  obtain rfl := Option.some.inj hT249
                  exact K249 H locs ls w (lv_sub hl [] rfl)
                · replace hT249 := bq_t hc hT249
                  clear hc
                  refine lv_aload_n hx hb dX8_notesEvent_197 rfl (lv_at hl 1 rfl) ?_
                  refine lv_bipush (v := 9) hx hb dX8_notesEvent_198 (by decide) ?_
                  refine lv_dup2_11 hx hb dX8_notesEvent_200 rfl rfl ?_
                  refine bq_aldk E K w 4 rfl 9 (by decide) (by unfold vp_in; decide) dX8_notesEvent_201 ?_
                  refine lv_iconst (v := 1) hx hb dX8_notesEvent_202 (by decide) ?_
                  refine lv_iadd hx hb dX8_notesEvent_203 ?_
                  obtain ⟨p1_20, e9, hT249⟩ := bq_let_el hT249
                  refine bq_astk E K w 4 rfl 9 (by decide) (by unfold vp_in; decide) dX8_notesEvent_204 (fun H locs w => ?_)
                  replace w : bq_w D A s.heap (wdX8_notesEvent cI a_t a_t_backs a_t_outs a_t_pauses a_p1 u_t_rig u_t_trial u_t_strokes u_t_cuts u_t_text u_t_readOuts u_t_readBacks u_t_readPauses t t_backs t_outs t_pauses p1_20) H locs := by rw [e9]; exact w
                  clear e9
                  refine lv_aload_n hx hb dX8_notesEvent_205 rfl (lv_at hl 1 rfl) ?_
                  refine lv_bipush (v := 11) hx hb dX8_notesEvent_206 (by decide) ?_
                  refine lv_aload_n hx hb dX8_notesEvent_208 rfl (lv_at hl 1 rfl) ?_
                  refine lv_bipush (v := 9) hx hb dX8_notesEvent_209 (by decide) ?_
                  refine bq_aldk E K w 4 rfl 9 (by decide) (by unfold vp_in; decide) dX8_notesEvent_211 ?_
                  refine lv_iconst (v := 1) hx hb dX8_notesEvent_212 (by decide) ?_
                  obtain ⟨v21, hT226, hT249⟩ := bq_let_el hT249
                  have K226 : ∀ (H : Heap) (locs : List Loc) (ls : Array Slot), bq_w D A s.heap (wdX8_notesEvent cI a_t a_t_backs a_t_outs a_t_pauses a_p1 u_t_rig u_t_trial u_t_strokes u_t_cuts u_t_text u_t_readOuts u_t_readBacks u_t_readPauses t t_backs t_outs t_pauses p1_20) H locs → lv_has ls 7 [(1, .ref a_p1)] → W p l e rmX8_notesEvent s m av9 below meth c H locs 0 0 Q (F0 m 226 ls [.int v21, .int 11, .ref a_p1]) := by
                    intro H locs ls w hl
                    obtain ⟨p1_22, e9, hT249⟩ := bq_let_el hT249
                    refine bq_astk E K w 4 rfl 11 (by decide) (by unfold vp_in; decide) dX8_notesEvent_226 (fun H locs w => ?_)
                    replace w : bq_w D A s.heap (wdX8_notesEvent cI a_t a_t_backs a_t_outs a_t_pauses a_p1 u_t_rig u_t_trial u_t_strokes u_t_cuts u_t_text u_t_readOuts u_t_readBacks u_t_readPauses t t_backs t_outs t_pauses p1_22) H locs := by rw [e9]; exact w
                    clear e9
                    refine lv_aload_n hx hb dX8_notesEvent_227 rfl (lv_at hl 0 rfl) ?_
                    refine lv_bipush (v := 12) hx hb dX8_notesEvent_228 (by decide) ?_
                    refine lv_aload_n hx hb dX8_notesEvent_230 rfl (lv_at hl 0 rfl) ?_
                    refine lv_bipush (v := 9) hx hb dX8_notesEvent_231 (by decide) ?_
                    refine bq_aldk E K w 4 rfl 9 (by decide) (by unfold vp_in; decide) dX8_notesEvent_233 ?_
                    refine lv_iconst (v := 2) hx hb dX8_notesEvent_234 (by decide) ?_
                    obtain ⟨v23, hT248, hT249⟩ := bq_let_el hT249
                    have K248 : ∀ (H : Heap) (locs : List Loc) (ls : Array Slot), bq_w D A s.heap (wdX8_notesEvent cI a_t a_t_backs a_t_outs a_t_pauses a_p1 u_t_rig u_t_trial u_t_strokes u_t_cuts u_t_text u_t_readOuts u_t_readBacks u_t_readPauses t t_backs t_outs t_pauses p1_22) H locs → lv_has ls 7 [] → W p l e rmX8_notesEvent s m av9 below meth c H locs 0 0 Q (F0 m 248 ls [.int v23, .int 12, .ref a_p1]) := by
                      intro H locs ls w hl
                      obtain ⟨p1_24, e9, hT249⟩ := bq_let_el hT249
                      refine bq_astk E K w 4 rfl 12 (by decide) (by unfold vp_in; decide) dX8_notesEvent_248 (fun H locs w => ?_)
                      replace w : bq_w D A s.heap (wdX8_notesEvent cI a_t a_t_backs a_t_outs a_t_pauses a_p1 u_t_rig u_t_trial u_t_strokes u_t_cuts u_t_text u_t_readOuts u_t_readBacks u_t_readPauses t t_backs t_outs t_pauses p1_24) H locs := by rw [e9]; exact w
                      clear e9
                      obtain rfl := Option.some.inj hT249
                      exact K249 H locs ls w (lv_sub hl [] rfl)
                    clear hT249
                    refine lv_icmp_ne (tgt := 244) hx hb dX8_notesEvent_235 (by decide) (fun hc => ?_) (fun hc => ?_)
                    · replace hT248 := bq_ef hc hT248
                      clear hc
                      refine lv_aload_n hx hb dX8_notesEvent_244 rfl (lv_at hl 0 rfl) ?_
                      refine lv_bipush (v := 12) hx hb dX8_notesEvent_245 (by decide) ?_
                      refine bq_aldk E K w 4 rfl 12 (by decide) (by unfold vp_in; decide) dX8_notesEvent_247 ?_
                      subst hT248
                      exact K248 H locs ls w (lv_sub hl [] rfl)
                    · replace hT248 := bq_et hc hT248
                      clear hc
                      refine lv_aload_n hx hb dX8_notesEvent_238 rfl (lv_at hl 0 rfl) ?_
                      refine lv_iconst (v := 0) hx hb dX8_notesEvent_239 (by decide) ?_
                      refine bq_aldk E K w 4 rfl 0 (by decide) (by unfold vp_in; decide) dX8_notesEvent_240 ?_
                      refine lv_goto (tgt := 248) hx hb dX8_notesEvent_241 (by decide) ?_
                      subst hT248
                      exact K248 H locs ls w (lv_sub hl [] rfl)
                  clear hT249
                  refine lv_icmp_ne (tgt := 222) hx hb dX8_notesEvent_213 (by decide) (fun hc => ?_) (fun hc => ?_)
                  · replace hT226 := bq_ef hc hT226
                    clear hc
                    refine lv_aload_n hx hb dX8_notesEvent_222 rfl (lv_at hl 1 rfl) ?_
                    refine lv_bipush (v := 11) hx hb dX8_notesEvent_223 (by decide) ?_
                    refine bq_aldk E K w 4 rfl 11 (by decide) (by unfold vp_in; decide) dX8_notesEvent_225 ?_
                    subst hT226
                    exact K226 H locs ls w (lv_sub hl [1] rfl)
                  · replace hT226 := bq_et hc hT226
                    clear hc
                    refine lv_aload_n hx hb dX8_notesEvent_216 rfl (lv_at hl 1 rfl) ?_
                    refine lv_iconst (v := 0) hx hb dX8_notesEvent_217 (by decide) ?_
                    refine bq_aldk E K w 4 rfl 0 (by decide) (by unfold vp_in; decide) dX8_notesEvent_218 ?_
                    refine lv_goto (tgt := 226) hx hb dX8_notesEvent_219 (by decide) ?_
                    subst hT226
                    exact K226 H locs ls w (lv_sub hl [1] rfl)
              clear hm
              have L138 : ∀ (nn : Nat) (i13 : Int32) (H : Heap) (locs : List Loc) (ls : Array Slot), bq_lp B nn i13 = some v14 → bq_w D A s.heap (wdX8_notesEvent cI a_t a_t_backs a_t_outs a_t_pauses a_p1 u_t_rig u_t_trial u_t_strokes u_t_cuts u_t_text u_t_readOuts u_t_readBacks u_t_readPauses t t_backs t_outs t_pauses p1_10) H locs → lv_has ls 7 [(0, .ref a_t), (1, .ref a_p1), (6, .int i13)] → W p l e rmX8_notesEvent s m av9 below meth c H locs 0 0 Q (F0 m 138 ls []) := by
                intro nn
                induction nn with
                | zero =>
                  intro i13 H locs ls hL w hl
                  exact bq_lp_0 hL
                | succ nn ih =>
                  intro i13 H locs ls hL w hl
                  obtain ⟨oo138, hT138, hR138⟩ := bq_lp_el hL
                  clear hL
                  replace hT138 := bq_u1_el eB hT138
                  unfold bX8_notesEvent_138 at hT138
                  refine lv_aload_n hx hb dX8_notesEvent_138 rfl (lv_at hl 0 rfl) ?_
                  refine gt_X8_25 E K w 0 rfl rfl dX8_notesEvent_139 ?_
                  refine lv_iload hx hb dX8_notesEvent_142 (lv_at hl 2 rfl) ?_
                  obtain ⟨hI, hT138⟩ := bq_ci_el hT138
                  refine bq_ald E K w 3 rfl hI dX8_notesEvent_144 ?_
                  refine lv_if_le (tgt := 172) hx hb dX8_notesEvent_145 (by decide) (fun hc => ?_) (fun hc => ?_)
                  · replace hT138 := bq_t hc hT138
                    clear hc
                    obtain rfl := Option.some.inj hT138
                    replace hR138 := bq_lk_r hR138
                    subst hR138
                    exact X172 H locs ls w (lv_sub hl [0, 1, 2] rfl)
                  · replace hT138 := bq_f hc hT138
                    clear hc
                    refine lv_iload hx hb dX8_notesEvent_148 (lv_at hl 2 rfl) ?_
                    refine lv_iconst (v := 1) hx hb dX8_notesEvent_150 (by decide) ?_
                    refine lv_iadd hx hb dX8_notesEvent_151 ?_
                    refine lv_aload_n hx hb dX8_notesEvent_152 rfl (lv_at hl 0 rfl) ?_
                    refine gt_X8_104 E K w 0 rfl rfl dX8_notesEvent_153 ?_
                    obtain ⟨v25, hT167, hT138⟩ := bq_let_el hT138
                    have K167 : ∀ (H : Heap) (locs : List Loc) (ls : Array Slot), bq_w D A s.heap (wdX8_notesEvent cI a_t a_t_backs a_t_outs a_t_pauses a_p1 u_t_rig u_t_trial u_t_strokes u_t_cuts u_t_text u_t_readOuts u_t_readBacks u_t_readPauses t t_backs t_outs t_pauses p1_10) H locs → lv_has ls 7 [(0, .ref a_t), (1, .ref a_p1)] → W p l e rmX8_notesEvent s m av9 below meth c H locs 0 0 Q (F0 m 167 ls [.int v25]) := by
                      intro H locs ls w hl
                      refine lv_istore (lv' := [(6, .int v25), (0, .ref a_t), (1, .ref a_p1)]) hx hb dX8_notesEvent_167 hl (by decide) rfl (fun ls hl => ?_)
                      refine lv_goto (tgt := 138) hx hb dX8_notesEvent_169 (by decide) ?_
                      obtain rfl := Option.some.inj hT138
                      exact ih v25 H locs ls hR138 w (lv_sub hl [1, 2, 0] rfl)
                    clear hT138
                    refine lv_icmp_ge (tgt := 166) hx hb dX8_notesEvent_156 (by decide) (fun hc => ?_) (fun hc => ?_)
                    · replace hT167 := bq_et hc hT167
                      clear hc
                      refine lv_iconst (v := 0) hx hb dX8_notesEvent_166 (by decide) ?_
                      subst hT167
                      exact K167 H locs ls w (lv_sub hl [0, 1] rfl)
                    · replace hT167 := bq_ef hc hT167
                      clear hc
                      refine lv_iload hx hb dX8_notesEvent_159 (lv_at hl 2 rfl) ?_
                      refine lv_iconst (v := 1) hx hb dX8_notesEvent_161 (by decide) ?_
                      refine lv_iadd hx hb dX8_notesEvent_162 ?_
                      refine lv_goto (tgt := 167) hx hb dX8_notesEvent_163 (by decide) ?_
                      subst hT167
                      exact K167 H locs ls w (lv_sub hl [0, 1] rfl)
              exact L138 nn v12 H locs ls hL w (lv_sub hl [1, 2, 0] rfl)
            clear hm
            refine lv_icmp_ge (tgt := 135) hx hb dX8_notesEvent_125 (by decide) (fun hc => ?_) (fun hc => ?_)
            · replace hT136 := bq_et hc hT136
              clear hc
              refine lv_iconst (v := 0) hx hb dX8_notesEvent_135 (by decide) ?_
              subst hT136
              exact K136 H locs ls w (lv_sub hl [2, 3] rfl)
            · replace hT136 := bq_ef hc hT136
              clear hc
              refine lv_iload hx hb dX8_notesEvent_128 (lv_at hl 0 rfl) ?_
              refine lv_iconst (v := 1) hx hb dX8_notesEvent_130 (by decide) ?_
              refine lv_iadd hx hb dX8_notesEvent_131 ?_
              refine lv_goto (tgt := 136) hx hb dX8_notesEvent_132 (by decide) ?_
              subst hT136
              exact K136 H locs ls w (lv_sub hl [2, 3] rfl)
          · replace hm := bq_f hc hm
            clear hc
            obtain rfl := Option.some.inj hm
            exact bq_vret E w hr hk dX8_notesEvent_110 hQ
        · replace hm := bq_t hc hm
          clear hc
          refine lv_aload_n hx hb dX8_notesEvent_79 rfl (lv_at hl 2 rfl) ?_
          refine lv_bipush (v := 6) hx hb dX8_notesEvent_80 (by decide) ?_
          refine lv_iconst (v := 1) hx hb dX8_notesEvent_82 (by decide) ?_
          obtain ⟨p1_26, e9, hm⟩ := bq_let_el hm
          refine bq_astk E K w 4 rfl 6 (by decide) (by unfold vp_in; decide) dX8_notesEvent_83 (fun H locs w => ?_)
          replace w : bq_w D A s.heap (wdX8_notesEvent cI a_t a_t_backs a_t_outs a_t_pauses a_p1 u_t_rig u_t_trial u_t_strokes u_t_cuts u_t_text u_t_readOuts u_t_readBacks u_t_readPauses t t_backs t_outs t_pauses p1_26) H locs := by rw [e9]; exact w
          clear e9
          obtain rfl := Option.some.inj hm
          exact bq_vret E w hr hk dX8_notesEvent_84 hQ
    clear hm
    refine lv_if_eq (tgt := 54) hx hb dX8_notesEvent_47 (by decide) (fun hc => ?_) (fun hc => ?_)
    · replace hT58 := bq_et hc hT58
      clear hc
      refine lv_bipush (v := 6) hx hb dX8_notesEvent_54 (by decide) ?_
      refine lv_iload_n hx hb dX8_notesEvent_56 rfl (lv_at hl 2 rfl) ?_
      refine lv_iadd hx hb dX8_notesEvent_57 ?_
      subst hT58
      exact K58 H locs ls w (lv_sub hl [0, 1] rfl)
    · replace hT58 := bq_ef hc hT58
      clear hc
      refine lv_iload_n hx hb dX8_notesEvent_50 rfl (lv_at hl 2 rfl) ?_
      refine lv_goto (tgt := 58) hx hb dX8_notesEvent_51 (by decide) ?_
      subst hT58
      exact K58 H locs ls w (lv_sub hl [0, 1] rfl)
  clear hm
  refine lv_if_eq (tgt := 35) hx hb dX8_notesEvent_28 (by decide) (fun hc => ?_) (fun hc => ?_)
  · replace hT36 := bq_et hc hT36
    clear hc
    refine lv_iconst (v := 0) hx hb dX8_notesEvent_35 (by decide) ?_
    subst hT36
    exact K36 H locs ls w (lv_sub hl [1, 2, 3, 4] rfl)
  · replace hT36 := bq_ef hc hT36
    clear hc
    refine lv_iconst (v := 1) hx hb dX8_notesEvent_31 (by decide) ?_
    refine lv_goto (tgt := 36) hx hb dX8_notesEvent_32 (by decide) ?_
    subst hT36
    exact K36 H locs ls w (lv_sub hl [1, 2, 3, 4] rfl)
