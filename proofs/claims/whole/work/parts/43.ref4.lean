abbrev wdX8_tries (cI : ClassId) (a_t a_t_backs a_t_cuts a_t_outs a_t_pauses a_t_strokes a_t_trial u_t_rig u_t_text u_t_readOuts u_t_readBacks u_t_readPauses : Nat) (t : Nat → Int32) (t_backs : Nat → Int32) (t_cuts : Nat → Int32) (t_outs : Nat → Int32) (t_pauses : Nat → Int32) (t_strokes : Nat → Int32) (t_trial : Nat → Int32) : va_W := [(a_t, oX8 u_t_rig a_t_trial a_t_strokes a_t_outs a_t_backs a_t_pauses a_t_cuts u_t_text u_t_readOuts u_t_readBacks u_t_readPauses t), (a_t_backs, oA cI 16 t_backs), (a_t_cuts, oA cI 16 t_cuts), (a_t_outs, oA cI 16 t_outs), (a_t_pauses, oA cI 16 t_pauses), (a_t_strokes, oA cI 6 t_strokes), (a_t_trial, oA cI 140 t_trial)]
abbrev rmX8_tries : Room := { frames := 4, cells := 0, slots := 0, locals := 104 }
theorem hd_X8_tries : yX8_tries.cls = RX8 ∧ yX8_tries.cls ≠ "java/lang/invoke/MethodHandle" ∧ yX8_tries.cls ≠ "java/lang/invoke/VarHandle" ∧ (parseMethodDescriptor yX8_tries.desc).map (fun d => d.parameters.length) = some 5 := by decide +kernel
set_option maxHeartbeats 4000000 in
set_option maxRecDepth 100000 in
theorem kX8_tries (l : Launch) (D : va_G) (cI cJ : ClassId) (a_t a_t_backs a_t_cuts a_t_outs a_t_pauses a_t_strokes a_t_trial u_t_rig u_t_text u_t_readOuts u_t_readBacks u_t_readPauses : Nat) (t t_backs t_cuts t_outs t_pauses t_strokes t_trial : Nat → Int32) (x1 : Int32) (x2 : Int32) (x3 : Int32) (x4 : Int32) (x5 : Int32) (t_trial_o : Nat → Int32) (hm : mX8_tries t t_backs t_cuts t_outs t_pauses t_strokes t_trial x1 x2 x3 x4 x5 = some t_trial_o) : bq_M l D cI cJ yX8_tries cX8_tries 7 none rmX8_tries [.ref a_t, .int x1, .int x2, .int x3, .int x4, .int x5] (wdX8_tries cI a_t a_t_backs a_t_cuts a_t_outs a_t_pauses a_t_strokes a_t_trial u_t_rig u_t_text u_t_readOuts u_t_readBacks u_t_readPauses t t_backs t_cuts t_outs t_pauses t_strokes t_trial) (wdX8_tries cI a_t a_t_backs a_t_cuts a_t_outs a_t_pauses a_t_strokes a_t_trial u_t_rig u_t_text u_t_readOuts u_t_readBacks u_t_readPauses t t_backs t_cuts t_outs t_pauses t_strokes t_trial_o) none := by
  refine bq_start (by decide) (Nat.le_of_ble_eq_true rfl) ?_
  intro p e s m av9 below meth c A ls Q H locs E K w hA hr hk hn hQ hl
  have E : bq_E p m c cX8_tries 7 s av9 RX8 := E
  have hx := E.1
  have hb := E.2.1
  have hl : lv_has ls 7 [(0, .ref a_t), (1, .int x1), (2, .int x2), (3, .int x3), (4, .int x4), (5, .int x5)] := hl
  unfold mX8_tries at hm
  refine lv_iconst (v := 0) hx hb dX8_tries_0 (by decide) ?_
  refine lv_istore (lv' := [(6, .int 0), (0, .ref a_t), (1, .int x1), (2, .int x2), (3, .int x3), (4, .int x4), (5, .int x5)]) hx hb dX8_tries_1 hl (by decide) rfl (fun ls hl => ?_)
  obtain ⟨t_trial_3, hL, hm⟩ := bq_bd_el hm
  obtain ⟨B, eB, nn, hL⟩ := bq_loop_B hL
  have X25 : ∀ (H : Heap) (locs : List Loc) (ls : Array Slot), bq_w D A s.heap (wdX8_tries cI a_t a_t_backs a_t_cuts a_t_outs a_t_pauses a_t_strokes a_t_trial u_t_rig u_t_text u_t_readOuts u_t_readBacks u_t_readPauses t t_backs t_cuts t_outs t_pauses t_strokes t_trial_3) H locs → lv_has ls 7 [(0, .ref a_t), (1, .int x1), (2, .int x2), (3, .int x3), (4, .int x4), (5, .int x5)] → W p l e rmX8_tries s m av9 below meth c H locs 0 0 Q (F0 m 25 ls []) := by
    intro H locs ls w hl
    refine lv_aload_n hx hb dX8_tries_25 rfl (lv_at hl 0 rfl) ?_
    refine gt_X8_13 E K w 0 rfl rfl dX8_tries_26 ?_
    refine lv_iconst (v := 1) hx hb dX8_tries_29 (by decide) ?_
    refine lv_iload_n hx hb dX8_tries_30 rfl (lv_at hl 1 rfl) ?_
    obtain ⟨t_trial_4, e9, hm⟩ := bq_let_el hm
    refine bq_astk E K w 6 rfl 1 (by decide) (by unfold vp_in; decide) dX8_tries_31 (fun H locs w => ?_)
    replace w : bq_w D A s.heap (wdX8_tries cI a_t a_t_backs a_t_cuts a_t_outs a_t_pauses a_t_strokes a_t_trial u_t_rig u_t_text u_t_readOuts u_t_readBacks u_t_readPauses t t_backs t_cuts t_outs t_pauses t_strokes t_trial_4) H locs := by rw [e9]; exact w
    clear e9
    refine lv_aload_n hx hb dX8_tries_32 rfl (lv_at hl 0 rfl) ?_
    refine gt_X8_13 E K w 0 rfl rfl dX8_tries_33 ?_
    refine lv_iconst (v := 2) hx hb dX8_tries_36 (by decide) ?_
    refine lv_iconst (v := 1) hx hb dX8_tries_37 (by decide) ?_
    obtain ⟨t_trial_5, e9, hm⟩ := bq_let_el hm
    refine bq_astk E K w 6 rfl 2 (by decide) (by unfold vp_in; decide) dX8_tries_38 (fun H locs w => ?_)
    replace w : bq_w D A s.heap (wdX8_tries cI a_t a_t_backs a_t_cuts a_t_outs a_t_pauses a_t_strokes a_t_trial u_t_rig u_t_text u_t_readOuts u_t_readBacks u_t_readPauses t t_backs t_cuts t_outs t_pauses t_strokes t_trial_5) H locs := by rw [e9]; exact w
    clear e9
    refine lv_iload_n hx hb dX8_tries_39 rfl (lv_at hl 2 rfl) ?_
    obtain ⟨t_trial_6, hT55, hm⟩ := bq_bd_el hm
    have K55 : ∀ (H : Heap) (locs : List Loc) (ls : Array Slot), bq_w D A s.heap (wdX8_tries cI a_t a_t_backs a_t_cuts a_t_outs a_t_pauses a_t_strokes a_t_trial u_t_rig u_t_text u_t_readOuts u_t_readBacks u_t_readPauses t t_backs t_cuts t_outs t_pauses t_strokes t_trial_6) H locs → lv_has ls 7 [(0, .ref a_t), (4, .int x4), (5, .int x5)] → W p l e rmX8_tries s m av9 below meth c H locs 0 0 Q (F0 m 55 ls []) := by
      intro H locs ls w hl
      refine lv_aload_n hx hb dX8_tries_55 rfl (lv_at hl 0 rfl) ?_
      refine lv_aload_n hx hb dX8_tries_56 rfl (lv_at hl 0 rfl) ?_
      refine gt_X8_13 E K w 0 rfl rfl dX8_tries_57 ?_
      obtain ⟨t_trial_8, hC, hm⟩ := bq_bd_el hm
      refine bq_V (As := [.ref a_t_trial]) (rest := []) (st1 := []) (ws' := wdX8_tries cI a_t a_t_backs a_t_cuts a_t_outs a_t_pauses a_t_strokes a_t_trial u_t_rig u_t_text u_t_readOuts u_t_readBacks u_t_readPauses t t_backs t_cuts t_outs t_pauses t_strokes t_trial_8) E K w hA (kX8_rests l D cI cJ a_t a_t_backs a_t_outs a_t_pauses a_t_trial u_t_rig a_t_trial a_t_strokes a_t_cuts u_t_text u_t_readOuts u_t_readBacks u_t_readPauses t t_backs t_outs t_pauses t_trial_6 t_trial_8 hC) (bq_gV ml_X8_43 im_X8_rests sl_X8_rests in_X8 cd_X8_rests) hd_X8_rests ⟨Nat.le_of_ble_eq_true rfl, Nat.le_of_ble_eq_true rfl⟩ ⟨Nat.le_of_ble_eq_true rfl, Nat.le_of_ble_eq_true rfl⟩ ⟨[0, 1, 3, 4, 6], [2, 5], [2, 3, 0, 4, 5, 1, 6], rfl, rfl, rfl, rfl, rfl, rfl, rfl, rfl, rfl⟩ 0 rfl rfl rfl hl.1 rfl (Nat.le_of_ble_eq_true rfl) rfl dX8_tries_60 (fun H locs w => bq_z ⟨rfl, rfl⟩ ?_)
      clear hC
      refine lv_iconst (v := 0) hx hb dX8_tries_63 (by decide) ?_
      refine lv_istore (lv' := [(6, .int 0), (0, .ref a_t), (4, .int x4), (5, .int x5)]) hx hb dX8_tries_64 hl (by decide) rfl (fun ls hl => ?_)
      obtain ⟨t_trial_11, hL, hm⟩ := bq_bd_el hm
      obtain ⟨B, eB, nn, hL⟩ := bq_loop_B hL
      have X103 : ∀ (H : Heap) (locs : List Loc) (ls : Array Slot), bq_w D A s.heap (wdX8_tries cI a_t a_t_backs a_t_cuts a_t_outs a_t_pauses a_t_strokes a_t_trial u_t_rig u_t_text u_t_readOuts u_t_readBacks u_t_readPauses t t_backs t_cuts t_outs t_pauses t_strokes t_trial_11) H locs → lv_has ls 7 [] → W p l e rmX8_tries s m av9 below meth c H locs 0 0 Q (F0 m 103 ls []) := by
        intro H locs ls w hl
        obtain rfl := Option.some.inj hm
        exact bq_vret E w hr hk dX8_tries_103 hQ
      clear hm
      have L66 : ∀ (nn : Nat) (i9 : Int32) (t_trial_10 : Nat → Int32) (H : Heap) (locs : List Loc) (ls : Array Slot), bq_lp B nn (i9, t_trial_10) = some t_trial_11 → bq_w D A s.heap (wdX8_tries cI a_t a_t_backs a_t_cuts a_t_outs a_t_pauses a_t_strokes a_t_trial u_t_rig u_t_text u_t_readOuts u_t_readBacks u_t_readPauses t t_backs t_cuts t_outs t_pauses t_strokes t_trial_10) H locs → lv_has ls 7 [(0, .ref a_t), (4, .int x4), (5, .int x5), (6, .int i9)] → W p l e rmX8_tries s m av9 below meth c H locs 0 0 Q (F0 m 66 ls []) := by
        intro nn
        induction nn with
        | zero =>
          intro i9 t_trial_10 H locs ls hL w hl
          exact bq_lp_0 hL
        | succ nn ih =>
          intro i9 t_trial_10 H locs ls hL w hl
          obtain ⟨oo66, hT66, hR66⟩ := bq_lp_el hL
          clear hL
          replace hT66 := bq_u2_el eB hT66
          unfold bX8_tries_66 at hT66
          refine lv_iload hx hb dX8_tries_66 (lv_at hl 3 rfl) ?_
          refine lv_iload hx hb dX8_tries_68 (lv_at hl 1 rfl) ?_
          refine lv_icmp_ge (tgt := 103) hx hb dX8_tries_70 (by decide) (fun hc => ?_) (fun hc => ?_)
          · replace hT66 := bq_t hc hT66
            clear hc
            obtain rfl := Option.some.inj hT66
            replace hR66 := bq_lk_r hR66
            subst hR66
            exact X103 H locs ls w (lv_sub hl [] rfl)
          · replace hT66 := bq_f hc hT66
            clear hc
            refine lv_iload hx hb dX8_tries_73 (lv_at hl 2 rfl) ?_
            obtain ⟨J89, eJ89, hT66⟩ := bq_let_el hT66
            have K89 : ∀ (H : Heap) (locs : List Loc) (ls : Array Slot), J89 () = some oo66 → bq_w D A s.heap (wdX8_tries cI a_t a_t_backs a_t_cuts a_t_outs a_t_pauses a_t_strokes a_t_trial u_t_rig u_t_text u_t_readOuts u_t_readBacks u_t_readPauses t t_backs t_cuts t_outs t_pauses t_strokes t_trial_10) H locs → lv_has ls 7 [(0, .ref a_t), (4, .int x4), (5, .int x5), (6, .int i9)] → W p l e rmX8_tries s m av9 below meth c H locs 0 0 Q (F0 m 89 ls []) := by
              intro H locs ls hJ w hl
              replace hJ := bq_ap1 eJ89 hJ
              refine lv_aload_n hx hb dX8_tries_89 rfl (lv_at hl 0 rfl) ?_
              refine lv_aload_n hx hb dX8_tries_90 rfl (lv_at hl 0 rfl) ?_
              refine gt_X8_13 E K w 0 rfl rfl dX8_tries_91 ?_
              obtain ⟨t_trial_12, hC, hJ⟩ := bq_bd_el hJ
              refine bq_V (As := [.ref a_t_trial]) (rest := []) (st1 := []) (ws' := wdX8_tries cI a_t a_t_backs a_t_cuts a_t_outs a_t_pauses a_t_strokes a_t_trial u_t_rig u_t_text u_t_readOuts u_t_readBacks u_t_readPauses t t_backs t_cuts t_outs t_pauses t_strokes t_trial_12) E K w hA (kX8_ticksOnce l D cI cJ a_t a_t_backs a_t_cuts a_t_outs a_t_pauses a_t_strokes a_t_trial u_t_rig a_t_trial u_t_text u_t_readOuts u_t_readBacks u_t_readPauses t t_backs t_cuts t_outs t_pauses t_strokes t_trial_10 t_trial_12 hC) (bq_gV ml_X8_171 im_X8_ticksOnce sl_X8_ticksOnce in_X8 cd_X8_ticksOnce) hd_X8_ticksOnce ⟨Nat.le_of_ble_eq_true rfl, Nat.le_of_ble_eq_true rfl⟩ ⟨Nat.le_of_ble_eq_true rfl, Nat.le_of_ble_eq_true rfl⟩ ⟨[0, 1, 2, 3, 4, 5, 6], [], [0, 1, 2, 3, 4, 5, 6], rfl, rfl, rfl, rfl, rfl, rfl, rfl, rfl, rfl⟩ 0 rfl rfl rfl hl.1 rfl (Nat.le_of_ble_eq_true rfl) rfl dX8_tries_94 (fun H locs w => bq_z ⟨rfl, rfl⟩ ?_)
              clear hC
              obtain ⟨v13, e9, hJ⟩ := bq_let_el hJ
              refine lv_iinc (v := v13) (lv' := [(6, .int v13), (0, .ref a_t), (4, .int x4), (5, .int x5)]) hx hb dX8_tries_97 hl (k := 3) rfl (by rw [e9]; rfl) (by decide) rfl (fun ls hl => ?_)
              clear e9
              refine lv_goto (tgt := 66) hx hb dX8_tries_100 (by decide) ?_
              obtain rfl := Option.some.inj hJ
              exact ih v13 t_trial_12 H locs ls hR66 w (lv_sub hl [1, 2, 3, 0] rfl)
            refine lv_if_eq (tgt := 89) hx hb dX8_tries_75 (by decide) (fun hc => ?_) (fun hc => ?_)
            · replace hT66 := bq_t hc hT66
              clear hc
              exact K89 H locs ls hT66 w (lv_sub hl [0, 1, 2, 3] rfl)
            · replace hT66 := bq_f hc hT66
              clear hc
              refine lv_aload_n hx hb dX8_tries_78 rfl (lv_at hl 0 rfl) ?_
              refine gt_X8_13 E K w 0 rfl rfl dX8_tries_79 ?_
              refine lv_bipush (v := 9) hx hb dX8_tries_82 (by decide) ?_
              refine bq_aldk E K w 6 rfl 9 (by decide) (by unfold vp_in; decide) dX8_tries_84 ?_
              refine lv_iconst (v := 2) hx hb dX8_tries_85 (by decide) ?_
              refine lv_icmp_ge (tgt := 103) hx hb dX8_tries_86 (by decide) (fun hc => ?_) (fun hc => ?_)
              · replace hT66 := bq_t hc hT66
                clear hc
                obtain rfl := Option.some.inj hT66
                replace hR66 := bq_lk_r hR66
                subst hR66
                exact X103 H locs ls w (lv_sub hl [] rfl)
              · replace hT66 := bq_f hc hT66
                clear hc
                exact K89 H locs ls hT66 w (lv_sub hl [0, 1, 2, 3] rfl)
      exact L66 nn 0 t_trial_8 H locs ls hL w (lv_sub hl [1, 2, 3, 0] rfl)
    clear hm
    refine lv_if_lt (tgt := 55) hx hb dX8_tries_40 (by decide) (fun hc => ?_) (fun hc => ?_)
    · replace hT55 := bq_t hc hT55
      clear hc
      obtain rfl := Option.some.inj hT55
      exact K55 H locs ls w (lv_sub hl [0, 4, 5] rfl)
    · replace hT55 := bq_f hc hT55
      clear hc
      refine lv_aload_n hx hb dX8_tries_43 rfl (lv_at hl 0 rfl) ?_
      refine gt_X8_13 E K w 0 rfl rfl dX8_tries_44 ?_
      refine lv_bipush (v := 38) hx hb dX8_tries_47 (by decide) ?_
      refine lv_iload_n hx hb dX8_tries_49 rfl (lv_at hl 2 rfl) ?_
      refine lv_iadd hx hb dX8_tries_50 ?_
      refine lv_iconst (v := 1) hx hb dX8_tries_51 (by decide) ?_
      refine lv_iload_n hx hb dX8_tries_52 rfl (lv_at hl 3 rfl) ?_
      refine lv_ishl hx hb dX8_tries_53 ?_
      obtain ⟨hI, hT55⟩ := bq_ci_el hT55
      obtain ⟨t_trial_7, e9, hT55⟩ := bq_let_el hT55
      refine bq_ast E K w 6 rfl hI dX8_tries_54 (fun H locs w => ?_)
      replace w : bq_w D A s.heap (wdX8_tries cI a_t a_t_backs a_t_cuts a_t_outs a_t_pauses a_t_strokes a_t_trial u_t_rig u_t_text u_t_readOuts u_t_readBacks u_t_readPauses t t_backs t_cuts t_outs t_pauses t_strokes t_trial_7) H locs := by rw [e9]; exact w
      clear e9
      obtain rfl := Option.some.inj hT55
      exact K55 H locs ls w (lv_sub hl [0, 4, 5] rfl)
  clear hm
  have L3 : ∀ (nn : Nat) (i1 : Int32) (t_trial_2 : Nat → Int32) (H : Heap) (locs : List Loc) (ls : Array Slot), bq_lp B nn (i1, t_trial_2) = some t_trial_3 → bq_w D A s.heap (wdX8_tries cI a_t a_t_backs a_t_cuts a_t_outs a_t_pauses a_t_strokes a_t_trial u_t_rig u_t_text u_t_readOuts u_t_readBacks u_t_readPauses t t_backs t_cuts t_outs t_pauses t_strokes t_trial_2) H locs → lv_has ls 7 [(0, .ref a_t), (1, .int x1), (2, .int x2), (3, .int x3), (4, .int x4), (5, .int x5), (6, .int i1)] → W p l e rmX8_tries s m av9 below meth c H locs 0 0 Q (F0 m 3 ls []) := by
    intro nn
    induction nn with
    | zero =>
      intro i1 t_trial_2 H locs ls hL w hl
      exact bq_lp_0 hL
    | succ nn ih =>
      intro i1 t_trial_2 H locs ls hL w hl
      obtain ⟨oo3, hT3, hR3⟩ := bq_lp_el hL
      clear hL
      replace hT3 := bq_u2_el eB hT3
      unfold bX8_tries_3 at hT3
      refine lv_iload hx hb dX8_tries_3 (lv_at hl 6 rfl) ?_
      refine lv_sipush (v := 140) hx hb dX8_tries_5 (by decide) ?_
      refine lv_icmp_ge (tgt := 25) hx hb dX8_tries_8 (by decide) (fun hc => ?_) (fun hc => ?_)
      · replace hT3 := bq_t hc hT3
        clear hc
        obtain rfl := Option.some.inj hT3
        replace hR3 := bq_lk_r hR3
        subst hR3
        exact X25 H locs ls w (lv_sub hl [0, 1, 2, 3, 4, 5] rfl)
      · replace hT3 := bq_f hc hT3
        clear hc
        refine lv_aload_n hx hb dX8_tries_11 rfl (lv_at hl 0 rfl) ?_
        refine gt_X8_13 E K w 0 rfl rfl dX8_tries_12 ?_
        refine lv_iload hx hb dX8_tries_15 (lv_at hl 6 rfl) ?_
        refine lv_iconst (v := 0) hx hb dX8_tries_17 (by decide) ?_
        obtain ⟨hI, hT3⟩ := bq_ci_el hT3
        obtain ⟨t_trial_14, e9, hT3⟩ := bq_let_el hT3
        refine bq_ast E K w 6 rfl hI dX8_tries_18 (fun H locs w => ?_)
        replace w : bq_w D A s.heap (wdX8_tries cI a_t a_t_backs a_t_cuts a_t_outs a_t_pauses a_t_strokes a_t_trial u_t_rig u_t_text u_t_readOuts u_t_readBacks u_t_readPauses t t_backs t_cuts t_outs t_pauses t_strokes t_trial_14) H locs := by rw [e9]; exact w
        clear e9
        obtain ⟨v15, e9, hT3⟩ := bq_let_el hT3
        refine lv_iinc (v := v15) (lv' := [(6, .int v15), (0, .ref a_t), (1, .int x1), (2, .int x2), (3, .int x3), (4, .int x4), (5, .int x5)]) hx hb dX8_tries_19 hl (k := 6) rfl (by rw [e9]; rfl) (by decide) rfl (fun ls hl => ?_)
        clear e9
        refine lv_goto (tgt := 3) hx hb dX8_tries_22 (by decide) ?_
        obtain rfl := Option.some.inj hT3
        exact ih v15 t_trial_14 H locs ls hR3 w (lv_sub hl [1, 2, 3, 4, 5, 6, 0] rfl)
  exact L3 nn 0 t_trial H locs ls hL w (lv_sub hl [1, 2, 3, 4, 5, 6, 0] rfl)
abbrev wdX8_cycleOf (cI : ClassId) (a_t a_t_backs a_t_cuts a_t_outs a_t_pauses a_t_strokes a_t_trial u_t_rig u_t_text u_t_readOuts u_t_readBacks u_t_readPauses : Nat) (t : Nat → Int32) (t_backs : Nat → Int32) (t_cuts : Nat → Int32) (t_outs : Nat → Int32) (t_pauses : Nat → Int32) (t_strokes : Nat → Int32) (t_trial : Nat → Int32) : va_W := [(a_t, oX8 u_t_rig a_t_trial a_t_strokes a_t_outs a_t_backs a_t_pauses a_t_cuts u_t_text u_t_readOuts u_t_readBacks u_t_readPauses t), (a_t_backs, oA cI 16 t_backs), (a_t_cuts, oA cI 16 t_cuts), (a_t_outs, oA cI 16 t_outs), (a_t_pauses, oA cI 16 t_pauses), (a_t_strokes, oA cI 6 t_strokes), (a_t_trial, oA cI 140 t_trial)]
abbrev rmX8_cycleOf : Room := { frames := 5, cells := 0, slots := 0, locals := 130 }
theorem hd_X8_cycleOf : yX8_cycleOf.cls = RX8 ∧ yX8_cycleOf.cls ≠ "java/lang/invoke/MethodHandle" ∧ yX8_cycleOf.cls ≠ "java/lang/invoke/VarHandle" ∧ (parseMethodDescriptor yX8_cycleOf.desc).map (fun d => d.parameters.length) = some 1 := by decide +kernel
set_option maxHeartbeats 4000000 in
set_option maxRecDepth 100000 in
theorem kX8_cycleOf (l : Launch) (D : va_G) (cI cJ : ClassId) (a_t a_t_backs a_t_cuts a_t_outs a_t_pauses a_t_strokes a_t_trial u_t_rig u_t_text u_t_readOuts u_t_readBacks u_t_readPauses : Nat) (t t_backs t_cuts t_outs t_pauses t_strokes t_trial : Nat → Int32) (x1 : Int32) (r : Int32) (t_trial_o : Nat → Int32) (hm : mX8_cycleOf t t_backs t_cuts t_outs t_pauses t_strokes t_trial x1 = some (r, t_trial_o)) : bq_M l D cI cJ yX8_cycleOf cX8_cycleOf 2 (some .int) rmX8_cycleOf [.ref a_t, .int x1] (wdX8_cycleOf cI a_t a_t_backs a_t_cuts a_t_outs a_t_pauses a_t_strokes a_t_trial u_t_rig u_t_text u_t_readOuts u_t_readBacks u_t_readPauses t t_backs t_cuts t_outs t_pauses t_strokes t_trial) (wdX8_cycleOf cI a_t a_t_backs a_t_cuts a_t_outs a_t_pauses a_t_strokes a_t_trial u_t_rig u_t_text u_t_readOuts u_t_readBacks u_t_readPauses t t_backs t_cuts t_outs t_pauses t_strokes t_trial_o) (some (.int r)) := by
  refine bq_start (by decide) (Nat.le_of_ble_eq_true rfl) ?_
  intro p e s m av9 below meth c A ls Q H locs E K w hA hr hk hn hQ hl
  have E : bq_E p m c cX8_cycleOf 2 s av9 RX8 := E
  have hx := E.1
  have hb := E.2.1
  have hl : lv_has ls 2 [(0, .ref a_t), (1, .int x1)] := hl
  unfold mX8_cycleOf at hm
  refine lv_aload_n hx hb dX8_cycleOf_0 rfl (lv_at hl 0 rfl) ?_
  refine lv_iload_n hx hb dX8_cycleOf_1 rfl (lv_at hl 1 rfl) ?_
  refine lv_iconst (v := (-1)) hx hb dX8_cycleOf_2 (by decide) ?_
  refine lv_iconst (v := 0) hx hb dX8_cycleOf_3 (by decide) ?_
  refine lv_sipush (v := 4000) hx hb dX8_cycleOf_4 (by decide) ?_
  refine lv_iconst (v := 1) hx hb dX8_cycleOf_7 (by decide) ?_
  obtain ⟨t_trial_1, hC, hm⟩ := bq_bd_el hm
  refine bq_V (As := [.int x1, .int (-1), .int 0, .int 4000, .int 1]) (rest := []) (st1 := []) (ws' := wdX8_cycleOf cI a_t a_t_backs a_t_cuts a_t_outs a_t_pauses a_t_strokes a_t_trial u_t_rig u_t_text u_t_readOuts u_t_readBacks u_t_readPauses t t_backs t_cuts t_outs t_pauses t_strokes t_trial_1) E K w hA (kX8_tries l D cI cJ a_t a_t_backs a_t_cuts a_t_outs a_t_pauses a_t_strokes a_t_trial u_t_rig u_t_text u_t_readOuts u_t_readBacks u_t_readPauses t t_backs t_cuts t_outs t_pauses t_strokes t_trial x1 (-1) 0 4000 1 t_trial_1 hC) (bq_gV ml_X8_180 im_X8_tries sl_X8_tries in_X8 cd_X8_tries) hd_X8_tries ⟨Nat.le_of_ble_eq_true rfl, Nat.le_of_ble_eq_true rfl⟩ ⟨Nat.le_of_ble_eq_true rfl, Nat.le_of_ble_eq_true rfl⟩ ⟨[0, 1, 2, 3, 4, 5, 6], [], [0, 1, 2, 3, 4, 5, 6], rfl, rfl, rfl, rfl, rfl, rfl, rfl, rfl, rfl⟩ 0 rfl rfl rfl hl.1 rfl (Nat.le_of_ble_eq_true rfl) rfl dX8_cycleOf_8 (fun H locs w => bq_z ⟨rfl, rfl⟩ ?_)
  clear hC
  refine lv_aload_n hx hb dX8_cycleOf_11 rfl (lv_at hl 0 rfl) ?_
  refine gt_X8_13 E K w 0 rfl rfl dX8_cycleOf_12 ?_
  refine lv_bipush (v := 12) hx hb dX8_cycleOf_15 (by decide) ?_
  refine bq_aldk E K w 6 rfl 12 (by decide) (by unfold vp_in; decide) dX8_cycleOf_17 ?_
  obtain ⟨v2, hT40, hm⟩ := bq_let_el hm
  have K40 : ∀ (H : Heap) (locs : List Loc) (ls : Array Slot), bq_w D A s.heap (wdX8_cycleOf cI a_t a_t_backs a_t_cuts a_t_outs a_t_pauses a_t_strokes a_t_trial u_t_rig u_t_text u_t_readOuts u_t_readBacks u_t_readPauses t t_backs t_cuts t_outs t_pauses t_strokes t_trial_1) H locs → lv_has ls 2 [] → W p l e rmX8_cycleOf s m av9 below meth c H locs 0 0 Q (F0 m 40 ls [.int v2]) := by
    intro H locs ls w hl
    obtain ⟨rfl, rfl⟩ := bq_in2 (Option.some.inj hm)
    exact bq_iret E w hr hk dX8_cycleOf_40 hQ
  clear hm
  refine lv_if_lt (tgt := 39) hx hb dX8_cycleOf_18 (by decide) (fun hc => ?_) (fun hc => ?_)
  · replace hT40 := bq_et hc hT40
    clear hc
    refine lv_iconst (v := (-1)) hx hb dX8_cycleOf_39 (by decide) ?_
    subst hT40
    exact K40 H locs ls w (lv_sub hl [] rfl)
  · replace hT40 := bq_ef hc hT40
    clear hc
    refine lv_aload_n hx hb dX8_cycleOf_21 rfl (lv_at hl 0 rfl) ?_
    refine gt_X8_13 E K w 0 rfl rfl dX8_cycleOf_22 ?_
    refine lv_bipush (v := 12) hx hb dX8_cycleOf_25 (by decide) ?_
    refine bq_aldk E K w 6 rfl 12 (by decide) (by unfold vp_in; decide) dX8_cycleOf_27 ?_
    refine lv_aload_n hx hb dX8_cycleOf_28 rfl (lv_at hl 0 rfl) ?_
    refine gt_X8_13 E K w 0 rfl rfl dX8_cycleOf_29 ?_
    refine lv_bipush (v := 11) hx hb dX8_cycleOf_32 (by decide) ?_
    refine bq_aldk E K w 6 rfl 11 (by decide) (by unfold vp_in; decide) dX8_cycleOf_34 ?_
    refine lv_isub hx hb dX8_cycleOf_35 ?_
    refine lv_goto (tgt := 40) hx hb dX8_cycleOf_36 (by decide) ?_
    subst hT40
    exact K40 H locs ls w (lv_sub hl [] rfl)
abbrev wdX8_works (cI : ClassId) (a_t a_t_backs a_t_cuts a_t_outs a_t_pauses a_t_strokes a_t_trial u_t_rig u_t_text u_t_readOuts u_t_readBacks u_t_readPauses : Nat) (t : Nat → Int32) (t_backs : Nat → Int32) (t_cuts : Nat → Int32) (t_outs : Nat → Int32) (t_pauses : Nat → Int32) (t_strokes : Nat → Int32) (t_trial : Nat → Int32) : va_W := [(a_t, oX8 u_t_rig a_t_trial a_t_strokes a_t_outs a_t_backs a_t_pauses a_t_cuts u_t_text u_t_readOuts u_t_readBacks u_t_readPauses t), (a_t_backs, oA cI 16 t_backs), (a_t_cuts, oA cI 16 t_cuts), (a_t_outs, oA cI 16 t_outs), (a_t_pauses, oA cI 16 t_pauses), (a_t_strokes, oA cI 6 t_strokes), (a_t_trial, oA cI 140 t_trial)]
abbrev rmX8_works : Room := { frames := 6, cells := 0, slots := 0, locals := 151 }
theorem hd_X8_works : yX8_works.cls = RX8 ∧ yX8_works.cls ≠ "java/lang/invoke/MethodHandle" ∧ yX8_works.cls ≠ "java/lang/invoke/VarHandle" ∧ (parseMethodDescriptor yX8_works.desc).map (fun d => d.parameters.length) = some 1 := by decide +kernel
set_option maxHeartbeats 4000000 in
set_option maxRecDepth 100000 in
theorem kX8_works (l : Launch) (D : va_G) (cI cJ : ClassId) (a_t a_t_backs a_t_cuts a_t_outs a_t_pauses a_t_strokes a_t_trial u_t_rig u_t_text u_t_readOuts u_t_readBacks u_t_readPauses : Nat) (t t_backs t_cuts t_outs t_pauses t_strokes t_trial : Nat → Int32) (x1 : Int32) (r : Int32) (t_o : Nat → Int32) (t_trial_o : Nat → Int32) (hm : mX8_works t t_backs t_cuts t_outs t_pauses t_strokes t_trial x1 = some (r, t_o, t_trial_o)) : bq_M l D cI cJ yX8_works cX8_works 2 (some .boolean) rmX8_works [.ref a_t, .int x1] (wdX8_works cI a_t a_t_backs a_t_cuts a_t_outs a_t_pauses a_t_strokes a_t_trial u_t_rig u_t_text u_t_readOuts u_t_readBacks u_t_readPauses t t_backs t_cuts t_outs t_pauses t_strokes t_trial) (wdX8_works cI a_t a_t_backs a_t_cuts a_t_outs a_t_pauses a_t_strokes a_t_trial u_t_rig u_t_text u_t_readOuts u_t_readBacks u_t_readPauses t_o t_backs t_cuts t_outs t_pauses t_strokes t_trial_o) (some (.int r)) := by
  refine bq_start (by decide) (Nat.le_of_ble_eq_true rfl) ?_
  intro p e s m av9 below meth c A ls Q H locs E K w hA hr hk hn hQ hl
  have E : bq_E p m c cX8_works 2 s av9 RX8 := E
  have hx := E.1
  have hb := E.2.1
  have hl : lv_has ls 2 [(0, .ref a_t), (1, .int x1)] := hl
  unfold mX8_works at hm
  refine lv_aload_n hx hb dX8_works_0 rfl (lv_at hl 0 rfl) ?_
  refine lv_iload_n hx hb dX8_works_1 rfl (lv_at hl 1 rfl) ?_
  obtain ⟨v1, t_2, hC, hm⟩ := bq_b2_el hm
  refine bq_V (As := [.int x1]) (rest := []) (st1 := [.int v1]) (ws' := wdX8_works cI a_t a_t_backs a_t_cuts a_t_outs a_t_pauses a_t_strokes a_t_trial u_t_rig u_t_text u_t_readOuts u_t_readBacks u_t_readPauses t_2 t_backs t_cuts t_outs t_pauses t_strokes t_trial) E K w hA (kX8_lacks l D cI cJ a_t u_t_rig a_t_trial a_t_strokes a_t_outs a_t_backs a_t_pauses a_t_cuts u_t_text u_t_readOuts u_t_readBacks u_t_readPauses t x1 v1 t_2 hC) (bq_gV ml_X8_142 im_X8_lacks sl_X8_lacks in_X8 cd_X8_lacks) hd_X8_lacks ⟨Nat.le_of_ble_eq_true rfl, Nat.le_of_ble_eq_true rfl⟩ ⟨Nat.le_of_ble_eq_true rfl, Nat.le_of_ble_eq_true rfl⟩ ⟨[0], [1, 2, 3, 4, 5, 6], [6, 0, 1, 2, 3, 4, 5], rfl, rfl, rfl, rfl, rfl, rfl, rfl, rfl, rfl⟩ 0 rfl rfl rfl hl.1 rfl (Nat.le_of_ble_eq_true rfl) rfl dX8_works_2 (fun H locs w => bq_z ⟨rfl, rfl⟩ ?_)
  clear hC
  obtain ⟨v3, t_trial_4, hT21, hm⟩ := bq_b2_el hm
  have K21 : ∀ (H : Heap) (locs : List Loc) (ls : Array Slot), bq_w D A s.heap (wdX8_works cI a_t a_t_backs a_t_cuts a_t_outs a_t_pauses a_t_strokes a_t_trial u_t_rig u_t_text u_t_readOuts u_t_readBacks u_t_readPauses t_2 t_backs t_cuts t_outs t_pauses t_strokes t_trial_4) H locs → lv_has ls 2 [] → W p l e rmX8_works s m av9 below meth c H locs 0 0 Q (F0 m 21 ls [.int v3]) := by
    intro H locs ls w hl
    obtain ⟨hB, hm⟩ := bq_cb_el hm
    obtain ⟨rfl, rfl, rfl⟩ := bq_in3 (Option.some.inj hm)
    exact bq_zret E w hr hk hB dX8_works_21 hQ
  clear hm
  refine lv_if_ne (tgt := 20) hx hb dX8_works_5 (by decide) (fun hc => ?_) (fun hc => ?_)
  · replace hT21 := bq_f hc hT21
    clear hc
    refine lv_iconst (v := 0) hx hb dX8_works_20 (by decide) ?_
    obtain ⟨rfl, rfl⟩ := bq_in2 (Option.some.inj hT21)
    exact K21 H locs ls w (lv_sub hl [] rfl)
  · replace hT21 := bq_t hc hT21
    clear hc
    refine lv_aload_n hx hb dX8_works_8 rfl (lv_at hl 0 rfl) ?_
    refine lv_iload_n hx hb dX8_works_9 rfl (lv_at hl 1 rfl) ?_
    obtain ⟨v5, t_trial_6, hC, hT21⟩ := bq_b2_el hT21
    refine bq_V (As := [.int x1]) (rest := []) (st1 := [.int v5]) (ws' := wdX8_works cI a_t a_t_backs a_t_cuts a_t_outs a_t_pauses a_t_strokes a_t_trial u_t_rig u_t_text u_t_readOuts u_t_readBacks u_t_readPauses t_2 t_backs t_cuts t_outs t_pauses t_strokes t_trial_6) E K w hA (kX8_cycleOf l D cI cJ a_t a_t_backs a_t_cuts a_t_outs a_t_pauses a_t_strokes a_t_trial u_t_rig u_t_text u_t_readOuts u_t_readBacks u_t_readPauses t_2 t_backs t_cuts t_outs t_pauses t_strokes t_trial x1 v5 t_trial_6 hC) (bq_gV ml_X8_184 im_X8_cycleOf sl_X8_cycleOf in_X8 cd_X8_cycleOf) hd_X8_cycleOf ⟨Nat.le_of_ble_eq_true rfl, Nat.le_of_ble_eq_true rfl⟩ ⟨Nat.le_of_ble_eq_true rfl, Nat.le_of_ble_eq_true rfl⟩ ⟨[0, 1, 2, 3, 4, 5, 6], [], [0, 1, 2, 3, 4, 5, 6], rfl, rfl, rfl, rfl, rfl, rfl, rfl, rfl, rfl⟩ 0 rfl rfl rfl hl.1 rfl (Nat.le_of_ble_eq_true rfl) rfl dX8_works_10 (fun H locs w => bq_z ⟨rfl, rfl⟩ ?_)
    clear hC
    refine lv_if_lt (tgt := 20) hx hb dX8_works_13 (by decide) (fun hc => ?_) (fun hc => ?_)
    · replace hT21 := bq_t hc hT21
      clear hc
      refine lv_iconst (v := 0) hx hb dX8_works_20 (by decide) ?_
      obtain ⟨rfl, rfl⟩ := bq_in2 (Option.some.inj hT21)
      exact K21 H locs ls w (lv_sub hl [] rfl)
    · replace hT21 := bq_f hc hT21
      clear hc
      refine lv_iconst (v := 1) hx hb dX8_works_16 (by decide) ?_
      refine lv_goto (tgt := 21) hx hb dX8_works_17 (by decide) ?_
      obtain ⟨rfl, rfl⟩ := bq_in2 (Option.some.inj hT21)
      exact K21 H locs ls w (lv_sub hl [] rfl)
abbrev wdX8_cycleTime (cI : ClassId) (a_t a_t_backs a_t_cuts a_t_outs a_t_pauses a_t_strokes a_t_trial u_t_rig u_t_text u_t_readOuts u_t_readBacks u_t_readPauses : Nat) (t : Nat → Int32) (t_backs : Nat → Int32) (t_cuts : Nat → Int32) (t_outs : Nat → Int32) (t_pauses : Nat → Int32) (t_strokes : Nat → Int32) (t_trial : Nat → Int32) : va_W := [(a_t, oX8 u_t_rig a_t_trial a_t_strokes a_t_outs a_t_backs a_t_pauses a_t_cuts u_t_text u_t_readOuts u_t_readBacks u_t_readPauses t), (a_t_backs, oA cI 16 t_backs), (a_t_cuts, oA cI 16 t_cuts), (a_t_outs, oA cI 16 t_outs), (a_t_pauses, oA cI 16 t_pauses), (a_t_strokes, oA cI 6 t_strokes), (a_t_trial, oA cI 140 t_trial)]
abbrev rmX8_cycleTime : Room := { frames := 6, cells := 0, slots := 0, locals := 151 }
theorem hd_X8_cycleTime : yX8_cycleTime.cls = RX8 ∧ yX8_cycleTime.cls ≠ "java/lang/invoke/MethodHandle" ∧ yX8_cycleTime.cls ≠ "java/lang/invoke/VarHandle" ∧ (parseMethodDescriptor yX8_cycleTime.desc).map (fun d => d.parameters.length) = some 1 := by decide +kernel
set_option maxHeartbeats 4000000 in
set_option maxRecDepth 100000 in
theorem kX8_cycleTime (l : Launch) (D : va_G) (cI cJ : ClassId) (a_t a_t_backs a_t_cuts a_t_outs a_t_pauses a_t_strokes a_t_trial u_t_rig u_t_text u_t_readOuts u_t_readBacks u_t_readPauses : Nat) (t t_backs t_cuts t_outs t_pauses t_strokes t_trial : Nat → Int32) (x1 : Int32) (r : Int32) (t_o : Nat → Int32) (t_trial_o : Nat → Int32) (hm : mX8_cycleTime t t_backs t_cuts t_outs t_pauses t_strokes t_trial x1 = some (r, t_o, t_trial_o)) : bq_M l D cI cJ yX8_cycleTime cX8_cycleTime 2 (some .int) rmX8_cycleTime [.ref a_t, .int x1] (wdX8_cycleTime cI a_t a_t_backs a_t_cuts a_t_outs a_t_pauses a_t_strokes a_t_trial u_t_rig u_t_text u_t_readOuts u_t_readBacks u_t_readPauses t t_backs t_cuts t_outs t_pauses t_strokes t_trial) (wdX8_cycleTime cI a_t a_t_backs a_t_cuts a_t_outs a_t_pauses a_t_strokes a_t_trial u_t_rig u_t_text u_t_readOuts u_t_readBacks u_t_readPauses t_o t_backs t_cuts t_outs t_pauses t_strokes t_trial_o) (some (.int r)) := by
  refine bq_start (by decide) (Nat.le_of_ble_eq_true rfl) ?_
  intro p e s m av9 below meth c A ls Q H locs E K w hA hr hk hn hQ hl
  have E : bq_E p m c cX8_cycleTime 2 s av9 RX8 := E
  have hx := E.1
  have hb := E.2.1
  have hl : lv_has ls 2 [(0, .ref a_t), (1, .int x1)] := hl
  unfold mX8_cycleTime at hm
  refine lv_aload_n hx hb dX8_cycleTime_0 rfl (lv_at hl 0 rfl) ?_
  refine lv_iload_n hx hb dX8_cycleTime_1 rfl (lv_at hl 1 rfl) ?_
  obtain ⟨v1, t_2, hC, hm⟩ := bq_b2_el hm
  refine bq_V (As := [.int x1]) (rest := []) (st1 := [.int v1]) (ws' := wdX8_cycleTime cI a_t a_t_backs a_t_cuts a_t_outs a_t_pauses a_t_strokes a_t_trial u_t_rig u_t_text u_t_readOuts u_t_readBacks u_t_readPauses t_2 t_backs t_cuts t_outs t_pauses t_strokes t_trial) E K w hA (kX8_lacks l D cI cJ a_t u_t_rig a_t_trial a_t_strokes a_t_outs a_t_backs a_t_pauses a_t_cuts u_t_text u_t_readOuts u_t_readBacks u_t_readPauses t x1 v1 t_2 hC) (bq_gV ml_X8_142 im_X8_lacks sl_X8_lacks in_X8 cd_X8_lacks) hd_X8_lacks ⟨Nat.le_of_ble_eq_true rfl, Nat.le_of_ble_eq_true rfl⟩ ⟨Nat.le_of_ble_eq_true rfl, Nat.le_of_ble_eq_true rfl⟩ ⟨[0], [1, 2, 3, 4, 5, 6], [6, 0, 1, 2, 3, 4, 5], rfl, rfl, rfl, rfl, rfl, rfl, rfl, rfl, rfl⟩ 0 rfl rfl rfl hl.1 rfl (Nat.le_of_ble_eq_true rfl) rfl dX8_cycleTime_2 (fun H locs w => bq_z ⟨rfl, rfl⟩ ?_)
  clear hC
  obtain ⟨v3, t_trial_4, hT17, hm⟩ := bq_b2_el hm
  have K17 : ∀ (H : Heap) (locs : List Loc) (ls : Array Slot), bq_w D A s.heap (wdX8_cycleTime cI a_t a_t_backs a_t_cuts a_t_outs a_t_pauses a_t_strokes a_t_trial u_t_rig u_t_text u_t_readOuts u_t_readBacks u_t_readPauses t_2 t_backs t_cuts t_outs t_pauses t_strokes t_trial_4) H locs → lv_has ls 2 [] → W p l e rmX8_cycleTime s m av9 below meth c H locs 0 0 Q (F0 m 17 ls [.int v3]) := by
    intro H locs ls w hl
    obtain ⟨rfl, rfl, rfl⟩ := bq_in3 (Option.some.inj hm)
    exact bq_iret E w hr hk dX8_cycleTime_17 hQ
  clear hm
  refine lv_if_eq (tgt := 12) hx hb dX8_cycleTime_5 (by decide) (fun hc => ?_) (fun hc => ?_)
  · replace hT17 := bq_t hc hT17
    clear hc
    refine lv_aload_n hx hb dX8_cycleTime_12 rfl (lv_at hl 0 rfl) ?_
    refine lv_iload_n hx hb dX8_cycleTime_13 rfl (lv_at hl 1 rfl) ?_
    obtain ⟨v5, t_trial_6, hC, hT17⟩ := bq_b2_el hT17
    refine bq_V (As := [.int x1]) (rest := []) (st1 := [.int v5]) (ws' := wdX8_cycleTime cI a_t a_t_backs a_t_cuts a_t_outs a_t_pauses a_t_strokes a_t_trial u_t_rig u_t_text u_t_readOuts u_t_readBacks u_t_readPauses t_2 t_backs t_cuts t_outs t_pauses t_strokes t_trial_6) E K w hA (kX8_cycleOf l D cI cJ a_t a_t_backs a_t_cuts a_t_outs a_t_pauses a_t_strokes a_t_trial u_t_rig u_t_text u_t_readOuts u_t_readBacks u_t_readPauses t_2 t_backs t_cuts t_outs t_pauses t_strokes t_trial x1 v5 t_trial_6 hC) (bq_gV ml_X8_184 im_X8_cycleOf sl_X8_cycleOf in_X8 cd_X8_cycleOf) hd_X8_cycleOf ⟨Nat.le_of_ble_eq_true rfl, Nat.le_of_ble_eq_true rfl⟩ ⟨Nat.le_of_ble_eq_true rfl, Nat.le_of_ble_eq_true rfl⟩ ⟨[0, 1, 2, 3, 4, 5, 6], [], [0, 1, 2, 3, 4, 5, 6], rfl, rfl, rfl, rfl, rfl, rfl, rfl, rfl, rfl⟩ 0 rfl rfl rfl hl.1 rfl (Nat.le_of_ble_eq_true rfl) rfl dX8_cycleTime_14 (fun H locs w => bq_z ⟨rfl, rfl⟩ ?_)
    clear hC
    obtain ⟨rfl, rfl⟩ := bq_in2 (Option.some.inj hT17)
    exact K17 H locs ls w (lv_sub hl [] rfl)
  · replace hT17 := bq_f hc hT17
    clear hc
    refine lv_iconst (v := 0) hx hb dX8_cycleTime_8 (by decide) ?_
    refine lv_goto (tgt := 17) hx hb dX8_cycleTime_9 (by decide) ?_
    obtain ⟨rfl, rfl⟩ := bq_in2 (Option.some.inj hT17)
    exact K17 H locs ls w (lv_sub hl [] rfl)
abbrev wdX8_cheapest (cI : ClassId) (a_t a_t_backs a_t_cuts a_t_outs a_t_pauses a_t_strokes a_t_trial u_t_rig u_t_text u_t_readOuts u_t_readBacks u_t_readPauses : Nat) (t : Nat → Int32) (t_backs : Nat → Int32) (t_cuts : Nat → Int32) (t_outs : Nat → Int32) (t_pauses : Nat → Int32) (t_strokes : Nat → Int32) (t_trial : Nat → Int32) : va_W := [(a_t, oX8 u_t_rig a_t_trial a_t_strokes a_t_outs a_t_backs a_t_pauses a_t_cuts u_t_text u_t_readOuts u_t_readBacks u_t_readPauses t), (a_t_backs, oA cI 16 t_backs), (a_t_cuts, oA cI 16 t_cuts), (a_t_outs, oA cI 16 t_outs), (a_t_pauses, oA cI 16 t_pauses), (a_t_strokes, oA cI 6 t_strokes), (a_t_trial, oA cI 140 t_trial)]
abbrev rmX8_cheapest : Room := { frames := 6, cells := 0, slots := 0, locals := 151 }
theorem hd_X8_cheapest : yX8_cheapest.cls = RX8 ∧ yX8_cheapest.cls ≠ "java/lang/invoke/MethodHandle" ∧ yX8_cheapest.cls ≠ "java/lang/invoke/VarHandle" ∧ (parseMethodDescriptor yX8_cheapest.desc).map (fun d => d.parameters.length) = some 0 := by decide +kernel
set_option maxHeartbeats 4000000 in
set_option maxRecDepth 100000 in
theorem kX8_cheapest (l : Launch) (D : va_G) (cI cJ : ClassId) (a_t a_t_backs a_t_cuts a_t_outs a_t_pauses a_t_strokes a_t_trial u_t_rig u_t_text u_t_readOuts u_t_readBacks u_t_readPauses : Nat) (t t_backs t_cuts t_outs t_pauses t_strokes t_trial : Nat → Int32) (r : Int32) (t_o : Nat → Int32) (t_trial_o : Nat → Int32) (hm : mX8_cheapest t t_backs t_cuts t_outs t_pauses t_strokes t_trial = some (r, t_o, t_trial_o)) : bq_M l D cI cJ yX8_cheapest cX8_cheapest 3 (some .int) rmX8_cheapest [.ref a_t] (wdX8_cheapest cI a_t a_t_backs a_t_cuts a_t_outs a_t_pauses a_t_strokes a_t_trial u_t_rig u_t_text u_t_readOuts u_t_readBacks u_t_readPauses t t_backs t_cuts t_outs t_pauses t_strokes t_trial) (wdX8_cheapest cI a_t a_t_backs a_t_cuts a_t_outs a_t_pauses a_t_strokes a_t_trial u_t_rig u_t_text u_t_readOuts u_t_readBacks u_t_readPauses t_o t_backs t_cuts t_outs t_pauses t_strokes t_trial_o) (some (.int r)) := by
  refine bq_start (by decide) (Nat.le_of_ble_eq_true rfl) ?_
  intro p e s m av9 below meth c A ls Q H locs E K w hA hr hk hn hQ hl
  have E : bq_E p m c cX8_cheapest 3 s av9 RX8 := E
  have hx := E.1
  have hb := E.2.1
  have hl : lv_has ls 3 [(0, .ref a_t)] := hl
  unfold mX8_cheapest at hm
  refine lv_aload_n hx hb dX8_cheapest_0 rfl (lv_at hl 0 rfl) ?_
  refine lv_iconst (v := 0) hx hb dX8_cheapest_1 (by decide) ?_
  obtain ⟨t_1, e9, hm⟩ := bq_let_el hm
  refine pt_X8_47 E K w 0 rfl (Nat.le_of_ble_eq_true rfl) dX8_cheapest_2 (fun H locs w => ?_)
  replace w : bq_w D A s.heap (wdX8_cheapest cI a_t a_t_backs a_t_cuts a_t_outs a_t_pauses a_t_strokes a_t_trial u_t_rig u_t_text u_t_readOuts u_t_readBacks u_t_readPauses t_1 t_backs t_cuts t_outs t_pauses t_strokes t_trial) H locs := by rw [e9]; exact w
  clear e9
  refine lv_aload_n hx hb dX8_cheapest_5 rfl (lv_at hl 0 rfl) ?_
  refine gt_X8_104 E K w 0 rfl rfl dX8_cheapest_6 ?_
  refine lv_if_ne (tgt := 18) hx hb dX8_cheapest_9 (by decide) (fun hc => ?_) (fun hc => ?_)
  · replace hm := bq_f hc hm
    clear hc
    refine lv_iconst (v := (-1)) hx hb dX8_cheapest_18 (by decide) ?_
    refine lv_istore_n (lv' := [(1, .int (-1)), (0, .ref a_t)]) hx hb dX8_cheapest_19 rfl hl (by decide) rfl (fun ls hl => ?_)
    refine lv_iconst (v := 0) hx hb dX8_cheapest_20 (by decide) ?_
    refine lv_istore_n (lv' := [(2, .int 0), (1, .int (-1)), (0, .ref a_t)]) hx hb dX8_cheapest_21 rfl hl (by decide) rfl (fun ls hl => ?_)
    obtain ⟨v5, t_trial_6, hL, hm⟩ := bq_b2_el hm
    obtain ⟨B, eB, nn, hL⟩ := bq_loop_B hL
    have X64 : ∀ (H : Heap) (locs : List Loc) (ls : Array Slot), bq_w D A s.heap (wdX8_cheapest cI a_t a_t_backs a_t_cuts a_t_outs a_t_pauses a_t_strokes a_t_trial u_t_rig u_t_text u_t_readOuts u_t_readBacks u_t_readPauses t_1 t_backs t_cuts t_outs t_pauses t_strokes t_trial_6) H locs → lv_has ls 3 [(1, .int v5)] → W p l e rmX8_cheapest s m av9 below meth c H locs 0 0 Q (F0 m 64 ls []) := by
      intro H locs ls w hl
      refine lv_iload_n hx hb dX8_cheapest_64 rfl (lv_at hl 0 rfl) ?_
      obtain ⟨rfl, rfl, rfl⟩ := bq_in3 (Option.some.inj hm)
      exact bq_iret E w hr hk dX8_cheapest_65 hQ
    clear hm
    have L22 : ∀ (nn : Nat) (i2 : Int32) (i3 : Int32) (t_trial_4 : Nat → Int32) (H : Heap) (locs : List Loc) (ls : Array Slot), bq_lp B nn (i2, i3, t_trial_4) = some (v5, t_trial_6) → bq_w D A s.heap (wdX8_cheapest cI a_t a_t_backs a_t_cuts a_t_outs a_t_pauses a_t_strokes a_t_trial u_t_rig u_t_text u_t_readOuts u_t_readBacks u_t_readPauses t_1 t_backs t_cuts t_outs t_pauses t_strokes t_trial_4) H locs → lv_has ls 3 [(0, .ref a_t), (1, .int i3), (2, .int i2)] → W p l e rmX8_cheapest s m av9 below meth c H locs 0 0 Q (F0 m 22 ls []) := by
      intro nn
      induction nn with
      | zero =>
        intro i2 i3 t_trial_4 H locs ls hL w hl
        exact bq_lp_0 hL
      | succ nn ih =>
        intro i2 i3 t_trial_4 H locs ls hL w hl
        obtain ⟨oo22, hT22, hR22⟩ := bq_lp_el hL
        clear hL
        replace hT22 := bq_u3_el eB hT22
        unfold bX8_cheapest_22 at hT22
        refine lv_iload_n hx hb dX8_cheapest_22 rfl (lv_at hl 2 rfl) ?_
        refine lv_iconst (v := 3) hx hb dX8_cheapest_23 (by decide) ?_
        refine lv_icmp_ge (tgt := 64) hx hb dX8_cheapest_24 (by decide) (fun hc => ?_) (fun hc => ?_)
        · replace hT22 := bq_t hc hT22
          clear hc
          obtain rfl := Option.some.inj hT22
          replace hR22 := bq_lk_r hR22
          obtain ⟨rfl, rfl⟩ := bq_in2 hR22
          exact X64 H locs ls w (lv_sub hl [1] rfl)
        · replace hT22 := bq_f hc hT22
          clear hc
          refine lv_aload_n hx hb dX8_cheapest_27 rfl (lv_at hl 0 rfl) ?_
          refine lv_iload_n hx hb dX8_cheapest_28 rfl (lv_at hl 2 rfl) ?_
          obtain ⟨v7, t_trial_8, hC, hT22⟩ := bq_b2_el hT22
          refine bq_V (As := [.int i2]) (rest := []) (st1 := [.int v7]) (ws' := wdX8_cheapest cI a_t a_t_backs a_t_cuts a_t_outs a_t_pauses a_t_strokes a_t_trial u_t_rig u_t_text u_t_readOuts u_t_readBacks u_t_readPauses t_1 t_backs t_cuts t_outs t_pauses t_strokes t_trial_8) E K w hA (kX8_cycleOf l D cI cJ a_t a_t_backs a_t_cuts a_t_outs a_t_pauses a_t_strokes a_t_trial u_t_rig u_t_text u_t_readOuts u_t_readBacks u_t_readPauses t_1 t_backs t_cuts t_outs t_pauses t_strokes t_trial_4 i2 v7 t_trial_8 hC) (bq_gV ml_X8_184 im_X8_cycleOf sl_X8_cycleOf in_X8 cd_X8_cycleOf) hd_X8_cycleOf ⟨Nat.le_of_ble_eq_true rfl, Nat.le_of_ble_eq_true rfl⟩ ⟨Nat.le_of_ble_eq_true rfl, Nat.le_of_ble_eq_true rfl⟩ ⟨[0, 1, 2, 3, 4, 5, 6], [], [0, 1, 2, 3, 4, 5, 6], rfl, rfl, rfl, rfl, rfl, rfl, rfl, rfl, rfl⟩ 0 rfl rfl rfl hl.1 rfl (Nat.le_of_ble_eq_true rfl) rfl dX8_cheapest_29 (fun H locs w => bq_z ⟨rfl, rfl⟩ ?_)
          clear hC
          obtain ⟨v9, hT57, hT22⟩ := bq_bd_el hT22
          have K57 : ∀ (H : Heap) (locs : List Loc) (ls : Array Slot), bq_w D A s.heap (wdX8_cheapest cI a_t a_t_backs a_t_cuts a_t_outs a_t_pauses a_t_strokes a_t_trial u_t_rig u_t_text u_t_readOuts u_t_readBacks u_t_readPauses t_1 t_backs t_cuts t_outs t_pauses t_strokes t_trial_8) H locs → lv_has ls 3 [(0, .ref a_t), (2, .int i2)] → W p l e rmX8_cheapest s m av9 below meth c H locs 0 0 Q (F0 m 57 ls [.int v9]) := by
            intro H locs ls w hl
            refine lv_istore_n (lv' := [(1, .int v9), (0, .ref a_t), (2, .int i2)]) hx hb dX8_cheapest_57 rfl hl (by decide) rfl (fun ls hl => ?_)
            obtain ⟨v12, e9, hT22⟩ := bq_let_el hT22
            refine lv_iinc (v := v12) (lv' := [(2, .int v12), (1, .int v9), (0, .ref a_t)]) hx hb dX8_cheapest_58 hl (k := 2) rfl (by rw [e9]; rfl) (by decide) rfl (fun ls hl => ?_)
            clear e9
            refine lv_goto (tgt := 22) hx hb dX8_cheapest_61 (by decide) ?_
            obtain rfl := Option.some.inj hT22
            exact ih v12 v9 t_trial_8 H locs ls hR22 w (lv_sub hl [2, 1, 0] rfl)
          clear hT22
          refine lv_if_lt (tgt := 56) hx hb dX8_cheapest_32 (by decide) (fun hc => ?_) (fun hc => ?_)
          · replace hT57 := bq_t hc hT57
            clear hc
            refine lv_iload_n hx hb dX8_cheapest_56 rfl (lv_at hl 1 rfl) ?_
            obtain rfl := Option.some.inj hT57
            exact K57 H locs ls w (lv_sub hl [0, 2] rfl)
          · replace hT57 := bq_f hc hT57
            clear hc
            refine lv_iload_n hx hb dX8_cheapest_35 rfl (lv_at hl 1 rfl) ?_
            refine lv_if_lt (tgt := 52) hx hb dX8_cheapest_36 (by decide) (fun hc => ?_) (fun hc => ?_)
            · replace hT57 := bq_t hc hT57
              clear hc
              refine lv_iload_n hx hb dX8_cheapest_52 rfl (lv_at hl 2 rfl) ?_
              refine lv_goto (tgt := 57) hx hb dX8_cheapest_53 (by decide) ?_
              obtain rfl := Option.some.inj hT57
              exact K57 H locs ls w (lv_sub hl [0, 2] rfl)
            · replace hT57 := bq_f hc hT57
              clear hc
              refine lv_aload_n hx hb dX8_cheapest_39 rfl (lv_at hl 0 rfl) ?_
              refine lv_iload_n hx hb dX8_cheapest_40 rfl (lv_at hl 2 rfl) ?_
              obtain ⟨v10, hC, hT57⟩ := bq_bd_el hT57
              refine bq_V (As := [.int i2]) (rest := []) (st1 := [.int v10]) (ws' := wdX8_cheapest cI a_t a_t_backs a_t_cuts a_t_outs a_t_pauses a_t_strokes a_t_trial u_t_rig u_t_text u_t_readOuts u_t_readBacks u_t_readPauses t_1 t_backs t_cuts t_outs t_pauses t_strokes t_trial_8) E K w hA (kX8_valvesOf l D cI cJ a_t a_t_outs u_t_rig a_t_trial a_t_strokes a_t_backs a_t_pauses a_t_cuts u_t_text u_t_readOuts u_t_readBacks u_t_readPauses t_1 t_outs i2 v10 hC) (bq_gV ml_X8_145 im_X8_valvesOf sl_X8_valvesOf in_X8 cd_X8_valvesOf) hd_X8_valvesOf ⟨Nat.le_of_ble_eq_true rfl, Nat.le_of_ble_eq_true rfl⟩ ⟨Nat.le_of_ble_eq_true rfl, Nat.le_of_ble_eq_true rfl⟩ ⟨[0, 3], [1, 2, 4, 5, 6], [5, 0, 1, 6, 2, 3, 4], rfl, rfl, rfl, rfl, rfl, rfl, rfl, rfl, rfl⟩ 0 rfl rfl rfl hl.1 rfl (Nat.le_of_ble_eq_true rfl) rfl dX8_cheapest_41 (fun H locs w => bq_z ⟨rfl, rfl⟩ ?_)
              clear hC
              refine lv_aload_n hx hb dX8_cheapest_44 rfl (lv_at hl 0 rfl) ?_
              refine lv_iload_n hx hb dX8_cheapest_45 rfl (lv_at hl 1 rfl) ?_
              obtain ⟨v11, hC, hT57⟩ := bq_bd_el hT57
              refine bq_V (As := [.int i3]) (rest := [.int v10]) (st1 := [.int v11, .int v10]) (ws' := wdX8_cheapest cI a_t a_t_backs a_t_cuts a_t_outs a_t_pauses a_t_strokes a_t_trial u_t_rig u_t_text u_t_readOuts u_t_readBacks u_t_readPauses t_1 t_backs t_cuts t_outs t_pauses t_strokes t_trial_8) E K w hA (kX8_valvesOf l D cI cJ a_t a_t_outs u_t_rig a_t_trial a_t_strokes a_t_backs a_t_pauses a_t_cuts u_t_text u_t_readOuts u_t_readBacks u_t_readPauses t_1 t_outs i3 v11 hC) (bq_gV ml_X8_145 im_X8_valvesOf sl_X8_valvesOf in_X8 cd_X8_valvesOf) hd_X8_valvesOf ⟨Nat.le_of_ble_eq_true rfl, Nat.le_of_ble_eq_true rfl⟩ ⟨Nat.le_of_ble_eq_true rfl, Nat.le_of_ble_eq_true rfl⟩ ⟨[0, 3], [1, 2, 4, 5, 6], [5, 0, 1, 6, 2, 3, 4], rfl, rfl, rfl, rfl, rfl, rfl, rfl, rfl, rfl⟩ 0 rfl rfl rfl hl.1 rfl (Nat.le_of_ble_eq_true rfl) rfl dX8_cheapest_46 (fun H locs w => bq_z ⟨rfl, rfl⟩ ?_)
              clear hC
              refine lv_icmp_ge (tgt := 56) hx hb dX8_cheapest_49 (by decide) (fun hc => ?_) (fun hc => ?_)
              · replace hT57 := bq_t hc hT57
                clear hc
                refine lv_iload_n hx hb dX8_cheapest_56 rfl (lv_at hl 1 rfl) ?_
                obtain rfl := Option.some.inj hT57
                exact K57 H locs ls w (lv_sub hl [0, 2] rfl)
              · replace hT57 := bq_f hc hT57
                clear hc
                refine lv_iload_n hx hb dX8_cheapest_52 rfl (lv_at hl 2 rfl) ?_
                refine lv_goto (tgt := 57) hx hb dX8_cheapest_53 (by decide) ?_
                obtain rfl := Option.some.inj hT57
                exact K57 H locs ls w (lv_sub hl [0, 2] rfl)
    exact L22 nn 0 (-1) t_trial H locs ls hL w (lv_sub hl [2, 1, 0] rfl)
  · replace hm := bq_t hc hm
    clear hc
    refine lv_aload_n hx hb dX8_cheapest_12 rfl (lv_at hl 0 rfl) ?_
    refine lv_iconst (v := 1) hx hb dX8_cheapest_13 (by decide) ?_
    obtain ⟨v13, t_14, hC, hm⟩ := bq_b2_el hm
    refine bq_V (As := [.int 1]) (rest := []) (st1 := [.int v13]) (ws' := wdX8_cheapest cI a_t a_t_backs a_t_cuts a_t_outs a_t_pauses a_t_strokes a_t_trial u_t_rig u_t_text u_t_readOuts u_t_readBacks u_t_readPauses t_14 t_backs t_cuts t_outs t_pauses t_strokes t_trial) E K w hA (kX8_fails l D cI cJ a_t u_t_rig a_t_trial a_t_strokes a_t_outs a_t_backs a_t_pauses a_t_cuts u_t_text u_t_readOuts u_t_readBacks u_t_readPauses t_1 1 v13 t_14 hC) (bq_gV ml_X8_55 im_X8_fails sl_X8_fails in_X8 cd_X8_fails) hd_X8_fails ⟨Nat.le_of_ble_eq_true rfl, Nat.le_of_ble_eq_true rfl⟩ ⟨Nat.le_of_ble_eq_true rfl, Nat.le_of_ble_eq_true rfl⟩ ⟨[0], [1, 2, 3, 4, 5, 6], [6, 0, 1, 2, 3, 4, 5], rfl, rfl, rfl, rfl, rfl, rfl, rfl, rfl, rfl⟩ 0 rfl rfl rfl hl.1 rfl (Nat.le_of_ble_eq_true rfl) rfl dX8_cheapest_14 (fun H locs w => bq_z ⟨rfl, rfl⟩ ?_)
    clear hC
    obtain ⟨rfl, rfl, rfl⟩ := bq_in3 (Option.some.inj hm)
    exact bq_iret E w hr hk dX8_cheapest_17 hQ
abbrev wdX8_effect (cI : ClassId) (a_t a_t_backs a_t_cuts a_t_outs a_t_pauses a_t_rig a_t_strokes a_t_trial u_t_text u_t_readOuts u_t_readBacks u_t_readPauses : Nat) (t : Nat → Int32) (t_backs : Nat → Int32) (t_cuts : Nat → Int32) (t_outs : Nat → Int32) (t_pauses : Nat → Int32) (t_rig : Nat → Int32) (t_strokes : Nat → Int32) (t_trial : Nat → Int32) : va_W := [(a_t, oX8 a_t_rig a_t_trial a_t_strokes a_t_outs a_t_backs a_t_pauses a_t_cuts u_t_text u_t_readOuts u_t_readBacks u_t_readPauses t), (a_t_backs, oA cI 16 t_backs), (a_t_cuts, oA cI 16 t_cuts), (a_t_outs, oA cI 16 t_outs), (a_t_pauses, oA cI 16 t_pauses), (a_t_rig, oA cI 140 t_rig), (a_t_strokes, oA cI 6 t_strokes), (a_t_trial, oA cI 140 t_trial)]
abbrev rmX8_effect : Room := { frames := 5, cells := 0, slots := 0, locals := 130 }
theorem hd_X8_effect : yX8_effect.cls = RX8 ∧ yX8_effect.cls ≠ "java/lang/invoke/MethodHandle" ∧ yX8_effect.cls ≠ "java/lang/invoke/VarHandle" ∧ (parseMethodDescriptor yX8_effect.desc).map (fun d => d.parameters.length) = some 3 := by decide +kernel
set_option maxHeartbeats 4000000 in
set_option maxRecDepth 100000 in
theorem kX8_effect (l : Launch) (D : va_G) (cI cJ : ClassId) (a_t a_t_backs a_t_cuts a_t_outs a_t_pauses a_t_rig a_t_strokes a_t_trial u_t_text u_t_readOuts u_t_readBacks u_t_readPauses : Nat) (t t_backs t_cuts t_outs t_pauses t_rig t_strokes t_trial : Nat → Int32) (x1 : Int32) (x2 : Int32) (x3 : Int32) (r : Int32) (t_o : Nat → Int32) (t_trial_o : Nat → Int32) (hm : mX8_effect t t_backs t_cuts t_outs t_pauses t_rig t_strokes t_trial x1 x2 x3 = some (r, t_o, t_trial_o)) : bq_M l D cI cJ yX8_effect cX8_effect 4 (some .int) rmX8_effect [.ref a_t, .int x1, .int x2, .int x3] (wdX8_effect cI a_t a_t_backs a_t_cuts a_t_outs a_t_pauses a_t_rig a_t_strokes a_t_trial u_t_text u_t_readOuts u_t_readBacks u_t_readPauses t t_backs t_cuts t_outs t_pauses t_rig t_strokes t_trial) (wdX8_effect cI a_t a_t_backs a_t_cuts a_t_outs a_t_pauses a_t_rig a_t_strokes a_t_trial u_t_text u_t_readOuts u_t_readBacks u_t_readPauses t_o t_backs t_cuts t_outs t_pauses t_rig t_strokes t_trial_o) (some (.int r)) := by
  refine bq_start (by decide) (Nat.le_of_ble_eq_true rfl) ?_
  intro p e s m av9 below meth c A ls Q H locs E K w hA hr hk hn hQ hl
  have E : bq_E p m c cX8_effect 4 s av9 RX8 := E
  have hx := E.1
  have hb := E.2.1
  have hl : lv_has ls 4 [(0, .ref a_t), (1, .int x1), (2, .int x2), (3, .int x3)] := hl
  unfold mX8_effect at hm
  refine lv_aload_n hx hb dX8_effect_0 rfl (lv_at hl 0 rfl) ?_
  refine lv_iconst (v := 0) hx hb dX8_effect_1 (by decide) ?_
  obtain ⟨t_1, e9, hm⟩ := bq_let_el hm
  refine pt_X8_47 E K w 0 rfl (Nat.le_of_ble_eq_true rfl) dX8_effect_2 (fun H locs w => ?_)
  replace w : bq_w D A s.heap (wdX8_effect cI a_t a_t_backs a_t_cuts a_t_outs a_t_pauses a_t_rig a_t_strokes a_t_trial u_t_text u_t_readOuts u_t_readBacks u_t_readPauses t_1 t_backs t_cuts t_outs t_pauses t_rig t_strokes t_trial) H locs := by rw [e9]; exact w
  clear e9
  refine lv_iload_n hx hb dX8_effect_5 rfl (lv_at hl 1 rfl) ?_
  refine lv_iconst (v := 0) hx hb dX8_effect_6 (by decide) ?_
  refine lv_iconst (v := 5) hx hb dX8_effect_7 (by decide) ?_
  obtain ⟨v2, hC, hm⟩ := bq_bd_el hm
  refine bq_S0 (As := [.int x1, .int 0, .int 5]) (rest := []) (st1 := [.int v2]) E K w hA (kX8_in l D cI cJ x1 0 5 v2 hC) cd_X8_in ml_X8_51 in_X8 st_X8_in hs_X8_in ⟨Nat.le_of_ble_eq_true rfl, Nat.le_of_ble_eq_true rfl⟩ ⟨Nat.le_of_ble_eq_true rfl, Nat.le_of_ble_eq_true rfl⟩ rfl hl.1 rfl (Nat.le_of_ble_eq_true rfl) rfl dX8_effect_8 (fun H locs w => bq_z ⟨rfl, rfl⟩ ?_)
  clear hC
  refine lv_if_ne (tgt := 20) hx hb dX8_effect_11 (by decide) (fun hc => ?_) (fun hc => ?_)
  · replace hm := bq_f hc hm
    clear hc
    refine lv_iload_n hx hb dX8_effect_20 rfl (lv_at hl 2 rfl) ?_
    refine lv_iconst (v := 0) hx hb dX8_effect_21 (by decide) ?_
    refine lv_iconst (v := 4) hx hb dX8_effect_22 (by decide) ?_
    obtain ⟨v3, hC, hm⟩ := bq_bd_el hm
    refine bq_S0 (As := [.int x2, .int 0, .int 4]) (rest := []) (st1 := [.int v3]) E K w hA (kX8_in l D cI cJ x2 0 4 v3 hC) cd_X8_in ml_X8_51 in_X8 st_X8_in hs_X8_in ⟨Nat.le_of_ble_eq_true rfl, Nat.le_of_ble_eq_true rfl⟩ ⟨Nat.le_of_ble_eq_true rfl, Nat.le_of_ble_eq_true rfl⟩ rfl hl.1 rfl (Nat.le_of_ble_eq_true rfl) rfl dX8_effect_23 (fun H locs w => bq_z ⟨rfl, rfl⟩ ?_)
    clear hC
    refine lv_if_eq (tgt := 40) hx hb dX8_effect_26 (by decide) (fun hc => ?_) (fun hc => ?_)
    · replace hm := bq_t hc hm
      clear hc
      refine lv_aload_n hx hb dX8_effect_40 rfl (lv_at hl 0 rfl) ?_
      refine lv_iconst (v := 2) hx hb dX8_effect_41 (by decide) ?_
      obtain ⟨v4, t_5, hC, hm⟩ := bq_b2_el hm
      refine bq_V (As := [.int 2]) (rest := []) (st1 := [.int v4]) (ws' := wdX8_effect cI a_t a_t_backs a_t_cuts a_t_outs a_t_pauses a_t_rig a_t_strokes a_t_trial u_t_text u_t_readOuts u_t_readBacks u_t_readPauses t_5 t_backs t_cuts t_outs t_pauses t_rig t_strokes t_trial) E K w hA (kX8_fails l D cI cJ a_t a_t_rig a_t_trial a_t_strokes a_t_outs a_t_backs a_t_pauses a_t_cuts u_t_text u_t_readOuts u_t_readBacks u_t_readPauses t_1 2 v4 t_5 hC) (bq_gV ml_X8_55 im_X8_fails sl_X8_fails in_X8 cd_X8_fails) hd_X8_fails ⟨Nat.le_of_ble_eq_true rfl, Nat.le_of_ble_eq_true rfl⟩ ⟨Nat.le_of_ble_eq_true rfl, Nat.le_of_ble_eq_true rfl⟩ ⟨[0], [1, 2, 3, 4, 5, 6, 7], [7, 0, 1, 2, 3, 4, 5, 6], rfl, rfl, rfl, rfl, rfl, rfl, rfl, rfl, rfl⟩ 0 rfl rfl rfl hl.1 rfl (Nat.le_of_ble_eq_true rfl) rfl dX8_effect_42 (fun H locs w => bq_z ⟨rfl, rfl⟩ ?_)
      clear hC
      obtain ⟨rfl, rfl, rfl⟩ := bq_in3 (Option.some.inj hm)
      exact bq_iret E w hr hk dX8_effect_45 hQ
    · replace hm := bq_f hc hm
      clear hc
      refine lv_iload_n hx hb dX8_effect_29 rfl (lv_at hl 3 rfl) ?_
      refine lv_iconst (v := 0) hx hb dX8_effect_30 (by decide) ?_
      refine lv_sipush (v := 2000) hx hb dX8_effect_31 (by decide) ?_
      obtain ⟨v6, hC, hm⟩ := bq_bd_el hm
      refine bq_S0 (As := [.int x3, .int 0, .int 2000]) (rest := []) (st1 := [.int v6]) E K w hA (kX8_in l D cI cJ x3 0 2000 v6 hC) cd_X8_in ml_X8_51 in_X8 st_X8_in hs_X8_in ⟨Nat.le_of_ble_eq_true rfl, Nat.le_of_ble_eq_true rfl⟩ ⟨Nat.le_of_ble_eq_true rfl, Nat.le_of_ble_eq_true rfl⟩ rfl hl.1 rfl (Nat.le_of_ble_eq_true rfl) rfl dX8_effect_34 (fun H locs w => bq_z ⟨rfl, rfl⟩ ?_)
      clear hC
      refine lv_if_ne (tgt := 46) hx hb dX8_effect_37 (by decide) (fun hc => ?_) (fun hc => ?_)
      · replace hm := bq_f hc hm
        clear hc
        refine lv_aload_n hx hb dX8_effect_46 rfl (lv_at hl 0 rfl) ?_
        refine gt_X8_104 E K w 0 rfl rfl dX8_effect_47 ?_
        refine lv_if_ne (tgt := 59) hx hb dX8_effect_50 (by decide) (fun hc => ?_) (fun hc => ?_)
        · replace hm := bq_f hc hm
          clear hc
          refine lv_aload_n hx hb dX8_effect_59 rfl (lv_at hl 0 rfl) ?_
          refine lv_aload_n hx hb dX8_effect_60 rfl (lv_at hl 0 rfl) ?_
          refine gt_X8_7 E K w 0 rfl rfl dX8_effect_61 ?_
          refine lv_iconst (v := 1) hx hb dX8_effect_64 (by decide) ?_
          refine bq_aldk E K w 5 rfl 1 (by decide) (by unfold vp_in; decide) dX8_effect_65 ?_
          refine lv_iload_n hx hb dX8_effect_66 rfl (lv_at hl 1 rfl) ?_
          refine lv_iload_n hx hb dX8_effect_67 rfl (lv_at hl 2 rfl) ?_
          refine lv_iload_n hx hb dX8_effect_68 rfl (lv_at hl 3 rfl) ?_
          refine lv_iconst (v := 0) hx hb dX8_effect_69 (by decide) ?_
          obtain ⟨t_trial_7, hC, hm⟩ := bq_bd_el hm
          refine bq_V (As := [.int (t_rig 1), .int x1, .int x2, .int x3, .int 0]) (rest := []) (st1 := []) (ws' := wdX8_effect cI a_t a_t_backs a_t_cuts a_t_outs a_t_pauses a_t_rig a_t_strokes a_t_trial u_t_text u_t_readOuts u_t_readBacks u_t_readPauses t_1 t_backs t_cuts t_outs t_pauses t_rig t_strokes t_trial_7) E K w hA (kX8_tries l D cI cJ a_t a_t_backs a_t_cuts a_t_outs a_t_pauses a_t_strokes a_t_trial a_t_rig u_t_text u_t_readOuts u_t_readBacks u_t_readPauses t_1 t_backs t_cuts t_outs t_pauses t_strokes t_trial (t_rig 1) x1 x2 x3 0 t_trial_7 hC) (bq_gV ml_X8_180 im_X8_tries sl_X8_tries in_X8 cd_X8_tries) hd_X8_tries ⟨Nat.le_of_ble_eq_true rfl, Nat.le_of_ble_eq_true rfl⟩ ⟨Nat.le_of_ble_eq_true rfl, Nat.le_of_ble_eq_true rfl⟩ ⟨[0, 1, 2, 3, 4, 6, 7], [5], [1, 2, 3, 4, 5, 0, 6, 7], rfl, rfl, rfl, rfl, rfl, rfl, rfl, rfl, rfl⟩ 0 rfl rfl rfl hl.1 rfl (Nat.le_of_ble_eq_true rfl) rfl dX8_effect_70 (fun H locs w => bq_z ⟨rfl, rfl⟩ ?_)
          clear hC
          refine lv_aload_n hx hb dX8_effect_73 rfl (lv_at hl 0 rfl) ?_
          refine gt_X8_13 E K w 0 rfl rfl dX8_effect_74 ?_
          refine lv_iconst (v := 5) hx hb dX8_effect_77 (by decide) ?_
          refine bq_aldk E K w 7 rfl 5 (by decide) (by unfold vp_in; decide) dX8_effect_78 ?_
          obtain ⟨rfl, rfl, rfl⟩ := bq_in3 (Option.some.inj hm)
          exact bq_iret E w hr hk dX8_effect_79 hQ
        · replace hm := bq_t hc hm
          clear hc
          refine lv_aload_n hx hb dX8_effect_53 rfl (lv_at hl 0 rfl) ?_
          refine lv_iconst (v := 3) hx hb dX8_effect_54 (by decide) ?_
          obtain ⟨v8, t_9, hC, hm⟩ := bq_b2_el hm
          refine bq_V (As := [.int 3]) (rest := []) (st1 := [.int v8]) (ws' := wdX8_effect cI a_t a_t_backs a_t_cuts a_t_outs a_t_pauses a_t_rig a_t_strokes a_t_trial u_t_text u_t_readOuts u_t_readBacks u_t_readPauses t_9 t_backs t_cuts t_outs t_pauses t_rig t_strokes t_trial) E K w hA (kX8_fails l D cI cJ a_t a_t_rig a_t_trial a_t_strokes a_t_outs a_t_backs a_t_pauses a_t_cuts u_t_text u_t_readOuts u_t_readBacks u_t_readPauses t_1 3 v8 t_9 hC) (bq_gV ml_X8_55 im_X8_fails sl_X8_fails in_X8 cd_X8_fails) hd_X8_fails ⟨Nat.le_of_ble_eq_true rfl, Nat.le_of_ble_eq_true rfl⟩ ⟨Nat.le_of_ble_eq_true rfl, Nat.le_of_ble_eq_true rfl⟩ ⟨[0], [1, 2, 3, 4, 5, 6, 7], [7, 0, 1, 2, 3, 4, 5, 6], rfl, rfl, rfl, rfl, rfl, rfl, rfl, rfl, rfl⟩ 0 rfl rfl rfl hl.1 rfl (Nat.le_of_ble_eq_true rfl) rfl dX8_effect_55 (fun H locs w => bq_z ⟨rfl, rfl⟩ ?_)
          clear hC
          obtain ⟨rfl, rfl, rfl⟩ := bq_in3 (Option.some.inj hm)
          exact bq_iret E w hr hk dX8_effect_58 hQ
      · replace hm := bq_t hc hm
        clear hc
        refine lv_aload_n hx hb dX8_effect_40 rfl (lv_at hl 0 rfl) ?_
        refine lv_iconst (v := 2) hx hb dX8_effect_41 (by decide) ?_
        obtain ⟨v10, t_11, hC, hm⟩ := bq_b2_el hm
        refine bq_V (As := [.int 2]) (rest := []) (st1 := [.int v10]) (ws' := wdX8_effect cI a_t a_t_backs a_t_cuts a_t_outs a_t_pauses a_t_rig a_t_strokes a_t_trial u_t_text u_t_readOuts u_t_readBacks u_t_readPauses t_11 t_backs t_cuts t_outs t_pauses t_rig t_strokes t_trial) E K w hA (kX8_fails l D cI cJ a_t a_t_rig a_t_trial a_t_strokes a_t_outs a_t_backs a_t_pauses a_t_cuts u_t_text u_t_readOuts u_t_readBacks u_t_readPauses t_1 2 v10 t_11 hC) (bq_gV ml_X8_55 im_X8_fails sl_X8_fails in_X8 cd_X8_fails) hd_X8_fails ⟨Nat.le_of_ble_eq_true rfl, Nat.le_of_ble_eq_true rfl⟩ ⟨Nat.le_of_ble_eq_true rfl, Nat.le_of_ble_eq_true rfl⟩ ⟨[0], [1, 2, 3, 4, 5, 6, 7], [7, 0, 1, 2, 3, 4, 5, 6], rfl, rfl, rfl, rfl, rfl, rfl, rfl, rfl, rfl⟩ 0 rfl rfl rfl hl.1 rfl (Nat.le_of_ble_eq_true rfl) rfl dX8_effect_42 (fun H locs w => bq_z ⟨rfl, rfl⟩ ?_)
        clear hC
        obtain ⟨rfl, rfl, rfl⟩ := bq_in3 (Option.some.inj hm)
        exact bq_iret E w hr hk dX8_effect_45 hQ
  · replace hm := bq_t hc hm
    clear hc
    refine lv_aload_n hx hb dX8_effect_14 rfl (lv_at hl 0 rfl) ?_
    refine lv_iconst (v := 1) hx hb dX8_effect_15 (by decide) ?_
    obtain ⟨v12, t_13, hC, hm⟩ := bq_b2_el hm
    refine bq_V (As := [.int 1]) (rest := []) (st1 := [.int v12]) (ws' := wdX8_effect cI a_t a_t_backs a_t_cuts a_t_outs a_t_pauses a_t_rig a_t_strokes a_t_trial u_t_text u_t_readOuts u_t_readBacks u_t_readPauses t_13 t_backs t_cuts t_outs t_pauses t_rig t_strokes t_trial) E K w hA (kX8_fails l D cI cJ a_t a_t_rig a_t_trial a_t_strokes a_t_outs a_t_backs a_t_pauses a_t_cuts u_t_text u_t_readOuts u_t_readBacks u_t_readPauses t_1 1 v12 t_13 hC) (bq_gV ml_X8_55 im_X8_fails sl_X8_fails in_X8 cd_X8_fails) hd_X8_fails ⟨Nat.le_of_ble_eq_true rfl, Nat.le_of_ble_eq_true rfl⟩ ⟨Nat.le_of_ble_eq_true rfl, Nat.le_of_ble_eq_true rfl⟩ ⟨[0], [1, 2, 3, 4, 5, 6, 7], [7, 0, 1, 2, 3, 4, 5, 6], rfl, rfl, rfl, rfl, rfl, rfl, rfl, rfl, rfl⟩ 0 rfl rfl rfl hl.1 rfl (Nat.le_of_ble_eq_true rfl) rfl dX8_effect_16 (fun H locs w => bq_z ⟨rfl, rfl⟩ ?_)
    clear hC
    obtain ⟨rfl, rfl, rfl⟩ := bq_in3 (Option.some.inj hm)
    exact bq_iret E w hr hk dX8_effect_19 hQ
abbrev wdX8_explains (cI : ClassId) (a_t a_t_backs a_t_cuts a_t_outs a_t_pauses a_t_rig a_t_strokes a_t_trial u_t_text u_t_readOuts u_t_readBacks u_t_readPauses : Nat) (t : Nat → Int32) (t_backs : Nat → Int32) (t_cuts : Nat → Int32) (t_outs : Nat → Int32) (t_pauses : Nat → Int32) (t_rig : Nat → Int32) (t_strokes : Nat → Int32) (t_trial : Nat → Int32) : va_W := [(a_t, oX8 a_t_rig a_t_trial a_t_strokes a_t_outs a_t_backs a_t_pauses a_t_cuts u_t_text u_t_readOuts u_t_readBacks u_t_readPauses t), (a_t_backs, oA cI 16 t_backs), (a_t_cuts, oA cI 16 t_cuts), (a_t_outs, oA cI 16 t_outs), (a_t_pauses, oA cI 16 t_pauses), (a_t_rig, oA cI 140 t_rig), (a_t_strokes, oA cI 6 t_strokes), (a_t_trial, oA cI 140 t_trial)]
abbrev rmX8_explains : Room := { frames := 5, cells := 0, slots := 0, locals := 130 }
theorem hd_X8_explains : yX8_explains.cls = RX8 ∧ yX8_explains.cls ≠ "java/lang/invoke/MethodHandle" ∧ yX8_explains.cls ≠ "java/lang/invoke/VarHandle" ∧ (parseMethodDescriptor yX8_explains.desc).map (fun d => d.parameters.length) = some 2 := by decide +kernel
set_option maxHeartbeats 4000000 in
set_option maxRecDepth 100000 in
theorem kX8_explains (l : Launch) (D : va_G) (cI cJ : ClassId) (a_t a_t_backs a_t_cuts a_t_outs a_t_pauses a_t_rig a_t_strokes a_t_trial u_t_text u_t_readOuts u_t_readBacks u_t_readPauses : Nat) (t t_backs t_cuts t_outs t_pauses t_rig t_strokes t_trial : Nat → Int32) (x1 : Int32) (x2 : Int32) (r : Int32) (t_trial_o : Nat → Int32) (hm : mX8_explains t t_backs t_cuts t_outs t_pauses t_rig t_strokes t_trial x1 x2 = some (r, t_trial_o)) : bq_M l D cI cJ yX8_explains cX8_explains 5 (some .boolean) rmX8_explains [.ref a_t, .int x1, .int x2] (wdX8_explains cI a_t a_t_backs a_t_cuts a_t_outs a_t_pauses a_t_rig a_t_strokes a_t_trial u_t_text u_t_readOuts u_t_readBacks u_t_readPauses t t_backs t_cuts t_outs t_pauses t_rig t_strokes t_trial) (wdX8_explains cI a_t a_t_backs a_t_cuts a_t_outs a_t_pauses a_t_rig a_t_strokes a_t_trial u_t_text u_t_readOuts u_t_readBacks u_t_readPauses t t_backs t_cuts t_outs t_pauses t_rig t_strokes t_trial_o) (some (.int r)) := by
  refine bq_start (by decide) (Nat.le_of_ble_eq_true rfl) ?_
  intro p e s m av9 below meth c A ls Q H locs E K w hA hr hk hn hQ hl
  have E : bq_E p m c cX8_explains 5 s av9 RX8 := E
  have hx := E.1
  have hb := E.2.1
  have hl : lv_has ls 5 [(0, .ref a_t), (1, .int x1), (2, .int x2)] := hl
  unfold mX8_explains at hm
  refine lv_aload_n hx hb dX8_explains_0 rfl (lv_at hl 0 rfl) ?_
  refine lv_aload_n hx hb dX8_explains_1 rfl (lv_at hl 0 rfl) ?_
  refine gt_X8_7 E K w 0 rfl rfl dX8_explains_2 ?_
  refine lv_iconst (v := 1) hx hb dX8_explains_5 (by decide) ?_
  refine bq_aldk E K w 5 rfl 1 (by decide) (by unfold vp_in; decide) dX8_explains_6 ?_
  refine lv_iload_n hx hb dX8_explains_7 rfl (lv_at hl 1 rfl) ?_
  refine lv_iload_n hx hb dX8_explains_8 rfl (lv_at hl 2 rfl) ?_
  refine lv_aload_n hx hb dX8_explains_9 rfl (lv_at hl 0 rfl) ?_
  refine gt_X8_7 E K w 0 rfl rfl dX8_explains_10 ?_
  refine lv_iconst (v := 0) hx hb dX8_explains_13 (by decide) ?_
  refine bq_aldk E K w 5 rfl 0 (by decide) (by unfold vp_in; decide) dX8_explains_14 ?_
  refine lv_sipush (v := 5000) hx hb dX8_explains_15 (by decide) ?_
  obtain ⟨v1, hT33, hm⟩ := bq_let_el hm
  have K33 : ∀ (H : Heap) (locs : List Loc) (ls : Array Slot), bq_w D A s.heap (wdX8_explains cI a_t a_t_backs a_t_cuts a_t_outs a_t_pauses a_t_rig a_t_strokes a_t_trial u_t_text u_t_readOuts u_t_readBacks u_t_readPauses t t_backs t_cuts t_outs t_pauses t_rig t_strokes t_trial) H locs → lv_has ls 5 [(0, .ref a_t)] → W p l e rmX8_explains s m av9 below meth c H locs 0 0 Q (F0 m 33 ls [.int v1, .int x2, .int x1, .int (t_rig 1), .ref a_t]) := by
    intro H locs ls w hl
    refine lv_iconst (v := 0) hx hb dX8_explains_33 (by decide) ?_
    obtain ⟨t_trial_2, hC, hm⟩ := bq_bd_el hm
    refine bq_V (As := [.int (t_rig 1), .int x1, .int x2, .int v1, .int 0]) (rest := []) (st1 := []) (ws' := wdX8_explains cI a_t a_t_backs a_t_cuts a_t_outs a_t_pauses a_t_rig a_t_strokes a_t_trial u_t_text u_t_readOuts u_t_readBacks u_t_readPauses t t_backs t_cuts t_outs t_pauses t_rig t_strokes t_trial_2) E K w hA (kX8_tries l D cI cJ a_t a_t_backs a_t_cuts a_t_outs a_t_pauses a_t_strokes a_t_trial a_t_rig u_t_text u_t_readOuts u_t_readBacks u_t_readPauses t t_backs t_cuts t_outs t_pauses t_strokes t_trial (t_rig 1) x1 x2 v1 0 t_trial_2 hC) (bq_gV ml_X8_180 im_X8_tries sl_X8_tries in_X8 cd_X8_tries) hd_X8_tries ⟨Nat.le_of_ble_eq_true rfl, Nat.le_of_ble_eq_true rfl⟩ ⟨Nat.le_of_ble_eq_true rfl, Nat.le_of_ble_eq_true rfl⟩ ⟨[0, 1, 2, 3, 4, 6, 7], [5], [1, 2, 3, 4, 5, 0, 6, 7], rfl, rfl, rfl, rfl, rfl, rfl, rfl, rfl, rfl⟩ 0 rfl rfl rfl hl.1 rfl (Nat.le_of_ble_eq_true rfl) rfl dX8_explains_34 (fun H locs w => bq_z ⟨rfl, rfl⟩ ?_)
    clear hC
    refine lv_iconst (v := 1) hx hb dX8_explains_37 (by decide) ?_
    refine lv_istore_n (lv' := [(3, .int 1), (0, .ref a_t)]) hx hb dX8_explains_38 rfl hl (by decide) rfl (fun ls hl => ?_)
    refine lv_bipush (v := 20) hx hb dX8_explains_39 (by decide) ?_
    refine lv_istore (lv' := [(4, .int 20), (3, .int 1), (0, .ref a_t)]) hx hb dX8_explains_41 hl (by decide) rfl (fun ls hl => ?_)
    obtain ⟨v5, hL, hm⟩ := bq_bd_el hm
    obtain ⟨B, eB, nn, hL⟩ := bq_loop_B hL
    have X83 : ∀ (H : Heap) (locs : List Loc) (ls : Array Slot), bq_w D A s.heap (wdX8_explains cI a_t a_t_backs a_t_cuts a_t_outs a_t_pauses a_t_rig a_t_strokes a_t_trial u_t_text u_t_readOuts u_t_readBacks u_t_readPauses t t_backs t_cuts t_outs t_pauses t_rig t_strokes t_trial_2) H locs → lv_has ls 5 [(3, .int v5)] → W p l e rmX8_explains s m av9 below meth c H locs 0 0 Q (F0 m 83 ls []) := by
      intro H locs ls w hl
      refine lv_iload_n hx hb dX8_explains_83 rfl (lv_at hl 0 rfl) ?_
      obtain ⟨hB, hm⟩ := bq_cb_el hm
      obtain ⟨rfl, rfl⟩ := bq_in2 (Option.some.inj hm)
      exact bq_zret E w hr hk hB dX8_explains_84 hQ
    clear hm
    have L43 : ∀ (nn : Nat) (i3 : Int32) (i4 : Int32) (H : Heap) (locs : List Loc) (ls : Array Slot), bq_lp B nn (i3, i4) = some v5 → bq_w D A s.heap (wdX8_explains cI a_t a_t_backs a_t_cuts a_t_outs a_t_pauses a_t_rig a_t_strokes a_t_trial u_t_text u_t_readOuts u_t_readBacks u_t_readPauses t t_backs t_cuts t_outs t_pauses t_rig t_strokes t_trial_2) H locs → lv_has ls 5 [(0, .ref a_t), (3, .int i4), (4, .int i3)] → W p l e rmX8_explains s m av9 below meth c H locs 0 0 Q (F0 m 43 ls []) := by
      intro nn
      induction nn with
      | zero =>
        intro i3 i4 H locs ls hL w hl
        exact bq_lp_0 hL
      | succ nn ih =>
        intro i3 i4 H locs ls hL w hl
        obtain ⟨oo43, hT43, hR43⟩ := bq_lp_el hL
        clear hL
        replace hT43 := bq_u2_el eB hT43
        unfold bX8_explains_43 at hT43
        refine lv_iload hx hb dX8_explains_43 (lv_at hl 2 rfl) ?_
        refine lv_bipush (v := 32) hx hb dX8_explains_45 (by decide) ?_
        refine lv_icmp_ge (tgt := 83) hx hb dX8_explains_47 (by decide) (fun hc => ?_) (fun hc => ?_)
        · replace hT43 := bq_t hc hT43
          clear hc
          obtain rfl := Option.some.inj hT43
          replace hR43 := bq_lk_r hR43
          subst hR43
          exact X83 H locs ls w (lv_sub hl [1] rfl)
        · replace hT43 := bq_f hc hT43
          clear hc
          refine lv_iload_n hx hb dX8_explains_50 rfl (lv_at hl 1 rfl) ?_
          obtain ⟨v6, hT76, hT43⟩ := bq_bd_el hT43
          have K76 : ∀ (H : Heap) (locs : List Loc) (ls : Array Slot), bq_w D A s.heap (wdX8_explains cI a_t a_t_backs a_t_cuts a_t_outs a_t_pauses a_t_rig a_t_strokes a_t_trial u_t_text u_t_readOuts u_t_readBacks u_t_readPauses t t_backs t_cuts t_outs t_pauses t_rig t_strokes t_trial_2) H locs → lv_has ls 5 [(0, .ref a_t), (4, .int i3)] → W p l e rmX8_explains s m av9 below meth c H locs 0 0 Q (F0 m 76 ls [.int v6]) := by
            intro H locs ls w hl
            refine lv_istore_n (lv' := [(3, .int v6), (0, .ref a_t), (4, .int i3)]) hx hb dX8_explains_76 rfl hl (by decide) rfl (fun ls hl => ?_)
            obtain ⟨v7, e9, hT43⟩ := bq_let_el hT43
            refine lv_iinc (v := v7) (lv' := [(4, .int v7), (3, .int v6), (0, .ref a_t)]) hx hb dX8_explains_77 hl (k := 2) rfl (by rw [e9]; rfl) (by decide) rfl (fun ls hl => ?_)
            clear e9
            refine lv_goto (tgt := 43) hx hb dX8_explains_80 (by decide) ?_
            obtain rfl := Option.some.inj hT43
            exact ih v7 v6 H locs ls hR43 w (lv_sub hl [2, 1, 0] rfl)
          clear hT43
          refine lv_if_eq (tgt := 75) hx hb dX8_explains_51 (by decide) (fun hc => ?_) (fun hc => ?_)
          · replace hT76 := bq_t hc hT76
            clear hc
            refine lv_iconst (v := 0) hx hb dX8_explains_75 (by decide) ?_
            obtain rfl := Option.some.inj hT76
            exact K76 H locs ls w (lv_sub hl [0, 2] rfl)
          · replace hT76 := bq_f hc hT76
            clear hc
            refine lv_aload_n hx hb dX8_explains_54 rfl (lv_at hl 0 rfl) ?_
            refine gt_X8_13 E K w 0 rfl rfl dX8_explains_55 ?_
            refine lv_iload hx hb dX8_explains_58 (lv_at hl 2 rfl) ?_
            obtain ⟨hI, hT76⟩ := bq_ci_el hT76
            refine bq_ald E K w 7 rfl hI dX8_explains_60 ?_
            refine lv_aload_n hx hb dX8_explains_61 rfl (lv_at hl 0 rfl) ?_
            refine gt_X8_7 E K w 0 rfl rfl dX8_explains_62 ?_
            refine lv_iload hx hb dX8_explains_65 (lv_at hl 2 rfl) ?_
            obtain ⟨hI, hT76⟩ := bq_ci_el hT76
            refine bq_ald E K w 5 rfl hI dX8_explains_67 ?_
            refine lv_icmp_ne (tgt := 75) hx hb dX8_explains_68 (by decide) (fun hc => ?_) (fun hc => ?_)
            · replace hT76 := bq_f hc hT76
              clear hc
              refine lv_iconst (v := 0) hx hb dX8_explains_75 (by decide) ?_
              obtain rfl := Option.some.inj hT76
              exact K76 H locs ls w (lv_sub hl [0, 2] rfl)
            · replace hT76 := bq_t hc hT76
              clear hc
              refine lv_iconst (v := 1) hx hb dX8_explains_71 (by decide) ?_
              refine lv_goto (tgt := 76) hx hb dX8_explains_72 (by decide) ?_
              obtain rfl := Option.some.inj hT76
              exact K76 H locs ls w (lv_sub hl [0, 2] rfl)
    exact L43 nn 20 1 H locs ls hL w (lv_sub hl [2, 1, 0] rfl)
  clear hm
  refine lv_icmp_ge (tgt := 30) hx hb dX8_explains_18 (by decide) (fun hc => ?_) (fun hc => ?_)
  · replace hT33 := bq_et hc hT33
    clear hc
    refine lv_sipush (v := 5000) hx hb dX8_explains_30 (by decide) ?_
    subst hT33
    exact K33 H locs ls w (lv_sub hl [0] rfl)
  · replace hT33 := bq_ef hc hT33
    clear hc
    refine lv_aload_n hx hb dX8_explains_21 rfl (lv_at hl 0 rfl) ?_
    refine gt_X8_7 E K w 0 rfl rfl dX8_explains_22 ?_
    refine lv_iconst (v := 0) hx hb dX8_explains_25 (by decide) ?_
    refine bq_aldk E K w 5 rfl 0 (by decide) (by unfold vp_in; decide) dX8_explains_26 ?_
    refine lv_goto (tgt := 33) hx hb dX8_explains_27 (by decide) ?_
    subst hT33
    exact K33 H locs ls w (lv_sub hl [0] rfl)
abbrev wdX8_suspect (cI : ClassId) (a_t a_t_backs a_t_cuts a_t_outs a_t_pauses a_t_rig a_t_strokes a_t_trial u_t_text u_t_readOuts u_t_readBacks u_t_readPauses : Nat) (t : Nat → Int32) (t_backs : Nat → Int32) (t_cuts : Nat → Int32) (t_outs : Nat → Int32) (t_pauses : Nat → Int32) (t_rig : Nat → Int32) (t_strokes : Nat → Int32) (t_trial : Nat → Int32) : va_W := [(a_t, oX8 a_t_rig a_t_trial a_t_strokes a_t_outs a_t_backs a_t_pauses a_t_cuts u_t_text u_t_readOuts u_t_readBacks u_t_readPauses t), (a_t_backs, oA cI 16 t_backs), (a_t_cuts, oA cI 16 t_cuts), (a_t_outs, oA cI 16 t_outs), (a_t_pauses, oA cI 16 t_pauses), (a_t_rig, oA cI 140 t_rig), (a_t_strokes, oA cI 6 t_strokes), (a_t_trial, oA cI 140 t_trial)]
abbrev rmX8_suspect : Room := { frames := 6, cells := 0, slots := 0, locals := 154 }
theorem hd_X8_suspect : yX8_suspect.cls = RX8 ∧ yX8_suspect.cls ≠ "java/lang/invoke/MethodHandle" ∧ yX8_suspect.cls ≠ "java/lang/invoke/VarHandle" ∧ (parseMethodDescriptor yX8_suspect.desc).map (fun d => d.parameters.length) = some 1 := by decide +kernel
set_option maxHeartbeats 4000000 in
set_option maxRecDepth 100000 in
theorem kX8_suspect (l : Launch) (D : va_G) (cI cJ : ClassId) (a_t a_t_backs a_t_cuts a_t_outs a_t_pauses a_t_rig a_t_strokes a_t_trial u_t_text u_t_readOuts u_t_readBacks u_t_readPauses : Nat) (t t_backs t_cuts t_outs t_pauses t_rig t_strokes t_trial : Nat → Int32) (x1 : Int32) (r : Int32) (t_o : Nat → Int32) (t_trial_o : Nat → Int32) (hm : mX8_suspect t t_backs t_cuts t_outs t_pauses t_rig t_strokes t_trial x1 = some (r, t_o, t_trial_o)) : bq_M l D cI cJ yX8_suspect cX8_suspect 4 (some .int) rmX8_suspect [.ref a_t, .int x1] (wdX8_suspect cI a_t a_t_backs a_t_cuts a_t_outs a_t_pauses a_t_rig a_t_strokes a_t_trial u_t_text u_t_readOuts u_t_readBacks u_t_readPauses t t_backs t_cuts t_outs t_pauses t_rig t_strokes t_trial) (wdX8_suspect cI a_t a_t_backs a_t_cuts a_t_outs a_t_pauses a_t_rig a_t_strokes a_t_trial u_t_text u_t_readOuts u_t_readBacks u_t_readPauses t_o t_backs t_cuts t_outs t_pauses t_rig t_strokes t_trial_o) (some (.int r)) := by
  refine bq_start (by decide) (Nat.le_of_ble_eq_true rfl) ?_
  intro p e s m av9 below meth c A ls Q H locs E K w hA hr hk hn hQ hl
  have E : bq_E p m c cX8_suspect 4 s av9 RX8 := E
  have hx := E.1
  have hb := E.2.1
  have hl : lv_has ls 4 [(0, .ref a_t), (1, .int x1)] := hl
  unfold mX8_suspect at hm
  refine lv_aload_n hx hb dX8_suspect_0 rfl (lv_at hl 0 rfl) ?_
  refine lv_iconst (v := 0) hx hb dX8_suspect_1 (by decide) ?_
  obtain ⟨t_1, e9, hm⟩ := bq_let_el hm
  refine pt_X8_47 E K w 0 rfl (Nat.le_of_ble_eq_true rfl) dX8_suspect_2 (fun H locs w => ?_)
  replace w : bq_w D A s.heap (wdX8_suspect cI a_t a_t_backs a_t_cuts a_t_outs a_t_pauses a_t_rig a_t_strokes a_t_trial u_t_text u_t_readOuts u_t_readBacks u_t_readPauses t_1 t_backs t_cuts t_outs t_pauses t_rig t_strokes t_trial) H locs := by rw [e9]; exact w
  clear e9
  refine lv_iload_n hx hb dX8_suspect_5 rfl (lv_at hl 1 rfl) ?_
  refine lv_if_ge (tgt := 15) hx hb dX8_suspect_6 (by decide) (fun hc => ?_) (fun hc => ?_)
  · replace hm := bq_t hc hm
    clear hc
    refine lv_aload_n hx hb dX8_suspect_15 rfl (lv_at hl 0 rfl) ?_
    refine gt_X8_104 E K w 0 rfl rfl dX8_suspect_16 ?_
    refine lv_if_ne (tgt := 28) hx hb dX8_suspect_19 (by decide) (fun hc => ?_) (fun hc => ?_)
    · replace hm := bq_f hc hm
      clear hc
      refine lv_iload_n hx hb dX8_suspect_28 rfl (lv_at hl 1 rfl) ?_
      refine lv_istore_n (lv' := [(2, .int x1), (0, .ref a_t), (1, .int x1)]) hx hb dX8_suspect_29 rfl hl (by decide) rfl (fun ls hl => ?_)
      refine lv_iconst (v := 0) hx hb dX8_suspect_30 (by decide) ?_
      refine lv_istore_n (lv' := [(3, .int 0), (2, .int x1), (0, .ref a_t), (1, .int x1)]) hx hb dX8_suspect_31 rfl hl (by decide) rfl (fun ls hl => ?_)
      obtain ⟨rr32, hL, hm⟩ := bq_bd_el hm
      obtain ⟨B, eB, nn, hL⟩ := bq_loop_B hL
      have X79 : ∀ (t_trial_5 : Nat → Int32) (hE : rr32 = .inl t_trial_5) (H : Heap) (locs : List Loc) (ls : Array Slot), bq_w D A s.heap (wdX8_suspect cI a_t a_t_backs a_t_cuts a_t_outs a_t_pauses a_t_rig a_t_strokes a_t_trial u_t_text u_t_readOuts u_t_readBacks u_t_readPauses t_1 t_backs t_cuts t_outs t_pauses t_rig t_strokes t_trial_5) H locs → lv_has ls 4 [] → W p l e rmX8_suspect s m av9 below meth c H locs 0 0 Q (F0 m 79 ls []) := by
        intro t_trial_5 hE H locs ls w hl
        subst hE
        replace hm := bq_or1_l hm
        refine lv_iconst (v := (-1)) hx hb dX8_suspect_79 (by decide) ?_
        obtain ⟨rfl, rfl, rfl⟩ := bq_in3 (Option.some.inj hm)
        exact bq_iret E w hr hk dX8_suspect_80 hQ
      have L32 : ∀ (nn : Nat) (i2 : Int32) (i3 : Int32) (t_trial_4 : Nat → Int32) (H : Heap) (locs : List Loc) (ls : Array Slot), bq_lp B nn (i2, i3, t_trial_4) = some rr32 → bq_w D A s.heap (wdX8_suspect cI a_t a_t_backs a_t_cuts a_t_outs a_t_pauses a_t_rig a_t_strokes a_t_trial u_t_text u_t_readOuts u_t_readBacks u_t_readPauses t_1 t_backs t_cuts t_outs t_pauses t_rig t_strokes t_trial_4) H locs → lv_has ls 4 [(0, .ref a_t), (2, .int i3), (3, .int i2)] → W p l e rmX8_suspect s m av9 below meth c H locs 0 0 Q (F0 m 32 ls []) := by
        intro nn
        induction nn with
        | zero =>
          intro i2 i3 t_trial_4 H locs ls hL w hl
          exact bq_lp_0 hL
        | succ nn ih =>
          intro i2 i3 t_trial_4 H locs ls hL w hl
          obtain ⟨oo32, hT32, hR32⟩ := bq_lp_el hL
          clear hL
          replace hT32 := bq_u3_el eB hT32
          unfold bX8_suspect_32 at hT32
          refine lv_iload_n hx hb dX8_suspect_32 rfl (lv_at hl 2 rfl) ?_
          refine lv_bipush (v := 30) hx hb dX8_suspect_33 (by decide) ?_
          refine lv_icmp_ge (tgt := 79) hx hb dX8_suspect_35 (by decide) (fun hc => ?_) (fun hc => ?_)
          · replace hT32 := bq_t hc hT32
            clear hc
            obtain rfl := Option.some.inj hT32
            replace hR32 := bq_lk_r hR32
            exact X79 t_trial_4 hR32.symm H locs ls w (lv_sub hl [] rfl)
          · replace hT32 := bq_f hc hT32
            clear hc
            refine lv_iload_n hx hb dX8_suspect_38 rfl (lv_at hl 1 rfl) ?_
            refine lv_if_lt (tgt := 79) hx hb dX8_suspect_39 (by decide) (fun hc => ?_) (fun hc => ?_)
            · replace hT32 := bq_t hc hT32
              clear hc
              obtain rfl := Option.some.inj hT32
              replace hR32 := bq_lk_r hR32
              exact X79 t_trial_4 hR32.symm H locs ls w (lv_sub hl [] rfl)
            · replace hT32 := bq_f hc hT32
              clear hc
              refine lv_aload_n hx hb dX8_suspect_42 rfl (lv_at hl 0 rfl) ?_
              refine lv_iload_n hx hb dX8_suspect_43 rfl (lv_at hl 2 rfl) ?_
              refine lv_iconst (v := 5) hx hb dX8_suspect_44 (by decide) ?_
              refine lv_idiv hx hb dX8_suspect_45 (by decide) ?_
              refine lv_iload_n hx hb dX8_suspect_46 rfl (lv_at hl 2 rfl) ?_
              refine lv_iconst (v := 5) hx hb dX8_suspect_47 (by decide) ?_
              refine lv_irem hx hb dX8_suspect_48 (by decide) ?_
              obtain ⟨v6, t_trial_7, hC, hT32⟩ := bq_b2_el hT32
              refine bq_V (As := [.int (i2 / 5), .int (i2 - i2 / 5 * 5)]) (rest := []) (st1 := [.int v6]) (ws' := wdX8_suspect cI a_t a_t_backs a_t_cuts a_t_outs a_t_pauses a_t_rig a_t_strokes a_t_trial u_t_text u_t_readOuts u_t_readBacks u_t_readPauses t_1 t_backs t_cuts t_outs t_pauses t_rig t_strokes t_trial_7) E K w hA (kX8_explains l D cI cJ a_t a_t_backs a_t_cuts a_t_outs a_t_pauses a_t_rig a_t_strokes a_t_trial u_t_text u_t_readOuts u_t_readBacks u_t_readPauses t_1 t_backs t_cuts t_outs t_pauses t_rig t_strokes t_trial_4 (i2 / 5) (i2 - i2 / 5 * 5) v6 t_trial_7 hC) (bq_gV ml_X8_187 im_X8_explains sl_X8_explains in_X8 cd_X8_explains) hd_X8_explains ⟨Nat.le_of_ble_eq_true rfl, Nat.le_of_ble_eq_true rfl⟩ ⟨Nat.le_of_ble_eq_true rfl, Nat.le_of_ble_eq_true rfl⟩ ⟨[0, 1, 2, 3, 4, 5, 6, 7], [], [0, 1, 2, 3, 4, 5, 6, 7], rfl, rfl, rfl, rfl, rfl, rfl, rfl, rfl, rfl⟩ 0 rfl rfl rfl hl.1 rfl (Nat.le_of_ble_eq_true rfl) rfl dX8_suspect_49 (fun H locs w => bq_z ⟨rfl, rfl⟩ ?_)
              clear hC
              refine lv_if_eq (tgt := 73) hx hb dX8_suspect_52 (by decide) (fun hc => ?_) (fun hc => ?_)
              · replace hT32 := bq_t hc hT32
                clear hc
                obtain ⟨v8, e9, hT32⟩ := bq_let_el hT32
                refine lv_iinc (v := v8) (lv' := [(3, .int v8), (0, .ref a_t), (2, .int i3)]) hx hb dX8_suspect_73 hl (k := 2) rfl (by rw [e9]; rfl) (by decide) rfl (fun ls hl => ?_)
                clear e9
                refine lv_goto (tgt := 32) hx hb dX8_suspect_76 (by decide) ?_
                obtain rfl := Option.some.inj hT32
                exact ih v8 i3 t_trial_7 H locs ls hR32 w (lv_sub hl [1, 2, 0] rfl)
              · replace hT32 := bq_f hc hT32
                clear hc
                refine lv_iload_n hx hb dX8_suspect_55 rfl (lv_at hl 1 rfl) ?_
                refine lv_if_ne (tgt := 70) hx hb dX8_suspect_56 (by decide) (fun hc => ?_) (fun hc => ?_)
                · replace hT32 := bq_f hc hT32
                  clear hc
                  obtain ⟨v9, e9, hT32⟩ := bq_let_el hT32
                  refine lv_iinc (v := v9) (lv' := [(2, .int v9), (0, .ref a_t), (3, .int i2)]) hx hb dX8_suspect_70 hl (k := 1) rfl (by rw [e9]; rfl) (by decide) rfl (fun ls hl => ?_)
                  clear e9
                  obtain ⟨v10, e9, hT32⟩ := bq_let_el hT32
                  refine lv_iinc (v := v10) (lv' := [(3, .int v10), (2, .int v9), (0, .ref a_t)]) hx hb dX8_suspect_73 hl (k := 2) rfl (by rw [e9]; rfl) (by decide) rfl (fun ls hl => ?_)
                  clear e9
                  refine lv_goto (tgt := 32) hx hb dX8_suspect_76 (by decide) ?_
                  obtain rfl := Option.some.inj hT32
                  exact ih v10 v9 t_trial_7 H locs ls hR32 w (lv_sub hl [2, 1, 0] rfl)
                · replace hT32 := bq_t hc hT32
                  clear hc
                  refine lv_bipush (v := 10) hx hb dX8_suspect_59 (by decide) ?_
                  refine lv_iload_n hx hb dX8_suspect_61 rfl (lv_at hl 2 rfl) ?_
                  refine lv_iconst (v := 5) hx hb dX8_suspect_62 (by decide) ?_
                  refine lv_idiv hx hb dX8_suspect_63 (by decide) ?_
                  refine lv_imul hx hb dX8_suspect_64 ?_
                  refine lv_iload_n hx hb dX8_suspect_65 rfl (lv_at hl 2 rfl) ?_
                  refine lv_iconst (v := 5) hx hb dX8_suspect_66 (by decide) ?_
                  refine lv_irem hx hb dX8_suspect_67 (by decide) ?_
                  refine lv_iadd hx hb dX8_suspect_68 ?_
                  obtain rfl := Option.some.inj hT32
                  replace hR32 := bq_lk_r hR32
                  subst hR32
                  replace hm := bq_or1_r hm
                  obtain ⟨rfl, rfl, rfl⟩ := bq_in3 (Option.some.inj hm)
                  exact bq_iret E w hr hk dX8_suspect_69 hQ
      exact L32 nn 0 x1 t_trial H locs ls hL w (lv_sub hl [2, 1, 0] rfl)
    · replace hm := bq_t hc hm
      clear hc
      refine lv_aload_n hx hb dX8_suspect_22 rfl (lv_at hl 0 rfl) ?_
      refine lv_iconst (v := 2) hx hb dX8_suspect_23 (by decide) ?_
      obtain ⟨v11, t_12, hC, hm⟩ := bq_b2_el hm
      refine bq_V (As := [.int 2]) (rest := []) (st1 := [.int v11]) (ws' := wdX8_suspect cI a_t a_t_backs a_t_cuts a_t_outs a_t_pauses a_t_rig a_t_strokes a_t_trial u_t_text u_t_readOuts u_t_readBacks u_t_readPauses t_12 t_backs t_cuts t_outs t_pauses t_rig t_strokes t_trial) E K w hA (kX8_fails l D cI cJ a_t a_t_rig a_t_trial a_t_strokes a_t_outs a_t_backs a_t_pauses a_t_cuts u_t_text u_t_readOuts u_t_readBacks u_t_readPauses t_1 2 v11 t_12 hC) (bq_gV ml_X8_55 im_X8_fails sl_X8_fails in_X8 cd_X8_fails) hd_X8_fails ⟨Nat.le_of_ble_eq_true rfl, Nat.le_of_ble_eq_true rfl⟩ ⟨Nat.le_of_ble_eq_true rfl, Nat.le_of_ble_eq_true rfl⟩ ⟨[0], [1, 2, 3, 4, 5, 6, 7], [7, 0, 1, 2, 3, 4, 5, 6], rfl, rfl, rfl, rfl, rfl, rfl, rfl, rfl, rfl⟩ 0 rfl rfl rfl hl.1 rfl (Nat.le_of_ble_eq_true rfl) rfl dX8_suspect_24 (fun H locs w => bq_z ⟨rfl, rfl⟩ ?_)
      clear hC
      obtain ⟨rfl, rfl, rfl⟩ := bq_in3 (Option.some.inj hm)
      exact bq_iret E w hr hk dX8_suspect_27 hQ
  · replace hm := bq_f hc hm
    clear hc
    refine lv_aload_n hx hb dX8_suspect_9 rfl (lv_at hl 0 rfl) ?_
    refine lv_iconst (v := 1) hx hb dX8_suspect_10 (by decide) ?_
    obtain ⟨v13, t_14, hC, hm⟩ := bq_b2_el hm
    refine bq_V (As := [.int 1]) (rest := []) (st1 := [.int v13]) (ws' := wdX8_suspect cI a_t a_t_backs a_t_cuts a_t_outs a_t_pauses a_t_rig a_t_strokes a_t_trial u_t_text u_t_readOuts u_t_readBacks u_t_readPauses t_14 t_backs t_cuts t_outs t_pauses t_rig t_strokes t_trial) E K w hA (kX8_fails l D cI cJ a_t a_t_rig a_t_trial a_t_strokes a_t_outs a_t_backs a_t_pauses a_t_cuts u_t_text u_t_readOuts u_t_readBacks u_t_readPauses t_1 1 v13 t_14 hC) (bq_gV ml_X8_55 im_X8_fails sl_X8_fails in_X8 cd_X8_fails) hd_X8_fails ⟨Nat.le_of_ble_eq_true rfl, Nat.le_of_ble_eq_true rfl⟩ ⟨Nat.le_of_ble_eq_true rfl, Nat.le_of_ble_eq_true rfl⟩ ⟨[0], [1, 2, 3, 4, 5, 6, 7], [7, 0, 1, 2, 3, 4, 5, 6], rfl, rfl, rfl, rfl, rfl, rfl, rfl, rfl, rfl⟩ 0 rfl rfl rfl hl.1 rfl (Nat.le_of_ble_eq_true rfl) rfl dX8_suspect_11 (fun H locs w => bq_z ⟨rfl, rfl⟩ ?_)
    clear hC
    obtain ⟨rfl, rfl, rfl⟩ := bq_in3 (Option.some.inj hm)
    exact bq_iret E w hr hk dX8_suspect_14 hQ
abbrev wdX8_fingerprint (cI : ClassId) (a_t a_t_rig u_t_trial u_t_strokes u_t_outs u_t_backs u_t_pauses u_t_cuts u_t_text u_t_readOuts u_t_readBacks u_t_readPauses : Nat) (t : Nat → Int32) (t_rig : Nat → Int32) : va_W := [(a_t, oX8 a_t_rig u_t_trial u_t_strokes u_t_outs u_t_backs u_t_pauses u_t_cuts u_t_text u_t_readOuts u_t_readBacks u_t_readPauses t), (a_t_rig, oA cI 140 t_rig)]
abbrev rmX8_fingerprint : Room := { frames := 0, cells := 0, slots := 0, locals := 0 }
theorem hd_X8_fingerprint : yX8_fingerprint.cls = RX8 ∧ yX8_fingerprint.cls ≠ "java/lang/invoke/MethodHandle" ∧ yX8_fingerprint.cls ≠ "java/lang/invoke/VarHandle" ∧ (parseMethodDescriptor yX8_fingerprint.desc).map (fun d => d.parameters.length) = some 0 := by decide +kernel
set_option maxHeartbeats 4000000 in
set_option maxRecDepth 100000 in
theorem kX8_fingerprint (l : Launch) (D : va_G) (cI cJ : ClassId) (a_t a_t_rig u_t_trial u_t_strokes u_t_outs u_t_backs u_t_pauses u_t_cuts u_t_text u_t_readOuts u_t_readBacks u_t_readPauses : Nat) (t t_rig : Nat → Int32) (r : Int64) (t_o : Nat → Int32) (hm : mX8_fingerprint t t_rig = some (r, t_o)) : bq_M l D cI cJ yX8_fingerprint cX8_fingerprint 4 (some .long) rmX8_fingerprint [.ref a_t] (wdX8_fingerprint cI a_t a_t_rig u_t_trial u_t_strokes u_t_outs u_t_backs u_t_pauses u_t_cuts u_t_text u_t_readOuts u_t_readBacks u_t_readPauses t t_rig) (wdX8_fingerprint cI a_t a_t_rig u_t_trial u_t_strokes u_t_outs u_t_backs u_t_pauses u_t_cuts u_t_text u_t_readOuts u_t_readBacks u_t_readPauses t_o t_rig) (some (.long r)) := by
  refine bq_start (by decide) (Nat.le_of_ble_eq_true rfl) ?_
  intro p e s m av9 below meth c A ls Q H locs E K w hA hr hk hn hQ hl
  have E : bq_E p m c cX8_fingerprint 4 s av9 RX8 := E
  have hx := E.1
  have hb := E.2.1
  have hl : lv_has ls 4 [(0, .ref a_t)] := hl
  unfold mX8_fingerprint at hm
  refine lv_aload_n hx hb dX8_fingerprint_0 rfl (lv_at hl 0 rfl) ?_
  refine lv_iconst (v := 0) hx hb dX8_fingerprint_1 (by decide) ?_
  obtain ⟨t_1, e9, hm⟩ := bq_let_el hm
  refine pt_X8_47 E K w 0 rfl (Nat.le_of_ble_eq_true rfl) dX8_fingerprint_2 (fun H locs w => ?_)
  replace w : bq_w D A s.heap (wdX8_fingerprint cI a_t a_t_rig u_t_trial u_t_strokes u_t_outs u_t_backs u_t_pauses u_t_cuts u_t_text u_t_readOuts u_t_readBacks u_t_readPauses t_1 t_rig) H locs := by rw [e9]; exact w
  clear e9
  refine lv_ldc2 (v := 589) hx hb E.2.2.2.1 (E.2.2.2.2 _ ct_X8_190) dX8_fingerprint_5 ?_
  refine lv_aload_n hx hb dX8_fingerprint_8 rfl (lv_at hl 0 rfl) ?_
  refine gt_X8_7 E K w 0 rfl rfl dX8_fingerprint_9 ?_
  refine lv_iconst (v := 0) hx hb dX8_fingerprint_12 (by decide) ?_
  refine bq_aldk E K w 1 rfl 0 (by decide) (by unfold vp_in; decide) dX8_fingerprint_13 ?_
  refine lv_i2l hx hb dX8_fingerprint_14 rfl ?_
  refine lv_ladd hx hb dX8_fingerprint_15 ?_
  obtain ⟨v2, e9, hm⟩ := bq_let_el hm
  refine bq_nml e9 ?_
  clear e9
  refine lv_lstore_n (lv' := [(1, .long v2), (0, .ref a_t)]) hx hb dX8_fingerprint_16 rfl hl (by decide) rfl (fun ls hl => ?_)
  refine lv_ldc2 (v := 31) hx hb E.2.2.2.1 (E.2.2.2.2 _ ct_X8_192) dX8_fingerprint_17 ?_
  refine lv_lload_n hx hb dX8_fingerprint_20 rfl (lv_at hl 0 rfl) ?_
  refine lv_lmul hx hb dX8_fingerprint_21 ?_
  refine lv_aload_n hx hb dX8_fingerprint_22 rfl (lv_at hl 1 rfl) ?_
  refine gt_X8_7 E K w 0 rfl rfl dX8_fingerprint_23 ?_
  refine lv_iconst (v := 3) hx hb dX8_fingerprint_26 (by decide) ?_
  refine bq_aldk E K w 1 rfl 3 (by decide) (by unfold vp_in; decide) dX8_fingerprint_27 ?_
  refine lv_i2l hx hb dX8_fingerprint_28 rfl ?_
  refine lv_ladd hx hb dX8_fingerprint_29 ?_
  obtain ⟨v3, e9, hm⟩ := bq_let_el hm
  refine bq_nml e9 ?_
  clear e9
  refine lv_lstore_n (lv' := [(1, .long v3), (0, .ref a_t)]) hx hb dX8_fingerprint_30 rfl hl (by decide) rfl (fun ls hl => ?_)
  refine lv_ldc2 (v := 31) hx hb E.2.2.2.1 (E.2.2.2.2 _ ct_X8_192) dX8_fingerprint_31 ?_
  refine lv_lload_n hx hb dX8_fingerprint_34 rfl (lv_at hl 0 rfl) ?_
  refine lv_lmul hx hb dX8_fingerprint_35 ?_
  refine lv_aload_n hx hb dX8_fingerprint_36 rfl (lv_at hl 1 rfl) ?_
  refine gt_X8_7 E K w 0 rfl rfl dX8_fingerprint_37 ?_
  refine lv_iconst (v := 4) hx hb dX8_fingerprint_40 (by decide) ?_
  refine bq_aldk E K w 1 rfl 4 (by decide) (by unfold vp_in; decide) dX8_fingerprint_41 ?_
  refine lv_i2l hx hb dX8_fingerprint_42 rfl ?_
  refine lv_ladd hx hb dX8_fingerprint_43 ?_
  obtain ⟨v4, e9, hm⟩ := bq_let_el hm
  refine bq_nml e9 ?_
  clear e9
  refine lv_lstore_n (lv' := [(1, .long v4), (0, .ref a_t)]) hx hb dX8_fingerprint_44 rfl hl (by decide) rfl (fun ls hl => ?_)
  refine lv_ldc2 (v := 31) hx hb E.2.2.2.1 (E.2.2.2.2 _ ct_X8_192) dX8_fingerprint_45 ?_
  refine lv_lload_n hx hb dX8_fingerprint_48 rfl (lv_at hl 0 rfl) ?_
  refine lv_lmul hx hb dX8_fingerprint_49 ?_
  refine lv_aload_n hx hb dX8_fingerprint_50 rfl (lv_at hl 1 rfl) ?_
  refine gt_X8_7 E K w 0 rfl rfl dX8_fingerprint_51 ?_
  refine lv_iconst (v := 5) hx hb dX8_fingerprint_54 (by decide) ?_
  refine bq_aldk E K w 1 rfl 5 (by decide) (by unfold vp_in; decide) dX8_fingerprint_55 ?_
  refine lv_i2l hx hb dX8_fingerprint_56 rfl ?_
  refine lv_ladd hx hb dX8_fingerprint_57 ?_
  obtain ⟨v5, e9, hm⟩ := bq_let_el hm
  refine bq_nml e9 ?_
  clear e9
  refine lv_lstore_n (lv' := [(1, .long v5), (0, .ref a_t)]) hx hb dX8_fingerprint_58 rfl hl (by decide) rfl (fun ls hl => ?_)
  refine lv_ldc2 (v := 31) hx hb E.2.2.2.1 (E.2.2.2.2 _ ct_X8_192) dX8_fingerprint_59 ?_
  refine lv_lload_n hx hb dX8_fingerprint_62 rfl (lv_at hl 0 rfl) ?_
  refine lv_lmul hx hb dX8_fingerprint_63 ?_
  refine lv_aload_n hx hb dX8_fingerprint_64 rfl (lv_at hl 1 rfl) ?_
  refine gt_X8_7 E K w 0 rfl rfl dX8_fingerprint_65 ?_
  refine lv_bipush (v := 9) hx hb dX8_fingerprint_68 (by decide) ?_
  refine bq_aldk E K w 1 rfl 9 (by decide) (by unfold vp_in; decide) dX8_fingerprint_70 ?_
  refine lv_i2l hx hb dX8_fingerprint_71 rfl ?_
  refine lv_ladd hx hb dX8_fingerprint_72 ?_
  obtain ⟨v6, e9, hm⟩ := bq_let_el hm
  refine bq_nml e9 ?_
  clear e9
  refine lv_lstore_n (lv' := [(1, .long v6), (0, .ref a_t)]) hx hb dX8_fingerprint_73 rfl hl (by decide) rfl (fun ls hl => ?_)
  refine lv_ldc2 (v := 31) hx hb E.2.2.2.1 (E.2.2.2.2 _ ct_X8_192) dX8_fingerprint_74 ?_
  refine lv_lload_n hx hb dX8_fingerprint_77 rfl (lv_at hl 0 rfl) ?_
  refine lv_lmul hx hb dX8_fingerprint_78 ?_
  refine lv_aload_n hx hb dX8_fingerprint_79 rfl (lv_at hl 1 rfl) ?_
  refine gt_X8_7 E K w 0 rfl rfl dX8_fingerprint_80 ?_
  refine lv_bipush (v := 10) hx hb dX8_fingerprint_83 (by decide) ?_
  refine bq_aldk E K w 1 rfl 10 (by decide) (by unfold vp_in; decide) dX8_fingerprint_85 ?_
  refine lv_i2l hx hb dX8_fingerprint_86 rfl ?_
  refine lv_ladd hx hb dX8_fingerprint_87 ?_
  obtain ⟨v7, e9, hm⟩ := bq_let_el hm
  refine bq_nml e9 ?_
  clear e9
  refine lv_lstore_n (lv' := [(1, .long v7), (0, .ref a_t)]) hx hb dX8_fingerprint_88 rfl hl (by decide) rfl (fun ls hl => ?_)
  refine lv_iconst (v := 0) hx hb dX8_fingerprint_89 (by decide) ?_
  refine lv_istore_n (lv' := [(3, .int 0), (1, .long v7), (0, .ref a_t)]) hx hb dX8_fingerprint_90 rfl hl (by decide) rfl (fun ls hl => ?_)
  obtain ⟨v10, hL, hm⟩ := bq_bd_el hm
  obtain ⟨B, eB, nn, hL⟩ := bq_loop_B hL
  have X154 : ∀ (H : Heap) (locs : List Loc) (ls : Array Slot), bq_w D A s.heap (wdX8_fingerprint cI a_t a_t_rig u_t_trial u_t_strokes u_t_outs u_t_backs u_t_pauses u_t_cuts u_t_text u_t_readOuts u_t_readBacks u_t_readPauses t_1 t_rig) H locs → lv_has ls 4 [(0, .ref a_t), (1, .long v10)] → W p l e rmX8_fingerprint s m av9 below meth c H locs 0 0 Q (F0 m 154 ls []) := by
    intro H locs ls w hl
    refine lv_iconst (v := 0) hx hb dX8_fingerprint_154 (by decide) ?_
    refine lv_istore_n (lv' := [(3, .int 0), (0, .ref a_t), (1, .long v10)]) hx hb dX8_fingerprint_155 rfl hl (by decide) rfl (fun ls hl => ?_)
    obtain ⟨v13, hL, hm⟩ := bq_bd_el hm
    obtain ⟨B, eB, nn, hL⟩ := bq_loop_B hL
    have X187 : ∀ (H : Heap) (locs : List Loc) (ls : Array Slot), bq_w D A s.heap (wdX8_fingerprint cI a_t a_t_rig u_t_trial u_t_strokes u_t_outs u_t_backs u_t_pauses u_t_cuts u_t_text u_t_readOuts u_t_readBacks u_t_readPauses t_1 t_rig) H locs → lv_has ls 4 [(1, .long v13)] → W p l e rmX8_fingerprint s m av9 below meth c H locs 0 0 Q (F0 m 187 ls []) := by
      intro H locs ls w hl
      refine lv_lload_n hx hb dX8_fingerprint_187 rfl (lv_at hl 0 rfl) ?_
      obtain ⟨rfl, rfl⟩ := bq_in2 (Option.some.inj hm)
      exact bq_lret E w hr hk dX8_fingerprint_188 hQ
    clear hm
    have L156 : ∀ (nn : Nat) (i11 : Int32) (i12 : Int64) (H : Heap) (locs : List Loc) (ls : Array Slot), bq_lp B nn (i11, i12) = some v13 → bq_w D A s.heap (wdX8_fingerprint cI a_t a_t_rig u_t_trial u_t_strokes u_t_outs u_t_backs u_t_pauses u_t_cuts u_t_text u_t_readOuts u_t_readBacks u_t_readPauses t_1 t_rig) H locs → lv_has ls 4 [(0, .ref a_t), (1, .long i12), (3, .int i11)] → W p l e rmX8_fingerprint s m av9 below meth c H locs 0 0 Q (F0 m 156 ls []) := by
      intro nn
      induction nn with
      | zero =>
        intro i11 i12 H locs ls hL w hl
        exact bq_lp_0 hL
      | succ nn ih =>
        intro i11 i12 H locs ls hL w hl
        obtain ⟨oo156, hT156, hR156⟩ := bq_lp_el hL
        clear hL
        replace hT156 := bq_u2_el eB hT156
        unfold bX8_fingerprint_156 at hT156
        refine lv_iload_n hx hb dX8_fingerprint_156 rfl (lv_at hl 2 rfl) ?_
        refine lv_aload_n hx hb dX8_fingerprint_157 rfl (lv_at hl 0 rfl) ?_
        refine gt_X8_104 E K w 0 rfl rfl dX8_fingerprint_158 ?_
        refine lv_icmp_ge (tgt := 187) hx hb dX8_fingerprint_161 (by decide) (fun hc => ?_) (fun hc => ?_)
        · replace hT156 := bq_t hc hT156
          clear hc
          obtain rfl := Option.some.inj hT156
          replace hR156 := bq_lk_r hR156
          subst hR156
          exact X187 H locs ls w (lv_sub hl [1] rfl)
        · replace hT156 := bq_f hc hT156
          clear hc
          refine lv_ldc2 (v := 31) hx hb E.2.2.2.1 (E.2.2.2.2 _ ct_X8_192) dX8_fingerprint_164 ?_
          refine lv_lload_n hx hb dX8_fingerprint_167 rfl (lv_at hl 1 rfl) ?_
          refine lv_lmul hx hb dX8_fingerprint_168 ?_
          refine lv_aload_n hx hb dX8_fingerprint_169 rfl (lv_at hl 0 rfl) ?_
          refine gt_X8_7 E K w 0 rfl rfl dX8_fingerprint_170 ?_
          refine lv_bipush (v := 44) hx hb dX8_fingerprint_173 (by decide) ?_
          refine lv_iload_n hx hb dX8_fingerprint_175 rfl (lv_at hl 2 rfl) ?_
          refine lv_iadd hx hb dX8_fingerprint_176 ?_
          obtain ⟨hI, hT156⟩ := bq_ci_el hT156
          refine bq_ald E K w 1 rfl hI dX8_fingerprint_177 ?_
          refine lv_i2l hx hb dX8_fingerprint_178 rfl ?_
          refine lv_ladd hx hb dX8_fingerprint_179 ?_
          obtain ⟨v14, e9, hT156⟩ := bq_let_el hT156
          refine bq_nml e9 ?_
          clear e9
          refine lv_lstore_n (lv' := [(1, .long v14), (0, .ref a_t), (3, .int i11)]) hx hb dX8_fingerprint_180 rfl hl (by decide) rfl (fun ls hl => ?_)
          obtain ⟨v15, e9, hT156⟩ := bq_let_el hT156
          refine lv_iinc (v := v15) (lv' := [(3, .int v15), (1, .long v14), (0, .ref a_t)]) hx hb dX8_fingerprint_181 hl (k := 2) rfl (by rw [e9]; rfl) (by decide) rfl (fun ls hl => ?_)
          clear e9
          refine lv_goto (tgt := 156) hx hb dX8_fingerprint_184 (by decide) ?_
          obtain rfl := Option.some.inj hT156
          exact ih v15 v14 H locs ls hR156 w (lv_sub hl [2, 1, 0] rfl)
    exact L156 nn 0 v10 H locs ls hL w (lv_sub hl [1, 2, 0] rfl)
  clear hm
  have L91 : ∀ (nn : Nat) (i8 : Int32) (i9 : Int64) (H : Heap) (locs : List Loc) (ls : Array Slot), bq_lp B nn (i8, i9) = some v10 → bq_w D A s.heap (wdX8_fingerprint cI a_t a_t_rig u_t_trial u_t_strokes u_t_outs u_t_backs u_t_pauses u_t_cuts u_t_text u_t_readOuts u_t_readBacks u_t_readPauses t_1 t_rig) H locs → lv_has ls 4 [(0, .ref a_t), (1, .long i9), (3, .int i8)] → W p l e rmX8_fingerprint s m av9 below meth c H locs 0 0 Q (F0 m 91 ls []) := by
    intro nn
    induction nn with
    | zero =>
      intro i8 i9 H locs ls hL w hl
      exact bq_lp_0 hL
    | succ nn ih =>
      intro i8 i9 H locs ls hL w hl
      obtain ⟨oo91, hT91, hR91⟩ := bq_lp_el hL
      clear hL
      replace hT91 := bq_u2_el eB hT91
      unfold bX8_fingerprint_91 at hT91
      refine lv_iload_n hx hb dX8_fingerprint_91 rfl (lv_at hl 2 rfl) ?_
      refine lv_bipush (v := 6) hx hb dX8_fingerprint_92 (by decide) ?_
      refine lv_icmp_ge (tgt := 154) hx hb dX8_fingerprint_94 (by decide) (fun hc => ?_) (fun hc => ?_)
      · replace hT91 := bq_t hc hT91
        clear hc
        obtain rfl := Option.some.inj hT91
        replace hR91 := bq_lk_r hR91
        subst hR91
        exact X154 H locs ls w (lv_sub hl [0, 1] rfl)
      · replace hT91 := bq_f hc hT91
        clear hc
        refine lv_ldc2 (v := 31) hx hb E.2.2.2.1 (E.2.2.2.2 _ ct_X8_192) dX8_fingerprint_97 ?_
        refine lv_lload_n hx hb dX8_fingerprint_100 rfl (lv_at hl 1 rfl) ?_
        refine lv_lmul hx hb dX8_fingerprint_101 ?_
        refine lv_aload_n hx hb dX8_fingerprint_102 rfl (lv_at hl 0 rfl) ?_
        refine gt_X8_7 E K w 0 rfl rfl dX8_fingerprint_103 ?_
        refine lv_bipush (v := 20) hx hb dX8_fingerprint_106 (by decide) ?_
        refine lv_iload_n hx hb dX8_fingerprint_108 rfl (lv_at hl 2 rfl) ?_
        refine lv_iadd hx hb dX8_fingerprint_109 ?_
        obtain ⟨hI, hT91⟩ := bq_ci_el hT91
        refine bq_ald E K w 1 rfl hI dX8_fingerprint_110 ?_
        refine lv_i2l hx hb dX8_fingerprint_111 rfl ?_
        refine lv_ladd hx hb dX8_fingerprint_112 ?_
        obtain ⟨v16, e9, hT91⟩ := bq_let_el hT91
        refine bq_nml e9 ?_
        clear e9
        refine lv_lstore_n (lv' := [(1, .long v16), (0, .ref a_t), (3, .int i8)]) hx hb dX8_fingerprint_113 rfl hl (by decide) rfl (fun ls hl => ?_)
        refine lv_ldc2 (v := 31) hx hb E.2.2.2.1 (E.2.2.2.2 _ ct_X8_192) dX8_fingerprint_114 ?_
        refine lv_lload_n hx hb dX8_fingerprint_117 rfl (lv_at hl 0 rfl) ?_
        refine lv_lmul hx hb dX8_fingerprint_118 ?_
        refine lv_aload_n hx hb dX8_fingerprint_119 rfl (lv_at hl 1 rfl) ?_
        refine gt_X8_7 E K w 0 rfl rfl dX8_fingerprint_120 ?_
        refine lv_bipush (v := 26) hx hb dX8_fingerprint_123 (by decide) ?_
        refine lv_iload_n hx hb dX8_fingerprint_125 rfl (lv_at hl 2 rfl) ?_
        refine lv_iadd hx hb dX8_fingerprint_126 ?_
        obtain ⟨hI, hT91⟩ := bq_ci_el hT91
        refine bq_ald E K w 1 rfl hI dX8_fingerprint_127 ?_
        refine lv_i2l hx hb dX8_fingerprint_128 rfl ?_
        refine lv_ladd hx hb dX8_fingerprint_129 ?_
        obtain ⟨v17, e9, hT91⟩ := bq_let_el hT91
        refine bq_nml e9 ?_
        clear e9
        refine lv_lstore_n (lv' := [(1, .long v17), (0, .ref a_t), (3, .int i8)]) hx hb dX8_fingerprint_130 rfl hl (by decide) rfl (fun ls hl => ?_)
        refine lv_ldc2 (v := 31) hx hb E.2.2.2.1 (E.2.2.2.2 _ ct_X8_192) dX8_fingerprint_131 ?_
        refine lv_lload_n hx hb dX8_fingerprint_134 rfl (lv_at hl 0 rfl) ?_
        refine lv_lmul hx hb dX8_fingerprint_135 ?_
        refine lv_aload_n hx hb dX8_fingerprint_136 rfl (lv_at hl 1 rfl) ?_
        refine gt_X8_7 E K w 0 rfl rfl dX8_fingerprint_137 ?_
        refine lv_bipush (v := 32) hx hb dX8_fingerprint_140 (by decide) ?_
        refine lv_iload_n hx hb dX8_fingerprint_142 rfl (lv_at hl 2 rfl) ?_
        refine lv_iadd hx hb dX8_fingerprint_143 ?_
        obtain ⟨hI, hT91⟩ := bq_ci_el hT91
        refine bq_ald E K w 1 rfl hI dX8_fingerprint_144 ?_
        refine lv_i2l hx hb dX8_fingerprint_145 rfl ?_
        refine lv_ladd hx hb dX8_fingerprint_146 ?_
        obtain ⟨v18, e9, hT91⟩ := bq_let_el hT91
        refine bq_nml e9 ?_
        clear e9
        refine lv_lstore_n (lv' := [(1, .long v18), (0, .ref a_t), (3, .int i8)]) hx hb dX8_fingerprint_147 rfl hl (by decide) rfl (fun ls hl => ?_)
        obtain ⟨v19, e9, hT91⟩ := bq_let_el hT91
        refine lv_iinc (v := v19) (lv' := [(3, .int v19), (1, .long v18), (0, .ref a_t)]) hx hb dX8_fingerprint_148 hl (k := 2) rfl (by rw [e9]; rfl) (by decide) rfl (fun ls hl => ?_)
        clear e9
        refine lv_goto (tgt := 91) hx hb dX8_fingerprint_151 (by decide) ?_
        obtain rfl := Option.some.inj hT91
        exact ih v19 v18 H locs ls hR91 w (lv_sub hl [2, 1, 0] rfl)
  exact L91 nn 0 v7 H locs ls hL w (lv_sub hl [2, 1, 0] rfl)
