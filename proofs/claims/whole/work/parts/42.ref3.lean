abbrev wdX8_ticksOnce (cI : ClassId) (a_t a_t_backs a_t_cuts a_t_outs a_t_pauses a_t_strokes a_p1 u_t_rig u_t_trial u_t_text u_t_readOuts u_t_readBacks u_t_readPauses : Nat) (t : Nat → Int32) (t_backs : Nat → Int32) (t_cuts : Nat → Int32) (t_outs : Nat → Int32) (t_pauses : Nat → Int32) (t_strokes : Nat → Int32) (p1 : Nat → Int32) : va_W := [(a_t, oX8 u_t_rig u_t_trial a_t_strokes a_t_outs a_t_backs a_t_pauses a_t_cuts u_t_text u_t_readOuts u_t_readBacks u_t_readPauses t), (a_t_backs, oA cI 16 t_backs), (a_t_cuts, oA cI 16 t_cuts), (a_t_outs, oA cI 16 t_outs), (a_t_pauses, oA cI 16 t_pauses), (a_t_strokes, oA cI 6 t_strokes), (a_p1, oA cI 140 p1)]
abbrev rmX8_ticksOnce : Room := { frames := 3, cells := 0, slots := 0, locals := 77 }
theorem hd_X8_ticksOnce : yX8_ticksOnce.cls = RX8 ∧ yX8_ticksOnce.cls ≠ "java/lang/invoke/MethodHandle" ∧ yX8_ticksOnce.cls ≠ "java/lang/invoke/VarHandle" ∧ (parseMethodDescriptor yX8_ticksOnce.desc).map (fun d => d.parameters.length) = some 1 := by decide +kernel
set_option maxHeartbeats 4000000 in
set_option maxRecDepth 100000 in
theorem kX8_ticksOnce (l : Launch) (D : va_G) (cI cJ : ClassId) (a_t a_t_backs a_t_cuts a_t_outs a_t_pauses a_t_strokes a_p1 u_t_rig u_t_trial u_t_text u_t_readOuts u_t_readBacks u_t_readPauses : Nat) (t t_backs t_cuts t_outs t_pauses t_strokes p1 : Nat → Int32) (p1_o : Nat → Int32) (hm : mX8_ticksOnce t t_backs t_cuts t_outs t_pauses t_strokes p1 = some p1_o) : bq_M l D cI cJ yX8_ticksOnce cX8_ticksOnce 8 none rmX8_ticksOnce [.ref a_t, .ref a_p1] (wdX8_ticksOnce cI a_t a_t_backs a_t_cuts a_t_outs a_t_pauses a_t_strokes a_p1 u_t_rig u_t_trial u_t_text u_t_readOuts u_t_readBacks u_t_readPauses t t_backs t_cuts t_outs t_pauses t_strokes p1) (wdX8_ticksOnce cI a_t a_t_backs a_t_cuts a_t_outs a_t_pauses a_t_strokes a_p1 u_t_rig u_t_trial u_t_text u_t_readOuts u_t_readBacks u_t_readPauses t t_backs t_cuts t_outs t_pauses t_strokes p1_o) none := by
  refine bq_start (by decide) (Nat.le_of_ble_eq_true rfl) ?_
  intro p e s m av9 below meth c A ls Q H locs E K w hA hr hk hn hQ hl
  have E : bq_E p m c cX8_ticksOnce 8 s av9 RX8 := E
  have hx := E.1
  have hb := E.2.1
  have hl : lv_has ls 8 [(0, .ref a_t), (1, .ref a_p1)] := hl
  unfold mX8_ticksOnce at hm
  refine lv_aload_n hx hb dX8_ticksOnce_0 rfl (lv_at hl 0 rfl) ?_
  refine lv_aload_n hx hb dX8_ticksOnce_1 rfl (lv_at hl 1 rfl) ?_
  obtain ⟨v1, p1_2, hC, hm⟩ := bq_b2_el hm
  refine bq_V (As := [.ref a_p1]) (rest := []) (st1 := [.int v1]) (ws' := wdX8_ticksOnce cI a_t a_t_backs a_t_cuts a_t_outs a_t_pauses a_t_strokes a_p1 u_t_rig u_t_trial u_t_text u_t_readOuts u_t_readBacks u_t_readPauses t t_backs t_cuts t_outs t_pauses t_strokes p1_2) E K w hA (kX8_decides l D cI cJ a_t a_t_backs a_t_cuts a_t_outs a_t_pauses a_t_strokes a_p1 u_t_rig u_t_trial u_t_text u_t_readOuts u_t_readBacks u_t_readPauses t t_backs t_cuts t_outs t_pauses t_strokes p1 v1 p1_2 hC) (bq_gV ml_X8_163 im_X8_decides sl_X8_decides in_X8 cd_X8_decides) hd_X8_decides ⟨Nat.le_of_ble_eq_true rfl, Nat.le_of_ble_eq_true rfl⟩ ⟨Nat.le_of_ble_eq_true rfl, Nat.le_of_ble_eq_true rfl⟩ ⟨[0, 1, 2, 3, 4, 5, 6], [], [0, 1, 2, 3, 4, 5, 6], rfl, rfl, rfl, rfl, rfl, rfl, rfl, rfl, rfl⟩ 0 rfl rfl rfl hl.1 rfl (Nat.le_of_ble_eq_true rfl) rfl dX8_ticksOnce_2 (fun H locs w => bq_z ⟨rfl, rfl⟩ ?_)
  clear hC
  refine lv_istore_n (lv' := [(2, .int v1), (0, .ref a_t), (1, .ref a_p1)]) hx hb dX8_ticksOnce_5 rfl hl (by decide) rfl (fun ls hl => ?_)
  refine lv_iconst (v := 0) hx hb dX8_ticksOnce_6 (by decide) ?_
  refine lv_istore_n (lv' := [(3, .int 0), (2, .int v1), (0, .ref a_t), (1, .ref a_p1)]) hx hb dX8_ticksOnce_7 rfl hl (by decide) rfl (fun ls hl => ?_)
  refine lv_iconst (v := 0) hx hb dX8_ticksOnce_8 (by decide) ?_
  refine lv_istore (lv' := [(4, .int 0), (3, .int 0), (2, .int v1), (0, .ref a_t), (1, .ref a_p1)]) hx hb dX8_ticksOnce_9 hl (by decide) rfl (fun ls hl => ?_)
  obtain ⟨v6, p1_7, hL, hm⟩ := bq_b2_el hm
  obtain ⟨B, eB, nn, hL⟩ := bq_loop_B hL
  have X172 : ∀ (H : Heap) (locs : List Loc) (ls : Array Slot), bq_w D A s.heap (wdX8_ticksOnce cI a_t a_t_backs a_t_cuts a_t_outs a_t_pauses a_t_strokes a_p1 u_t_rig u_t_trial u_t_text u_t_readOuts u_t_readBacks u_t_readPauses t t_backs t_cuts t_outs t_pauses t_strokes p1_7) H locs → lv_has ls 8 [(0, .ref a_t), (1, .ref a_p1), (2, .int v1), (3, .int v6)] → W p l e rmX8_ticksOnce s m av9 below meth c H locs 0 0 Q (F0 m 172 ls []) := by
    intro H locs ls w hl
    refine lv_iconst (v := 0) hx hb dX8_ticksOnce_172 (by decide) ?_
    refine lv_istore (lv' := [(4, .int 0), (0, .ref a_t), (1, .ref a_p1), (2, .int v1), (3, .int v6)]) hx hb dX8_ticksOnce_173 hl (by decide) rfl (fun ls hl => ?_)
    obtain ⟨v11, p1_12, hL, hm⟩ := bq_b2_el hm
    obtain ⟨B, eB, nn, hL⟩ := bq_loop_B hL
    have X287 : ∀ (H : Heap) (locs : List Loc) (ls : Array Slot), bq_w D A s.heap (wdX8_ticksOnce cI a_t a_t_backs a_t_cuts a_t_outs a_t_pauses a_t_strokes a_p1 u_t_rig u_t_trial u_t_text u_t_readOuts u_t_readBacks u_t_readPauses t t_backs t_cuts t_outs t_pauses t_strokes p1_12) H locs → lv_has ls 8 [(0, .ref a_t), (1, .ref a_p1), (2, .int v1), (3, .int v11)] → W p l e rmX8_ticksOnce s m av9 below meth c H locs 0 0 Q (F0 m 287 ls []) := by
      intro H locs ls w hl
      refine lv_iconst (v := 0) hx hb dX8_ticksOnce_287 (by decide) ?_
      refine lv_istore (lv' := [(4, .int 0), (0, .ref a_t), (1, .ref a_p1), (2, .int v1), (3, .int v11)]) hx hb dX8_ticksOnce_288 hl (by decide) rfl (fun ls hl => ?_)
      obtain ⟨p1_15, hL, hm⟩ := bq_bd_el hm
      obtain ⟨B, eB, nn, hL⟩ := bq_loop_B hL
      have X373 : ∀ (H : Heap) (locs : List Loc) (ls : Array Slot), bq_w D A s.heap (wdX8_ticksOnce cI a_t a_t_backs a_t_cuts a_t_outs a_t_pauses a_t_strokes a_p1 u_t_rig u_t_trial u_t_text u_t_readOuts u_t_readBacks u_t_readPauses t t_backs t_cuts t_outs t_pauses t_strokes p1_15) H locs → lv_has ls 8 [(1, .ref a_p1), (3, .int v11)] → W p l e rmX8_ticksOnce s m av9 below meth c H locs 0 0 Q (F0 m 373 ls []) := by
        intro H locs ls w hl
        refine lv_aload_n hx hb dX8_ticksOnce_373 rfl (lv_at hl 0 rfl) ?_
        refine lv_iconst (v := 0) hx hb dX8_ticksOnce_374 (by decide) ?_
        refine lv_dup2_11 hx hb dX8_ticksOnce_375 rfl rfl ?_
        refine bq_aldk E K w 6 rfl 0 (by decide) (by unfold vp_in; decide) dX8_ticksOnce_376 ?_
        refine lv_iconst (v := 1) hx hb dX8_ticksOnce_377 (by decide) ?_
        refine lv_iadd hx hb dX8_ticksOnce_378 ?_
        obtain ⟨p1_16, e9, hm⟩ := bq_let_el hm
        refine bq_astk E K w 6 rfl 0 (by decide) (by unfold vp_in; decide) dX8_ticksOnce_379 (fun H locs w => ?_)
        replace w : bq_w D A s.heap (wdX8_ticksOnce cI a_t a_t_backs a_t_cuts a_t_outs a_t_pauses a_t_strokes a_p1 u_t_rig u_t_trial u_t_text u_t_readOuts u_t_readBacks u_t_readPauses t t_backs t_cuts t_outs t_pauses t_strokes p1_16) H locs := by rw [e9]; exact w
        clear e9
        refine lv_aload_n hx hb dX8_ticksOnce_380 rfl (lv_at hl 0 rfl) ?_
        refine lv_bipush (v := 10) hx hb dX8_ticksOnce_381 (by decide) ?_
        refine lv_iload_n hx hb dX8_ticksOnce_383 rfl (lv_at hl 1 rfl) ?_
        obtain ⟨v17, hT397, hm⟩ := bq_let_el hm
        have K397 : ∀ (H : Heap) (locs : List Loc) (ls : Array Slot), bq_w D A s.heap (wdX8_ticksOnce cI a_t a_t_backs a_t_cuts a_t_outs a_t_pauses a_t_strokes a_p1 u_t_rig u_t_trial u_t_text u_t_readOuts u_t_readBacks u_t_readPauses t t_backs t_cuts t_outs t_pauses t_strokes p1_16) H locs → lv_has ls 8 [] → W p l e rmX8_ticksOnce s m av9 below meth c H locs 0 0 Q (F0 m 397 ls [.int v17, .int 10, .ref a_p1]) := by
          intro H locs ls w hl
          obtain ⟨p1_18, e9, hm⟩ := bq_let_el hm
          refine bq_astk E K w 6 rfl 10 (by decide) (by unfold vp_in; decide) dX8_ticksOnce_397 (fun H locs w => ?_)
          replace w : bq_w D A s.heap (wdX8_ticksOnce cI a_t a_t_backs a_t_cuts a_t_outs a_t_pauses a_t_strokes a_p1 u_t_rig u_t_trial u_t_text u_t_readOuts u_t_readBacks u_t_readPauses t t_backs t_cuts t_outs t_pauses t_strokes p1_18) H locs := by rw [e9]; exact w
          clear e9
          obtain rfl := Option.some.inj hm
          exact bq_vret E w hr hk dX8_ticksOnce_398 hQ
        clear hm
        refine lv_if_eq (tgt := 391) hx hb dX8_ticksOnce_384 (by decide) (fun hc => ?_) (fun hc => ?_)
        · replace hT397 := bq_et hc hT397
          clear hc
          refine lv_aload_n hx hb dX8_ticksOnce_391 rfl (lv_at hl 0 rfl) ?_
          refine lv_bipush (v := 10) hx hb dX8_ticksOnce_392 (by decide) ?_
          refine bq_aldk E K w 6 rfl 10 (by decide) (by unfold vp_in; decide) dX8_ticksOnce_394 ?_
          refine lv_iconst (v := 1) hx hb dX8_ticksOnce_395 (by decide) ?_
          refine lv_iadd hx hb dX8_ticksOnce_396 ?_
          subst hT397
          exact K397 H locs ls w (lv_sub hl [] rfl)
        · replace hT397 := bq_ef hc hT397
          clear hc
          refine lv_iconst (v := 0) hx hb dX8_ticksOnce_387 (by decide) ?_
          refine lv_goto (tgt := 397) hx hb dX8_ticksOnce_388 (by decide) ?_
          subst hT397
          exact K397 H locs ls w (lv_sub hl [] rfl)
      clear hm
      have L290 : ∀ (nn : Nat) (i13 : Int32) (p1_14 : Nat → Int32) (H : Heap) (locs : List Loc) (ls : Array Slot), bq_lp B nn (i13, p1_14) = some p1_15 → bq_w D A s.heap (wdX8_ticksOnce cI a_t a_t_backs a_t_cuts a_t_outs a_t_pauses a_t_strokes a_p1 u_t_rig u_t_trial u_t_text u_t_readOuts u_t_readBacks u_t_readPauses t t_backs t_cuts t_outs t_pauses t_strokes p1_14) H locs → lv_has ls 8 [(0, .ref a_t), (1, .ref a_p1), (2, .int v1), (3, .int v11), (4, .int i13)] → W p l e rmX8_ticksOnce s m av9 below meth c H locs 0 0 Q (F0 m 290 ls []) := by
        intro nn
        induction nn with
        | zero =>
          intro i13 p1_14 H locs ls hL w hl
          exact bq_lp_0 hL
        | succ nn ih =>
          intro i13 p1_14 H locs ls hL w hl
          obtain ⟨oo290, hT290, hR290⟩ := bq_lp_el hL
          clear hL
          replace hT290 := bq_u2_el eB hT290
          unfold bX8_ticksOnce_290 at hT290
          refine lv_iload hx hb dX8_ticksOnce_290 (lv_at hl 4 rfl) ?_
          refine lv_aload_n hx hb dX8_ticksOnce_292 rfl (lv_at hl 0 rfl) ?_
          refine gt_X8_104 E K w 0 rfl rfl dX8_ticksOnce_293 ?_
          refine lv_icmp_ge (tgt := 373) hx hb dX8_ticksOnce_296 (by decide) (fun hc => ?_) (fun hc => ?_)
          · replace hT290 := bq_t hc hT290
            clear hc
            obtain rfl := Option.some.inj hT290
            replace hR290 := bq_lk_r hR290
            subst hR290
            exact X373 H locs ls w (lv_sub hl [1, 3] rfl)
          · replace hT290 := bq_f hc hT290
            clear hc
            refine lv_aload_n hx hb dX8_ticksOnce_299 rfl (lv_at hl 1 rfl) ?_
            refine lv_bipush (v := 44) hx hb dX8_ticksOnce_300 (by decide) ?_
            refine lv_iload hx hb dX8_ticksOnce_302 (lv_at hl 4 rfl) ?_
            refine lv_iadd hx hb dX8_ticksOnce_304 ?_
            obtain ⟨hI, hT290⟩ := bq_ci_el hT290
            refine bq_ald E K w 6 rfl hI dX8_ticksOnce_305 ?_
            obtain ⟨v19, e9, hT290⟩ := bq_let_el hT290
            refine bq_nmi e9 ?_
            clear e9
            refine lv_istore (lv' := [(5, .int v19), (0, .ref a_t), (1, .ref a_p1), (2, .int v1), (3, .int v11), (4, .int i13)]) hx hb dX8_ticksOnce_306 hl (by decide) rfl (fun ls hl => ?_)
            refine lv_aload_n hx hb dX8_ticksOnce_308 rfl (lv_at hl 1 rfl) ?_
            refine gt_X8_25 E K w 0 rfl rfl dX8_ticksOnce_309 ?_
            refine lv_iload hx hb dX8_ticksOnce_312 (lv_at hl 5 rfl) ?_
            obtain ⟨hI, hT290⟩ := bq_ci_el hT290
            refine bq_ald E K w 4 rfl hI dX8_ticksOnce_314 ?_
            obtain ⟨v20, hT333, hT290⟩ := bq_let_el hT290
            have K333 : ∀ (H : Heap) (locs : List Loc) (ls : Array Slot), bq_w D A s.heap (wdX8_ticksOnce cI a_t a_t_backs a_t_cuts a_t_outs a_t_pauses a_t_strokes a_p1 u_t_rig u_t_trial u_t_text u_t_readOuts u_t_readBacks u_t_readPauses t t_backs t_cuts t_outs t_pauses t_strokes p1_14) H locs → lv_has ls 8 [(0, .ref a_t), (1, .ref a_p1), (2, .int v1), (3, .int v11), (4, .int i13), (5, .int v19)] → W p l e rmX8_ticksOnce s m av9 below meth c H locs 0 0 Q (F0 m 333 ls [.int v20]) := by
              intro H locs ls w hl
              refine lv_istore (lv' := [(6, .int v20), (0, .ref a_t), (1, .ref a_p1), (2, .int v1), (3, .int v11), (4, .int i13), (5, .int v19)]) hx hb dX8_ticksOnce_333 hl (by decide) rfl (fun ls hl => ?_)
              refine lv_aload_n hx hb dX8_ticksOnce_335 rfl (lv_at hl 2 rfl) ?_
              refine lv_bipush (v := 44) hx hb dX8_ticksOnce_336 (by decide) ?_
              refine lv_iload hx hb dX8_ticksOnce_338 (lv_at hl 5 rfl) ?_
              refine lv_iadd hx hb dX8_ticksOnce_340 ?_
              refine lv_iload hx hb dX8_ticksOnce_341 (lv_at hl 0 rfl) ?_
              obtain ⟨v21, hT366, hT290⟩ := bq_let_el hT290
              have K366 : ∀ (H : Heap) (locs : List Loc) (ls : Array Slot), bq_w D A s.heap (wdX8_ticksOnce cI a_t a_t_backs a_t_cuts a_t_outs a_t_pauses a_t_strokes a_p1 u_t_rig u_t_trial u_t_text u_t_readOuts u_t_readBacks u_t_readPauses t t_backs t_cuts t_outs t_pauses t_strokes p1_14) H locs → lv_has ls 8 [(0, .ref a_t), (1, .ref a_p1), (2, .int v1), (3, .int v11), (4, .int i13)] → W p l e rmX8_ticksOnce s m av9 below meth c H locs 0 0 Q (F0 m 366 ls [.int v21, .int (44 + i13), .ref a_p1]) := by
                intro H locs ls w hl
                obtain ⟨hI, hT290⟩ := bq_ci_el hT290
                obtain ⟨p1_22, e9, hT290⟩ := bq_let_el hT290
                refine bq_ast E K w 6 rfl hI dX8_ticksOnce_366 (fun H locs w => ?_)
                replace w : bq_w D A s.heap (wdX8_ticksOnce cI a_t a_t_backs a_t_cuts a_t_outs a_t_pauses a_t_strokes a_p1 u_t_rig u_t_trial u_t_text u_t_readOuts u_t_readBacks u_t_readPauses t t_backs t_cuts t_outs t_pauses t_strokes p1_22) H locs := by rw [e9]; exact w
                clear e9
                obtain ⟨v23, e9, hT290⟩ := bq_let_el hT290
                refine lv_iinc (v := v23) (lv' := [(4, .int v23), (0, .ref a_t), (1, .ref a_p1), (2, .int v1), (3, .int v11)]) hx hb dX8_ticksOnce_367 hl (k := 4) rfl (by rw [e9]; rfl) (by decide) rfl (fun ls hl => ?_)
                clear e9
                refine lv_goto (tgt := 290) hx hb dX8_ticksOnce_370 (by decide) ?_
                obtain rfl := Option.some.inj hT290
                exact ih v23 p1_22 H locs ls hR290 w (lv_sub hl [1, 2, 3, 4, 0] rfl)
              clear hT290
              refine lv_if_ne (tgt := 350) hx hb dX8_ticksOnce_343 (by decide) (fun hc => ?_) (fun hc => ?_)
              · replace hT366 := bq_ef hc hT366
                clear hc
                refine lv_iload hx hb dX8_ticksOnce_350 (lv_at hl 6 rfl) ?_
                refine lv_bipush (v := 60) hx hb dX8_ticksOnce_352 (by decide) ?_
                refine lv_icmp_ge (tgt := 364) hx hb dX8_ticksOnce_354 (by decide) (fun hc => ?_) (fun hc => ?_)
                · replace hT366 := bq_et hc hT366
                  clear hc
                  refine lv_bipush (v := 60) hx hb dX8_ticksOnce_364 (by decide) ?_
                  subst hT366
                  exact K366 H locs ls w (lv_sub hl [1, 2, 3, 4, 5] rfl)
                · replace hT366 := bq_ef hc hT366
                  clear hc
                  refine lv_iload hx hb dX8_ticksOnce_357 (lv_at hl 6 rfl) ?_
                  refine lv_iconst (v := 1) hx hb dX8_ticksOnce_359 (by decide) ?_
                  refine lv_iadd hx hb dX8_ticksOnce_360 ?_
                  refine lv_goto (tgt := 366) hx hb dX8_ticksOnce_361 (by decide) ?_
                  subst hT366
                  exact K366 H locs ls w (lv_sub hl [1, 2, 3, 4, 5] rfl)
              · replace hT366 := bq_et hc hT366
                clear hc
                refine lv_iconst (v := 0) hx hb dX8_ticksOnce_346 (by decide) ?_
                refine lv_goto (tgt := 366) hx hb dX8_ticksOnce_347 (by decide) ?_
                subst hT366
                exact K366 H locs ls w (lv_sub hl [1, 2, 3, 4, 5] rfl)
            clear hT290
            refine lv_if_le (tgt := 332) hx hb dX8_ticksOnce_315 (by decide) (fun hc => ?_) (fun hc => ?_)
            · replace hT333 := bq_et hc hT333
              clear hc
              refine lv_iconst (v := 0) hx hb dX8_ticksOnce_332 (by decide) ?_
              subst hT333
              exact K333 H locs ls w (lv_sub hl [1, 2, 3, 4, 5, 0] rfl)
            · replace hT333 := bq_ef hc hT333
              clear hc
              refine lv_iload_n hx hb dX8_ticksOnce_318 rfl (lv_at hl 3 rfl) ?_
              refine lv_iload hx hb dX8_ticksOnce_319 (lv_at hl 5 rfl) ?_
              refine lv_ishr hx hb dX8_ticksOnce_321 ?_
              refine lv_iconst (v := 1) hx hb dX8_ticksOnce_322 (by decide) ?_
              refine lv_iand hx hb dX8_ticksOnce_323 ?_
              refine lv_iconst (v := 1) hx hb dX8_ticksOnce_324 (by decide) ?_
              refine lv_icmp_ne (tgt := 332) hx hb dX8_ticksOnce_325 (by decide) (fun hc => ?_) (fun hc => ?_)
              · replace hT333 := bq_ef hc hT333
                clear hc
                refine lv_iconst (v := 0) hx hb dX8_ticksOnce_332 (by decide) ?_
                subst hT333
                exact K333 H locs ls w (lv_sub hl [1, 2, 3, 4, 5, 0] rfl)
              · replace hT333 := bq_et hc hT333
                clear hc
                refine lv_iconst (v := 1) hx hb dX8_ticksOnce_328 (by decide) ?_
                refine lv_goto (tgt := 333) hx hb dX8_ticksOnce_329 (by decide) ?_
                subst hT333
                exact K333 H locs ls w (lv_sub hl [1, 2, 3, 4, 5, 0] rfl)
      exact L290 nn 0 p1_12 H locs ls hL w (lv_sub hl [1, 2, 3, 4, 0] rfl)
    clear hm
    have L175 : ∀ (nn : Nat) (i8 : Int32) (i9 : Int32) (p1_10 : Nat → Int32) (H : Heap) (locs : List Loc) (ls : Array Slot), bq_lp B nn (i8, i9, p1_10) = some (v11, p1_12) → bq_w D A s.heap (wdX8_ticksOnce cI a_t a_t_backs a_t_cuts a_t_outs a_t_pauses a_t_strokes a_p1 u_t_rig u_t_trial u_t_text u_t_readOuts u_t_readBacks u_t_readPauses t t_backs t_cuts t_outs t_pauses t_strokes p1_10) H locs → lv_has ls 8 [(0, .ref a_t), (1, .ref a_p1), (2, .int v1), (3, .int i9), (4, .int i8)] → W p l e rmX8_ticksOnce s m av9 below meth c H locs 0 0 Q (F0 m 175 ls []) := by
      intro nn
      induction nn with
      | zero =>
        intro i8 i9 p1_10 H locs ls hL w hl
        exact bq_lp_0 hL
      | succ nn ih =>
        intro i8 i9 p1_10 H locs ls hL w hl
        obtain ⟨oo175, hT175, hR175⟩ := bq_lp_el hL
        clear hL
        replace hT175 := bq_u3_el eB hT175
        unfold bX8_ticksOnce_175 at hT175
        refine lv_iload hx hb dX8_ticksOnce_175 (lv_at hl 4 rfl) ?_
        refine lv_bipush (v := 6) hx hb dX8_ticksOnce_177 (by decide) ?_
        refine lv_icmp_ge (tgt := 287) hx hb dX8_ticksOnce_179 (by decide) (fun hc => ?_) (fun hc => ?_)
        · replace hT175 := bq_t hc hT175
          clear hc
          obtain rfl := Option.some.inj hT175
          replace hR175 := bq_lk_r hR175
          obtain ⟨rfl, rfl⟩ := bq_in2 hR175
          exact X287 H locs ls w (lv_sub hl [0, 1, 2, 3] rfl)
        · replace hT175 := bq_f hc hT175
          clear hc
          refine lv_aload_n hx hb dX8_ticksOnce_182 rfl (lv_at hl 1 rfl) ?_
          refine lv_bipush (v := 26) hx hb dX8_ticksOnce_183 (by decide) ?_
          refine lv_iload hx hb dX8_ticksOnce_185 (lv_at hl 4 rfl) ?_
          refine lv_iadd hx hb dX8_ticksOnce_187 ?_
          obtain ⟨hI, hT175⟩ := bq_ci_el hT175
          refine bq_ald E K w 6 rfl hI dX8_ticksOnce_188 ?_
          refine lv_iconst (v := 1) hx hb dX8_ticksOnce_189 (by decide) ?_
          obtain ⟨v24, hT204, hT175⟩ := bq_bd_el hT175
          have K204 : ∀ (H : Heap) (locs : List Loc) (ls : Array Slot), bq_w D A s.heap (wdX8_ticksOnce cI a_t a_t_backs a_t_cuts a_t_outs a_t_pauses a_t_strokes a_p1 u_t_rig u_t_trial u_t_text u_t_readOuts u_t_readBacks u_t_readPauses t t_backs t_cuts t_outs t_pauses t_strokes p1_10) H locs → lv_has ls 8 [(0, .ref a_t), (1, .ref a_p1), (2, .int v1), (3, .int i9), (4, .int i8)] → W p l e rmX8_ticksOnce s m av9 below meth c H locs 0 0 Q (F0 m 204 ls [.int v24]) := by
            intro H locs ls w hl
            refine lv_istore (lv' := [(5, .int v24), (0, .ref a_t), (1, .ref a_p1), (2, .int v1), (3, .int i9), (4, .int i8)]) hx hb dX8_ticksOnce_204 hl (by decide) rfl (fun ls hl => ?_)
            refine lv_aload_n hx hb dX8_ticksOnce_206 rfl (lv_at hl 2 rfl) ?_
            refine lv_bipush (v := 38) hx hb dX8_ticksOnce_207 (by decide) ?_
            refine lv_iload hx hb dX8_ticksOnce_209 (lv_at hl 5 rfl) ?_
            refine lv_iadd hx hb dX8_ticksOnce_211 ?_
            obtain ⟨hI, hT175⟩ := bq_ci_el hT175
            refine bq_ald E K w 6 rfl hI dX8_ticksOnce_212 ?_
            refine lv_iconst (v := 1) hx hb dX8_ticksOnce_213 (by decide) ?_
            refine lv_iand hx hb dX8_ticksOnce_214 ?_
            refine lv_iconst (v := 1) hx hb dX8_ticksOnce_215 (by decide) ?_
            obtain ⟨v25, hT252, hT175⟩ := bq_bd_el hT175
            have K252 : ∀ (H : Heap) (locs : List Loc) (ls : Array Slot), bq_w D A s.heap (wdX8_ticksOnce cI a_t a_t_backs a_t_cuts a_t_outs a_t_pauses a_t_strokes a_p1 u_t_rig u_t_trial u_t_text u_t_readOuts u_t_readBacks u_t_readPauses t t_backs t_cuts t_outs t_pauses t_strokes p1_10) H locs → lv_has ls 8 [(0, .ref a_t), (1, .ref a_p1), (2, .int v1), (3, .int i9), (4, .int i8)] → W p l e rmX8_ticksOnce s m av9 below meth c H locs 0 0 Q (F0 m 252 ls [.int v25]) := by
              intro H locs ls w hl
              refine lv_istore (lv' := [(6, .int v25), (0, .ref a_t), (1, .ref a_p1), (2, .int v1), (3, .int i9), (4, .int i8)]) hx hb dX8_ticksOnce_252 hl (by decide) rfl (fun ls hl => ?_)
              refine lv_aload_n hx hb dX8_ticksOnce_254 rfl (lv_at hl 2 rfl) ?_
              refine lv_bipush (v := 20) hx hb dX8_ticksOnce_255 (by decide) ?_
              refine lv_iload hx hb dX8_ticksOnce_257 (lv_at hl 5 rfl) ?_
              refine lv_iadd hx hb dX8_ticksOnce_259 ?_
              refine lv_dup2_11 hx hb dX8_ticksOnce_260 rfl rfl ?_
              obtain ⟨hI, hT175⟩ := bq_ci_el hT175
              refine bq_ald E K w 6 rfl hI dX8_ticksOnce_261 ?_
              refine lv_iload hx hb dX8_ticksOnce_262 (lv_at hl 0 rfl) ?_
              refine lv_iadd hx hb dX8_ticksOnce_264 ?_
              obtain ⟨hI, hT175⟩ := bq_ci_el hT175
              obtain ⟨p1_26, e9, hT175⟩ := bq_let_el hT175
              refine bq_ast E K w 6 rfl hI dX8_ticksOnce_265 (fun H locs w => ?_)
              replace w : bq_w D A s.heap (wdX8_ticksOnce cI a_t a_t_backs a_t_cuts a_t_outs a_t_pauses a_t_strokes a_p1 u_t_rig u_t_trial u_t_text u_t_readOuts u_t_readBacks u_t_readPauses t t_backs t_cuts t_outs t_pauses t_strokes p1_26) H locs := by rw [e9]; exact w
              clear e9
              refine lv_iload_n hx hb dX8_ticksOnce_266 rfl (lv_at hl 4 rfl) ?_
              obtain ⟨v27, hT280, hT175⟩ := bq_let_el hT175
              have K280 : ∀ (H : Heap) (locs : List Loc) (ls : Array Slot), bq_w D A s.heap (wdX8_ticksOnce cI a_t a_t_backs a_t_cuts a_t_outs a_t_pauses a_t_strokes a_p1 u_t_rig u_t_trial u_t_text u_t_readOuts u_t_readBacks u_t_readPauses t t_backs t_cuts t_outs t_pauses t_strokes p1_26) H locs → lv_has ls 8 [(0, .ref a_t), (1, .ref a_p1), (2, .int v1), (4, .int i8)] → W p l e rmX8_ticksOnce s m av9 below meth c H locs 0 0 Q (F0 m 280 ls [.int v27]) := by
                intro H locs ls w hl
                refine lv_istore_n (lv' := [(3, .int v27), (0, .ref a_t), (1, .ref a_p1), (2, .int v1), (4, .int i8)]) hx hb dX8_ticksOnce_280 rfl hl (by decide) rfl (fun ls hl => ?_)
                obtain ⟨v28, e9, hT175⟩ := bq_let_el hT175
                refine lv_iinc (v := v28) (lv' := [(4, .int v28), (3, .int v27), (0, .ref a_t), (1, .ref a_p1), (2, .int v1)]) hx hb dX8_ticksOnce_281 hl (k := 4) rfl (by rw [e9]; rfl) (by decide) rfl (fun ls hl => ?_)
                clear e9
                refine lv_goto (tgt := 175) hx hb dX8_ticksOnce_284 (by decide) ?_
                obtain rfl := Option.some.inj hT175
                exact ih v28 v27 p1_26 H locs ls hR175 w (lv_sub hl [2, 3, 4, 1, 0] rfl)
              clear hT175
              refine lv_if_ne (tgt := 275) hx hb dX8_ticksOnce_267 (by decide) (fun hc => ?_) (fun hc => ?_)
              · replace hT280 := bq_ef hc hT280
                clear hc
                refine lv_iconst (v := 1) hx hb dX8_ticksOnce_275 (by decide) ?_
                refine lv_goto (tgt := 280) hx hb dX8_ticksOnce_276 (by decide) ?_
                subst hT280
                exact K280 H locs ls w (lv_sub hl [1, 2, 3, 5] rfl)
              · replace hT280 := bq_et hc hT280
                clear hc
                refine lv_iload hx hb dX8_ticksOnce_270 (lv_at hl 0 rfl) ?_
                refine lv_if_eq (tgt := 279) hx hb dX8_ticksOnce_272 (by decide) (fun hc => ?_) (fun hc => ?_)
                · replace hT280 := bq_et hc hT280
                  clear hc
                  refine lv_iconst (v := 0) hx hb dX8_ticksOnce_279 (by decide) ?_
                  subst hT280
                  exact K280 H locs ls w (lv_sub hl [1, 2, 3, 5] rfl)
                · replace hT280 := bq_ef hc hT280
                  clear hc
                  refine lv_iconst (v := 1) hx hb dX8_ticksOnce_275 (by decide) ?_
                  refine lv_goto (tgt := 280) hx hb dX8_ticksOnce_276 (by decide) ?_
                  subst hT280
                  exact K280 H locs ls w (lv_sub hl [1, 2, 3, 5] rfl)
            clear hT175
            refine lv_icmp_eq (tgt := 231) hx hb dX8_ticksOnce_216 (by decide) (fun hc => ?_) (fun hc => ?_)
            · replace hT252 := bq_t hc hT252
              clear hc
              refine lv_iconst (v := 0) hx hb dX8_ticksOnce_231 (by decide) ?_
              refine lv_goto (tgt := 252) hx hb dX8_ticksOnce_232 (by decide) ?_
              obtain rfl := Option.some.inj hT252
              exact K252 H locs ls w (lv_sub hl [1, 2, 3, 4, 5] rfl)
            · replace hT252 := bq_f hc hT252
              clear hc
              refine lv_aload_n hx hb dX8_ticksOnce_219 rfl (lv_at hl 2 rfl) ?_
              refine lv_bipush (v := 20) hx hb dX8_ticksOnce_220 (by decide) ?_
              refine lv_iload hx hb dX8_ticksOnce_222 (lv_at hl 5 rfl) ?_
              refine lv_iadd hx hb dX8_ticksOnce_224 ?_
              obtain ⟨hI, hT252⟩ := bq_ci_el hT252
              refine bq_ald E K w 6 rfl hI dX8_ticksOnce_225 ?_
              refine lv_iload hx hb dX8_ticksOnce_226 (lv_at hl 0 rfl) ?_
              refine lv_icmp_ne (tgt := 235) hx hb dX8_ticksOnce_228 (by decide) (fun hc => ?_) (fun hc => ?_)
              · replace hT252 := bq_f hc hT252
                clear hc
                refine lv_aload_n hx hb dX8_ticksOnce_235 rfl (lv_at hl 2 rfl) ?_
                refine lv_bipush (v := 20) hx hb dX8_ticksOnce_236 (by decide) ?_
                refine lv_iload hx hb dX8_ticksOnce_238 (lv_at hl 5 rfl) ?_
                refine lv_iadd hx hb dX8_ticksOnce_240 ?_
                obtain ⟨hI, hT252⟩ := bq_ci_el hT252
                refine bq_ald E K w 6 rfl hI dX8_ticksOnce_241 ?_
                refine lv_iload hx hb dX8_ticksOnce_242 (lv_at hl 0 rfl) ?_
                refine lv_icmp_ge (tgt := 251) hx hb dX8_ticksOnce_244 (by decide) (fun hc => ?_) (fun hc => ?_)
                · replace hT252 := bq_t hc hT252
                  clear hc
                  refine lv_iconst (v := (-1)) hx hb dX8_ticksOnce_251 (by decide) ?_
                  obtain rfl := Option.some.inj hT252
                  exact K252 H locs ls w (lv_sub hl [1, 2, 3, 4, 5] rfl)
                · replace hT252 := bq_f hc hT252
                  clear hc
                  refine lv_iconst (v := 1) hx hb dX8_ticksOnce_247 (by decide) ?_
                  refine lv_goto (tgt := 252) hx hb dX8_ticksOnce_248 (by decide) ?_
                  obtain rfl := Option.some.inj hT252
                  exact K252 H locs ls w (lv_sub hl [1, 2, 3, 4, 5] rfl)
              · replace hT252 := bq_t hc hT252
                clear hc
                refine lv_iconst (v := 0) hx hb dX8_ticksOnce_231 (by decide) ?_
                refine lv_goto (tgt := 252) hx hb dX8_ticksOnce_232 (by decide) ?_
                obtain rfl := Option.some.inj hT252
                exact K252 H locs ls w (lv_sub hl [1, 2, 3, 4, 5] rfl)
          clear hT175
          refine lv_icmp_ne (tgt := 203) hx hb dX8_ticksOnce_190 (by decide) (fun hc => ?_) (fun hc => ?_)
          · replace hT204 := bq_f hc hT204
            clear hc
            refine lv_iconst (v := 0) hx hb dX8_ticksOnce_203 (by decide) ?_
            obtain rfl := Option.some.inj hT204
            exact K204 H locs ls w (lv_sub hl [0, 1, 2, 3, 4] rfl)
          · replace hT204 := bq_t hc hT204
            clear hc
            refine lv_aload_n hx hb dX8_ticksOnce_193 rfl (lv_at hl 0 rfl) ?_
            refine gt_X8_16 E K w 0 rfl rfl dX8_ticksOnce_194 ?_
            refine lv_iload hx hb dX8_ticksOnce_197 (lv_at hl 4 rfl) ?_
            obtain ⟨hI, hT204⟩ := bq_ci_el hT204
            refine bq_ald E K w 5 rfl hI dX8_ticksOnce_199 ?_
            refine lv_goto (tgt := 204) hx hb dX8_ticksOnce_200 (by decide) ?_
            obtain rfl := Option.some.inj hT204
            exact K204 H locs ls w (lv_sub hl [0, 1, 2, 3, 4] rfl)
    exact L175 nn 0 v6 p1_7 H locs ls hL w (lv_sub hl [1, 2, 3, 4, 0] rfl)
  clear hm
  have L11 : ∀ (nn : Nat) (i3 : Int32) (i4 : Int32) (p1_5 : Nat → Int32) (H : Heap) (locs : List Loc) (ls : Array Slot), bq_lp B nn (i3, i4, p1_5) = some (v6, p1_7) → bq_w D A s.heap (wdX8_ticksOnce cI a_t a_t_backs a_t_cuts a_t_outs a_t_pauses a_t_strokes a_p1 u_t_rig u_t_trial u_t_text u_t_readOuts u_t_readBacks u_t_readPauses t t_backs t_cuts t_outs t_pauses t_strokes p1_5) H locs → lv_has ls 8 [(0, .ref a_t), (1, .ref a_p1), (2, .int v1), (3, .int i4), (4, .int i3)] → W p l e rmX8_ticksOnce s m av9 below meth c H locs 0 0 Q (F0 m 11 ls []) := by
    intro nn
    induction nn with
    | zero =>
      intro i3 i4 p1_5 H locs ls hL w hl
      exact bq_lp_0 hL
    | succ nn ih =>
      intro i3 i4 p1_5 H locs ls hL w hl
      obtain ⟨oo11, hT11, hR11⟩ := bq_lp_el hL
      clear hL
      replace hT11 := bq_u3_el eB hT11
      unfold bX8_ticksOnce_11 at hT11
      refine lv_iload hx hb dX8_ticksOnce_11 (lv_at hl 4 rfl) ?_
      refine lv_bipush (v := 6) hx hb dX8_ticksOnce_13 (by decide) ?_
      refine lv_icmp_ge (tgt := 172) hx hb dX8_ticksOnce_15 (by decide) (fun hc => ?_) (fun hc => ?_)
      · replace hT11 := bq_t hc hT11
        clear hc
        obtain rfl := Option.some.inj hT11
        replace hR11 := bq_lk_r hR11
        obtain ⟨rfl, rfl⟩ := bq_in2 hR11
        exact X172 H locs ls w (lv_sub hl [0, 1, 2, 3] rfl)
      · replace hT11 := bq_f hc hT11
        clear hc
        refine lv_iconst (v := 0) hx hb dX8_ticksOnce_18 (by decide) ?_
        refine lv_istore (lv' := [(5, .int 0), (0, .ref a_t), (1, .ref a_p1), (2, .int v1), (3, .int i4), (4, .int i3)]) hx hb dX8_ticksOnce_19 hl (by decide) rfl (fun ls hl => ?_)
        refine lv_iconst (v := 0) hx hb dX8_ticksOnce_21 (by decide) ?_
        refine lv_istore (lv' := [(6, .int 0), (5, .int 0), (0, .ref a_t), (1, .ref a_p1), (2, .int v1), (3, .int i4), (4, .int i3)]) hx hb dX8_ticksOnce_22 hl (by decide) rfl (fun ls hl => ?_)
        obtain ⟨v31, hL, hT11⟩ := bq_bd_el hT11
        obtain ⟨B, eB, nn, hL⟩ := bq_loop_B hL
        have X87 : ∀ (H : Heap) (locs : List Loc) (ls : Array Slot), bq_w D A s.heap (wdX8_ticksOnce cI a_t a_t_backs a_t_cuts a_t_outs a_t_pauses a_t_strokes a_p1 u_t_rig u_t_trial u_t_text u_t_readOuts u_t_readBacks u_t_readPauses t t_backs t_cuts t_outs t_pauses t_strokes p1_5) H locs → lv_has ls 8 [(0, .ref a_t), (1, .ref a_p1), (2, .int v1), (3, .int i4), (4, .int i3), (5, .int v31)] → W p l e rmX8_ticksOnce s m av9 below meth c H locs 0 0 Q (F0 m 87 ls []) := by
          intro H locs ls w hl
          refine lv_aload_n hx hb dX8_ticksOnce_87 rfl (lv_at hl 1 rfl) ?_
          refine lv_bipush (v := 32) hx hb dX8_ticksOnce_88 (by decide) ?_
          refine lv_iload hx hb dX8_ticksOnce_90 (lv_at hl 4 rfl) ?_
          refine lv_iadd hx hb dX8_ticksOnce_92 ?_
          refine lv_iload hx hb dX8_ticksOnce_93 (lv_at hl 5 rfl) ?_
          obtain ⟨hI, hT11⟩ := bq_ci_el hT11
          obtain ⟨p1_32, e9, hT11⟩ := bq_let_el hT11
          refine bq_ast E K w 6 rfl hI dX8_ticksOnce_95 (fun H locs w => ?_)
          replace w : bq_w D A s.heap (wdX8_ticksOnce cI a_t a_t_backs a_t_cuts a_t_outs a_t_pauses a_t_strokes a_p1 u_t_rig u_t_trial u_t_text u_t_readOuts u_t_readBacks u_t_readPauses t t_backs t_cuts t_outs t_pauses t_strokes p1_32) H locs := by rw [e9]; exact w
          clear e9
          refine lv_iload hx hb dX8_ticksOnce_96 (lv_at hl 5 rfl) ?_
          refine lv_iconst (v := 1) hx hb dX8_ticksOnce_98 (by decide) ?_
          obtain ⟨v33, hT123, hT11⟩ := bq_bd_el hT11
          have K123 : ∀ (H : Heap) (locs : List Loc) (ls : Array Slot), bq_w D A s.heap (wdX8_ticksOnce cI a_t a_t_backs a_t_cuts a_t_outs a_t_pauses a_t_strokes a_p1 u_t_rig u_t_trial u_t_text u_t_readOuts u_t_readBacks u_t_readPauses t t_backs t_cuts t_outs t_pauses t_strokes p1_32) H locs → lv_has ls 8 [(0, .ref a_t), (1, .ref a_p1), (2, .int v1), (3, .int i4), (4, .int i3)] → W p l e rmX8_ticksOnce s m av9 below meth c H locs 0 0 Q (F0 m 123 ls [.int v33]) := by
            intro H locs ls w hl
            refine lv_istore (lv' := [(6, .int v33), (0, .ref a_t), (1, .ref a_p1), (2, .int v1), (3, .int i4), (4, .int i3)]) hx hb dX8_ticksOnce_123 hl (by decide) rfl (fun ls hl => ?_)
            refine lv_iload hx hb dX8_ticksOnce_125 (lv_at hl 0 rfl) ?_
            refine lv_aload_n hx hb dX8_ticksOnce_127 rfl (lv_at hl 2 rfl) ?_
            refine lv_bipush (v := 26) hx hb dX8_ticksOnce_128 (by decide) ?_
            refine lv_iload hx hb dX8_ticksOnce_130 (lv_at hl 5 rfl) ?_
            refine lv_iadd hx hb dX8_ticksOnce_132 ?_
            obtain ⟨hI, hT11⟩ := bq_ci_el hT11
            refine bq_ald E K w 6 rfl hI dX8_ticksOnce_133 ?_
            obtain ⟨v34, p1_35, hT166, hT11⟩ := bq_b2_el hT11
            have K166 : ∀ (H : Heap) (locs : List Loc) (ls : Array Slot), bq_w D A s.heap (wdX8_ticksOnce cI a_t a_t_backs a_t_cuts a_t_outs a_t_pauses a_t_strokes a_p1 u_t_rig u_t_trial u_t_text u_t_readOuts u_t_readBacks u_t_readPauses t t_backs t_cuts t_outs t_pauses t_strokes p1_35) H locs → lv_has ls 8 [(0, .ref a_t), (1, .ref a_p1), (2, .int v1), (3, .int v34), (4, .int i3)] → W p l e rmX8_ticksOnce s m av9 below meth c H locs 0 0 Q (F0 m 166 ls []) := by
              intro H locs ls w hl
              obtain ⟨v39, e9, hT11⟩ := bq_let_el hT11
              refine lv_iinc (v := v39) (lv' := [(4, .int v39), (0, .ref a_t), (1, .ref a_p1), (2, .int v1), (3, .int v34)]) hx hb dX8_ticksOnce_166 hl (k := 4) rfl (by rw [e9]; rfl) (by decide) rfl (fun ls hl => ?_)
              clear e9
              refine lv_goto (tgt := 11) hx hb dX8_ticksOnce_169 (by decide) ?_
              obtain rfl := Option.some.inj hT11
              exact ih v39 v34 p1_35 H locs ls hR11 w (lv_sub hl [1, 2, 3, 4, 0] rfl)
            clear hT11
            refine lv_icmp_eq (tgt := 166) hx hb dX8_ticksOnce_134 (by decide) (fun hc => ?_) (fun hc => ?_)
            · replace hT166 := bq_t hc hT166
              clear hc
              obtain ⟨rfl, rfl⟩ := bq_in2 (Option.some.inj hT166)
              exact K166 H locs ls w (lv_sub hl [1, 2, 3, 4, 5] rfl)
            · replace hT166 := bq_f hc hT166
              clear hc
              refine lv_aload_n hx hb dX8_ticksOnce_137 rfl (lv_at hl 2 rfl) ?_
              refine lv_bipush (v := 26) hx hb dX8_ticksOnce_138 (by decide) ?_
              refine lv_iload hx hb dX8_ticksOnce_140 (lv_at hl 5 rfl) ?_
              refine lv_iadd hx hb dX8_ticksOnce_142 ?_
              refine lv_iload hx hb dX8_ticksOnce_143 (lv_at hl 0 rfl) ?_
              obtain ⟨hI, hT166⟩ := bq_ci_el hT166
              obtain ⟨p1_36, e9, hT166⟩ := bq_let_el hT166
              refine bq_ast E K w 6 rfl hI dX8_ticksOnce_145 (fun H locs w => ?_)
              replace w : bq_w D A s.heap (wdX8_ticksOnce cI a_t a_t_backs a_t_cuts a_t_outs a_t_pauses a_t_strokes a_p1 u_t_rig u_t_trial u_t_text u_t_readOuts u_t_readBacks u_t_readPauses t t_backs t_cuts t_outs t_pauses t_strokes p1_36) H locs := by rw [e9]; exact w
              clear e9
              refine lv_iconst (v := 1) hx hb dX8_ticksOnce_146 (by decide) ?_
              refine lv_istore_n (lv' := [(3, .int 1), (6, .int v33), (0, .ref a_t), (1, .ref a_p1), (2, .int v1), (4, .int i3)]) hx hb dX8_ticksOnce_147 rfl hl (by decide) rfl (fun ls hl => ?_)
              refine lv_aload_n hx hb dX8_ticksOnce_148 rfl (lv_at hl 2 rfl) ?_
              refine lv_aload_n hx hb dX8_ticksOnce_149 rfl (lv_at hl 3 rfl) ?_
              refine lv_iload hx hb dX8_ticksOnce_150 (lv_at hl 5 rfl) ?_
              refine lv_iload hx hb dX8_ticksOnce_152 (lv_at hl 1 rfl) ?_
              refine lv_iconst (v := 1) hx hb dX8_ticksOnce_154 (by decide) ?_
              obtain ⟨v37, hT163, hT166⟩ := bq_let_el hT166
              have K163 : ∀ (H : Heap) (locs : List Loc) (ls : Array Slot), bq_w D A s.heap (wdX8_ticksOnce cI a_t a_t_backs a_t_cuts a_t_outs a_t_pauses a_t_strokes a_p1 u_t_rig u_t_trial u_t_text u_t_readOuts u_t_readBacks u_t_readPauses t t_backs t_cuts t_outs t_pauses t_strokes p1_36) H locs → lv_has ls 8 [(0, .ref a_t), (1, .ref a_p1), (2, .int v1), (3, .int 1), (4, .int i3)] → W p l e rmX8_ticksOnce s m av9 below meth c H locs 0 0 Q (F0 m 163 ls [.int v37, .int i3, .ref a_p1, .ref a_t]) := by
                intro H locs ls w hl
                obtain ⟨p1_38, hC, hT166⟩ := bq_bd_el hT166
                refine bq_V (As := [.ref a_p1, .int i3, .int v37]) (rest := []) (st1 := []) (ws' := wdX8_ticksOnce cI a_t a_t_backs a_t_cuts a_t_outs a_t_pauses a_t_strokes a_p1 u_t_rig u_t_trial u_t_text u_t_readOuts u_t_readBacks u_t_readPauses t t_backs t_cuts t_outs t_pauses t_strokes p1_38) E K w hA (kX8_notesEvent l D cI cJ a_t a_t_backs a_t_outs a_t_pauses a_p1 u_t_rig u_t_trial a_t_strokes a_t_cuts u_t_text u_t_readOuts u_t_readBacks u_t_readPauses t t_backs t_outs t_pauses p1_36 i3 v37 p1_38 hC) (bq_gV ml_X8_167 im_X8_notesEvent sl_X8_notesEvent in_X8 cd_X8_notesEvent) hd_X8_notesEvent ⟨Nat.le_of_ble_eq_true rfl, Nat.le_of_ble_eq_true rfl⟩ ⟨Nat.le_of_ble_eq_true rfl, Nat.le_of_ble_eq_true rfl⟩ ⟨[0, 1, 3, 4, 6], [2, 5], [2, 3, 0, 4, 5, 1, 6], rfl, rfl, rfl, rfl, rfl, rfl, rfl, rfl, rfl⟩ 0 rfl rfl rfl hl.1 rfl (Nat.le_of_ble_eq_true rfl) rfl dX8_ticksOnce_163 (fun H locs w => bq_z ⟨rfl, rfl⟩ ?_)
                clear hC
                obtain ⟨rfl, rfl⟩ := bq_in2 (Option.some.inj hT166)
                exact K166 H locs ls w (lv_sub hl [0, 1, 2, 3, 4] rfl)
              clear hT166
              refine lv_icmp_ne (tgt := 162) hx hb dX8_ticksOnce_155 (by decide) (fun hc => ?_) (fun hc => ?_)
              · replace hT163 := bq_ef hc hT163
                clear hc
                refine lv_iconst (v := 0) hx hb dX8_ticksOnce_162 (by decide) ?_
                subst hT163
                exact K163 H locs ls w (lv_sub hl [2, 3, 4, 0, 5] rfl)
              · replace hT163 := bq_et hc hT163
                clear hc
                refine lv_iconst (v := 1) hx hb dX8_ticksOnce_158 (by decide) ?_
                refine lv_goto (tgt := 163) hx hb dX8_ticksOnce_159 (by decide) ?_
                subst hT163
                exact K163 H locs ls w (lv_sub hl [2, 3, 4, 0, 5] rfl)
          clear hT11
          refine lv_icmp_ne (tgt := 106) hx hb dX8_ticksOnce_99 (by decide) (fun hc => ?_) (fun hc => ?_)
          · replace hT123 := bq_f hc hT123
            clear hc
            refine lv_iload hx hb dX8_ticksOnce_106 (lv_at hl 5 rfl) ?_
            refine lv_iconst (v := 2) hx hb dX8_ticksOnce_108 (by decide) ?_
            refine lv_icmp_ne (tgt := 116) hx hb dX8_ticksOnce_109 (by decide) (fun hc => ?_) (fun hc => ?_)
            · replace hT123 := bq_f hc hT123
              clear hc
              refine lv_aload_n hx hb dX8_ticksOnce_116 rfl (lv_at hl 1 rfl) ?_
              refine lv_bipush (v := 26) hx hb dX8_ticksOnce_117 (by decide) ?_
              refine lv_iload hx hb dX8_ticksOnce_119 (lv_at hl 4 rfl) ?_
              refine lv_iadd hx hb dX8_ticksOnce_121 ?_
              obtain ⟨hI, hT123⟩ := bq_ci_el hT123
              refine bq_ald E K w 6 rfl hI dX8_ticksOnce_122 ?_
              obtain rfl := Option.some.inj hT123
              exact K123 H locs ls w (lv_sub hl [0, 1, 2, 3, 4] rfl)
            · replace hT123 := bq_t hc hT123
              clear hc
              refine lv_iconst (v := 0) hx hb dX8_ticksOnce_112 (by decide) ?_
              refine lv_goto (tgt := 123) hx hb dX8_ticksOnce_113 (by decide) ?_
              obtain rfl := Option.some.inj hT123
              exact K123 H locs ls w (lv_sub hl [0, 1, 2, 3, 4] rfl)
          · replace hT123 := bq_t hc hT123
            clear hc
            refine lv_iconst (v := 1) hx hb dX8_ticksOnce_102 (by decide) ?_
            refine lv_goto (tgt := 123) hx hb dX8_ticksOnce_103 (by decide) ?_
            obtain rfl := Option.some.inj hT123
            exact K123 H locs ls w (lv_sub hl [0, 1, 2, 3, 4] rfl)
        clear hT11
        have L24 : ∀ (nn : Nat) (i29 : Int32) (i30 : Int32) (H : Heap) (locs : List Loc) (ls : Array Slot), bq_lp B nn (i29, i30) = some v31 → bq_w D A s.heap (wdX8_ticksOnce cI a_t a_t_backs a_t_cuts a_t_outs a_t_pauses a_t_strokes a_p1 u_t_rig u_t_trial u_t_text u_t_readOuts u_t_readBacks u_t_readPauses t t_backs t_cuts t_outs t_pauses t_strokes p1_5) H locs → lv_has ls 8 [(0, .ref a_t), (1, .ref a_p1), (2, .int v1), (3, .int i4), (4, .int i3), (5, .int i30), (6, .int i29)] → W p l e rmX8_ticksOnce s m av9 below meth c H locs 0 0 Q (F0 m 24 ls []) := by
          intro nn
          induction nn with
          | zero =>
            intro i29 i30 H locs ls hL w hl
            exact bq_lp_0 hL
          | succ nn ih =>
            intro i29 i30 H locs ls hL w hl
            obtain ⟨oo24, hT24, hR24⟩ := bq_lp_el hL
            clear hL
            replace hT24 := bq_u2_el eB hT24
            unfold bX8_ticksOnce_24 at hT24
            refine lv_iload hx hb dX8_ticksOnce_24 (lv_at hl 6 rfl) ?_
            refine lv_aload_n hx hb dX8_ticksOnce_26 rfl (lv_at hl 0 rfl) ?_
            refine gt_X8_104 E K w 0 rfl rfl dX8_ticksOnce_27 ?_
            refine lv_icmp_ge (tgt := 87) hx hb dX8_ticksOnce_30 (by decide) (fun hc => ?_) (fun hc => ?_)
            · replace hT24 := bq_t hc hT24
              clear hc
              obtain rfl := Option.some.inj hT24
              replace hR24 := bq_lk_r hR24
              subst hR24
              exact X87 H locs ls w (lv_sub hl [0, 1, 2, 3, 4, 5] rfl)
            · replace hT24 := bq_f hc hT24
              clear hc
              refine lv_iload_n hx hb dX8_ticksOnce_33 rfl (lv_at hl 2 rfl) ?_
              refine lv_iload hx hb dX8_ticksOnce_34 (lv_at hl 6 rfl) ?_
              refine lv_ishr hx hb dX8_ticksOnce_36 ?_
              refine lv_iconst (v := 1) hx hb dX8_ticksOnce_37 (by decide) ?_
              refine lv_iand hx hb dX8_ticksOnce_38 ?_
              refine lv_iconst (v := 1) hx hb dX8_ticksOnce_39 (by decide) ?_
              obtain ⟨v40, hT55, hT24⟩ := bq_bd_el hT24
              have K55 : ∀ (H : Heap) (locs : List Loc) (ls : Array Slot), bq_w D A s.heap (wdX8_ticksOnce cI a_t a_t_backs a_t_cuts a_t_outs a_t_pauses a_t_strokes a_p1 u_t_rig u_t_trial u_t_text u_t_readOuts u_t_readBacks u_t_readPauses t t_backs t_cuts t_outs t_pauses t_strokes p1_5) H locs → lv_has ls 8 [(0, .ref a_t), (1, .ref a_p1), (2, .int v1), (3, .int i4), (4, .int i3), (5, .int i30), (6, .int i29)] → W p l e rmX8_ticksOnce s m av9 below meth c H locs 0 0 Q (F0 m 55 ls [.int v40]) := by
                intro H locs ls w hl
                refine lv_istore (lv' := [(7, .int v40), (0, .ref a_t), (1, .ref a_p1), (2, .int v1), (3, .int i4), (4, .int i3), (5, .int i30), (6, .int i29)]) hx hb dX8_ticksOnce_55 hl (by decide) rfl (fun ls hl => ?_)
                refine lv_iload hx hb dX8_ticksOnce_57 (lv_at hl 6 rfl) ?_
                refine lv_iload hx hb dX8_ticksOnce_59 (lv_at hl 0 rfl) ?_
                obtain ⟨v42, hT78, hT24⟩ := bq_let_el hT24
                have K78 : ∀ (H : Heap) (locs : List Loc) (ls : Array Slot), bq_w D A s.heap (wdX8_ticksOnce cI a_t a_t_backs a_t_cuts a_t_outs a_t_pauses a_t_strokes a_p1 u_t_rig u_t_trial u_t_text u_t_readOuts u_t_readBacks u_t_readPauses t t_backs t_cuts t_outs t_pauses t_strokes p1_5) H locs → lv_has ls 8 [(0, .ref a_t), (1, .ref a_p1), (2, .int v1), (3, .int i4), (4, .int i3), (6, .int i29)] → W p l e rmX8_ticksOnce s m av9 below meth c H locs 0 0 Q (F0 m 78 ls [.int v42, .int i30]) := by
                  intro H locs ls w hl
                  refine lv_ior hx hb dX8_ticksOnce_78 ?_
                  obtain ⟨v43, e9, hT24⟩ := bq_let_el hT24
                  refine bq_nmi e9 ?_
                  clear e9
                  refine lv_istore (lv' := [(5, .int v43), (0, .ref a_t), (1, .ref a_p1), (2, .int v1), (3, .int i4), (4, .int i3), (6, .int i29)]) hx hb dX8_ticksOnce_79 hl (by decide) rfl (fun ls hl => ?_)
                  obtain ⟨v44, e9, hT24⟩ := bq_let_el hT24
                  refine lv_iinc (v := v44) (lv' := [(6, .int v44), (5, .int v43), (0, .ref a_t), (1, .ref a_p1), (2, .int v1), (3, .int i4), (4, .int i3)]) hx hb dX8_ticksOnce_81 hl (k := 6) rfl (by rw [e9]; rfl) (by decide) rfl (fun ls hl => ?_)
                  clear e9
                  refine lv_goto (tgt := 24) hx hb dX8_ticksOnce_84 (by decide) ?_
                  obtain rfl := Option.some.inj hT24
                  exact ih v44 v43 H locs ls hR24 w (lv_sub hl [2, 3, 4, 5, 6, 1, 0] rfl)
                clear hT24
                refine lv_if_le (tgt := 68) hx hb dX8_ticksOnce_61 (by decide) (fun hc => ?_) (fun hc => ?_)
                · replace hT78 := bq_et hc hT78
                  clear hc
                  refine lv_iload hx hb dX8_ticksOnce_68 (lv_at hl 0 rfl) ?_
                  refine lv_if_ge (tgt := 77) hx hb dX8_ticksOnce_70 (by decide) (fun hc => ?_) (fun hc => ?_)
                  · replace hT78 := bq_et hc hT78
                    clear hc
                    refine lv_iconst (v := 0) hx hb dX8_ticksOnce_77 (by decide) ?_
                    subst hT78
                    exact K78 H locs ls w (lv_sub hl [1, 2, 3, 4, 5, 7] rfl)
                  · replace hT78 := bq_ef hc hT78
                    clear hc
                    refine lv_iconst (v := 2) hx hb dX8_ticksOnce_73 (by decide) ?_
                    refine lv_goto (tgt := 78) hx hb dX8_ticksOnce_74 (by decide) ?_
                    subst hT78
                    exact K78 H locs ls w (lv_sub hl [1, 2, 3, 4, 5, 7] rfl)
                · replace hT78 := bq_ef hc hT78
                  clear hc
                  refine lv_iconst (v := 1) hx hb dX8_ticksOnce_64 (by decide) ?_
                  refine lv_goto (tgt := 78) hx hb dX8_ticksOnce_65 (by decide) ?_
                  subst hT78
                  exact K78 H locs ls w (lv_sub hl [1, 2, 3, 4, 5, 7] rfl)
              clear hT24
              refine lv_icmp_ne (tgt := 54) hx hb dX8_ticksOnce_40 (by decide) (fun hc => ?_) (fun hc => ?_)
              · replace hT55 := bq_f hc hT55
                clear hc
                refine lv_iconst (v := 0) hx hb dX8_ticksOnce_54 (by decide) ?_
                obtain rfl := Option.some.inj hT55
                exact K55 H locs ls w (lv_sub hl [0, 1, 2, 3, 4, 5, 6] rfl)
              · replace hT55 := bq_t hc hT55
                clear hc
                refine lv_aload_n hx hb dX8_ticksOnce_43 rfl (lv_at hl 0 rfl) ?_
                refine lv_iload hx hb dX8_ticksOnce_44 (lv_at hl 6 rfl) ?_
                refine lv_iload hx hb dX8_ticksOnce_46 (lv_at hl 4 rfl) ?_
                obtain ⟨v41, hC, hT55⟩ := bq_bd_el hT55
                refine bq_V (As := [.int i29, .int i3]) (rest := []) (st1 := [.int v41]) (ws' := wdX8_ticksOnce cI a_t a_t_backs a_t_cuts a_t_outs a_t_pauses a_t_strokes a_p1 u_t_rig u_t_trial u_t_text u_t_readOuts u_t_readBacks u_t_readPauses t t_backs t_cuts t_outs t_pauses t_strokes p1_5) E K w hA (kX8_directionOf l D cI cJ a_t a_t_backs a_t_outs u_t_rig u_t_trial a_t_strokes a_t_pauses a_t_cuts u_t_text u_t_readOuts u_t_readBacks u_t_readPauses t t_backs t_outs i29 i3 v41 hC) (bq_gV ml_X8_113 im_X8_directionOf sl_X8_directionOf in_X8 cd_X8_directionOf) hd_X8_directionOf ⟨Nat.le_of_ble_eq_true rfl, Nat.le_of_ble_eq_true rfl⟩ ⟨Nat.le_of_ble_eq_true rfl, Nat.le_of_ble_eq_true rfl⟩ ⟨[0, 1, 3], [2, 4, 5, 6], [4, 5, 0, 6, 1, 2, 3], rfl, rfl, rfl, rfl, rfl, rfl, rfl, rfl, rfl⟩ 0 rfl rfl rfl hl.1 rfl (Nat.le_of_ble_eq_true rfl) rfl dX8_ticksOnce_48 (fun H locs w => bq_z ⟨rfl, rfl⟩ ?_)
                clear hC
                refine lv_goto (tgt := 55) hx hb dX8_ticksOnce_51 (by decide) ?_
                obtain rfl := Option.some.inj hT55
                exact K55 H locs ls w (lv_sub hl [0, 1, 2, 3, 4, 5, 6] rfl)
        exact L24 nn 0 0 H locs ls hL w (lv_sub hl [2, 3, 4, 5, 6, 1, 0] rfl)
  exact L11 nn 0 0 p1_2 H locs ls hL w (lv_sub hl [3, 4, 2, 1, 0] rfl)
abbrev wdX8_setMethod (cI : ClassId) (a_t a_t_backs a_t_outs a_t_pauses a_t_rig u_t_trial u_t_strokes u_t_cuts u_t_text u_t_readOuts u_t_readBacks u_t_readPauses : Nat) (t : Nat → Int32) (t_backs : Nat → Int32) (t_outs : Nat → Int32) (t_pauses : Nat → Int32) (t_rig : Nat → Int32) : va_W := [(a_t, oX8 a_t_rig u_t_trial u_t_strokes a_t_outs a_t_backs a_t_pauses u_t_cuts u_t_text u_t_readOuts u_t_readBacks u_t_readPauses t), (a_t_backs, oA cI 16 t_backs), (a_t_outs, oA cI 16 t_outs), (a_t_pauses, oA cI 16 t_pauses), (a_t_rig, oA cI 140 t_rig)]
abbrev rmX8_setMethod : Room := { frames := 2, cells := 0, slots := 0, locals := 45 }
theorem hd_X8_setMethod : yX8_setMethod.cls = RX8 ∧ yX8_setMethod.cls ≠ "java/lang/invoke/MethodHandle" ∧ yX8_setMethod.cls ≠ "java/lang/invoke/VarHandle" ∧ (parseMethodDescriptor yX8_setMethod.desc).map (fun d => d.parameters.length) = some 1 := by decide +kernel
set_option maxHeartbeats 4000000 in
set_option maxRecDepth 100000 in
theorem kX8_setMethod (l : Launch) (D : va_G) (cI cJ : ClassId) (a_t a_t_backs a_t_outs a_t_pauses a_t_rig u_t_trial u_t_strokes u_t_cuts u_t_text u_t_readOuts u_t_readBacks u_t_readPauses : Nat) (t t_backs t_outs t_pauses t_rig : Nat → Int32) (x1 : Int32) (r : Int32) (t_o : Nat → Int32) (t_rig_o : Nat → Int32) (hm : mX8_setMethod t t_backs t_outs t_pauses t_rig x1 = some (r, t_o, t_rig_o)) : bq_M l D cI cJ yX8_setMethod cX8_setMethod 3 (some .int) rmX8_setMethod [.ref a_t, .int x1] (wdX8_setMethod cI a_t a_t_backs a_t_outs a_t_pauses a_t_rig u_t_trial u_t_strokes u_t_cuts u_t_text u_t_readOuts u_t_readBacks u_t_readPauses t t_backs t_outs t_pauses t_rig) (wdX8_setMethod cI a_t a_t_backs a_t_outs a_t_pauses a_t_rig u_t_trial u_t_strokes u_t_cuts u_t_text u_t_readOuts u_t_readBacks u_t_readPauses t_o t_backs t_outs t_pauses t_rig_o) (some (.int r)) := by
  refine bq_start (by decide) (Nat.le_of_ble_eq_true rfl) ?_
  intro p e s m av9 below meth c A ls Q H locs E K w hA hr hk hn hQ hl
  have E : bq_E p m c cX8_setMethod 3 s av9 RX8 := E
  have hx := E.1
  have hb := E.2.1
  have hl : lv_has ls 3 [(0, .ref a_t), (1, .int x1)] := hl
  unfold mX8_setMethod at hm
  refine lv_aload_n hx hb dX8_setMethod_0 rfl (lv_at hl 0 rfl) ?_
  refine lv_iconst (v := 0) hx hb dX8_setMethod_1 (by decide) ?_
  obtain ⟨t_1, e9, hm⟩ := bq_let_el hm
  refine pt_X8_47 E K w 0 rfl (Nat.le_of_ble_eq_true rfl) dX8_setMethod_2 (fun H locs w => ?_)
  replace w : bq_w D A s.heap (wdX8_setMethod cI a_t a_t_backs a_t_outs a_t_pauses a_t_rig u_t_trial u_t_strokes u_t_cuts u_t_text u_t_readOuts u_t_readBacks u_t_readPauses t_1 t_backs t_outs t_pauses t_rig) H locs := by rw [e9]; exact w
  clear e9
  refine lv_iload_n hx hb dX8_setMethod_5 rfl (lv_at hl 1 rfl) ?_
  refine lv_iconst (v := 0) hx hb dX8_setMethod_6 (by decide) ?_
  refine lv_iconst (v := 2) hx hb dX8_setMethod_7 (by decide) ?_
  obtain ⟨v2, hC, hm⟩ := bq_bd_el hm
  refine bq_S0 (As := [.int x1, .int 0, .int 2]) (rest := []) (st1 := [.int v2]) E K w hA (kX8_in l D cI cJ x1 0 2 v2 hC) cd_X8_in ml_X8_51 in_X8 st_X8_in hs_X8_in ⟨Nat.le_of_ble_eq_true rfl, Nat.le_of_ble_eq_true rfl⟩ ⟨Nat.le_of_ble_eq_true rfl, Nat.le_of_ble_eq_true rfl⟩ rfl hl.1 rfl (Nat.le_of_ble_eq_true rfl) rfl dX8_setMethod_8 (fun H locs w => bq_z ⟨rfl, rfl⟩ ?_)
  clear hC
  refine lv_if_ne (tgt := 20) hx hb dX8_setMethod_11 (by decide) (fun hc => ?_) (fun hc => ?_)
  · replace hm := bq_f hc hm
    clear hc
    refine lv_aload_n hx hb dX8_setMethod_20 rfl (lv_at hl 0 rfl) ?_
    refine gt_X8_7 E K w 0 rfl rfl dX8_setMethod_21 ?_
    refine lv_iconst (v := 1) hx hb dX8_setMethod_24 (by decide) ?_
    refine bq_aldk E K w 4 rfl 1 (by decide) (by unfold vp_in; decide) dX8_setMethod_25 ?_
    obtain ⟨v3, e9, hm⟩ := bq_let_el hm
    refine bq_nmi e9 ?_
    clear e9
    refine lv_istore_n (lv' := [(2, .int v3), (0, .ref a_t), (1, .int x1)]) hx hb dX8_setMethod_26 rfl hl (by decide) rfl (fun ls hl => ?_)
    refine lv_aload_n hx hb dX8_setMethod_27 rfl (lv_at hl 1 rfl) ?_
    refine gt_X8_7 E K w 0 rfl rfl dX8_setMethod_28 ?_
    refine lv_iconst (v := 1) hx hb dX8_setMethod_31 (by decide) ?_
    refine lv_iload_n hx hb dX8_setMethod_32 rfl (lv_at hl 2 rfl) ?_
    obtain ⟨t_rig_4, e9, hm⟩ := bq_let_el hm
    refine bq_astk E K w 4 rfl 1 (by decide) (by unfold vp_in; decide) dX8_setMethod_33 (fun H locs w => ?_)
    replace w : bq_w D A s.heap (wdX8_setMethod cI a_t a_t_backs a_t_outs a_t_pauses a_t_rig u_t_trial u_t_strokes u_t_cuts u_t_text u_t_readOuts u_t_readBacks u_t_readPauses t_1 t_backs t_outs t_pauses t_rig_4) H locs := by rw [e9]; exact w
    clear e9
    refine lv_aload_n hx hb dX8_setMethod_34 rfl (lv_at hl 1 rfl) ?_
    refine lv_aload_n hx hb dX8_setMethod_35 rfl (lv_at hl 1 rfl) ?_
    refine gt_X8_7 E K w 0 rfl rfl dX8_setMethod_36 ?_
    obtain ⟨t_rig_5, hC, hm⟩ := bq_bd_el hm
    refine bq_V (As := [.ref a_t_rig]) (rest := []) (st1 := []) (ws' := wdX8_setMethod cI a_t a_t_backs a_t_outs a_t_pauses a_t_rig u_t_trial u_t_strokes u_t_cuts u_t_text u_t_readOuts u_t_readBacks u_t_readPauses t_1 t_backs t_outs t_pauses t_rig_5) E K w hA (kX8_rests l D cI cJ a_t a_t_backs a_t_outs a_t_pauses a_t_rig a_t_rig u_t_trial u_t_strokes u_t_cuts u_t_text u_t_readOuts u_t_readBacks u_t_readPauses t_1 t_backs t_outs t_pauses t_rig_4 t_rig_5 hC) (bq_gV ml_X8_43 im_X8_rests sl_X8_rests in_X8 cd_X8_rests) hd_X8_rests ⟨Nat.le_of_ble_eq_true rfl, Nat.le_of_ble_eq_true rfl⟩ ⟨Nat.le_of_ble_eq_true rfl, Nat.le_of_ble_eq_true rfl⟩ ⟨[0, 1, 2, 3, 4], [], [0, 1, 2, 3, 4], rfl, rfl, rfl, rfl, rfl, rfl, rfl, rfl, rfl⟩ 0 rfl rfl rfl hl.1 rfl (Nat.le_of_ble_eq_true rfl) rfl dX8_setMethod_39 (fun H locs w => bq_z ⟨rfl, rfl⟩ ?_)
    clear hC
    refine lv_iload_n hx hb dX8_setMethod_42 rfl (lv_at hl 0 rfl) ?_
    obtain ⟨rfl, rfl, rfl⟩ := bq_in3 (Option.some.inj hm)
    exact bq_iret E w hr hk dX8_setMethod_43 hQ
  · replace hm := bq_t hc hm
    clear hc
    refine lv_aload_n hx hb dX8_setMethod_14 rfl (lv_at hl 0 rfl) ?_
    refine lv_iconst (v := 1) hx hb dX8_setMethod_15 (by decide) ?_
    obtain ⟨v6, t_7, hC, hm⟩ := bq_b2_el hm
    refine bq_V (As := [.int 1]) (rest := []) (st1 := [.int v6]) (ws' := wdX8_setMethod cI a_t a_t_backs a_t_outs a_t_pauses a_t_rig u_t_trial u_t_strokes u_t_cuts u_t_text u_t_readOuts u_t_readBacks u_t_readPauses t_7 t_backs t_outs t_pauses t_rig) E K w hA (kX8_fails l D cI cJ a_t a_t_rig u_t_trial u_t_strokes a_t_outs a_t_backs a_t_pauses u_t_cuts u_t_text u_t_readOuts u_t_readBacks u_t_readPauses t_1 1 v6 t_7 hC) (bq_gV ml_X8_55 im_X8_fails sl_X8_fails in_X8 cd_X8_fails) hd_X8_fails ⟨Nat.le_of_ble_eq_true rfl, Nat.le_of_ble_eq_true rfl⟩ ⟨Nat.le_of_ble_eq_true rfl, Nat.le_of_ble_eq_true rfl⟩ ⟨[0], [1, 2, 3, 4], [4, 0, 1, 2, 3], rfl, rfl, rfl, rfl, rfl, rfl, rfl, rfl, rfl⟩ 0 rfl rfl rfl hl.1 rfl (Nat.le_of_ble_eq_true rfl) rfl dX8_setMethod_16 (fun H locs w => bq_z ⟨rfl, rfl⟩ ?_)
    clear hC
    obtain ⟨rfl, rfl, rfl⟩ := bq_in3 (Option.some.inj hm)
    exact bq_iret E w hr hk dX8_setMethod_19 hQ
abbrev wdX8_setStroke (cI : ClassId) (a_t a_t_backs a_t_outs a_t_pauses a_t_rig a_t_strokes u_t_trial u_t_cuts u_t_text u_t_readOuts u_t_readBacks u_t_readPauses : Nat) (t : Nat → Int32) (t_backs : Nat → Int32) (t_outs : Nat → Int32) (t_pauses : Nat → Int32) (t_rig : Nat → Int32) (t_strokes : Nat → Int32) : va_W := [(a_t, oX8 a_t_rig u_t_trial a_t_strokes a_t_outs a_t_backs a_t_pauses u_t_cuts u_t_text u_t_readOuts u_t_readBacks u_t_readPauses t), (a_t_backs, oA cI 16 t_backs), (a_t_outs, oA cI 16 t_outs), (a_t_pauses, oA cI 16 t_pauses), (a_t_rig, oA cI 140 t_rig), (a_t_strokes, oA cI 6 t_strokes)]
abbrev rmX8_setStroke : Room := { frames := 2, cells := 0, slots := 0, locals := 45 }
theorem hd_X8_setStroke : yX8_setStroke.cls = RX8 ∧ yX8_setStroke.cls ≠ "java/lang/invoke/MethodHandle" ∧ yX8_setStroke.cls ≠ "java/lang/invoke/VarHandle" ∧ (parseMethodDescriptor yX8_setStroke.desc).map (fun d => d.parameters.length) = some 2 := by decide +kernel
set_option maxHeartbeats 4000000 in
set_option maxRecDepth 100000 in
theorem kX8_setStroke (l : Launch) (D : va_G) (cI cJ : ClassId) (a_t a_t_backs a_t_outs a_t_pauses a_t_rig a_t_strokes u_t_trial u_t_cuts u_t_text u_t_readOuts u_t_readBacks u_t_readPauses : Nat) (t t_backs t_outs t_pauses t_rig t_strokes : Nat → Int32) (x1 : Int32) (x2 : Int32) (r : Int32) (t_o : Nat → Int32) (t_rig_o : Nat → Int32) (t_strokes_o : Nat → Int32) (hm : mX8_setStroke t t_backs t_outs t_pauses t_rig t_strokes x1 x2 = some (r, t_o, t_rig_o, t_strokes_o)) : bq_M l D cI cJ yX8_setStroke cX8_setStroke 4 (some .int) rmX8_setStroke [.ref a_t, .int x1, .int x2] (wdX8_setStroke cI a_t a_t_backs a_t_outs a_t_pauses a_t_rig a_t_strokes u_t_trial u_t_cuts u_t_text u_t_readOuts u_t_readBacks u_t_readPauses t t_backs t_outs t_pauses t_rig t_strokes) (wdX8_setStroke cI a_t a_t_backs a_t_outs a_t_pauses a_t_rig a_t_strokes u_t_trial u_t_cuts u_t_text u_t_readOuts u_t_readBacks u_t_readPauses t_o t_backs t_outs t_pauses t_rig_o t_strokes_o) (some (.int r)) := by
  refine bq_start (by decide) (Nat.le_of_ble_eq_true rfl) ?_
  intro p e s m av9 below meth c A ls Q H locs E K w hA hr hk hn hQ hl
  have E : bq_E p m c cX8_setStroke 4 s av9 RX8 := E
  have hx := E.1
  have hb := E.2.1
  have hl : lv_has ls 4 [(0, .ref a_t), (1, .int x1), (2, .int x2)] := hl
  unfold mX8_setStroke at hm
  refine lv_aload_n hx hb dX8_setStroke_0 rfl (lv_at hl 0 rfl) ?_
  refine lv_iconst (v := 0) hx hb dX8_setStroke_1 (by decide) ?_
  obtain ⟨t_1, e9, hm⟩ := bq_let_el hm
  refine pt_X8_47 E K w 0 rfl (Nat.le_of_ble_eq_true rfl) dX8_setStroke_2 (fun H locs w => ?_)
  replace w : bq_w D A s.heap (wdX8_setStroke cI a_t a_t_backs a_t_outs a_t_pauses a_t_rig a_t_strokes u_t_trial u_t_cuts u_t_text u_t_readOuts u_t_readBacks u_t_readPauses t_1 t_backs t_outs t_pauses t_rig t_strokes) H locs := by rw [e9]; exact w
  clear e9
  refine lv_iload_n hx hb dX8_setStroke_5 rfl (lv_at hl 1 rfl) ?_
  refine lv_iconst (v := 0) hx hb dX8_setStroke_6 (by decide) ?_
  refine lv_iconst (v := 5) hx hb dX8_setStroke_7 (by decide) ?_
  obtain ⟨v2, hC, hm⟩ := bq_bd_el hm
  refine bq_S0 (As := [.int x1, .int 0, .int 5]) (rest := []) (st1 := [.int v2]) E K w hA (kX8_in l D cI cJ x1 0 5 v2 hC) cd_X8_in ml_X8_51 in_X8 st_X8_in hs_X8_in ⟨Nat.le_of_ble_eq_true rfl, Nat.le_of_ble_eq_true rfl⟩ ⟨Nat.le_of_ble_eq_true rfl, Nat.le_of_ble_eq_true rfl⟩ rfl hl.1 rfl (Nat.le_of_ble_eq_true rfl) rfl dX8_setStroke_8 (fun H locs w => bq_z ⟨rfl, rfl⟩ ?_)
  clear hC
  refine lv_if_ne (tgt := 20) hx hb dX8_setStroke_11 (by decide) (fun hc => ?_) (fun hc => ?_)
  · replace hm := bq_f hc hm
    clear hc
    refine lv_iload_n hx hb dX8_setStroke_20 rfl (lv_at hl 2 rfl) ?_
    refine lv_iconst (v := 1) hx hb dX8_setStroke_21 (by decide) ?_
    refine lv_bipush (v := 20) hx hb dX8_setStroke_22 (by decide) ?_
    obtain ⟨v3, hC, hm⟩ := bq_bd_el hm
    refine bq_S0 (As := [.int x2, .int 1, .int 20]) (rest := []) (st1 := [.int v3]) E K w hA (kX8_in l D cI cJ x2 1 20 v3 hC) cd_X8_in ml_X8_51 in_X8 st_X8_in hs_X8_in ⟨Nat.le_of_ble_eq_true rfl, Nat.le_of_ble_eq_true rfl⟩ ⟨Nat.le_of_ble_eq_true rfl, Nat.le_of_ble_eq_true rfl⟩ rfl hl.1 rfl (Nat.le_of_ble_eq_true rfl) rfl dX8_setStroke_24 (fun H locs w => bq_z ⟨rfl, rfl⟩ ?_)
    clear hC
    refine lv_if_ne (tgt := 36) hx hb dX8_setStroke_27 (by decide) (fun hc => ?_) (fun hc => ?_)
    · replace hm := bq_f hc hm
      clear hc
      refine lv_aload_n hx hb dX8_setStroke_36 rfl (lv_at hl 0 rfl) ?_
      refine gt_X8_16 E K w 0 rfl rfl dX8_setStroke_37 ?_
      refine lv_iload_n hx hb dX8_setStroke_40 rfl (lv_at hl 1 rfl) ?_
      obtain ⟨hI, hm⟩ := bq_ci_el hm
      refine bq_ald E K w 5 rfl hI dX8_setStroke_41 ?_
      obtain ⟨v4, e9, hm⟩ := bq_let_el hm
      refine bq_nmi e9 ?_
      clear e9
      refine lv_istore_n (lv' := [(3, .int v4), (0, .ref a_t), (1, .int x1), (2, .int x2)]) hx hb dX8_setStroke_42 rfl hl (by decide) rfl (fun ls hl => ?_)
      refine lv_aload_n hx hb dX8_setStroke_43 rfl (lv_at hl 1 rfl) ?_
      refine gt_X8_16 E K w 0 rfl rfl dX8_setStroke_44 ?_
      refine lv_iload_n hx hb dX8_setStroke_47 rfl (lv_at hl 2 rfl) ?_
      refine lv_iload_n hx hb dX8_setStroke_48 rfl (lv_at hl 3 rfl) ?_
      obtain ⟨hI, hm⟩ := bq_ci_el hm
      obtain ⟨t_strokes_5, e9, hm⟩ := bq_let_el hm
      refine bq_ast E K w 5 rfl hI dX8_setStroke_49 (fun H locs w => ?_)
      replace w : bq_w D A s.heap (wdX8_setStroke cI a_t a_t_backs a_t_outs a_t_pauses a_t_rig a_t_strokes u_t_trial u_t_cuts u_t_text u_t_readOuts u_t_readBacks u_t_readPauses t_1 t_backs t_outs t_pauses t_rig t_strokes_5) H locs := by rw [e9]; exact w
      clear e9
      refine lv_aload_n hx hb dX8_setStroke_50 rfl (lv_at hl 1 rfl) ?_
      refine lv_aload_n hx hb dX8_setStroke_51 rfl (lv_at hl 1 rfl) ?_
      refine gt_X8_7 E K w 0 rfl rfl dX8_setStroke_52 ?_
      obtain ⟨t_rig_6, hC, hm⟩ := bq_bd_el hm
      refine bq_V (As := [.ref a_t_rig]) (rest := []) (st1 := []) (ws' := wdX8_setStroke cI a_t a_t_backs a_t_outs a_t_pauses a_t_rig a_t_strokes u_t_trial u_t_cuts u_t_text u_t_readOuts u_t_readBacks u_t_readPauses t_1 t_backs t_outs t_pauses t_rig_6 t_strokes_5) E K w hA (kX8_rests l D cI cJ a_t a_t_backs a_t_outs a_t_pauses a_t_rig a_t_rig u_t_trial a_t_strokes u_t_cuts u_t_text u_t_readOuts u_t_readBacks u_t_readPauses t_1 t_backs t_outs t_pauses t_rig t_rig_6 hC) (bq_gV ml_X8_43 im_X8_rests sl_X8_rests in_X8 cd_X8_rests) hd_X8_rests ⟨Nat.le_of_ble_eq_true rfl, Nat.le_of_ble_eq_true rfl⟩ ⟨Nat.le_of_ble_eq_true rfl, Nat.le_of_ble_eq_true rfl⟩ ⟨[0, 1, 2, 3, 4], [5], [1, 2, 3, 4, 5, 0], rfl, rfl, rfl, rfl, rfl, rfl, rfl, rfl, rfl⟩ 0 rfl rfl rfl hl.1 rfl (Nat.le_of_ble_eq_true rfl) rfl dX8_setStroke_55 (fun H locs w => bq_z ⟨rfl, rfl⟩ ?_)
      clear hC
      refine lv_iload_n hx hb dX8_setStroke_58 rfl (lv_at hl 0 rfl) ?_
      obtain ⟨rfl, rfl, rfl, rfl⟩ := bq_in4 (Option.some.inj hm)
      exact bq_iret E w hr hk dX8_setStroke_59 hQ
    · replace hm := bq_t hc hm
      clear hc
      refine lv_aload_n hx hb dX8_setStroke_30 rfl (lv_at hl 0 rfl) ?_
      refine lv_iconst (v := 2) hx hb dX8_setStroke_31 (by decide) ?_
      obtain ⟨v7, t_8, hC, hm⟩ := bq_b2_el hm
      refine bq_V (As := [.int 2]) (rest := []) (st1 := [.int v7]) (ws' := wdX8_setStroke cI a_t a_t_backs a_t_outs a_t_pauses a_t_rig a_t_strokes u_t_trial u_t_cuts u_t_text u_t_readOuts u_t_readBacks u_t_readPauses t_8 t_backs t_outs t_pauses t_rig t_strokes) E K w hA (kX8_fails l D cI cJ a_t a_t_rig u_t_trial a_t_strokes a_t_outs a_t_backs a_t_pauses u_t_cuts u_t_text u_t_readOuts u_t_readBacks u_t_readPauses t_1 2 v7 t_8 hC) (bq_gV ml_X8_55 im_X8_fails sl_X8_fails in_X8 cd_X8_fails) hd_X8_fails ⟨Nat.le_of_ble_eq_true rfl, Nat.le_of_ble_eq_true rfl⟩ ⟨Nat.le_of_ble_eq_true rfl, Nat.le_of_ble_eq_true rfl⟩ ⟨[0], [1, 2, 3, 4, 5], [5, 0, 1, 2, 3, 4], rfl, rfl, rfl, rfl, rfl, rfl, rfl, rfl, rfl⟩ 0 rfl rfl rfl hl.1 rfl (Nat.le_of_ble_eq_true rfl) rfl dX8_setStroke_32 (fun H locs w => bq_z ⟨rfl, rfl⟩ ?_)
      clear hC
      obtain ⟨rfl, rfl, rfl, rfl⟩ := bq_in4 (Option.some.inj hm)
      exact bq_iret E w hr hk dX8_setStroke_35 hQ
  · replace hm := bq_t hc hm
    clear hc
    refine lv_aload_n hx hb dX8_setStroke_14 rfl (lv_at hl 0 rfl) ?_
    refine lv_iconst (v := 1) hx hb dX8_setStroke_15 (by decide) ?_
    obtain ⟨v9, t_10, hC, hm⟩ := bq_b2_el hm
    refine bq_V (As := [.int 1]) (rest := []) (st1 := [.int v9]) (ws' := wdX8_setStroke cI a_t a_t_backs a_t_outs a_t_pauses a_t_rig a_t_strokes u_t_trial u_t_cuts u_t_text u_t_readOuts u_t_readBacks u_t_readPauses t_10 t_backs t_outs t_pauses t_rig t_strokes) E K w hA (kX8_fails l D cI cJ a_t a_t_rig u_t_trial a_t_strokes a_t_outs a_t_backs a_t_pauses u_t_cuts u_t_text u_t_readOuts u_t_readBacks u_t_readPauses t_1 1 v9 t_10 hC) (bq_gV ml_X8_55 im_X8_fails sl_X8_fails in_X8 cd_X8_fails) hd_X8_fails ⟨Nat.le_of_ble_eq_true rfl, Nat.le_of_ble_eq_true rfl⟩ ⟨Nat.le_of_ble_eq_true rfl, Nat.le_of_ble_eq_true rfl⟩ ⟨[0], [1, 2, 3, 4, 5], [5, 0, 1, 2, 3, 4], rfl, rfl, rfl, rfl, rfl, rfl, rfl, rfl, rfl⟩ 0 rfl rfl rfl hl.1 rfl (Nat.le_of_ble_eq_true rfl) rfl dX8_setStroke_16 (fun H locs w => bq_z ⟨rfl, rfl⟩ ?_)
    clear hC
    obtain ⟨rfl, rfl, rfl, rfl⟩ := bq_in4 (Option.some.inj hm)
    exact bq_iret E w hr hk dX8_setStroke_19 hQ
abbrev wdX8_setStart (cI : ClassId) (a_t a_t_rig u_t_trial u_t_strokes u_t_outs u_t_backs u_t_pauses u_t_cuts u_t_text u_t_readOuts u_t_readBacks u_t_readPauses : Nat) (t : Nat → Int32) (t_rig : Nat → Int32) : va_W := [(a_t, oX8 a_t_rig u_t_trial u_t_strokes u_t_outs u_t_backs u_t_pauses u_t_cuts u_t_text u_t_readOuts u_t_readBacks u_t_readPauses t), (a_t_rig, oA cI 140 t_rig)]
abbrev rmX8_setStart : Room := { frames := 0, cells := 0, slots := 0, locals := 0 }
theorem hd_X8_setStart : yX8_setStart.cls = RX8 ∧ yX8_setStart.cls ≠ "java/lang/invoke/MethodHandle" ∧ yX8_setStart.cls ≠ "java/lang/invoke/VarHandle" ∧ (parseMethodDescriptor yX8_setStart.desc).map (fun d => d.parameters.length) = some 1 := by decide +kernel
set_option maxHeartbeats 4000000 in
set_option maxRecDepth 100000 in
theorem kX8_setStart (l : Launch) (D : va_G) (cI cJ : ClassId) (a_t a_t_rig u_t_trial u_t_strokes u_t_outs u_t_backs u_t_pauses u_t_cuts u_t_text u_t_readOuts u_t_readBacks u_t_readPauses : Nat) (t t_rig : Nat → Int32) (x1 : Int32) (r : Int32) (t_o : Nat → Int32) (t_rig_o : Nat → Int32) (hm : mX8_setStart t t_rig x1 = some (r, t_o, t_rig_o)) : bq_M l D cI cJ yX8_setStart cX8_setStart 3 (some .boolean) rmX8_setStart [.ref a_t, .int x1] (wdX8_setStart cI a_t a_t_rig u_t_trial u_t_strokes u_t_outs u_t_backs u_t_pauses u_t_cuts u_t_text u_t_readOuts u_t_readBacks u_t_readPauses t t_rig) (wdX8_setStart cI a_t a_t_rig u_t_trial u_t_strokes u_t_outs u_t_backs u_t_pauses u_t_cuts u_t_text u_t_readOuts u_t_readBacks u_t_readPauses t_o t_rig_o) (some (.int r)) := by
  refine bq_start (by decide) (Nat.le_of_ble_eq_true rfl) ?_
  intro p e s m av9 below meth c A ls Q H locs E K w hA hr hk hn hQ hl
  have E : bq_E p m c cX8_setStart 3 s av9 RX8 := E
  have hx := E.1
  have hb := E.2.1
  have hl : lv_has ls 3 [(0, .ref a_t), (1, .int x1)] := hl
  unfold mX8_setStart at hm
  refine lv_aload_n hx hb dX8_setStart_0 rfl (lv_at hl 0 rfl) ?_
  refine lv_iconst (v := 0) hx hb dX8_setStart_1 (by decide) ?_
  obtain ⟨t_1, e9, hm⟩ := bq_let_el hm
  refine pt_X8_47 E K w 0 rfl (Nat.le_of_ble_eq_true rfl) dX8_setStart_2 (fun H locs w => ?_)
  replace w : bq_w D A s.heap (wdX8_setStart cI a_t a_t_rig u_t_trial u_t_strokes u_t_outs u_t_backs u_t_pauses u_t_cuts u_t_text u_t_readOuts u_t_readBacks u_t_readPauses t_1 t_rig) H locs := by rw [e9]; exact w
  clear e9
  refine lv_aload_n hx hb dX8_setStart_5 rfl (lv_at hl 0 rfl) ?_
  refine gt_X8_7 E K w 0 rfl rfl dX8_setStart_6 ?_
  refine lv_iconst (v := 2) hx hb dX8_setStart_9 (by decide) ?_
  refine bq_aldk E K w 1 rfl 2 (by decide) (by unfold vp_in; decide) dX8_setStart_10 ?_
  refine lv_iconst (v := 1) hx hb dX8_setStart_11 (by decide) ?_
  obtain ⟨v2, hT20, hm⟩ := bq_let_el hm
  have K20 : ∀ (H : Heap) (locs : List Loc) (ls : Array Slot), bq_w D A s.heap (wdX8_setStart cI a_t a_t_rig u_t_trial u_t_strokes u_t_outs u_t_backs u_t_pauses u_t_cuts u_t_text u_t_readOuts u_t_readBacks u_t_readPauses t_1 t_rig) H locs → lv_has ls 3 [(0, .ref a_t), (1, .int x1)] → W p l e rmX8_setStart s m av9 below meth c H locs 0 0 Q (F0 m 20 ls [.int v2]) := by
    intro H locs ls w hl
    refine lv_istore_n (lv' := [(2, .int v2), (0, .ref a_t), (1, .int x1)]) hx hb dX8_setStart_20 rfl hl (by decide) rfl (fun ls hl => ?_)
    refine lv_aload_n hx hb dX8_setStart_21 rfl (lv_at hl 1 rfl) ?_
    refine gt_X8_7 E K w 0 rfl rfl dX8_setStart_22 ?_
    refine lv_iconst (v := 2) hx hb dX8_setStart_25 (by decide) ?_
    refine lv_iload_n hx hb dX8_setStart_26 rfl (lv_at hl 2 rfl) ?_
    obtain ⟨v3, hT35, hm⟩ := bq_let_el hm
    have K35 : ∀ (H : Heap) (locs : List Loc) (ls : Array Slot), bq_w D A s.heap (wdX8_setStart cI a_t a_t_rig u_t_trial u_t_strokes u_t_outs u_t_backs u_t_pauses u_t_cuts u_t_text u_t_readOuts u_t_readBacks u_t_readPauses t_1 t_rig) H locs → lv_has ls 3 [(2, .int v2)] → W p l e rmX8_setStart s m av9 below meth c H locs 0 0 Q (F0 m 35 ls [.int v3, .int 2, .ref a_t_rig]) := by
      intro H locs ls w hl
      obtain ⟨t_rig_4, e9, hm⟩ := bq_let_el hm
      refine bq_astk E K w 1 rfl 2 (by decide) (by unfold vp_in; decide) dX8_setStart_35 (fun H locs w => ?_)
      replace w : bq_w D A s.heap (wdX8_setStart cI a_t a_t_rig u_t_trial u_t_strokes u_t_outs u_t_backs u_t_pauses u_t_cuts u_t_text u_t_readOuts u_t_readBacks u_t_readPauses t_1 t_rig_4) H locs := by rw [e9]; exact w
      clear e9
      refine lv_iload_n hx hb dX8_setStart_36 rfl (lv_at hl 0 rfl) ?_
      obtain ⟨hB, hm⟩ := bq_cb_el hm
      obtain ⟨rfl, rfl, rfl⟩ := bq_in3 (Option.some.inj hm)
      exact bq_zret E w hr hk hB dX8_setStart_37 hQ
    clear hm
    refine lv_if_eq (tgt := 34) hx hb dX8_setStart_27 (by decide) (fun hc => ?_) (fun hc => ?_)
    · replace hT35 := bq_et hc hT35
      clear hc
      refine lv_iconst (v := 0) hx hb dX8_setStart_34 (by decide) ?_
      subst hT35
      exact K35 H locs ls w (lv_sub hl [0] rfl)
    · replace hT35 := bq_ef hc hT35
      clear hc
      refine lv_iconst (v := 1) hx hb dX8_setStart_30 (by decide) ?_
      refine lv_goto (tgt := 35) hx hb dX8_setStart_31 (by decide) ?_
      subst hT35
      exact K35 H locs ls w (lv_sub hl [0] rfl)
  clear hm
  refine lv_icmp_ne (tgt := 19) hx hb dX8_setStart_12 (by decide) (fun hc => ?_) (fun hc => ?_)
  · replace hT20 := bq_ef hc hT20
    clear hc
    refine lv_iconst (v := 0) hx hb dX8_setStart_19 (by decide) ?_
    subst hT20
    exact K20 H locs ls w (lv_sub hl [0, 1] rfl)
  · replace hT20 := bq_et hc hT20
    clear hc
    refine lv_iconst (v := 1) hx hb dX8_setStart_15 (by decide) ?_
    refine lv_goto (tgt := 20) hx hb dX8_setStart_16 (by decide) ?_
    subst hT20
    exact K20 H locs ls w (lv_sub hl [0, 1] rfl)
abbrev wdX8_setFault (cI : ClassId) (a_t a_t_rig u_t_trial u_t_strokes u_t_outs u_t_backs u_t_pauses u_t_cuts u_t_text u_t_readOuts u_t_readBacks u_t_readPauses : Nat) (t : Nat → Int32) (t_rig : Nat → Int32) : va_W := [(a_t, oX8 a_t_rig u_t_trial u_t_strokes u_t_outs u_t_backs u_t_pauses u_t_cuts u_t_text u_t_readOuts u_t_readBacks u_t_readPauses t), (a_t_rig, oA cI 140 t_rig)]
abbrev rmX8_setFault : Room := { frames := 1, cells := 0, slots := 0, locals := 22 }
theorem hd_X8_setFault : yX8_setFault.cls = RX8 ∧ yX8_setFault.cls ≠ "java/lang/invoke/MethodHandle" ∧ yX8_setFault.cls ≠ "java/lang/invoke/VarHandle" ∧ (parseMethodDescriptor yX8_setFault.desc).map (fun d => d.parameters.length) = some 3 := by decide +kernel
set_option maxHeartbeats 4000000 in
set_option maxRecDepth 100000 in
theorem kX8_setFault (l : Launch) (D : va_G) (cI cJ : ClassId) (a_t a_t_rig u_t_trial u_t_strokes u_t_outs u_t_backs u_t_pauses u_t_cuts u_t_text u_t_readOuts u_t_readBacks u_t_readPauses : Nat) (t t_rig : Nat → Int32) (x1 : Int32) (x2 : Int32) (x3 : Int32) (r : Int32) (t_o : Nat → Int32) (t_rig_o : Nat → Int32) (hm : mX8_setFault t t_rig x1 x2 x3 = some (r, t_o, t_rig_o)) : bq_M l D cI cJ yX8_setFault cX8_setFault 5 (some .boolean) rmX8_setFault [.ref a_t, .int x1, .int x2, .int x3] (wdX8_setFault cI a_t a_t_rig u_t_trial u_t_strokes u_t_outs u_t_backs u_t_pauses u_t_cuts u_t_text u_t_readOuts u_t_readBacks u_t_readPauses t t_rig) (wdX8_setFault cI a_t a_t_rig u_t_trial u_t_strokes u_t_outs u_t_backs u_t_pauses u_t_cuts u_t_text u_t_readOuts u_t_readBacks u_t_readPauses t_o t_rig_o) (some (.int r)) := by
  refine bq_start (by decide) (Nat.le_of_ble_eq_true rfl) ?_
  intro p e s m av9 below meth c A ls Q H locs E K w hA hr hk hn hQ hl
  have E : bq_E p m c cX8_setFault 5 s av9 RX8 := E
  have hx := E.1
  have hb := E.2.1
  have hl : lv_has ls 5 [(0, .ref a_t), (1, .int x1), (2, .int x2), (3, .int x3)] := hl
  unfold mX8_setFault at hm
  refine lv_aload_n hx hb dX8_setFault_0 rfl (lv_at hl 0 rfl) ?_
  refine lv_iload_n hx hb dX8_setFault_1 rfl (lv_at hl 1 rfl) ?_
  refine lv_iconst (v := 0) hx hb dX8_setFault_2 (by decide) ?_
  refine lv_iconst (v := 5) hx hb dX8_setFault_3 (by decide) ?_
  obtain ⟨v1, hC, hm⟩ := bq_bd_el hm
  refine bq_S0 (As := [.int x1, .int 0, .int 5]) (rest := [.ref a_t]) (st1 := [.int v1, .ref a_t]) E K w hA (kX8_in l D cI cJ x1 0 5 v1 hC) cd_X8_in ml_X8_51 in_X8 st_X8_in hs_X8_in ⟨Nat.le_of_ble_eq_true rfl, Nat.le_of_ble_eq_true rfl⟩ ⟨Nat.le_of_ble_eq_true rfl, Nat.le_of_ble_eq_true rfl⟩ rfl hl.1 rfl (Nat.le_of_ble_eq_true rfl) rfl dX8_setFault_4 (fun H locs w => bq_z ⟨rfl, rfl⟩ ?_)
  clear hC
  obtain ⟨v2, hT28, hm⟩ := bq_bd_el hm
  have K28 : ∀ (H : Heap) (locs : List Loc) (ls : Array Slot), bq_w D A s.heap (wdX8_setFault cI a_t a_t_rig u_t_trial u_t_strokes u_t_outs u_t_backs u_t_pauses u_t_cuts u_t_text u_t_readOuts u_t_readBacks u_t_readPauses t t_rig) H locs → lv_has ls 5 [(0, .ref a_t), (1, .int x1), (2, .int x2), (3, .int x3)] → W p l e rmX8_setFault s m av9 below meth c H locs 0 0 Q (F0 m 28 ls [.int v2, .ref a_t]) := by
    intro H locs ls w hl
    obtain ⟨t_4, e9, hm⟩ := bq_let_el hm
    refine pt_X8_47 E K w 0 rfl (Nat.le_of_ble_eq_true rfl) dX8_setFault_28 (fun H locs w => ?_)
    replace w : bq_w D A s.heap (wdX8_setFault cI a_t a_t_rig u_t_trial u_t_strokes u_t_outs u_t_backs u_t_pauses u_t_cuts u_t_text u_t_readOuts u_t_readBacks u_t_readPauses t_4 t_rig) H locs := by rw [e9]; exact w
    clear e9
    refine lv_aload_n hx hb dX8_setFault_31 rfl (lv_at hl 0 rfl) ?_
    refine gt_X8_47 E K w 0 rfl rfl dX8_setFault_32 ?_
    refine lv_if_eq (tgt := 40) hx hb dX8_setFault_35 (by decide) (fun hc => ?_) (fun hc => ?_)
    · replace hm := bq_t hc hm
      clear hc
      refine lv_aload_n hx hb dX8_setFault_40 rfl (lv_at hl 0 rfl) ?_
      refine gt_X8_7 E K w 0 rfl rfl dX8_setFault_41 ?_
      refine lv_bipush (v := 38) hx hb dX8_setFault_44 (by decide) ?_
      refine lv_iload_n hx hb dX8_setFault_46 rfl (lv_at hl 1 rfl) ?_
      refine lv_iadd hx hb dX8_setFault_47 ?_
      obtain ⟨hI, hm⟩ := bq_ci_el hm
      refine bq_ald E K w 1 rfl hI dX8_setFault_48 ?_
      refine lv_iload_n hx hb dX8_setFault_49 rfl (lv_at hl 2 rfl) ?_
      refine lv_ishr hx hb dX8_setFault_50 ?_
      refine lv_iconst (v := 1) hx hb dX8_setFault_51 (by decide) ?_
      refine lv_iand hx hb dX8_setFault_52 ?_
      refine lv_iconst (v := 1) hx hb dX8_setFault_53 (by decide) ?_
      obtain ⟨v5, hT62, hm⟩ := bq_let_el hm
      have K62 : ∀ (H : Heap) (locs : List Loc) (ls : Array Slot), bq_w D A s.heap (wdX8_setFault cI a_t a_t_rig u_t_trial u_t_strokes u_t_outs u_t_backs u_t_pauses u_t_cuts u_t_text u_t_readOuts u_t_readBacks u_t_readPauses t_4 t_rig) H locs → lv_has ls 5 [(0, .ref a_t), (1, .int x1), (2, .int x2), (3, .int x3)] → W p l e rmX8_setFault s m av9 below meth c H locs 0 0 Q (F0 m 62 ls [.int v5]) := by
        intro H locs ls w hl
        refine lv_istore (lv' := [(4, .int v5), (0, .ref a_t), (1, .int x1), (2, .int x2), (3, .int x3)]) hx hb dX8_setFault_62 hl (by decide) rfl (fun ls hl => ?_)
        refine lv_aload_n hx hb dX8_setFault_64 rfl (lv_at hl 1 rfl) ?_
        refine gt_X8_7 E K w 0 rfl rfl dX8_setFault_65 ?_
        refine lv_bipush (v := 38) hx hb dX8_setFault_68 (by decide) ?_
        refine lv_iload_n hx hb dX8_setFault_70 rfl (lv_at hl 2 rfl) ?_
        refine lv_iadd hx hb dX8_setFault_71 ?_
        refine lv_iload_n hx hb dX8_setFault_72 rfl (lv_at hl 4 rfl) ?_
        obtain ⟨v6, hT107, hm⟩ := bq_bd_el hm
        have K107 : ∀ (H : Heap) (locs : List Loc) (ls : Array Slot), bq_w D A s.heap (wdX8_setFault cI a_t a_t_rig u_t_trial u_t_strokes u_t_outs u_t_backs u_t_pauses u_t_cuts u_t_text u_t_readOuts u_t_readBacks u_t_readPauses t_4 t_rig) H locs → lv_has ls 5 [(4, .int v5)] → W p l e rmX8_setFault s m av9 below meth c H locs 0 0 Q (F0 m 107 ls [.int v6, .int (38 + x1), .ref a_t_rig]) := by
          intro H locs ls w hl
          obtain ⟨hI, hm⟩ := bq_ci_el hm
          obtain ⟨t_rig_7, e9, hm⟩ := bq_let_el hm
          refine bq_ast E K w 1 rfl hI dX8_setFault_107 (fun H locs w => ?_)
          replace w : bq_w D A s.heap (wdX8_setFault cI a_t a_t_rig u_t_trial u_t_strokes u_t_outs u_t_backs u_t_pauses u_t_cuts u_t_text u_t_readOuts u_t_readBacks u_t_readPauses t_4 t_rig_7) H locs := by rw [e9]; exact w
          clear e9
          refine lv_iload hx hb dX8_setFault_108 (lv_at hl 0 rfl) ?_
          obtain ⟨hB, hm⟩ := bq_cb_el hm
          obtain ⟨rfl, rfl, rfl⟩ := bq_in3 (Option.some.inj hm)
          exact bq_zret E w hr hk hB dX8_setFault_110 hQ
        clear hm
        refine lv_if_eq (tgt := 92) hx hb dX8_setFault_73 (by decide) (fun hc => ?_) (fun hc => ?_)
        · replace hT107 := bq_t hc hT107
          clear hc
          refine lv_aload_n hx hb dX8_setFault_92 rfl (lv_at hl 1 rfl) ?_
          refine gt_X8_7 E K w 0 rfl rfl dX8_setFault_93 ?_
          refine lv_bipush (v := 38) hx hb dX8_setFault_96 (by decide) ?_
          refine lv_iload_n hx hb dX8_setFault_98 rfl (lv_at hl 2 rfl) ?_
          refine lv_iadd hx hb dX8_setFault_99 ?_
          obtain ⟨hI, hT107⟩ := bq_ci_el hT107
          refine bq_ald E K w 1 rfl hI dX8_setFault_100 ?_
          refine lv_iconst (v := 1) hx hb dX8_setFault_101 (by decide) ?_
          refine lv_iload_n hx hb dX8_setFault_102 rfl (lv_at hl 3 rfl) ?_
          refine lv_ishl hx hb dX8_setFault_103 ?_
          refine lv_iconst (v := (-1)) hx hb dX8_setFault_104 (by decide) ?_
          refine lv_ixor hx hb dX8_setFault_105 ?_
          refine lv_iand hx hb dX8_setFault_106 ?_
          obtain rfl := Option.some.inj hT107
          exact K107 H locs ls w (lv_sub hl [0] rfl)
        · replace hT107 := bq_f hc hT107
          clear hc
          refine lv_aload_n hx hb dX8_setFault_76 rfl (lv_at hl 1 rfl) ?_
          refine gt_X8_7 E K w 0 rfl rfl dX8_setFault_77 ?_
          refine lv_bipush (v := 38) hx hb dX8_setFault_80 (by decide) ?_
          refine lv_iload_n hx hb dX8_setFault_82 rfl (lv_at hl 2 rfl) ?_
          refine lv_iadd hx hb dX8_setFault_83 ?_
          obtain ⟨hI, hT107⟩ := bq_ci_el hT107
          refine bq_ald E K w 1 rfl hI dX8_setFault_84 ?_
          refine lv_iconst (v := 1) hx hb dX8_setFault_85 (by decide) ?_
          refine lv_iload_n hx hb dX8_setFault_86 rfl (lv_at hl 3 rfl) ?_
          refine lv_ishl hx hb dX8_setFault_87 ?_
          refine lv_ior hx hb dX8_setFault_88 ?_
          refine lv_goto (tgt := 107) hx hb dX8_setFault_89 (by decide) ?_
          obtain rfl := Option.some.inj hT107
          exact K107 H locs ls w (lv_sub hl [0] rfl)
      clear hm
      refine lv_icmp_ne (tgt := 61) hx hb dX8_setFault_54 (by decide) (fun hc => ?_) (fun hc => ?_)
      · replace hT62 := bq_ef hc hT62
        clear hc
        refine lv_iconst (v := 0) hx hb dX8_setFault_61 (by decide) ?_
        subst hT62
        exact K62 H locs ls w (lv_sub hl [0, 1, 2, 3] rfl)
      · replace hT62 := bq_et hc hT62
        clear hc
        refine lv_iconst (v := 1) hx hb dX8_setFault_57 (by decide) ?_
        refine lv_goto (tgt := 62) hx hb dX8_setFault_58 (by decide) ?_
        subst hT62
        exact K62 H locs ls w (lv_sub hl [0, 1, 2, 3] rfl)
    · replace hm := bq_f hc hm
      clear hc
      refine lv_iconst (v := 0) hx hb dX8_setFault_38 (by decide) ?_
      obtain ⟨rfl, rfl, rfl⟩ := bq_in3 (Option.some.inj hm)
      exact bq_zret E w hr hk (by decide) dX8_setFault_39 hQ
  clear hm
  refine lv_if_ne (tgt := 14) hx hb dX8_setFault_7 (by decide) (fun hc => ?_) (fun hc => ?_)
  · replace hT28 := bq_f hc hT28
    clear hc
    refine lv_iload_n hx hb dX8_setFault_14 rfl (lv_at hl 2 rfl) ?_
    refine lv_iconst (v := 0) hx hb dX8_setFault_15 (by decide) ?_
    refine lv_iconst (v := 4) hx hb dX8_setFault_16 (by decide) ?_
    obtain ⟨v3, hC, hT28⟩ := bq_bd_el hT28
    refine bq_S0 (As := [.int x2, .int 0, .int 4]) (rest := [.ref a_t]) (st1 := [.int v3, .ref a_t]) E K w hA (kX8_in l D cI cJ x2 0 4 v3 hC) cd_X8_in ml_X8_51 in_X8 st_X8_in hs_X8_in ⟨Nat.le_of_ble_eq_true rfl, Nat.le_of_ble_eq_true rfl⟩ ⟨Nat.le_of_ble_eq_true rfl, Nat.le_of_ble_eq_true rfl⟩ rfl hl.1 rfl (Nat.le_of_ble_eq_true rfl) rfl dX8_setFault_17 (fun H locs w => bq_z ⟨rfl, rfl⟩ ?_)
    clear hC
    refine lv_if_ne (tgt := 27) hx hb dX8_setFault_20 (by decide) (fun hc => ?_) (fun hc => ?_)
    · replace hT28 := bq_f hc hT28
      clear hc
      refine lv_iconst (v := 0) hx hb dX8_setFault_27 (by decide) ?_
      obtain rfl := Option.some.inj hT28
      exact K28 H locs ls w (lv_sub hl [0, 1, 2, 3] rfl)
    · replace hT28 := bq_t hc hT28
      clear hc
      refine lv_iconst (v := 2) hx hb dX8_setFault_23 (by decide) ?_
      refine lv_goto (tgt := 28) hx hb dX8_setFault_24 (by decide) ?_
      obtain rfl := Option.some.inj hT28
      exact K28 H locs ls w (lv_sub hl [0, 1, 2, 3] rfl)
  · replace hT28 := bq_t hc hT28
    clear hc
    refine lv_iconst (v := 1) hx hb dX8_setFault_10 (by decide) ?_
    refine lv_goto (tgt := 28) hx hb dX8_setFault_11 (by decide) ?_
    obtain rfl := Option.some.inj hT28
    exact K28 H locs ls w (lv_sub hl [0, 1, 2, 3] rfl)
abbrev wdX8_rest (cI : ClassId) (a_t a_t_backs a_t_outs a_t_pauses a_t_rig u_t_trial u_t_strokes u_t_cuts u_t_text u_t_readOuts u_t_readBacks u_t_readPauses : Nat) (t : Nat → Int32) (t_backs : Nat → Int32) (t_outs : Nat → Int32) (t_pauses : Nat → Int32) (t_rig : Nat → Int32) : va_W := [(a_t, oX8 a_t_rig u_t_trial u_t_strokes a_t_outs a_t_backs a_t_pauses u_t_cuts u_t_text u_t_readOuts u_t_readBacks u_t_readPauses t), (a_t_backs, oA cI 16 t_backs), (a_t_outs, oA cI 16 t_outs), (a_t_pauses, oA cI 16 t_pauses), (a_t_rig, oA cI 140 t_rig)]
abbrev rmX8_rest : Room := { frames := 2, cells := 0, slots := 0, locals := 45 }
theorem hd_X8_rest : yX8_rest.cls = RX8 ∧ yX8_rest.cls ≠ "java/lang/invoke/MethodHandle" ∧ yX8_rest.cls ≠ "java/lang/invoke/VarHandle" ∧ (parseMethodDescriptor yX8_rest.desc).map (fun d => d.parameters.length) = some 0 := by decide +kernel
set_option maxHeartbeats 4000000 in
set_option maxRecDepth 100000 in
theorem kX8_rest (l : Launch) (D : va_G) (cI cJ : ClassId) (a_t a_t_backs a_t_outs a_t_pauses a_t_rig u_t_trial u_t_strokes u_t_cuts u_t_text u_t_readOuts u_t_readBacks u_t_readPauses : Nat) (t t_backs t_outs t_pauses t_rig : Nat → Int32) (r : Int32) (t_o : Nat → Int32) (t_rig_o : Nat → Int32) (hm : mX8_rest t t_backs t_outs t_pauses t_rig = some (r, t_o, t_rig_o)) : bq_M l D cI cJ yX8_rest cX8_rest 2 (some .int) rmX8_rest [.ref a_t] (wdX8_rest cI a_t a_t_backs a_t_outs a_t_pauses a_t_rig u_t_trial u_t_strokes u_t_cuts u_t_text u_t_readOuts u_t_readBacks u_t_readPauses t t_backs t_outs t_pauses t_rig) (wdX8_rest cI a_t a_t_backs a_t_outs a_t_pauses a_t_rig u_t_trial u_t_strokes u_t_cuts u_t_text u_t_readOuts u_t_readBacks u_t_readPauses t_o t_backs t_outs t_pauses t_rig_o) (some (.int r)) := by
  refine bq_start (by decide) (Nat.le_of_ble_eq_true rfl) ?_
  intro p e s m av9 below meth c A ls Q H locs E K w hA hr hk hn hQ hl
  have E : bq_E p m c cX8_rest 2 s av9 RX8 := E
  have hx := E.1
  have hb := E.2.1
  have hl : lv_has ls 2 [(0, .ref a_t)] := hl
  unfold mX8_rest at hm
  refine lv_aload_n hx hb dX8_rest_0 rfl (lv_at hl 0 rfl) ?_
  refine lv_iconst (v := 0) hx hb dX8_rest_1 (by decide) ?_
  obtain ⟨t_1, e9, hm⟩ := bq_let_el hm
  refine pt_X8_47 E K w 0 rfl (Nat.le_of_ble_eq_true rfl) dX8_rest_2 (fun H locs w => ?_)
  replace w : bq_w D A s.heap (wdX8_rest cI a_t a_t_backs a_t_outs a_t_pauses a_t_rig u_t_trial u_t_strokes u_t_cuts u_t_text u_t_readOuts u_t_readBacks u_t_readPauses t_1 t_backs t_outs t_pauses t_rig) H locs := by rw [e9]; exact w
  clear e9
  refine lv_aload_n hx hb dX8_rest_5 rfl (lv_at hl 0 rfl) ?_
  refine gt_X8_7 E K w 0 rfl rfl dX8_rest_6 ?_
  refine lv_iconst (v := 0) hx hb dX8_rest_9 (by decide) ?_
  refine bq_aldk E K w 4 rfl 0 (by decide) (by unfold vp_in; decide) dX8_rest_10 ?_
  obtain ⟨v2, e9, hm⟩ := bq_let_el hm
  refine bq_nmi e9 ?_
  clear e9
  refine lv_istore_n (lv' := [(1, .int v2), (0, .ref a_t)]) hx hb dX8_rest_11 rfl hl (by decide) rfl (fun ls hl => ?_)
  refine lv_aload_n hx hb dX8_rest_12 rfl (lv_at hl 1 rfl) ?_
  refine lv_aload_n hx hb dX8_rest_13 rfl (lv_at hl 1 rfl) ?_
  refine gt_X8_7 E K w 0 rfl rfl dX8_rest_14 ?_
  obtain ⟨t_rig_3, hC, hm⟩ := bq_bd_el hm
  refine bq_V (As := [.ref a_t_rig]) (rest := []) (st1 := []) (ws' := wdX8_rest cI a_t a_t_backs a_t_outs a_t_pauses a_t_rig u_t_trial u_t_strokes u_t_cuts u_t_text u_t_readOuts u_t_readBacks u_t_readPauses t_1 t_backs t_outs t_pauses t_rig_3) E K w hA (kX8_rests l D cI cJ a_t a_t_backs a_t_outs a_t_pauses a_t_rig a_t_rig u_t_trial u_t_strokes u_t_cuts u_t_text u_t_readOuts u_t_readBacks u_t_readPauses t_1 t_backs t_outs t_pauses t_rig t_rig_3 hC) (bq_gV ml_X8_43 im_X8_rests sl_X8_rests in_X8 cd_X8_rests) hd_X8_rests ⟨Nat.le_of_ble_eq_true rfl, Nat.le_of_ble_eq_true rfl⟩ ⟨Nat.le_of_ble_eq_true rfl, Nat.le_of_ble_eq_true rfl⟩ ⟨[0, 1, 2, 3, 4], [], [0, 1, 2, 3, 4], rfl, rfl, rfl, rfl, rfl, rfl, rfl, rfl, rfl⟩ 0 rfl rfl rfl hl.1 rfl (Nat.le_of_ble_eq_true rfl) rfl dX8_rest_17 (fun H locs w => bq_z ⟨rfl, rfl⟩ ?_)
  clear hC
  refine lv_iload_n hx hb dX8_rest_20 rfl (lv_at hl 0 rfl) ?_
  obtain ⟨rfl, rfl, rfl⟩ := bq_in3 (Option.some.inj hm)
  exact bq_iret E w hr hk dX8_rest_21 hQ
abbrev wdX8_ticks (cI : ClassId) (a_t a_t_backs a_t_cuts a_t_outs a_t_pauses a_t_rig a_t_strokes u_t_trial u_t_text u_t_readOuts u_t_readBacks u_t_readPauses : Nat) (t : Nat → Int32) (t_backs : Nat → Int32) (t_cuts : Nat → Int32) (t_outs : Nat → Int32) (t_pauses : Nat → Int32) (t_rig : Nat → Int32) (t_strokes : Nat → Int32) : va_W := [(a_t, oX8 a_t_rig u_t_trial a_t_strokes a_t_outs a_t_backs a_t_pauses a_t_cuts u_t_text u_t_readOuts u_t_readBacks u_t_readPauses t), (a_t_backs, oA cI 16 t_backs), (a_t_cuts, oA cI 16 t_cuts), (a_t_outs, oA cI 16 t_outs), (a_t_pauses, oA cI 16 t_pauses), (a_t_rig, oA cI 140 t_rig), (a_t_strokes, oA cI 6 t_strokes)]
abbrev rmX8_ticks : Room := { frames := 4, cells := 0, slots := 0, locals := 104 }
theorem hd_X8_ticks : yX8_ticks.cls = RX8 ∧ yX8_ticks.cls ≠ "java/lang/invoke/MethodHandle" ∧ yX8_ticks.cls ≠ "java/lang/invoke/VarHandle" ∧ (parseMethodDescriptor yX8_ticks.desc).map (fun d => d.parameters.length) = some 1 := by decide +kernel
set_option maxHeartbeats 4000000 in
set_option maxRecDepth 100000 in
theorem kX8_ticks (l : Launch) (D : va_G) (cI cJ : ClassId) (a_t a_t_backs a_t_cuts a_t_outs a_t_pauses a_t_rig a_t_strokes u_t_trial u_t_text u_t_readOuts u_t_readBacks u_t_readPauses : Nat) (t t_backs t_cuts t_outs t_pauses t_rig t_strokes : Nat → Int32) (x1 : Int32) (r : Int32) (t_o : Nat → Int32) (t_rig_o : Nat → Int32) (hm : mX8_ticks t t_backs t_cuts t_outs t_pauses t_rig t_strokes x1 = some (r, t_o, t_rig_o)) : bq_M l D cI cJ yX8_ticks cX8_ticks 4 (some .int) rmX8_ticks [.ref a_t, .int x1] (wdX8_ticks cI a_t a_t_backs a_t_cuts a_t_outs a_t_pauses a_t_rig a_t_strokes u_t_trial u_t_text u_t_readOuts u_t_readBacks u_t_readPauses t t_backs t_cuts t_outs t_pauses t_rig t_strokes) (wdX8_ticks cI a_t a_t_backs a_t_cuts a_t_outs a_t_pauses a_t_rig a_t_strokes u_t_trial u_t_text u_t_readOuts u_t_readBacks u_t_readPauses t_o t_backs t_cuts t_outs t_pauses t_rig_o t_strokes) (some (.int r)) := by
  refine bq_start (by decide) (Nat.le_of_ble_eq_true rfl) ?_
  intro p e s m av9 below meth c A ls Q H locs E K w hA hr hk hn hQ hl
  have E : bq_E p m c cX8_ticks 4 s av9 RX8 := E
  have hx := E.1
  have hb := E.2.1
  have hl : lv_has ls 4 [(0, .ref a_t), (1, .int x1)] := hl
  unfold mX8_ticks at hm
  refine lv_aload_n hx hb dX8_ticks_0 rfl (lv_at hl 0 rfl) ?_
  refine lv_iconst (v := 0) hx hb dX8_ticks_1 (by decide) ?_
  obtain ⟨t_1, e9, hm⟩ := bq_let_el hm
  refine pt_X8_47 E K w 0 rfl (Nat.le_of_ble_eq_true rfl) dX8_ticks_2 (fun H locs w => ?_)
  replace w : bq_w D A s.heap (wdX8_ticks cI a_t a_t_backs a_t_cuts a_t_outs a_t_pauses a_t_rig a_t_strokes u_t_trial u_t_text u_t_readOuts u_t_readBacks u_t_readPauses t_1 t_backs t_cuts t_outs t_pauses t_rig t_strokes) H locs := by rw [e9]; exact w
  clear e9
  refine lv_iload_n hx hb dX8_ticks_5 rfl (lv_at hl 1 rfl) ?_
  refine lv_iconst (v := 0) hx hb dX8_ticks_6 (by decide) ?_
  refine lv_sipush (v := 5000) hx hb dX8_ticks_7 (by decide) ?_
  obtain ⟨v2, hC, hm⟩ := bq_bd_el hm
  refine bq_S0 (As := [.int x1, .int 0, .int 5000]) (rest := []) (st1 := [.int v2]) E K w hA (kX8_in l D cI cJ x1 0 5000 v2 hC) cd_X8_in ml_X8_51 in_X8 st_X8_in hs_X8_in ⟨Nat.le_of_ble_eq_true rfl, Nat.le_of_ble_eq_true rfl⟩ ⟨Nat.le_of_ble_eq_true rfl, Nat.le_of_ble_eq_true rfl⟩ rfl hl.1 rfl (Nat.le_of_ble_eq_true rfl) rfl dX8_ticks_10 (fun H locs w => bq_z ⟨rfl, rfl⟩ ?_)
  clear hC
  refine lv_if_ne (tgt := 22) hx hb dX8_ticks_13 (by decide) (fun hc => ?_) (fun hc => ?_)
  · replace hm := bq_f hc hm
    clear hc
    refine lv_aload_n hx hb dX8_ticks_22 rfl (lv_at hl 0 rfl) ?_
    refine gt_X8_104 E K w 0 rfl rfl dX8_ticks_23 ?_
    refine lv_if_ne (tgt := 35) hx hb dX8_ticks_26 (by decide) (fun hc => ?_) (fun hc => ?_)
    · replace hm := bq_f hc hm
      clear hc
      refine lv_aload_n hx hb dX8_ticks_35 rfl (lv_at hl 0 rfl) ?_
      refine gt_X8_7 E K w 0 rfl rfl dX8_ticks_36 ?_
      refine lv_iconst (v := 4) hx hb dX8_ticks_39 (by decide) ?_
      refine bq_aldk E K w 5 rfl 4 (by decide) (by unfold vp_in; decide) dX8_ticks_40 ?_
      obtain ⟨v3, e9, hm⟩ := bq_let_el hm
      refine bq_nmi e9 ?_
      clear e9
      refine lv_istore_n (lv' := [(2, .int v3), (0, .ref a_t), (1, .int x1)]) hx hb dX8_ticks_41 rfl hl (by decide) rfl (fun ls hl => ?_)
      refine lv_iconst (v := 0) hx hb dX8_ticks_42 (by decide) ?_
      refine lv_istore_n (lv' := [(3, .int 0), (2, .int v3), (0, .ref a_t), (1, .int x1)]) hx hb dX8_ticks_43 rfl hl (by decide) rfl (fun ls hl => ?_)
      obtain ⟨t_rig_6, hL, hm⟩ := bq_bd_el hm
      obtain ⟨B, eB, nn, hL⟩ := bq_loop_B hL
      have X63 : ∀ (H : Heap) (locs : List Loc) (ls : Array Slot), bq_w D A s.heap (wdX8_ticks cI a_t a_t_backs a_t_cuts a_t_outs a_t_pauses a_t_rig a_t_strokes u_t_trial u_t_text u_t_readOuts u_t_readBacks u_t_readPauses t_1 t_backs t_cuts t_outs t_pauses t_rig_6 t_strokes) H locs → lv_has ls 4 [(0, .ref a_t), (2, .int v3)] → W p l e rmX8_ticks s m av9 below meth c H locs 0 0 Q (F0 m 63 ls []) := by
        intro H locs ls w hl
        refine lv_aload_n hx hb dX8_ticks_63 rfl (lv_at hl 0 rfl) ?_
        refine gt_X8_7 E K w 0 rfl rfl dX8_ticks_64 ?_
        refine lv_iconst (v := 4) hx hb dX8_ticks_67 (by decide) ?_
        refine bq_aldk E K w 5 rfl 4 (by decide) (by unfold vp_in; decide) dX8_ticks_68 ?_
        refine lv_iload_n hx hb dX8_ticks_69 rfl (lv_at hl 1 rfl) ?_
        refine lv_isub hx hb dX8_ticks_70 ?_
        obtain ⟨rfl, rfl, rfl⟩ := bq_in3 (Option.some.inj hm)
        exact bq_iret E w hr hk dX8_ticks_71 hQ
      clear hm
      have L44 : ∀ (nn : Nat) (i4 : Int32) (t_rig_5 : Nat → Int32) (H : Heap) (locs : List Loc) (ls : Array Slot), bq_lp B nn (i4, t_rig_5) = some t_rig_6 → bq_w D A s.heap (wdX8_ticks cI a_t a_t_backs a_t_cuts a_t_outs a_t_pauses a_t_rig a_t_strokes u_t_trial u_t_text u_t_readOuts u_t_readBacks u_t_readPauses t_1 t_backs t_cuts t_outs t_pauses t_rig_5 t_strokes) H locs → lv_has ls 4 [(0, .ref a_t), (1, .int x1), (2, .int v3), (3, .int i4)] → W p l e rmX8_ticks s m av9 below meth c H locs 0 0 Q (F0 m 44 ls []) := by
        intro nn
        induction nn with
        | zero =>
          intro i4 t_rig_5 H locs ls hL w hl
          exact bq_lp_0 hL
        | succ nn ih =>
          intro i4 t_rig_5 H locs ls hL w hl
          obtain ⟨oo44, hT44, hR44⟩ := bq_lp_el hL
          clear hL
          replace hT44 := bq_u2_el eB hT44
          unfold bX8_ticks_44 at hT44
          refine lv_iload_n hx hb dX8_ticks_44 rfl (lv_at hl 3 rfl) ?_
          refine lv_iload_n hx hb dX8_ticks_45 rfl (lv_at hl 1 rfl) ?_
          refine lv_icmp_ge (tgt := 63) hx hb dX8_ticks_46 (by decide) (fun hc => ?_) (fun hc => ?_)
          · replace hT44 := bq_t hc hT44
            clear hc
            obtain rfl := Option.some.inj hT44
            replace hR44 := bq_lk_r hR44
            subst hR44
            exact X63 H locs ls w (lv_sub hl [0, 2] rfl)
          · replace hT44 := bq_f hc hT44
            clear hc
            refine lv_aload_n hx hb dX8_ticks_49 rfl (lv_at hl 0 rfl) ?_
            refine lv_aload_n hx hb dX8_ticks_50 rfl (lv_at hl 0 rfl) ?_
            refine gt_X8_7 E K w 0 rfl rfl dX8_ticks_51 ?_
            obtain ⟨t_rig_7, hC, hT44⟩ := bq_bd_el hT44
            refine bq_V (As := [.ref a_t_rig]) (rest := []) (st1 := []) (ws' := wdX8_ticks cI a_t a_t_backs a_t_cuts a_t_outs a_t_pauses a_t_rig a_t_strokes u_t_trial u_t_text u_t_readOuts u_t_readBacks u_t_readPauses t_1 t_backs t_cuts t_outs t_pauses t_rig_7 t_strokes) E K w hA (kX8_ticksOnce l D cI cJ a_t a_t_backs a_t_cuts a_t_outs a_t_pauses a_t_strokes a_t_rig a_t_rig u_t_trial u_t_text u_t_readOuts u_t_readBacks u_t_readPauses t_1 t_backs t_cuts t_outs t_pauses t_strokes t_rig_5 t_rig_7 hC) (bq_gV ml_X8_171 im_X8_ticksOnce sl_X8_ticksOnce in_X8 cd_X8_ticksOnce) hd_X8_ticksOnce ⟨Nat.le_of_ble_eq_true rfl, Nat.le_of_ble_eq_true rfl⟩ ⟨Nat.le_of_ble_eq_true rfl, Nat.le_of_ble_eq_true rfl⟩ ⟨[0, 1, 2, 3, 4, 6, 5], [], [0, 1, 2, 3, 4, 6, 5], rfl, rfl, rfl, rfl, rfl, rfl, rfl, rfl, rfl⟩ 0 rfl rfl rfl hl.1 rfl (Nat.le_of_ble_eq_true rfl) rfl dX8_ticks_54 (fun H locs w => bq_z ⟨rfl, rfl⟩ ?_)
            clear hC
            obtain ⟨v8, e9, hT44⟩ := bq_let_el hT44
            refine lv_iinc (v := v8) (lv' := [(3, .int v8), (0, .ref a_t), (1, .int x1), (2, .int v3)]) hx hb dX8_ticks_57 hl (k := 3) rfl (by rw [e9]; rfl) (by decide) rfl (fun ls hl => ?_)
            clear e9
            refine lv_goto (tgt := 44) hx hb dX8_ticks_60 (by decide) ?_
            obtain rfl := Option.some.inj hT44
            exact ih v8 t_rig_7 H locs ls hR44 w (lv_sub hl [1, 2, 3, 0] rfl)
      exact L44 nn 0 t_rig H locs ls hL w (lv_sub hl [2, 3, 1, 0] rfl)
    · replace hm := bq_t hc hm
      clear hc
      refine lv_aload_n hx hb dX8_ticks_29 rfl (lv_at hl 0 rfl) ?_
      refine lv_iconst (v := 2) hx hb dX8_ticks_30 (by decide) ?_
      obtain ⟨v9, t_10, hC, hm⟩ := bq_b2_el hm
      refine bq_V (As := [.int 2]) (rest := []) (st1 := [.int v9]) (ws' := wdX8_ticks cI a_t a_t_backs a_t_cuts a_t_outs a_t_pauses a_t_rig a_t_strokes u_t_trial u_t_text u_t_readOuts u_t_readBacks u_t_readPauses t_10 t_backs t_cuts t_outs t_pauses t_rig t_strokes) E K w hA (kX8_fails l D cI cJ a_t a_t_rig u_t_trial a_t_strokes a_t_outs a_t_backs a_t_pauses a_t_cuts u_t_text u_t_readOuts u_t_readBacks u_t_readPauses t_1 2 v9 t_10 hC) (bq_gV ml_X8_55 im_X8_fails sl_X8_fails in_X8 cd_X8_fails) hd_X8_fails ⟨Nat.le_of_ble_eq_true rfl, Nat.le_of_ble_eq_true rfl⟩ ⟨Nat.le_of_ble_eq_true rfl, Nat.le_of_ble_eq_true rfl⟩ ⟨[0], [1, 2, 3, 4, 5, 6], [6, 0, 1, 2, 3, 4, 5], rfl, rfl, rfl, rfl, rfl, rfl, rfl, rfl, rfl⟩ 0 rfl rfl rfl hl.1 rfl (Nat.le_of_ble_eq_true rfl) rfl dX8_ticks_31 (fun H locs w => bq_z ⟨rfl, rfl⟩ ?_)
      clear hC
      obtain ⟨rfl, rfl, rfl⟩ := bq_in3 (Option.some.inj hm)
      exact bq_iret E w hr hk dX8_ticks_34 hQ
  · replace hm := bq_t hc hm
    clear hc
    refine lv_aload_n hx hb dX8_ticks_16 rfl (lv_at hl 0 rfl) ?_
    refine lv_iconst (v := 1) hx hb dX8_ticks_17 (by decide) ?_
    obtain ⟨v11, t_12, hC, hm⟩ := bq_b2_el hm
    refine bq_V (As := [.int 1]) (rest := []) (st1 := [.int v11]) (ws' := wdX8_ticks cI a_t a_t_backs a_t_cuts a_t_outs a_t_pauses a_t_rig a_t_strokes u_t_trial u_t_text u_t_readOuts u_t_readBacks u_t_readPauses t_12 t_backs t_cuts t_outs t_pauses t_rig t_strokes) E K w hA (kX8_fails l D cI cJ a_t a_t_rig u_t_trial a_t_strokes a_t_outs a_t_backs a_t_pauses a_t_cuts u_t_text u_t_readOuts u_t_readBacks u_t_readPauses t_1 1 v11 t_12 hC) (bq_gV ml_X8_55 im_X8_fails sl_X8_fails in_X8 cd_X8_fails) hd_X8_fails ⟨Nat.le_of_ble_eq_true rfl, Nat.le_of_ble_eq_true rfl⟩ ⟨Nat.le_of_ble_eq_true rfl, Nat.le_of_ble_eq_true rfl⟩ ⟨[0], [1, 2, 3, 4, 5, 6], [6, 0, 1, 2, 3, 4, 5], rfl, rfl, rfl, rfl, rfl, rfl, rfl, rfl, rfl⟩ 0 rfl rfl rfl hl.1 rfl (Nat.le_of_ble_eq_true rfl) rfl dX8_ticks_18 (fun H locs w => bq_z ⟨rfl, rfl⟩ ?_)
    clear hC
    obtain ⟨rfl, rfl, rfl⟩ := bq_in3 (Option.some.inj hm)
    exact bq_iret E w hr hk dX8_ticks_21 hQ
abbrev wdX8_time (cI : ClassId) (a_t a_t_rig u_t_trial u_t_strokes u_t_outs u_t_backs u_t_pauses u_t_cuts u_t_text u_t_readOuts u_t_readBacks u_t_readPauses : Nat) (t : Nat → Int32) (t_rig : Nat → Int32) : va_W := [(a_t, oX8 a_t_rig u_t_trial u_t_strokes u_t_outs u_t_backs u_t_pauses u_t_cuts u_t_text u_t_readOuts u_t_readBacks u_t_readPauses t), (a_t_rig, oA cI 140 t_rig)]
abbrev rmX8_time : Room := { frames := 0, cells := 0, slots := 0, locals := 0 }
theorem hd_X8_time : yX8_time.cls = RX8 ∧ yX8_time.cls ≠ "java/lang/invoke/MethodHandle" ∧ yX8_time.cls ≠ "java/lang/invoke/VarHandle" ∧ (parseMethodDescriptor yX8_time.desc).map (fun d => d.parameters.length) = some 0 := by decide +kernel
set_option maxHeartbeats 4000000 in
set_option maxRecDepth 100000 in
theorem kX8_time (l : Launch) (D : va_G) (cI cJ : ClassId) (a_t a_t_rig u_t_trial u_t_strokes u_t_outs u_t_backs u_t_pauses u_t_cuts u_t_text u_t_readOuts u_t_readBacks u_t_readPauses : Nat) (t t_rig : Nat → Int32) (r : Int32) (t_o : Nat → Int32) (hm : mX8_time t t_rig = some (r, t_o)) : bq_M l D cI cJ yX8_time cX8_time 1 (some .int) rmX8_time [.ref a_t] (wdX8_time cI a_t a_t_rig u_t_trial u_t_strokes u_t_outs u_t_backs u_t_pauses u_t_cuts u_t_text u_t_readOuts u_t_readBacks u_t_readPauses t t_rig) (wdX8_time cI a_t a_t_rig u_t_trial u_t_strokes u_t_outs u_t_backs u_t_pauses u_t_cuts u_t_text u_t_readOuts u_t_readBacks u_t_readPauses t_o t_rig) (some (.int r)) := by
  refine bq_start (by decide) (Nat.le_of_ble_eq_true rfl) ?_
  intro p e s m av9 below meth c A ls Q H locs E K w hA hr hk hn hQ hl
  have E : bq_E p m c cX8_time 1 s av9 RX8 := E
  have hx := E.1
  have hb := E.2.1
  have hl : lv_has ls 1 [(0, .ref a_t)] := hl
  unfold mX8_time at hm
  refine lv_aload_n hx hb dX8_time_0 rfl (lv_at hl 0 rfl) ?_
  refine lv_iconst (v := 0) hx hb dX8_time_1 (by decide) ?_
  obtain ⟨t_1, e9, hm⟩ := bq_let_el hm
  refine pt_X8_47 E K w 0 rfl (Nat.le_of_ble_eq_true rfl) dX8_time_2 (fun H locs w => ?_)
  replace w : bq_w D A s.heap (wdX8_time cI a_t a_t_rig u_t_trial u_t_strokes u_t_outs u_t_backs u_t_pauses u_t_cuts u_t_text u_t_readOuts u_t_readBacks u_t_readPauses t_1 t_rig) H locs := by rw [e9]; exact w
  clear e9
  refine lv_aload_n hx hb dX8_time_5 rfl (lv_at hl 0 rfl) ?_
  refine gt_X8_7 E K w 0 rfl rfl dX8_time_6 ?_
  refine lv_iconst (v := 0) hx hb dX8_time_9 (by decide) ?_
  refine bq_aldk E K w 1 rfl 0 (by decide) (by unfold vp_in; decide) dX8_time_10 ?_
  obtain ⟨rfl, rfl⟩ := bq_in2 (Option.some.inj hm)
  exact bq_iret E w hr hk dX8_time_11 hQ
abbrev wdX8_ofCylinder (cI : ClassId) (a_t a_t_rig u_t_trial u_t_strokes u_t_outs u_t_backs u_t_pauses u_t_cuts u_t_text u_t_readOuts u_t_readBacks u_t_readPauses : Nat) (t : Nat → Int32) (t_rig : Nat → Int32) : va_W := [(a_t, oX8 a_t_rig u_t_trial u_t_strokes u_t_outs u_t_backs u_t_pauses u_t_cuts u_t_text u_t_readOuts u_t_readBacks u_t_readPauses t), (a_t_rig, oA cI 140 t_rig)]
abbrev rmX8_ofCylinder : Room := { frames := 1, cells := 0, slots := 0, locals := 22 }
theorem hd_X8_ofCylinder : yX8_ofCylinder.cls = RX8 ∧ yX8_ofCylinder.cls ≠ "java/lang/invoke/MethodHandle" ∧ yX8_ofCylinder.cls ≠ "java/lang/invoke/VarHandle" ∧ (parseMethodDescriptor yX8_ofCylinder.desc).map (fun d => d.parameters.length) = some 2 := by decide +kernel
set_option maxHeartbeats 4000000 in
set_option maxRecDepth 100000 in
theorem kX8_ofCylinder (l : Launch) (D : va_G) (cI cJ : ClassId) (a_t a_t_rig u_t_trial u_t_strokes u_t_outs u_t_backs u_t_pauses u_t_cuts u_t_text u_t_readOuts u_t_readBacks u_t_readPauses : Nat) (t t_rig : Nat → Int32) (x1 : Int32) (x2 : Int32) (r : Int32) (t_o : Nat → Int32) (hm : mX8_ofCylinder t t_rig x1 x2 = some (r, t_o)) : bq_M l D cI cJ yX8_ofCylinder cX8_ofCylinder 3 (some .int) rmX8_ofCylinder [.ref a_t, .int x1, .int x2] (wdX8_ofCylinder cI a_t a_t_rig u_t_trial u_t_strokes u_t_outs u_t_backs u_t_pauses u_t_cuts u_t_text u_t_readOuts u_t_readBacks u_t_readPauses t t_rig) (wdX8_ofCylinder cI a_t a_t_rig u_t_trial u_t_strokes u_t_outs u_t_backs u_t_pauses u_t_cuts u_t_text u_t_readOuts u_t_readBacks u_t_readPauses t_o t_rig) (some (.int r)) := by
  refine bq_start (by decide) (Nat.le_of_ble_eq_true rfl) ?_
  intro p e s m av9 below meth c A ls Q H locs E K w hA hr hk hn hQ hl
  have E : bq_E p m c cX8_ofCylinder 3 s av9 RX8 := E
  have hx := E.1
  have hb := E.2.1
  have hl : lv_has ls 3 [(0, .ref a_t), (1, .int x1), (2, .int x2)] := hl
  unfold mX8_ofCylinder at hm
  refine lv_aload_n hx hb dX8_ofCylinder_0 rfl (lv_at hl 0 rfl) ?_
  refine lv_iload_n hx hb dX8_ofCylinder_1 rfl (lv_at hl 1 rfl) ?_
  refine lv_iconst (v := 0) hx hb dX8_ofCylinder_2 (by decide) ?_
  refine lv_iconst (v := 5) hx hb dX8_ofCylinder_3 (by decide) ?_
  obtain ⟨v1, hC, hm⟩ := bq_bd_el hm
  refine bq_S0 (As := [.int x1, .int 0, .int 5]) (rest := [.ref a_t]) (st1 := [.int v1, .ref a_t]) E K w hA (kX8_in l D cI cJ x1 0 5 v1 hC) cd_X8_in ml_X8_51 in_X8 st_X8_in hs_X8_in ⟨Nat.le_of_ble_eq_true rfl, Nat.le_of_ble_eq_true rfl⟩ ⟨Nat.le_of_ble_eq_true rfl, Nat.le_of_ble_eq_true rfl⟩ rfl hl.1 rfl (Nat.le_of_ble_eq_true rfl) rfl dX8_ofCylinder_4 (fun H locs w => bq_z ⟨rfl, rfl⟩ ?_)
  clear hC
  obtain ⟨v2, hT15, hm⟩ := bq_let_el hm
  have K15 : ∀ (H : Heap) (locs : List Loc) (ls : Array Slot), bq_w D A s.heap (wdX8_ofCylinder cI a_t a_t_rig u_t_trial u_t_strokes u_t_outs u_t_backs u_t_pauses u_t_cuts u_t_text u_t_readOuts u_t_readBacks u_t_readPauses t t_rig) H locs → lv_has ls 3 [(0, .ref a_t), (1, .int x1), (2, .int x2)] → W p l e rmX8_ofCylinder s m av9 below meth c H locs 0 0 Q (F0 m 15 ls [.int v2, .ref a_t]) := by
    intro H locs ls w hl
    obtain ⟨t_3, e9, hm⟩ := bq_let_el hm
    refine pt_X8_47 E K w 0 rfl (Nat.le_of_ble_eq_true rfl) dX8_ofCylinder_15 (fun H locs w => ?_)
    replace w : bq_w D A s.heap (wdX8_ofCylinder cI a_t a_t_rig u_t_trial u_t_strokes u_t_outs u_t_backs u_t_pauses u_t_cuts u_t_text u_t_readOuts u_t_readBacks u_t_readPauses t_3 t_rig) H locs := by rw [e9]; exact w
    clear e9
    refine lv_aload_n hx hb dX8_ofCylinder_18 rfl (lv_at hl 0 rfl) ?_
    refine gt_X8_47 E K w 0 rfl rfl dX8_ofCylinder_19 ?_
    obtain ⟨v4, hT37, hm⟩ := bq_bd_el hm
    have K37 : ∀ (H : Heap) (locs : List Loc) (ls : Array Slot), bq_w D A s.heap (wdX8_ofCylinder cI a_t a_t_rig u_t_trial u_t_strokes u_t_outs u_t_backs u_t_pauses u_t_cuts u_t_text u_t_readOuts u_t_readBacks u_t_readPauses t_3 t_rig) H locs → lv_has ls 3 [] → W p l e rmX8_ofCylinder s m av9 below meth c H locs 0 0 Q (F0 m 37 ls [.int v4]) := by
      intro H locs ls w hl
      obtain ⟨rfl, rfl⟩ := bq_in2 (Option.some.inj hm)
      exact bq_iret E w hr hk dX8_ofCylinder_37 hQ
    clear hm
    refine lv_if_ne (tgt := 36) hx hb dX8_ofCylinder_22 (by decide) (fun hc => ?_) (fun hc => ?_)
    · replace hT37 := bq_f hc hT37
      clear hc
      refine lv_iconst (v := 0) hx hb dX8_ofCylinder_36 (by decide) ?_
      obtain rfl := Option.some.inj hT37
      exact K37 H locs ls w (lv_sub hl [] rfl)
    · replace hT37 := bq_t hc hT37
      clear hc
      refine lv_aload_n hx hb dX8_ofCylinder_25 rfl (lv_at hl 0 rfl) ?_
      refine gt_X8_7 E K w 0 rfl rfl dX8_ofCylinder_26 ?_
      refine lv_iload_n hx hb dX8_ofCylinder_29 rfl (lv_at hl 2 rfl) ?_
      refine lv_iload_n hx hb dX8_ofCylinder_30 rfl (lv_at hl 1 rfl) ?_
      refine lv_iadd hx hb dX8_ofCylinder_31 ?_
      obtain ⟨hI, hT37⟩ := bq_ci_el hT37
      refine bq_ald E K w 1 rfl hI dX8_ofCylinder_32 ?_
      refine lv_goto (tgt := 37) hx hb dX8_ofCylinder_33 (by decide) ?_
      obtain rfl := Option.some.inj hT37
      exact K37 H locs ls w (lv_sub hl [] rfl)
  clear hm
  refine lv_if_eq (tgt := 14) hx hb dX8_ofCylinder_7 (by decide) (fun hc => ?_) (fun hc => ?_)
  · replace hT15 := bq_et hc hT15
    clear hc
    refine lv_iconst (v := 1) hx hb dX8_ofCylinder_14 (by decide) ?_
    subst hT15
    exact K15 H locs ls w (lv_sub hl [0, 1, 2] rfl)
  · replace hT15 := bq_ef hc hT15
    clear hc
    refine lv_iconst (v := 0) hx hb dX8_ofCylinder_10 (by decide) ?_
    refine lv_goto (tgt := 15) hx hb dX8_ofCylinder_11 (by decide) ?_
    subst hT15
    exact K15 H locs ls w (lv_sub hl [0, 1, 2] rfl)
abbrev wdX8_position (cI : ClassId) (a_t a_t_rig u_t_trial u_t_strokes u_t_outs u_t_backs u_t_pauses u_t_cuts u_t_text u_t_readOuts u_t_readBacks u_t_readPauses : Nat) (t : Nat → Int32) (t_rig : Nat → Int32) : va_W := [(a_t, oX8 a_t_rig u_t_trial u_t_strokes u_t_outs u_t_backs u_t_pauses u_t_cuts u_t_text u_t_readOuts u_t_readBacks u_t_readPauses t), (a_t_rig, oA cI 140 t_rig)]
abbrev rmX8_position : Room := { frames := 2, cells := 0, slots := 0, locals := 44 }
theorem hd_X8_position : yX8_position.cls = RX8 ∧ yX8_position.cls ≠ "java/lang/invoke/MethodHandle" ∧ yX8_position.cls ≠ "java/lang/invoke/VarHandle" ∧ (parseMethodDescriptor yX8_position.desc).map (fun d => d.parameters.length) = some 1 := by decide +kernel
set_option maxHeartbeats 4000000 in
set_option maxRecDepth 100000 in
theorem kX8_position (l : Launch) (D : va_G) (cI cJ : ClassId) (a_t a_t_rig u_t_trial u_t_strokes u_t_outs u_t_backs u_t_pauses u_t_cuts u_t_text u_t_readOuts u_t_readBacks u_t_readPauses : Nat) (t t_rig : Nat → Int32) (x1 : Int32) (r : Int32) (t_o : Nat → Int32) (hm : mX8_position t t_rig x1 = some (r, t_o)) : bq_M l D cI cJ yX8_position cX8_position 2 (some .int) rmX8_position [.ref a_t, .int x1] (wdX8_position cI a_t a_t_rig u_t_trial u_t_strokes u_t_outs u_t_backs u_t_pauses u_t_cuts u_t_text u_t_readOuts u_t_readBacks u_t_readPauses t t_rig) (wdX8_position cI a_t a_t_rig u_t_trial u_t_strokes u_t_outs u_t_backs u_t_pauses u_t_cuts u_t_text u_t_readOuts u_t_readBacks u_t_readPauses t_o t_rig) (some (.int r)) := by
  refine bq_start (by decide) (Nat.le_of_ble_eq_true rfl) ?_
  intro p e s m av9 below meth c A ls Q H locs E K w hA hr hk hn hQ hl
  have E : bq_E p m c cX8_position 2 s av9 RX8 := E
  have hx := E.1
  have hb := E.2.1
  have hl : lv_has ls 2 [(0, .ref a_t), (1, .int x1)] := hl
  unfold mX8_position at hm
  refine lv_aload_n hx hb dX8_position_0 rfl (lv_at hl 0 rfl) ?_
  refine lv_iload_n hx hb dX8_position_1 rfl (lv_at hl 1 rfl) ?_
  refine lv_bipush (v := 20) hx hb dX8_position_2 (by decide) ?_
  obtain ⟨v1, t_2, hC, hm⟩ := bq_b2_el hm
  refine bq_V (As := [.int x1, .int 20]) (rest := []) (st1 := [.int v1]) (ws' := wdX8_position cI a_t a_t_rig u_t_trial u_t_strokes u_t_outs u_t_backs u_t_pauses u_t_cuts u_t_text u_t_readOuts u_t_readBacks u_t_readPauses t_2 t_rig) E K w hA (kX8_ofCylinder l D cI cJ a_t a_t_rig u_t_trial u_t_strokes u_t_outs u_t_backs u_t_pauses u_t_cuts u_t_text u_t_readOuts u_t_readBacks u_t_readPauses t t_rig x1 20 v1 t_2 hC) (bq_gV ml_X8_174 im_X8_ofCylinder sl_X8_ofCylinder in_X8 cd_X8_ofCylinder) hd_X8_ofCylinder ⟨Nat.le_of_ble_eq_true rfl, Nat.le_of_ble_eq_true rfl⟩ ⟨Nat.le_of_ble_eq_true rfl, Nat.le_of_ble_eq_true rfl⟩ ⟨[0, 1], [], [0, 1], rfl, rfl, rfl, rfl, rfl, rfl, rfl, rfl, rfl⟩ 0 rfl rfl rfl hl.1 rfl (Nat.le_of_ble_eq_true rfl) rfl dX8_position_4 (fun H locs w => bq_z ⟨rfl, rfl⟩ ?_)
  clear hC
  obtain ⟨rfl, rfl⟩ := bq_in2 (Option.some.inj hm)
  exact bq_iret E w hr hk dX8_position_7 hQ
abbrev wdX8_isOut (cI : ClassId) (a_t a_t_rig u_t_trial u_t_strokes u_t_outs u_t_backs u_t_pauses u_t_cuts u_t_text u_t_readOuts u_t_readBacks u_t_readPauses : Nat) (t : Nat → Int32) (t_rig : Nat → Int32) : va_W := [(a_t, oX8 a_t_rig u_t_trial u_t_strokes u_t_outs u_t_backs u_t_pauses u_t_cuts u_t_text u_t_readOuts u_t_readBacks u_t_readPauses t), (a_t_rig, oA cI 140 t_rig)]
abbrev rmX8_isOut : Room := { frames := 2, cells := 0, slots := 0, locals := 44 }
theorem hd_X8_isOut : yX8_isOut.cls = RX8 ∧ yX8_isOut.cls ≠ "java/lang/invoke/MethodHandle" ∧ yX8_isOut.cls ≠ "java/lang/invoke/VarHandle" ∧ (parseMethodDescriptor yX8_isOut.desc).map (fun d => d.parameters.length) = some 1 := by decide +kernel
set_option maxHeartbeats 4000000 in
set_option maxRecDepth 100000 in
theorem kX8_isOut (l : Launch) (D : va_G) (cI cJ : ClassId) (a_t a_t_rig u_t_trial u_t_strokes u_t_outs u_t_backs u_t_pauses u_t_cuts u_t_text u_t_readOuts u_t_readBacks u_t_readPauses : Nat) (t t_rig : Nat → Int32) (x1 : Int32) (r : Int32) (t_o : Nat → Int32) (hm : mX8_isOut t t_rig x1 = some (r, t_o)) : bq_M l D cI cJ yX8_isOut cX8_isOut 2 (some .boolean) rmX8_isOut [.ref a_t, .int x1] (wdX8_isOut cI a_t a_t_rig u_t_trial u_t_strokes u_t_outs u_t_backs u_t_pauses u_t_cuts u_t_text u_t_readOuts u_t_readBacks u_t_readPauses t t_rig) (wdX8_isOut cI a_t a_t_rig u_t_trial u_t_strokes u_t_outs u_t_backs u_t_pauses u_t_cuts u_t_text u_t_readOuts u_t_readBacks u_t_readPauses t_o t_rig) (some (.int r)) := by
  refine bq_start (by decide) (Nat.le_of_ble_eq_true rfl) ?_
  intro p e s m av9 below meth c A ls Q H locs E K w hA hr hk hn hQ hl
  have E : bq_E p m c cX8_isOut 2 s av9 RX8 := E
  have hx := E.1
  have hb := E.2.1
  have hl : lv_has ls 2 [(0, .ref a_t), (1, .int x1)] := hl
  unfold mX8_isOut at hm
  refine lv_aload_n hx hb dX8_isOut_0 rfl (lv_at hl 0 rfl) ?_
  refine lv_iload_n hx hb dX8_isOut_1 rfl (lv_at hl 1 rfl) ?_
  refine lv_bipush (v := 26) hx hb dX8_isOut_2 (by decide) ?_
  obtain ⟨v1, t_2, hC, hm⟩ := bq_b2_el hm
  refine bq_V (As := [.int x1, .int 26]) (rest := []) (st1 := [.int v1]) (ws' := wdX8_isOut cI a_t a_t_rig u_t_trial u_t_strokes u_t_outs u_t_backs u_t_pauses u_t_cuts u_t_text u_t_readOuts u_t_readBacks u_t_readPauses t_2 t_rig) E K w hA (kX8_ofCylinder l D cI cJ a_t a_t_rig u_t_trial u_t_strokes u_t_outs u_t_backs u_t_pauses u_t_cuts u_t_text u_t_readOuts u_t_readBacks u_t_readPauses t t_rig x1 26 v1 t_2 hC) (bq_gV ml_X8_174 im_X8_ofCylinder sl_X8_ofCylinder in_X8 cd_X8_ofCylinder) hd_X8_ofCylinder ⟨Nat.le_of_ble_eq_true rfl, Nat.le_of_ble_eq_true rfl⟩ ⟨Nat.le_of_ble_eq_true rfl, Nat.le_of_ble_eq_true rfl⟩ ⟨[0, 1], [], [0, 1], rfl, rfl, rfl, rfl, rfl, rfl, rfl, rfl, rfl⟩ 0 rfl rfl rfl hl.1 rfl (Nat.le_of_ble_eq_true rfl) rfl dX8_isOut_4 (fun H locs w => bq_z ⟨rfl, rfl⟩ ?_)
  clear hC
  refine lv_iconst (v := 1) hx hb dX8_isOut_7 (by decide) ?_
  obtain ⟨v3, hT16, hm⟩ := bq_let_el hm
  have K16 : ∀ (H : Heap) (locs : List Loc) (ls : Array Slot), bq_w D A s.heap (wdX8_isOut cI a_t a_t_rig u_t_trial u_t_strokes u_t_outs u_t_backs u_t_pauses u_t_cuts u_t_text u_t_readOuts u_t_readBacks u_t_readPauses t_2 t_rig) H locs → lv_has ls 2 [] → W p l e rmX8_isOut s m av9 below meth c H locs 0 0 Q (F0 m 16 ls [.int v3]) := by
    intro H locs ls w hl
    obtain ⟨hB, hm⟩ := bq_cb_el hm
    obtain ⟨rfl, rfl⟩ := bq_in2 (Option.some.inj hm)
    exact bq_zret E w hr hk hB dX8_isOut_16 hQ
  clear hm
  refine lv_icmp_ne (tgt := 15) hx hb dX8_isOut_8 (by decide) (fun hc => ?_) (fun hc => ?_)
  · replace hT16 := bq_ef hc hT16
    clear hc
    refine lv_iconst (v := 0) hx hb dX8_isOut_15 (by decide) ?_
    subst hT16
    exact K16 H locs ls w (lv_sub hl [] rfl)
  · replace hT16 := bq_et hc hT16
    clear hc
    refine lv_iconst (v := 1) hx hb dX8_isOut_11 (by decide) ?_
    refine lv_goto (tgt := 16) hx hb dX8_isOut_12 (by decide) ?_
    subst hT16
    exact K16 H locs ls w (lv_sub hl [] rfl)
abbrev wdX8_sensor (cI : ClassId) (a_t a_t_rig a_t_strokes u_t_trial u_t_outs u_t_backs u_t_pauses u_t_cuts u_t_text u_t_readOuts u_t_readBacks u_t_readPauses : Nat) (t : Nat → Int32) (t_rig : Nat → Int32) (t_strokes : Nat → Int32) : va_W := [(a_t, oX8 a_t_rig u_t_trial a_t_strokes u_t_outs u_t_backs u_t_pauses u_t_cuts u_t_text u_t_readOuts u_t_readBacks u_t_readPauses t), (a_t_rig, oA cI 140 t_rig), (a_t_strokes, oA cI 6 t_strokes)]
abbrev rmX8_sensor : Room := { frames := 1, cells := 0, slots := 0, locals := 25 }
theorem hd_X8_sensor : yX8_sensor.cls = RX8 ∧ yX8_sensor.cls ≠ "java/lang/invoke/MethodHandle" ∧ yX8_sensor.cls ≠ "java/lang/invoke/VarHandle" ∧ (parseMethodDescriptor yX8_sensor.desc).map (fun d => d.parameters.length) = some 2 := by decide +kernel
set_option maxHeartbeats 4000000 in
set_option maxRecDepth 100000 in
theorem kX8_sensor (l : Launch) (D : va_G) (cI cJ : ClassId) (a_t a_t_rig a_t_strokes u_t_trial u_t_outs u_t_backs u_t_pauses u_t_cuts u_t_text u_t_readOuts u_t_readBacks u_t_readPauses : Nat) (t t_rig t_strokes : Nat → Int32) (x1 : Int32) (x2 : Int32) (r : Int32) (t_o : Nat → Int32) (hm : mX8_sensor t t_rig t_strokes x1 x2 = some (r, t_o)) : bq_M l D cI cJ yX8_sensor cX8_sensor 3 (some .boolean) rmX8_sensor [.ref a_t, .int x1, .int x2] (wdX8_sensor cI a_t a_t_rig a_t_strokes u_t_trial u_t_outs u_t_backs u_t_pauses u_t_cuts u_t_text u_t_readOuts u_t_readBacks u_t_readPauses t t_rig t_strokes) (wdX8_sensor cI a_t a_t_rig a_t_strokes u_t_trial u_t_outs u_t_backs u_t_pauses u_t_cuts u_t_text u_t_readOuts u_t_readBacks u_t_readPauses t_o t_rig t_strokes) (some (.int r)) := by
  refine bq_start (by decide) (Nat.le_of_ble_eq_true rfl) ?_
  intro p e s m av9 below meth c A ls Q H locs E K w hA hr hk hn hQ hl
  have E : bq_E p m c cX8_sensor 3 s av9 RX8 := E
  have hx := E.1
  have hb := E.2.1
  have hl : lv_has ls 3 [(0, .ref a_t), (1, .int x1), (2, .int x2)] := hl
  unfold mX8_sensor at hm
  refine lv_aload_n hx hb dX8_sensor_0 rfl (lv_at hl 0 rfl) ?_
  refine lv_iload_n hx hb dX8_sensor_1 rfl (lv_at hl 1 rfl) ?_
  refine lv_iconst (v := 0) hx hb dX8_sensor_2 (by decide) ?_
  refine lv_iconst (v := 5) hx hb dX8_sensor_3 (by decide) ?_
  obtain ⟨v1, hC, hm⟩ := bq_bd_el hm
  refine bq_S0 (As := [.int x1, .int 0, .int 5]) (rest := [.ref a_t]) (st1 := [.int v1, .ref a_t]) E K w hA (kX8_in l D cI cJ x1 0 5 v1 hC) cd_X8_in ml_X8_51 in_X8 st_X8_in hs_X8_in ⟨Nat.le_of_ble_eq_true rfl, Nat.le_of_ble_eq_true rfl⟩ ⟨Nat.le_of_ble_eq_true rfl, Nat.le_of_ble_eq_true rfl⟩ rfl hl.1 rfl (Nat.le_of_ble_eq_true rfl) rfl dX8_sensor_4 (fun H locs w => bq_z ⟨rfl, rfl⟩ ?_)
  clear hC
  obtain ⟨v2, hT24, hm⟩ := bq_bd_el hm
  have K24 : ∀ (H : Heap) (locs : List Loc) (ls : Array Slot), bq_w D A s.heap (wdX8_sensor cI a_t a_t_rig a_t_strokes u_t_trial u_t_outs u_t_backs u_t_pauses u_t_cuts u_t_text u_t_readOuts u_t_readBacks u_t_readPauses t t_rig t_strokes) H locs → lv_has ls 3 [(0, .ref a_t), (1, .int x1), (2, .int x2)] → W p l e rmX8_sensor s m av9 below meth c H locs 0 0 Q (F0 m 24 ls [.int v2, .ref a_t]) := by
    intro H locs ls w hl
    obtain ⟨t_4, e9, hm⟩ := bq_let_el hm
    refine pt_X8_47 E K w 0 rfl (Nat.le_of_ble_eq_true rfl) dX8_sensor_24 (fun H locs w => ?_)
    replace w : bq_w D A s.heap (wdX8_sensor cI a_t a_t_rig a_t_strokes u_t_trial u_t_outs u_t_backs u_t_pauses u_t_cuts u_t_text u_t_readOuts u_t_readBacks u_t_readPauses t_4 t_rig t_strokes) H locs := by rw [e9]; exact w
    clear e9
    refine lv_aload_n hx hb dX8_sensor_27 rfl (lv_at hl 0 rfl) ?_
    refine gt_X8_47 E K w 0 rfl rfl dX8_sensor_28 ?_
    obtain ⟨v5, hT52, hm⟩ := bq_bd_el hm
    have K52 : ∀ (H : Heap) (locs : List Loc) (ls : Array Slot), bq_w D A s.heap (wdX8_sensor cI a_t a_t_rig a_t_strokes u_t_trial u_t_outs u_t_backs u_t_pauses u_t_cuts u_t_text u_t_readOuts u_t_readBacks u_t_readPauses t_4 t_rig t_strokes) H locs → lv_has ls 3 [] → W p l e rmX8_sensor s m av9 below meth c H locs 0 0 Q (F0 m 52 ls [.int v5]) := by
      intro H locs ls w hl
      obtain ⟨hB, hm⟩ := bq_cb_el hm
      obtain ⟨rfl, rfl⟩ := bq_in2 (Option.some.inj hm)
      exact bq_zret E w hr hk hB dX8_sensor_52 hQ
    clear hm
    refine lv_if_ne (tgt := 51) hx hb dX8_sensor_31 (by decide) (fun hc => ?_) (fun hc => ?_)
    · replace hT52 := bq_f hc hT52
      clear hc
      refine lv_iconst (v := 0) hx hb dX8_sensor_51 (by decide) ?_
      obtain rfl := Option.some.inj hT52
      exact K52 H locs ls w (lv_sub hl [] rfl)
    · replace hT52 := bq_t hc hT52
      clear hc
      refine lv_aload_n hx hb dX8_sensor_34 rfl (lv_at hl 0 rfl) ?_
      refine lv_aload_n hx hb dX8_sensor_35 rfl (lv_at hl 0 rfl) ?_
      refine gt_X8_7 E K w 0 rfl rfl dX8_sensor_36 ?_
      refine lv_iload_n hx hb dX8_sensor_39 rfl (lv_at hl 1 rfl) ?_
      refine lv_iload_n hx hb dX8_sensor_40 rfl (lv_at hl 2 rfl) ?_
      obtain ⟨v6, hC, hT52⟩ := bq_bd_el hT52
      refine bq_V (As := [.ref a_t_rig, .int x1, .int x2]) (rest := []) (st1 := [.int v6]) (ws' := wdX8_sensor cI a_t a_t_rig a_t_strokes u_t_trial u_t_outs u_t_backs u_t_pauses u_t_cuts u_t_text u_t_readOuts u_t_readBacks u_t_readPauses t_4 t_rig t_strokes) E K w hA (kX8_senses l D cI cJ a_t a_t_strokes a_t_rig a_t_rig u_t_trial u_t_outs u_t_backs u_t_pauses u_t_cuts u_t_text u_t_readOuts u_t_readBacks u_t_readPauses t_4 t_strokes t_rig x1 x2 v6 hC) (bq_gV ml_X8_155 im_X8_senses sl_X8_senses in_X8 cd_X8_senses) hd_X8_senses ⟨Nat.le_of_ble_eq_true rfl, Nat.le_of_ble_eq_true rfl⟩ ⟨Nat.le_of_ble_eq_true rfl, Nat.le_of_ble_eq_true rfl⟩ ⟨[0, 2, 1], [], [0, 2, 1], rfl, rfl, rfl, rfl, rfl, rfl, rfl, rfl, rfl⟩ 0 rfl rfl rfl hl.1 rfl (Nat.le_of_ble_eq_true rfl) rfl dX8_sensor_41 (fun H locs w => bq_z ⟨rfl, rfl⟩ ?_)
      clear hC
      refine lv_if_eq (tgt := 51) hx hb dX8_sensor_44 (by decide) (fun hc => ?_) (fun hc => ?_)
      · replace hT52 := bq_t hc hT52
        clear hc
        refine lv_iconst (v := 0) hx hb dX8_sensor_51 (by decide) ?_
        obtain rfl := Option.some.inj hT52
        exact K52 H locs ls w (lv_sub hl [] rfl)
      · replace hT52 := bq_f hc hT52
        clear hc
        refine lv_iconst (v := 1) hx hb dX8_sensor_47 (by decide) ?_
        refine lv_goto (tgt := 52) hx hb dX8_sensor_48 (by decide) ?_
        obtain rfl := Option.some.inj hT52
        exact K52 H locs ls w (lv_sub hl [] rfl)
  clear hm
  refine lv_if_eq (tgt := 23) hx hb dX8_sensor_7 (by decide) (fun hc => ?_) (fun hc => ?_)
  · replace hT24 := bq_t hc hT24
    clear hc
    refine lv_iconst (v := 1) hx hb dX8_sensor_23 (by decide) ?_
    obtain rfl := Option.some.inj hT24
    exact K24 H locs ls w (lv_sub hl [0, 1, 2] rfl)
  · replace hT24 := bq_f hc hT24
    clear hc
    refine lv_iload_n hx hb dX8_sensor_10 rfl (lv_at hl 2 rfl) ?_
    refine lv_iconst (v := 0) hx hb dX8_sensor_11 (by decide) ?_
    refine lv_iconst (v := 1) hx hb dX8_sensor_12 (by decide) ?_
    obtain ⟨v3, hC, hT24⟩ := bq_bd_el hT24
    refine bq_S0 (As := [.int x2, .int 0, .int 1]) (rest := [.ref a_t]) (st1 := [.int v3, .ref a_t]) E K w hA (kX8_in l D cI cJ x2 0 1 v3 hC) cd_X8_in ml_X8_51 in_X8 st_X8_in hs_X8_in ⟨Nat.le_of_ble_eq_true rfl, Nat.le_of_ble_eq_true rfl⟩ ⟨Nat.le_of_ble_eq_true rfl, Nat.le_of_ble_eq_true rfl⟩ rfl hl.1 rfl (Nat.le_of_ble_eq_true rfl) rfl dX8_sensor_13 (fun H locs w => bq_z ⟨rfl, rfl⟩ ?_)
    clear hC
    refine lv_if_eq (tgt := 23) hx hb dX8_sensor_16 (by decide) (fun hc => ?_) (fun hc => ?_)
    · replace hT24 := bq_t hc hT24
      clear hc
      refine lv_iconst (v := 1) hx hb dX8_sensor_23 (by decide) ?_
      obtain rfl := Option.some.inj hT24
      exact K24 H locs ls w (lv_sub hl [0, 1, 2] rfl)
    · replace hT24 := bq_f hc hT24
      clear hc
      refine lv_iconst (v := 0) hx hb dX8_sensor_19 (by decide) ?_
      refine lv_goto (tgt := 24) hx hb dX8_sensor_20 (by decide) ?_
      obtain rfl := Option.some.inj hT24
      exact K24 H locs ls w (lv_sub hl [0, 1, 2] rfl)
abbrev wdX8_timer (cI : ClassId) (a_t a_t_rig u_t_trial u_t_strokes u_t_outs u_t_backs u_t_pauses u_t_cuts u_t_text u_t_readOuts u_t_readBacks u_t_readPauses : Nat) (t : Nat → Int32) (t_rig : Nat → Int32) : va_W := [(a_t, oX8 a_t_rig u_t_trial u_t_strokes u_t_outs u_t_backs u_t_pauses u_t_cuts u_t_text u_t_readOuts u_t_readBacks u_t_readPauses t), (a_t_rig, oA cI 140 t_rig)]
abbrev rmX8_timer : Room := { frames := 2, cells := 0, slots := 0, locals := 43 }
theorem hd_X8_timer : yX8_timer.cls = RX8 ∧ yX8_timer.cls ≠ "java/lang/invoke/MethodHandle" ∧ yX8_timer.cls ≠ "java/lang/invoke/VarHandle" ∧ (parseMethodDescriptor yX8_timer.desc).map (fun d => d.parameters.length) = some 1 := by decide +kernel
set_option maxHeartbeats 4000000 in
set_option maxRecDepth 100000 in
theorem kX8_timer (l : Launch) (D : va_G) (cI cJ : ClassId) (a_t a_t_rig u_t_trial u_t_strokes u_t_outs u_t_backs u_t_pauses u_t_cuts u_t_text u_t_readOuts u_t_readBacks u_t_readPauses : Nat) (t t_rig : Nat → Int32) (x1 : Int32) (r : Int32) (t_o : Nat → Int32) (hm : mX8_timer t t_rig x1 = some (r, t_o)) : bq_M l D cI cJ yX8_timer cX8_timer 2 (some .int) rmX8_timer [.ref a_t, .int x1] (wdX8_timer cI a_t a_t_rig u_t_trial u_t_strokes u_t_outs u_t_backs u_t_pauses u_t_cuts u_t_text u_t_readOuts u_t_readBacks u_t_readPauses t t_rig) (wdX8_timer cI a_t a_t_rig u_t_trial u_t_strokes u_t_outs u_t_backs u_t_pauses u_t_cuts u_t_text u_t_readOuts u_t_readBacks u_t_readPauses t_o t_rig) (some (.int r)) := by
  refine bq_start (by decide) (Nat.le_of_ble_eq_true rfl) ?_
  intro p e s m av9 below meth c A ls Q H locs E K w hA hr hk hn hQ hl
  have E : bq_E p m c cX8_timer 2 s av9 RX8 := E
  have hx := E.1
  have hb := E.2.1
  have hl : lv_has ls 2 [(0, .ref a_t), (1, .int x1)] := hl
  unfold mX8_timer at hm
  refine lv_aload_n hx hb dX8_timer_0 rfl (lv_at hl 0 rfl) ?_
  refine lv_iconst (v := 0) hx hb dX8_timer_1 (by decide) ?_
  obtain ⟨t_1, e9, hm⟩ := bq_let_el hm
  refine pt_X8_47 E K w 0 rfl (Nat.le_of_ble_eq_true rfl) dX8_timer_2 (fun H locs w => ?_)
  replace w : bq_w D A s.heap (wdX8_timer cI a_t a_t_rig u_t_trial u_t_strokes u_t_outs u_t_backs u_t_pauses u_t_cuts u_t_text u_t_readOuts u_t_readBacks u_t_readPauses t_1 t_rig) H locs := by rw [e9]; exact w
  clear e9
  refine lv_aload_n hx hb dX8_timer_5 rfl (lv_at hl 0 rfl) ?_
  refine lv_iload_n hx hb dX8_timer_6 rfl (lv_at hl 1 rfl) ?_
  obtain ⟨v2, hC, hm⟩ := bq_bd_el hm
  refine bq_V (As := [.int x1]) (rest := []) (st1 := [.int v2]) (ws' := wdX8_timer cI a_t a_t_rig u_t_trial u_t_strokes u_t_outs u_t_backs u_t_pauses u_t_cuts u_t_text u_t_readOuts u_t_readBacks u_t_readPauses t_1 t_rig) E K w hA (kX8_isStep l D cI cJ a_t a_t_rig u_t_trial u_t_strokes u_t_outs u_t_backs u_t_pauses u_t_cuts u_t_text u_t_readOuts u_t_readBacks u_t_readPauses t_1 x1 v2 hC) (bq_gV ml_X8_110 im_X8_isStep sl_X8_isStep in_X8 cd_X8_isStep) hd_X8_isStep ⟨Nat.le_of_ble_eq_true rfl, Nat.le_of_ble_eq_true rfl⟩ ⟨Nat.le_of_ble_eq_true rfl, Nat.le_of_ble_eq_true rfl⟩ ⟨[0], [1], [1, 0], rfl, rfl, rfl, rfl, rfl, rfl, rfl, rfl, rfl⟩ 0 rfl rfl rfl hl.1 rfl (Nat.le_of_ble_eq_true rfl) rfl dX8_timer_7 (fun H locs w => bq_z ⟨rfl, rfl⟩ ?_)
  clear hC
  obtain ⟨v3, t_4, hT30, hm⟩ := bq_b2_el hm
  have K30 : ∀ (H : Heap) (locs : List Loc) (ls : Array Slot), bq_w D A s.heap (wdX8_timer cI a_t a_t_rig u_t_trial u_t_strokes u_t_outs u_t_backs u_t_pauses u_t_cuts u_t_text u_t_readOuts u_t_readBacks u_t_readPauses t_4 t_rig) H locs → lv_has ls 2 [] → W p l e rmX8_timer s m av9 below meth c H locs 0 0 Q (F0 m 30 ls [.int v3]) := by
    intro H locs ls w hl
    obtain ⟨rfl, rfl⟩ := bq_in2 (Option.some.inj hm)
    exact bq_iret E w hr hk dX8_timer_30 hQ
  clear hm
  refine lv_if_eq (tgt := 25) hx hb dX8_timer_10 (by decide) (fun hc => ?_) (fun hc => ?_)
  · replace hT30 := bq_t hc hT30
    clear hc
    refine lv_aload_n hx hb dX8_timer_25 rfl (lv_at hl 0 rfl) ?_
    refine lv_iconst (v := 1) hx hb dX8_timer_26 (by decide) ?_
    obtain ⟨v5, t_6, hC, hT30⟩ := bq_b2_el hT30
    refine bq_V (As := [.int 1]) (rest := []) (st1 := [.int v5]) (ws' := wdX8_timer cI a_t a_t_rig u_t_trial u_t_strokes u_t_outs u_t_backs u_t_pauses u_t_cuts u_t_text u_t_readOuts u_t_readBacks u_t_readPauses t_6 t_rig) E K w hA (kX8_fails l D cI cJ a_t a_t_rig u_t_trial u_t_strokes u_t_outs u_t_backs u_t_pauses u_t_cuts u_t_text u_t_readOuts u_t_readBacks u_t_readPauses t_1 1 v5 t_6 hC) (bq_gV ml_X8_55 im_X8_fails sl_X8_fails in_X8 cd_X8_fails) hd_X8_fails ⟨Nat.le_of_ble_eq_true rfl, Nat.le_of_ble_eq_true rfl⟩ ⟨Nat.le_of_ble_eq_true rfl, Nat.le_of_ble_eq_true rfl⟩ ⟨[0], [1], [1, 0], rfl, rfl, rfl, rfl, rfl, rfl, rfl, rfl, rfl⟩ 0 rfl rfl rfl hl.1 rfl (Nat.le_of_ble_eq_true rfl) rfl dX8_timer_27 (fun H locs w => bq_z ⟨rfl, rfl⟩ ?_)
    clear hC
    obtain ⟨rfl, rfl⟩ := bq_in2 (Option.some.inj hT30)
    exact K30 H locs ls w (lv_sub hl [] rfl)
  · replace hT30 := bq_f hc hT30
    clear hc
    refine lv_aload_n hx hb dX8_timer_13 rfl (lv_at hl 0 rfl) ?_
    refine gt_X8_7 E K w 0 rfl rfl dX8_timer_14 ?_
    refine lv_bipush (v := 44) hx hb dX8_timer_17 (by decide) ?_
    refine lv_iload_n hx hb dX8_timer_19 rfl (lv_at hl 1 rfl) ?_
    refine lv_iadd hx hb dX8_timer_20 ?_
    obtain ⟨hI, hT30⟩ := bq_ci_el hT30
    refine bq_ald E K w 1 rfl hI dX8_timer_21 ?_
    refine lv_goto (tgt := 30) hx hb dX8_timer_22 (by decide) ?_
    obtain ⟨rfl, rfl⟩ := bq_in2 (Option.some.inj hT30)
    exact K30 H locs ls w (lv_sub hl [] rfl)
abbrev wdX8_active (cI : ClassId) (a_t a_t_rig u_t_trial u_t_strokes u_t_outs u_t_backs u_t_pauses u_t_cuts u_t_text u_t_readOuts u_t_readBacks u_t_readPauses : Nat) (t : Nat → Int32) (t_rig : Nat → Int32) : va_W := [(a_t, oX8 a_t_rig u_t_trial u_t_strokes u_t_outs u_t_backs u_t_pauses u_t_cuts u_t_text u_t_readOuts u_t_readBacks u_t_readPauses t), (a_t_rig, oA cI 140 t_rig)]
abbrev rmX8_active : Room := { frames := 0, cells := 0, slots := 0, locals := 0 }
theorem hd_X8_active : yX8_active.cls = RX8 ∧ yX8_active.cls ≠ "java/lang/invoke/MethodHandle" ∧ yX8_active.cls ≠ "java/lang/invoke/VarHandle" ∧ (parseMethodDescriptor yX8_active.desc).map (fun d => d.parameters.length) = some 0 := by decide +kernel
set_option maxHeartbeats 4000000 in
set_option maxRecDepth 100000 in
theorem kX8_active (l : Launch) (D : va_G) (cI cJ : ClassId) (a_t a_t_rig u_t_trial u_t_strokes u_t_outs u_t_backs u_t_pauses u_t_cuts u_t_text u_t_readOuts u_t_readBacks u_t_readPauses : Nat) (t t_rig : Nat → Int32) (r : Int32) (t_o : Nat → Int32) (hm : mX8_active t t_rig = some (r, t_o)) : bq_M l D cI cJ yX8_active cX8_active 1 (some .int) rmX8_active [.ref a_t] (wdX8_active cI a_t a_t_rig u_t_trial u_t_strokes u_t_outs u_t_backs u_t_pauses u_t_cuts u_t_text u_t_readOuts u_t_readBacks u_t_readPauses t t_rig) (wdX8_active cI a_t a_t_rig u_t_trial u_t_strokes u_t_outs u_t_backs u_t_pauses u_t_cuts u_t_text u_t_readOuts u_t_readBacks u_t_readPauses t_o t_rig) (some (.int r)) := by
  refine bq_start (by decide) (Nat.le_of_ble_eq_true rfl) ?_
  intro p e s m av9 below meth c A ls Q H locs E K w hA hr hk hn hQ hl
  have E : bq_E p m c cX8_active 1 s av9 RX8 := E
  have hx := E.1
  have hb := E.2.1
  have hl : lv_has ls 1 [(0, .ref a_t)] := hl
  unfold mX8_active at hm
  refine lv_aload_n hx hb dX8_active_0 rfl (lv_at hl 0 rfl) ?_
  refine lv_iconst (v := 0) hx hb dX8_active_1 (by decide) ?_
  obtain ⟨t_1, e9, hm⟩ := bq_let_el hm
  refine pt_X8_47 E K w 0 rfl (Nat.le_of_ble_eq_true rfl) dX8_active_2 (fun H locs w => ?_)
  replace w : bq_w D A s.heap (wdX8_active cI a_t a_t_rig u_t_trial u_t_strokes u_t_outs u_t_backs u_t_pauses u_t_cuts u_t_text u_t_readOuts u_t_readBacks u_t_readPauses t_1 t_rig) H locs := by rw [e9]; exact w
  clear e9
  refine lv_aload_n hx hb dX8_active_5 rfl (lv_at hl 0 rfl) ?_
  refine gt_X8_7 E K w 0 rfl rfl dX8_active_6 ?_
  refine lv_iconst (v := 3) hx hb dX8_active_9 (by decide) ?_
  refine bq_aldk E K w 1 rfl 3 (by decide) (by unfold vp_in; decide) dX8_active_10 ?_
  obtain ⟨rfl, rfl⟩ := bq_in2 (Option.some.inj hm)
  exact bq_iret E w hr hk dX8_active_11 hQ
abbrev wdX8_commands (cI : ClassId) (a_t a_t_rig u_t_trial u_t_strokes u_t_outs u_t_backs u_t_pauses u_t_cuts u_t_text u_t_readOuts u_t_readBacks u_t_readPauses : Nat) (t : Nat → Int32) (t_rig : Nat → Int32) : va_W := [(a_t, oX8 a_t_rig u_t_trial u_t_strokes u_t_outs u_t_backs u_t_pauses u_t_cuts u_t_text u_t_readOuts u_t_readBacks u_t_readPauses t), (a_t_rig, oA cI 140 t_rig)]
abbrev rmX8_commands : Room := { frames := 2, cells := 0, slots := 0, locals := 44 }
theorem hd_X8_commands : yX8_commands.cls = RX8 ∧ yX8_commands.cls ≠ "java/lang/invoke/MethodHandle" ∧ yX8_commands.cls ≠ "java/lang/invoke/VarHandle" ∧ (parseMethodDescriptor yX8_commands.desc).map (fun d => d.parameters.length) = some 1 := by decide +kernel
set_option maxHeartbeats 4000000 in
set_option maxRecDepth 100000 in
theorem kX8_commands (l : Launch) (D : va_G) (cI cJ : ClassId) (a_t a_t_rig u_t_trial u_t_strokes u_t_outs u_t_backs u_t_pauses u_t_cuts u_t_text u_t_readOuts u_t_readBacks u_t_readPauses : Nat) (t t_rig : Nat → Int32) (x1 : Int32) (r : Int32) (t_o : Nat → Int32) (hm : mX8_commands t t_rig x1 = some (r, t_o)) : bq_M l D cI cJ yX8_commands cX8_commands 2 (some .int) rmX8_commands [.ref a_t, .int x1] (wdX8_commands cI a_t a_t_rig u_t_trial u_t_strokes u_t_outs u_t_backs u_t_pauses u_t_cuts u_t_text u_t_readOuts u_t_readBacks u_t_readPauses t t_rig) (wdX8_commands cI a_t a_t_rig u_t_trial u_t_strokes u_t_outs u_t_backs u_t_pauses u_t_cuts u_t_text u_t_readOuts u_t_readBacks u_t_readPauses t_o t_rig) (some (.int r)) := by
  refine bq_start (by decide) (Nat.le_of_ble_eq_true rfl) ?_
  intro p e s m av9 below meth c A ls Q H locs E K w hA hr hk hn hQ hl
  have E : bq_E p m c cX8_commands 2 s av9 RX8 := E
  have hx := E.1
  have hb := E.2.1
  have hl : lv_has ls 2 [(0, .ref a_t), (1, .int x1)] := hl
  unfold mX8_commands at hm
  refine lv_aload_n hx hb dX8_commands_0 rfl (lv_at hl 0 rfl) ?_
  refine lv_iload_n hx hb dX8_commands_1 rfl (lv_at hl 1 rfl) ?_
  refine lv_bipush (v := 32) hx hb dX8_commands_2 (by decide) ?_
  obtain ⟨v1, t_2, hC, hm⟩ := bq_b2_el hm
  refine bq_V (As := [.int x1, .int 32]) (rest := []) (st1 := [.int v1]) (ws' := wdX8_commands cI a_t a_t_rig u_t_trial u_t_strokes u_t_outs u_t_backs u_t_pauses u_t_cuts u_t_text u_t_readOuts u_t_readBacks u_t_readPauses t_2 t_rig) E K w hA (kX8_ofCylinder l D cI cJ a_t a_t_rig u_t_trial u_t_strokes u_t_outs u_t_backs u_t_pauses u_t_cuts u_t_text u_t_readOuts u_t_readBacks u_t_readPauses t t_rig x1 32 v1 t_2 hC) (bq_gV ml_X8_174 im_X8_ofCylinder sl_X8_ofCylinder in_X8 cd_X8_ofCylinder) hd_X8_ofCylinder ⟨Nat.le_of_ble_eq_true rfl, Nat.le_of_ble_eq_true rfl⟩ ⟨Nat.le_of_ble_eq_true rfl, Nat.le_of_ble_eq_true rfl⟩ ⟨[0, 1], [], [0, 1], rfl, rfl, rfl, rfl, rfl, rfl, rfl, rfl, rfl⟩ 0 rfl rfl rfl hl.1 rfl (Nat.le_of_ble_eq_true rfl) rfl dX8_commands_4 (fun H locs w => bq_z ⟨rfl, rfl⟩ ?_)
  clear hC
  obtain ⟨rfl, rfl⟩ := bq_in2 (Option.some.inj hm)
  exact bq_iret E w hr hk dX8_commands_7 hQ
abbrev wdX8_events (cI : ClassId) (a_t a_t_rig u_t_trial u_t_strokes u_t_outs u_t_backs u_t_pauses u_t_cuts u_t_text u_t_readOuts u_t_readBacks u_t_readPauses : Nat) (t : Nat → Int32) (t_rig : Nat → Int32) : va_W := [(a_t, oX8 a_t_rig u_t_trial u_t_strokes u_t_outs u_t_backs u_t_pauses u_t_cuts u_t_text u_t_readOuts u_t_readBacks u_t_readPauses t), (a_t_rig, oA cI 140 t_rig)]
abbrev rmX8_events : Room := { frames := 0, cells := 0, slots := 0, locals := 0 }
theorem hd_X8_events : yX8_events.cls = RX8 ∧ yX8_events.cls ≠ "java/lang/invoke/MethodHandle" ∧ yX8_events.cls ≠ "java/lang/invoke/VarHandle" ∧ (parseMethodDescriptor yX8_events.desc).map (fun d => d.parameters.length) = some 0 := by decide +kernel
set_option maxHeartbeats 4000000 in
set_option maxRecDepth 100000 in
theorem kX8_events (l : Launch) (D : va_G) (cI cJ : ClassId) (a_t a_t_rig u_t_trial u_t_strokes u_t_outs u_t_backs u_t_pauses u_t_cuts u_t_text u_t_readOuts u_t_readBacks u_t_readPauses : Nat) (t t_rig : Nat → Int32) (r : Int32) (t_o : Nat → Int32) (hm : mX8_events t t_rig = some (r, t_o)) : bq_M l D cI cJ yX8_events cX8_events 1 (some .int) rmX8_events [.ref a_t] (wdX8_events cI a_t a_t_rig u_t_trial u_t_strokes u_t_outs u_t_backs u_t_pauses u_t_cuts u_t_text u_t_readOuts u_t_readBacks u_t_readPauses t t_rig) (wdX8_events cI a_t a_t_rig u_t_trial u_t_strokes u_t_outs u_t_backs u_t_pauses u_t_cuts u_t_text u_t_readOuts u_t_readBacks u_t_readPauses t_o t_rig) (some (.int r)) := by
  refine bq_start (by decide) (Nat.le_of_ble_eq_true rfl) ?_
  intro p e s m av9 below meth c A ls Q H locs E K w hA hr hk hn hQ hl
  have E : bq_E p m c cX8_events 1 s av9 RX8 := E
  have hx := E.1
  have hb := E.2.1
  have hl : lv_has ls 1 [(0, .ref a_t)] := hl
  unfold mX8_events at hm
  refine lv_aload_n hx hb dX8_events_0 rfl (lv_at hl 0 rfl) ?_
  refine lv_iconst (v := 0) hx hb dX8_events_1 (by decide) ?_
  obtain ⟨t_1, e9, hm⟩ := bq_let_el hm
  refine pt_X8_47 E K w 0 rfl (Nat.le_of_ble_eq_true rfl) dX8_events_2 (fun H locs w => ?_)
  replace w : bq_w D A s.heap (wdX8_events cI a_t a_t_rig u_t_trial u_t_strokes u_t_outs u_t_backs u_t_pauses u_t_cuts u_t_text u_t_readOuts u_t_readBacks u_t_readPauses t_1 t_rig) H locs := by rw [e9]; exact w
  clear e9
  refine lv_aload_n hx hb dX8_events_5 rfl (lv_at hl 0 rfl) ?_
  refine gt_X8_7 E K w 0 rfl rfl dX8_events_6 ?_
  refine lv_iconst (v := 4) hx hb dX8_events_9 (by decide) ?_
  refine bq_aldk E K w 1 rfl 4 (by decide) (by unfold vp_in; decide) dX8_events_10 ?_
  obtain ⟨rfl, rfl⟩ := bq_in2 (Option.some.inj hm)
  exact bq_iret E w hr hk dX8_events_11 hQ
abbrev wdX8_ofEvent (cI : ClassId) (a_t a_t_rig u_t_trial u_t_strokes u_t_outs u_t_backs u_t_pauses u_t_cuts u_t_text u_t_readOuts u_t_readBacks u_t_readPauses : Nat) (t : Nat → Int32) (t_rig : Nat → Int32) : va_W := [(a_t, oX8 a_t_rig u_t_trial u_t_strokes u_t_outs u_t_backs u_t_pauses u_t_cuts u_t_text u_t_readOuts u_t_readBacks u_t_readPauses t), (a_t_rig, oA cI 140 t_rig)]
abbrev rmX8_ofEvent : Room := { frames := 1, cells := 0, slots := 0, locals := 21 }
theorem hd_X8_ofEvent : yX8_ofEvent.cls = RX8 ∧ yX8_ofEvent.cls ≠ "java/lang/invoke/MethodHandle" ∧ yX8_ofEvent.cls ≠ "java/lang/invoke/VarHandle" ∧ (parseMethodDescriptor yX8_ofEvent.desc).map (fun d => d.parameters.length) = some 2 := by decide +kernel
set_option maxHeartbeats 4000000 in
set_option maxRecDepth 100000 in
theorem kX8_ofEvent (l : Launch) (D : va_G) (cI cJ : ClassId) (a_t a_t_rig u_t_trial u_t_strokes u_t_outs u_t_backs u_t_pauses u_t_cuts u_t_text u_t_readOuts u_t_readBacks u_t_readPauses : Nat) (t t_rig : Nat → Int32) (x1 : Int32) (x2 : Int32) (r : Int32) (t_o : Nat → Int32) (hm : mX8_ofEvent t t_rig x1 x2 = some (r, t_o)) : bq_M l D cI cJ yX8_ofEvent cX8_ofEvent 3 (some .int) rmX8_ofEvent [.ref a_t, .int x1, .int x2] (wdX8_ofEvent cI a_t a_t_rig u_t_trial u_t_strokes u_t_outs u_t_backs u_t_pauses u_t_cuts u_t_text u_t_readOuts u_t_readBacks u_t_readPauses t t_rig) (wdX8_ofEvent cI a_t a_t_rig u_t_trial u_t_strokes u_t_outs u_t_backs u_t_pauses u_t_cuts u_t_text u_t_readOuts u_t_readBacks u_t_readPauses t_o t_rig) (some (.int r)) := by
  refine bq_start (by decide) (Nat.le_of_ble_eq_true rfl) ?_
  intro p e s m av9 below meth c A ls Q H locs E K w hA hr hk hn hQ hl
  have E : bq_E p m c cX8_ofEvent 3 s av9 RX8 := E
  have hx := E.1
  have hb := E.2.1
  have hl : lv_has ls 3 [(0, .ref a_t), (1, .int x1), (2, .int x2)] := hl
  unfold mX8_ofEvent at hm
  refine lv_aload_n hx hb dX8_ofEvent_0 rfl (lv_at hl 0 rfl) ?_
  refine lv_iconst (v := 0) hx hb dX8_ofEvent_1 (by decide) ?_
  obtain ⟨t_1, e9, hm⟩ := bq_let_el hm
  refine pt_X8_47 E K w 0 rfl (Nat.le_of_ble_eq_true rfl) dX8_ofEvent_2 (fun H locs w => ?_)
  replace w : bq_w D A s.heap (wdX8_ofEvent cI a_t a_t_rig u_t_trial u_t_strokes u_t_outs u_t_backs u_t_pauses u_t_cuts u_t_text u_t_readOuts u_t_readBacks u_t_readPauses t_1 t_rig) H locs := by rw [e9]; exact w
  clear e9
  refine lv_iload_n hx hb dX8_ofEvent_5 rfl (lv_at hl 1 rfl) ?_
  refine lv_if_ge (tgt := 15) hx hb dX8_ofEvent_6 (by decide) (fun hc => ?_) (fun hc => ?_)
  · replace hm := bq_t hc hm
    clear hc
    refine lv_iload_n hx hb dX8_ofEvent_15 rfl (lv_at hl 1 rfl) ?_
    refine lv_bipush (v := 40) hx hb dX8_ofEvent_16 (by decide) ?_
    obtain ⟨v2, hT55, hm⟩ := bq_bd_el hm
    have K55 : ∀ (H : Heap) (locs : List Loc) (ls : Array Slot), bq_w D A s.heap (wdX8_ofEvent cI a_t a_t_rig u_t_trial u_t_strokes u_t_outs u_t_backs u_t_pauses u_t_cuts u_t_text u_t_readOuts u_t_readBacks u_t_readPauses t_1 t_rig) H locs → lv_has ls 3 [] → W p l e rmX8_ofEvent s m av9 below meth c H locs 0 0 Q (F0 m 55 ls [.int v2]) := by
      intro H locs ls w hl
      obtain ⟨rfl, rfl⟩ := bq_in2 (Option.some.inj hm)
      exact bq_iret E w hr hk dX8_ofEvent_55 hQ
    clear hm
    refine lv_icmp_ge (tgt := 54) hx hb dX8_ofEvent_18 (by decide) (fun hc => ?_) (fun hc => ?_)
    · replace hT55 := bq_t hc hT55
      clear hc
      refine lv_iconst (v := (-1)) hx hb dX8_ofEvent_54 (by decide) ?_
      obtain rfl := Option.some.inj hT55
      exact K55 H locs ls w (lv_sub hl [] rfl)
    · replace hT55 := bq_f hc hT55
      clear hc
      refine lv_iload_n hx hb dX8_ofEvent_21 rfl (lv_at hl 1 rfl) ?_
      refine lv_aload_n hx hb dX8_ofEvent_22 rfl (lv_at hl 0 rfl) ?_
      refine gt_X8_7 E K w 0 rfl rfl dX8_ofEvent_23 ?_
      refine lv_iconst (v := 4) hx hb dX8_ofEvent_26 (by decide) ?_
      refine bq_aldk E K w 1 rfl 4 (by decide) (by unfold vp_in; decide) dX8_ofEvent_27 ?_
      refine lv_icmp_ge (tgt := 54) hx hb dX8_ofEvent_28 (by decide) (fun hc => ?_) (fun hc => ?_)
      · replace hT55 := bq_t hc hT55
        clear hc
        refine lv_iconst (v := (-1)) hx hb dX8_ofEvent_54 (by decide) ?_
        obtain rfl := Option.some.inj hT55
        exact K55 H locs ls w (lv_sub hl [] rfl)
      · replace hT55 := bq_f hc hT55
        clear hc
        refine lv_aload_n hx hb dX8_ofEvent_31 rfl (lv_at hl 0 rfl) ?_
        refine gt_X8_7 E K w 0 rfl rfl dX8_ofEvent_32 ?_
        refine lv_iload_n hx hb dX8_ofEvent_35 rfl (lv_at hl 2 rfl) ?_
        refine lv_aload_n hx hb dX8_ofEvent_36 rfl (lv_at hl 0 rfl) ?_
        refine gt_X8_7 E K w 0 rfl rfl dX8_ofEvent_37 ?_
        refine lv_iconst (v := 4) hx hb dX8_ofEvent_40 (by decide) ?_
        refine bq_aldk E K w 1 rfl 4 (by decide) (by unfold vp_in; decide) dX8_ofEvent_41 ?_
        refine lv_iconst (v := 1) hx hb dX8_ofEvent_42 (by decide) ?_
        refine lv_isub hx hb dX8_ofEvent_43 ?_
        refine lv_iload_n hx hb dX8_ofEvent_44 rfl (lv_at hl 1 rfl) ?_
        refine lv_isub hx hb dX8_ofEvent_45 ?_
        refine lv_bipush (v := 40) hx hb dX8_ofEvent_46 (by decide) ?_
        refine lv_irem hx hb dX8_ofEvent_48 (by decide) ?_
        refine lv_iadd hx hb dX8_ofEvent_49 ?_
        obtain ⟨hI, hT55⟩ := bq_ci_el hT55
        refine bq_ald E K w 1 rfl hI dX8_ofEvent_50 ?_
        refine lv_goto (tgt := 55) hx hb dX8_ofEvent_51 (by decide) ?_
        obtain rfl := Option.some.inj hT55
        exact K55 H locs ls w (lv_sub hl [] rfl)
  · replace hm := bq_f hc hm
    clear hc
    refine lv_aload_n hx hb dX8_ofEvent_9 rfl (lv_at hl 0 rfl) ?_
    refine lv_iconst (v := 1) hx hb dX8_ofEvent_10 (by decide) ?_
    obtain ⟨v3, t_4, hC, hm⟩ := bq_b2_el hm
    refine bq_V (As := [.int 1]) (rest := []) (st1 := [.int v3]) (ws' := wdX8_ofEvent cI a_t a_t_rig u_t_trial u_t_strokes u_t_outs u_t_backs u_t_pauses u_t_cuts u_t_text u_t_readOuts u_t_readBacks u_t_readPauses t_4 t_rig) E K w hA (kX8_fails l D cI cJ a_t a_t_rig u_t_trial u_t_strokes u_t_outs u_t_backs u_t_pauses u_t_cuts u_t_text u_t_readOuts u_t_readBacks u_t_readPauses t_1 1 v3 t_4 hC) (bq_gV ml_X8_55 im_X8_fails sl_X8_fails in_X8 cd_X8_fails) hd_X8_fails ⟨Nat.le_of_ble_eq_true rfl, Nat.le_of_ble_eq_true rfl⟩ ⟨Nat.le_of_ble_eq_true rfl, Nat.le_of_ble_eq_true rfl⟩ ⟨[0], [1], [1, 0], rfl, rfl, rfl, rfl, rfl, rfl, rfl, rfl, rfl⟩ 0 rfl rfl rfl hl.1 rfl (Nat.le_of_ble_eq_true rfl) rfl dX8_ofEvent_11 (fun H locs w => bq_z ⟨rfl, rfl⟩ ?_)
    clear hC
    obtain ⟨rfl, rfl⟩ := bq_in2 (Option.some.inj hm)
    exact bq_iret E w hr hk dX8_ofEvent_14 hQ
abbrev wdX8_eventTime (cI : ClassId) (a_t a_t_rig u_t_trial u_t_strokes u_t_outs u_t_backs u_t_pauses u_t_cuts u_t_text u_t_readOuts u_t_readBacks u_t_readPauses : Nat) (t : Nat → Int32) (t_rig : Nat → Int32) : va_W := [(a_t, oX8 a_t_rig u_t_trial u_t_strokes u_t_outs u_t_backs u_t_pauses u_t_cuts u_t_text u_t_readOuts u_t_readBacks u_t_readPauses t), (a_t_rig, oA cI 140 t_rig)]
abbrev rmX8_eventTime : Room := { frames := 2, cells := 0, slots := 0, locals := 43 }
theorem hd_X8_eventTime : yX8_eventTime.cls = RX8 ∧ yX8_eventTime.cls ≠ "java/lang/invoke/MethodHandle" ∧ yX8_eventTime.cls ≠ "java/lang/invoke/VarHandle" ∧ (parseMethodDescriptor yX8_eventTime.desc).map (fun d => d.parameters.length) = some 1 := by decide +kernel
set_option maxHeartbeats 4000000 in
set_option maxRecDepth 100000 in
theorem kX8_eventTime (l : Launch) (D : va_G) (cI cJ : ClassId) (a_t a_t_rig u_t_trial u_t_strokes u_t_outs u_t_backs u_t_pauses u_t_cuts u_t_text u_t_readOuts u_t_readBacks u_t_readPauses : Nat) (t t_rig : Nat → Int32) (x1 : Int32) (r : Int32) (t_o : Nat → Int32) (hm : mX8_eventTime t t_rig x1 = some (r, t_o)) : bq_M l D cI cJ yX8_eventTime cX8_eventTime 2 (some .int) rmX8_eventTime [.ref a_t, .int x1] (wdX8_eventTime cI a_t a_t_rig u_t_trial u_t_strokes u_t_outs u_t_backs u_t_pauses u_t_cuts u_t_text u_t_readOuts u_t_readBacks u_t_readPauses t t_rig) (wdX8_eventTime cI a_t a_t_rig u_t_trial u_t_strokes u_t_outs u_t_backs u_t_pauses u_t_cuts u_t_text u_t_readOuts u_t_readBacks u_t_readPauses t_o t_rig) (some (.int r)) := by
  refine bq_start (by decide) (Nat.le_of_ble_eq_true rfl) ?_
  intro p e s m av9 below meth c A ls Q H locs E K w hA hr hk hn hQ hl
  have E : bq_E p m c cX8_eventTime 2 s av9 RX8 := E
  have hx := E.1
  have hb := E.2.1
  have hl : lv_has ls 2 [(0, .ref a_t), (1, .int x1)] := hl
  unfold mX8_eventTime at hm
  refine lv_aload_n hx hb dX8_eventTime_0 rfl (lv_at hl 0 rfl) ?_
  refine lv_iload_n hx hb dX8_eventTime_1 rfl (lv_at hl 1 rfl) ?_
  refine lv_bipush (v := 60) hx hb dX8_eventTime_2 (by decide) ?_
  obtain ⟨v1, t_2, hC, hm⟩ := bq_b2_el hm
  refine bq_V (As := [.int x1, .int 60]) (rest := []) (st1 := [.int v1]) (ws' := wdX8_eventTime cI a_t a_t_rig u_t_trial u_t_strokes u_t_outs u_t_backs u_t_pauses u_t_cuts u_t_text u_t_readOuts u_t_readBacks u_t_readPauses t_2 t_rig) E K w hA (kX8_ofEvent l D cI cJ a_t a_t_rig u_t_trial u_t_strokes u_t_outs u_t_backs u_t_pauses u_t_cuts u_t_text u_t_readOuts u_t_readBacks u_t_readPauses t t_rig x1 60 v1 t_2 hC) (bq_gV ml_X8_177 im_X8_ofEvent sl_X8_ofEvent in_X8 cd_X8_ofEvent) hd_X8_ofEvent ⟨Nat.le_of_ble_eq_true rfl, Nat.le_of_ble_eq_true rfl⟩ ⟨Nat.le_of_ble_eq_true rfl, Nat.le_of_ble_eq_true rfl⟩ ⟨[0, 1], [], [0, 1], rfl, rfl, rfl, rfl, rfl, rfl, rfl, rfl, rfl⟩ 0 rfl rfl rfl hl.1 rfl (Nat.le_of_ble_eq_true rfl) rfl dX8_eventTime_4 (fun H locs w => bq_z ⟨rfl, rfl⟩ ?_)
  clear hC
  obtain ⟨rfl, rfl⟩ := bq_in2 (Option.some.inj hm)
  exact bq_iret E w hr hk dX8_eventTime_7 hQ
abbrev wdX8_eventMove (cI : ClassId) (a_t a_t_rig u_t_trial u_t_strokes u_t_outs u_t_backs u_t_pauses u_t_cuts u_t_text u_t_readOuts u_t_readBacks u_t_readPauses : Nat) (t : Nat → Int32) (t_rig : Nat → Int32) : va_W := [(a_t, oX8 a_t_rig u_t_trial u_t_strokes u_t_outs u_t_backs u_t_pauses u_t_cuts u_t_text u_t_readOuts u_t_readBacks u_t_readPauses t), (a_t_rig, oA cI 140 t_rig)]
abbrev rmX8_eventMove : Room := { frames := 2, cells := 0, slots := 0, locals := 43 }
theorem hd_X8_eventMove : yX8_eventMove.cls = RX8 ∧ yX8_eventMove.cls ≠ "java/lang/invoke/MethodHandle" ∧ yX8_eventMove.cls ≠ "java/lang/invoke/VarHandle" ∧ (parseMethodDescriptor yX8_eventMove.desc).map (fun d => d.parameters.length) = some 1 := by decide +kernel
set_option maxHeartbeats 4000000 in
set_option maxRecDepth 100000 in
theorem kX8_eventMove (l : Launch) (D : va_G) (cI cJ : ClassId) (a_t a_t_rig u_t_trial u_t_strokes u_t_outs u_t_backs u_t_pauses u_t_cuts u_t_text u_t_readOuts u_t_readBacks u_t_readPauses : Nat) (t t_rig : Nat → Int32) (x1 : Int32) (r : Int32) (t_o : Nat → Int32) (hm : mX8_eventMove t t_rig x1 = some (r, t_o)) : bq_M l D cI cJ yX8_eventMove cX8_eventMove 2 (some .int) rmX8_eventMove [.ref a_t, .int x1] (wdX8_eventMove cI a_t a_t_rig u_t_trial u_t_strokes u_t_outs u_t_backs u_t_pauses u_t_cuts u_t_text u_t_readOuts u_t_readBacks u_t_readPauses t t_rig) (wdX8_eventMove cI a_t a_t_rig u_t_trial u_t_strokes u_t_outs u_t_backs u_t_pauses u_t_cuts u_t_text u_t_readOuts u_t_readBacks u_t_readPauses t_o t_rig) (some (.int r)) := by
  refine bq_start (by decide) (Nat.le_of_ble_eq_true rfl) ?_
  intro p e s m av9 below meth c A ls Q H locs E K w hA hr hk hn hQ hl
  have E : bq_E p m c cX8_eventMove 2 s av9 RX8 := E
  have hx := E.1
  have hb := E.2.1
  have hl : lv_has ls 2 [(0, .ref a_t), (1, .int x1)] := hl
  unfold mX8_eventMove at hm
  refine lv_aload_n hx hb dX8_eventMove_0 rfl (lv_at hl 0 rfl) ?_
  refine lv_iload_n hx hb dX8_eventMove_1 rfl (lv_at hl 1 rfl) ?_
  refine lv_bipush (v := 100) hx hb dX8_eventMove_2 (by decide) ?_
  obtain ⟨v1, t_2, hC, hm⟩ := bq_b2_el hm
  refine bq_V (As := [.int x1, .int 100]) (rest := []) (st1 := [.int v1]) (ws' := wdX8_eventMove cI a_t a_t_rig u_t_trial u_t_strokes u_t_outs u_t_backs u_t_pauses u_t_cuts u_t_text u_t_readOuts u_t_readBacks u_t_readPauses t_2 t_rig) E K w hA (kX8_ofEvent l D cI cJ a_t a_t_rig u_t_trial u_t_strokes u_t_outs u_t_backs u_t_pauses u_t_cuts u_t_text u_t_readOuts u_t_readBacks u_t_readPauses t t_rig x1 100 v1 t_2 hC) (bq_gV ml_X8_177 im_X8_ofEvent sl_X8_ofEvent in_X8 cd_X8_ofEvent) hd_X8_ofEvent ⟨Nat.le_of_ble_eq_true rfl, Nat.le_of_ble_eq_true rfl⟩ ⟨Nat.le_of_ble_eq_true rfl, Nat.le_of_ble_eq_true rfl⟩ ⟨[0, 1], [], [0, 1], rfl, rfl, rfl, rfl, rfl, rfl, rfl, rfl, rfl⟩ 0 rfl rfl rfl hl.1 rfl (Nat.le_of_ble_eq_true rfl) rfl dX8_eventMove_4 (fun H locs w => bq_z ⟨rfl, rfl⟩ ?_)
  clear hC
  obtain ⟨rfl, rfl⟩ := bq_in2 (Option.some.inj hm)
  exact bq_iret E w hr hk dX8_eventMove_7 hQ
abbrev wdX8_rightEvents (cI : ClassId) (a_t a_t_rig u_t_trial u_t_strokes u_t_outs u_t_backs u_t_pauses u_t_cuts u_t_text u_t_readOuts u_t_readBacks u_t_readPauses : Nat) (t : Nat → Int32) (t_rig : Nat → Int32) : va_W := [(a_t, oX8 a_t_rig u_t_trial u_t_strokes u_t_outs u_t_backs u_t_pauses u_t_cuts u_t_text u_t_readOuts u_t_readBacks u_t_readPauses t), (a_t_rig, oA cI 140 t_rig)]
abbrev rmX8_rightEvents : Room := { frames := 0, cells := 0, slots := 0, locals := 0 }
theorem hd_X8_rightEvents : yX8_rightEvents.cls = RX8 ∧ yX8_rightEvents.cls ≠ "java/lang/invoke/MethodHandle" ∧ yX8_rightEvents.cls ≠ "java/lang/invoke/VarHandle" ∧ (parseMethodDescriptor yX8_rightEvents.desc).map (fun d => d.parameters.length) = some 0 := by decide +kernel
set_option maxHeartbeats 4000000 in
set_option maxRecDepth 100000 in
theorem kX8_rightEvents (l : Launch) (D : va_G) (cI cJ : ClassId) (a_t a_t_rig u_t_trial u_t_strokes u_t_outs u_t_backs u_t_pauses u_t_cuts u_t_text u_t_readOuts u_t_readBacks u_t_readPauses : Nat) (t t_rig : Nat → Int32) (r : Int32) (t_o : Nat → Int32) (hm : mX8_rightEvents t t_rig = some (r, t_o)) : bq_M l D cI cJ yX8_rightEvents cX8_rightEvents 1 (some .int) rmX8_rightEvents [.ref a_t] (wdX8_rightEvents cI a_t a_t_rig u_t_trial u_t_strokes u_t_outs u_t_backs u_t_pauses u_t_cuts u_t_text u_t_readOuts u_t_readBacks u_t_readPauses t t_rig) (wdX8_rightEvents cI a_t a_t_rig u_t_trial u_t_strokes u_t_outs u_t_backs u_t_pauses u_t_cuts u_t_text u_t_readOuts u_t_readBacks u_t_readPauses t_o t_rig) (some (.int r)) := by
  refine bq_start (by decide) (Nat.le_of_ble_eq_true rfl) ?_
  intro p e s m av9 below meth c A ls Q H locs E K w hA hr hk hn hQ hl
  have E : bq_E p m c cX8_rightEvents 1 s av9 RX8 := E
  have hx := E.1
  have hb := E.2.1
  have hl : lv_has ls 1 [(0, .ref a_t)] := hl
  unfold mX8_rightEvents at hm
  refine lv_aload_n hx hb dX8_rightEvents_0 rfl (lv_at hl 0 rfl) ?_
  refine lv_iconst (v := 0) hx hb dX8_rightEvents_1 (by decide) ?_
  obtain ⟨t_1, e9, hm⟩ := bq_let_el hm
  refine pt_X8_47 E K w 0 rfl (Nat.le_of_ble_eq_true rfl) dX8_rightEvents_2 (fun H locs w => ?_)
  replace w : bq_w D A s.heap (wdX8_rightEvents cI a_t a_t_rig u_t_trial u_t_strokes u_t_outs u_t_backs u_t_pauses u_t_cuts u_t_text u_t_readOuts u_t_readBacks u_t_readPauses t_1 t_rig) H locs := by rw [e9]; exact w
  clear e9
  refine lv_aload_n hx hb dX8_rightEvents_5 rfl (lv_at hl 0 rfl) ?_
  refine gt_X8_7 E K w 0 rfl rfl dX8_rightEvents_6 ?_
  refine lv_iconst (v := 5) hx hb dX8_rightEvents_9 (by decide) ?_
  refine bq_aldk E K w 1 rfl 5 (by decide) (by unfold vp_in; decide) dX8_rightEvents_10 ?_
  obtain ⟨rfl, rfl⟩ := bq_in2 (Option.some.inj hm)
  exact bq_iret E w hr hk dX8_rightEvents_11 hQ
abbrev wdX8_cycles (cI : ClassId) (a_t a_t_rig u_t_trial u_t_strokes u_t_outs u_t_backs u_t_pauses u_t_cuts u_t_text u_t_readOuts u_t_readBacks u_t_readPauses : Nat) (t : Nat → Int32) (t_rig : Nat → Int32) : va_W := [(a_t, oX8 a_t_rig u_t_trial u_t_strokes u_t_outs u_t_backs u_t_pauses u_t_cuts u_t_text u_t_readOuts u_t_readBacks u_t_readPauses t), (a_t_rig, oA cI 140 t_rig)]
abbrev rmX8_cycles : Room := { frames := 0, cells := 0, slots := 0, locals := 0 }
theorem hd_X8_cycles : yX8_cycles.cls = RX8 ∧ yX8_cycles.cls ≠ "java/lang/invoke/MethodHandle" ∧ yX8_cycles.cls ≠ "java/lang/invoke/VarHandle" ∧ (parseMethodDescriptor yX8_cycles.desc).map (fun d => d.parameters.length) = some 0 := by decide +kernel
set_option maxHeartbeats 4000000 in
set_option maxRecDepth 100000 in
theorem kX8_cycles (l : Launch) (D : va_G) (cI cJ : ClassId) (a_t a_t_rig u_t_trial u_t_strokes u_t_outs u_t_backs u_t_pauses u_t_cuts u_t_text u_t_readOuts u_t_readBacks u_t_readPauses : Nat) (t t_rig : Nat → Int32) (r : Int32) (t_o : Nat → Int32) (hm : mX8_cycles t t_rig = some (r, t_o)) : bq_M l D cI cJ yX8_cycles cX8_cycles 1 (some .int) rmX8_cycles [.ref a_t] (wdX8_cycles cI a_t a_t_rig u_t_trial u_t_strokes u_t_outs u_t_backs u_t_pauses u_t_cuts u_t_text u_t_readOuts u_t_readBacks u_t_readPauses t t_rig) (wdX8_cycles cI a_t a_t_rig u_t_trial u_t_strokes u_t_outs u_t_backs u_t_pauses u_t_cuts u_t_text u_t_readOuts u_t_readBacks u_t_readPauses t_o t_rig) (some (.int r)) := by
  refine bq_start (by decide) (Nat.le_of_ble_eq_true rfl) ?_
  intro p e s m av9 below meth c A ls Q H locs E K w hA hr hk hn hQ hl
  have E : bq_E p m c cX8_cycles 1 s av9 RX8 := E
  have hx := E.1
  have hb := E.2.1
  have hl : lv_has ls 1 [(0, .ref a_t)] := hl
  unfold mX8_cycles at hm
  refine lv_aload_n hx hb dX8_cycles_0 rfl (lv_at hl 0 rfl) ?_
  refine lv_iconst (v := 0) hx hb dX8_cycles_1 (by decide) ?_
  obtain ⟨t_1, e9, hm⟩ := bq_let_el hm
  refine pt_X8_47 E K w 0 rfl (Nat.le_of_ble_eq_true rfl) dX8_cycles_2 (fun H locs w => ?_)
  replace w : bq_w D A s.heap (wdX8_cycles cI a_t a_t_rig u_t_trial u_t_strokes u_t_outs u_t_backs u_t_pauses u_t_cuts u_t_text u_t_readOuts u_t_readBacks u_t_readPauses t_1 t_rig) H locs := by rw [e9]; exact w
  clear e9
  refine lv_aload_n hx hb dX8_cycles_5 rfl (lv_at hl 0 rfl) ?_
  refine gt_X8_7 E K w 0 rfl rfl dX8_cycles_6 ?_
  refine lv_bipush (v := 9) hx hb dX8_cycles_9 (by decide) ?_
  refine bq_aldk E K w 1 rfl 9 (by decide) (by unfold vp_in; decide) dX8_cycles_11 ?_
  obtain ⟨rfl, rfl⟩ := bq_in2 (Option.some.inj hm)
  exact bq_iret E w hr hk dX8_cycles_12 hQ
abbrev wdX8_quiet (cI : ClassId) (a_t a_t_rig u_t_trial u_t_strokes u_t_outs u_t_backs u_t_pauses u_t_cuts u_t_text u_t_readOuts u_t_readBacks u_t_readPauses : Nat) (t : Nat → Int32) (t_rig : Nat → Int32) : va_W := [(a_t, oX8 a_t_rig u_t_trial u_t_strokes u_t_outs u_t_backs u_t_pauses u_t_cuts u_t_text u_t_readOuts u_t_readBacks u_t_readPauses t), (a_t_rig, oA cI 140 t_rig)]
abbrev rmX8_quiet : Room := { frames := 0, cells := 0, slots := 0, locals := 0 }
theorem hd_X8_quiet : yX8_quiet.cls = RX8 ∧ yX8_quiet.cls ≠ "java/lang/invoke/MethodHandle" ∧ yX8_quiet.cls ≠ "java/lang/invoke/VarHandle" ∧ (parseMethodDescriptor yX8_quiet.desc).map (fun d => d.parameters.length) = some 0 := by decide +kernel
set_option maxHeartbeats 4000000 in
set_option maxRecDepth 100000 in
theorem kX8_quiet (l : Launch) (D : va_G) (cI cJ : ClassId) (a_t a_t_rig u_t_trial u_t_strokes u_t_outs u_t_backs u_t_pauses u_t_cuts u_t_text u_t_readOuts u_t_readBacks u_t_readPauses : Nat) (t t_rig : Nat → Int32) (r : Int32) (t_o : Nat → Int32) (hm : mX8_quiet t t_rig = some (r, t_o)) : bq_M l D cI cJ yX8_quiet cX8_quiet 1 (some .int) rmX8_quiet [.ref a_t] (wdX8_quiet cI a_t a_t_rig u_t_trial u_t_strokes u_t_outs u_t_backs u_t_pauses u_t_cuts u_t_text u_t_readOuts u_t_readBacks u_t_readPauses t t_rig) (wdX8_quiet cI a_t a_t_rig u_t_trial u_t_strokes u_t_outs u_t_backs u_t_pauses u_t_cuts u_t_text u_t_readOuts u_t_readBacks u_t_readPauses t_o t_rig) (some (.int r)) := by
  refine bq_start (by decide) (Nat.le_of_ble_eq_true rfl) ?_
  intro p e s m av9 below meth c A ls Q H locs E K w hA hr hk hn hQ hl
  have E : bq_E p m c cX8_quiet 1 s av9 RX8 := E
  have hx := E.1
  have hb := E.2.1
  have hl : lv_has ls 1 [(0, .ref a_t)] := hl
  unfold mX8_quiet at hm
  refine lv_aload_n hx hb dX8_quiet_0 rfl (lv_at hl 0 rfl) ?_
  refine lv_iconst (v := 0) hx hb dX8_quiet_1 (by decide) ?_
  obtain ⟨t_1, e9, hm⟩ := bq_let_el hm
  refine pt_X8_47 E K w 0 rfl (Nat.le_of_ble_eq_true rfl) dX8_quiet_2 (fun H locs w => ?_)
  replace w : bq_w D A s.heap (wdX8_quiet cI a_t a_t_rig u_t_trial u_t_strokes u_t_outs u_t_backs u_t_pauses u_t_cuts u_t_text u_t_readOuts u_t_readBacks u_t_readPauses t_1 t_rig) H locs := by rw [e9]; exact w
  clear e9
  refine lv_aload_n hx hb dX8_quiet_5 rfl (lv_at hl 0 rfl) ?_
  refine gt_X8_7 E K w 0 rfl rfl dX8_quiet_6 ?_
  refine lv_bipush (v := 10) hx hb dX8_quiet_9 (by decide) ?_
  refine bq_aldk E K w 1 rfl 10 (by decide) (by unfold vp_in; decide) dX8_quiet_11 ?_
  obtain ⟨rfl, rfl⟩ := bq_in2 (Option.some.inj hm)
  exact bq_iret E w hr hk dX8_quiet_12 hQ
