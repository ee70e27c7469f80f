theorem lw_arr {s : State} {args : Array Value} {ty : FieldType} (h : (Cond.arrayClass ty).before args s = true) : ∃ cA : ClassId, ArrOfT s cA ty ∧ s.vm.findClass ("[" ++ ty.toString) = some cA := by
  obtain ⟨c, k, comp, h1, h2, h3⟩ := Cond.arrayClass_spec h
  exact ⟨c, fun n z => ⟨fun k h => (by cases h), k, h2, comp, h3⟩, h1⟩
theorem lw_K {p : Program} {s : State} {m : MethodId} {c : Code} {b : Nat} (E : bq_E p m c cL_law 7 s #[Value.ref b] RL) (hts : ∀ w ∈ lw_tbl, w.before #[Value.ref b] s = true) : ∃ (D : va_G) (cI cJ : ClassId), bq_K D cI cJ s := by
  obtain ⟨cX0, iX0, kX0⟩ := u_known (C := RX0) (T := TX0) (N := 6) E.2.2.2.2 us_X0 (E.2.2.2.2 _ it_X0)
  obtain ⟨cX1, iX1, kX1⟩ := u_known (C := RX1) (T := TX1) (N := 5) E.2.2.2.2 us_X1 (E.2.2.2.2 _ it_X1)
  obtain ⟨cX2, iX2, kX2⟩ := u_known (C := RX2) (T := TX2) (N := 6) E.2.2.2.2 us_X2 (E.2.2.2.2 _ it_X2)
  obtain ⟨cX3, iX3, kX3⟩ := u_known (C := RX3) (T := TX3) (N := 13) E.2.2.2.2 us_X3 (E.2.2.2.2 _ it_X3)
  obtain ⟨cX4, iX4, kX4⟩ := u_known (C := RX4) (T := TX4) (N := 6) E.2.2.2.2 us_X4 (E.2.2.2.2 _ it_X4)
  obtain ⟨cX5, iX5, kX5⟩ := u_known (C := RX5) (T := TX5) (N := 8) E.2.2.2.2 us_X5 (E.2.2.2.2 _ it_X5)
  obtain ⟨cX6, iX6, kX6⟩ := u_known (C := RX6) (T := TX6) (N := 4) E.2.2.2.2 us_X6 (E.2.2.2.2 _ it_X6)
  obtain ⟨cX7, iX7, kX7⟩ := u_known (C := RX7) (T := TX7) (N := 6) E.2.2.2.2 us_X7 (E.2.2.2.2 _ it_X7)
  obtain ⟨cX8, iX8, kX8⟩ := u_known (C := RX8) (T := TX8) (N := 20) E.2.2.2.2 us_X8 (E.2.2.2.2 _ it_X8)
  obtain ⟨cI, hI1, hI2⟩ := lw_arr (E.2.2.2.2 _ ac_int)
  obtain ⟨cJ, hJ1, hJ2⟩ := lw_arr (E.2.2.2.2 _ ac_long)
  refine ⟨(fun k => [cX0, cX1, cX2, cX3, cX4, cX5, cX6, cX7, cX8].getD k cX0, fun k => [iX0, iX1, iX2, iX3, iX4, iX5, iX6, iX7, iX8].getD k iX0), cI, cJ, ⟨fun c q hq => ?_, fun k q hq => ?_⟩, fun w hw => va_Nw.of (lw_nest_ot w hw) (hts w (lw_nest_in w hw))⟩
  · match c, hq with
    | 0, hq => cases hq; exact kX0
    | 1, hq => cases hq; exact kX1
    | 2, hq => cases hq; exact kX2
    | 3, hq => cases hq; exact kX3
    | 4, hq => cases hq; exact kX4
    | 5, hq => cases hq; exact kX5
    | 6, hq => cases hq; exact kX6
    | 7, hq => cases hq; exact kX7
    | 8, hq => cases hq; exact kX8
    | n + 9, hq => cases hq
  · match k, hq with
    | 0, hq => cases hq; exact ⟨hI1, hI2⟩
    | 1, hq => cases hq; exact ⟨hJ1, hJ2⟩
    | n + 2, hq => cases hq
theorem lw_XS {p : Program} {s : State} {m : MethodId} {c : Code} {b : Nat} {D : va_G} {cI cJ : ClassId} (E : bq_E p m c cL_law 7 s #[Value.ref b] RL) (K : bq_K D cI cJ s) (hts : ∀ w ∈ lw_tbl, w.before #[Value.ref b] s = true) (hgv : (Jvm.Cond.and given_1 narrow_1).before #[Value.ref b] s = true) : bq_XS (lwA s) s := by
  have hs := flat_of_before _ hgv
  have hA : ∀ a : Nat, a < s.heap.size → ¬ lwA s a := fun a h => Nat.not_le_of_lt h
  have hini := hts (Cond.initialized Bundle.tN) (by decide +kernel)
  refine ⟨vx_Zqof (hts _ (by decide +kernel)) hini (hs _ (by decide +kernel)) hA, vx_Zqof (hts _ (by decide +kernel)) hini (hs _ (by decide +kernel)) hA, fun q hq => ?_, va_Nc.of (hs _ (by decide +kernel)), va_Nc.of (hs _ (by decide +kernel)), va_Nc.of (hs _ (by decide +kernel))⟩
  have e1 : ∀ q ∈ lw_strs, q.1 = RX7 := by decide +kernel
  have h9 := hts _ (lw_strs_in q hq)
  have hc : s.vm.findClass q.1 = some (D.1 7) := by rw [e1 q hq]; exact (K.1.1 7 _ rfl).2.1
  obtain ⟨k, cf, i, a, _, _, _, _, _, h6⟩ := Cond.stringRef_spec hc h9
  exact ⟨a, vk_R.of h9 h6⟩
set_option maxHeartbeats 8000000 in
set_option maxRecDepth 100000 in
theorem whole_start {p : Program} {e : Env} {s : State} {m : MethodId} {below : List Frame} {meth : Method} {c : Code} (l : Launch) (hflags : l.flags = flags0) {b L : Nat} {xs : Nat → Int32} (hL : L ≤ 2048) (C0 : lw_At p s m meth c b L xs) : W p l e room_1 s m #[Value.ref b] below meth c s.heap [] 0 0 (lw_Z below #[Value.ref b] s) (entryFrame m ([Value.ref b] : List Value).toArray 7) := by
  obtain ⟨hx, hb, hr, hml, hown, hts, hXs, hbl, hlk, hgv⟩ := C0
  have hlf : l.stackTraces = false := by
    unfold Launch.stackTraces
    rw [hflags]
    decide +kernel
  have E : bq_E p m c cL_law 7 s #[Value.ref b] RL := ⟨hx, hb, hml, hown, fun w h => hts w (List.mem_filter.mp h).1⟩
  obtain ⟨D, cI, cJ, K⟩ := lw_K E hts
  have hX := lw_XS E K hts hgv
  have hA : ∀ q : Nat, s.heap.size ≤ q → lwA s q := fun q h => h
  have hl := lv_entry ([Value.ref b] : List Value) (n := 7) (Nat.le_of_ble_eq_true rfl)
  rw [lg_entry_eq]
  generalize (lg_sl ([Value.ref b] : List Value) ++ List.replicate (7 - (lg_sl ([Value.ref b] : List Value)).length) Slot.unset).toArray = ls at hl ⊢
  have hl : lv_has ls 7 [(0, .ref b)] := hl
  have w : bq_w D (lwA s) s.heap [] s.heap [] := ⟨bq_nilP, bq_nilD, va_S.rf⟩
  refine nw_X7 E K w hA cl_L_8 (Nat.le_of_ble_eq_true rfl) (Nat.le_of_ble_eq_true rfl) dL_law_0 (fun x0 H w => ?_)
  refine lv_dup hx hb dL_law_3 rfl ?_
  refine bq_I (As := []) (rest := [.ref x0]) E K w hA (kX7_init l D cI cJ x0 (σ0 0) (σ0 11) (σ0 17) (σ0 14) (σ0 16) (σ0 15) (σ0 12) (σ0 13) (σ0 1) (σ0 2) (σ0 3) (σ0 4) (σ0 6) (σ0 8) (σ0 7) (σ0 10) (σ0 18) (σ0 9) (σ0 19) (σ0 5) (σ0 30) (σ0 31) (σ0 33) (σ0 35) (σ0 34) (σ0 37) (σ0 38) (σ0 36) (σ0 39) (σ0 32) (σ0 20) (σ0 21) (σ0 22) (σ0 23) (σ0 29) (σ0 26) (σ0 28) (σ0 27) (σ0 24) (σ0 25) c_init7) cd_X7_init ml_L_100 in_X7 im_X7_init hi_X7_init ⟨Nat.le_of_ble_eq_true rfl, Nat.le_of_ble_eq_true rfl⟩ ⟨Nat.le_of_ble_eq_true rfl, Nat.le_of_ble_eq_true rfl⟩ [0] [] rfl rfl rfl rfl rfl rfl rfl hl.1 rfl (Nat.le_of_ble_eq_true rfl) dL_law_4 (fun wc9 H locs hwp w => ?_)
  obtain ⟨u100, u101, u102, u103, u104, u105, u106, u107, u108, u109, u110, u111, u112, u113, u114, u115, u116, u117, u118, u119, u120, u121, u122, u123, u124, u125, u126, u127, u128, u129, u130, u131, u132, u133, u134, u135, u136, u137, u138, rfl⟩ := hwp
  refine lv_astore_n (lv' := [(1, .ref x0), (0, .ref b)]) hx hb dL_law_7 rfl hl (by decide) rfl (fun ls hl => ?_)
  refine nw_X8 E K w hA cl_L_101 (Nat.le_of_ble_eq_true rfl) (Nat.le_of_ble_eq_true rfl) dL_law_8 (fun m0 H w => ?_)
  refine lv_dup hx hb dL_law_11 rfl ?_
  refine bq_I (As := []) (rest := [.ref m0]) E K w hA (kX8_init l D cI cJ m0 (σ0 40) (σ0 48) (σ0 51) (σ0 49) (σ0 43) (σ0 41) (σ0 44) (σ0 42) (σ0 50) (σ0 46) (σ0 45) (σ0 47) c_init8) cd_X8_init ml_L_103 in_X8 im_X8_init hi_X8_init ⟨Nat.le_of_ble_eq_true rfl, Nat.le_of_ble_eq_true rfl⟩ ⟨Nat.le_of_ble_eq_true rfl, Nat.le_of_ble_eq_true rfl⟩ [40] [0, 1, 2, 3, 4, 5, 6, 7, 8, 9, 10, 11, 12, 13, 14, 15, 16, 17, 18, 19, 20, 21, 22, 23, 24, 25, 26, 27, 28, 29, 30, 31, 32, 33, 34, 35, 36, 37, 38, 39] rfl rfl rfl rfl rfl rfl rfl hl.1 rfl (Nat.le_of_ble_eq_true rfl) dL_law_12 (fun wc9 H locs hwp w => ?_)
  obtain ⟨v100, v101, v102, v103, v104, v105, v106, v107, v108, v109, v110, rfl⟩ := hwp
  refine lv_astore_n (lv' := [(2, .ref m0), (1, .ref x0), (0, .ref b)]) hx hb dL_law_15 rfl hl (by decide) rfl (fun ls hl => ?_)
  refine lv_iconst (v := 1) hx hb dL_law_16 (by decide) ?_
  refine bq_newJ E K w hA 1 (by decide) (by decide) (by decide) (Nat.le_of_ble_eq_true rfl) (Nat.le_of_ble_eq_true rfl) dL_law_17 (fun o0 H w => ?_)
  refine lv_astore_n (lv' := [(3, .ref o0), (2, .ref m0), (1, .ref x0), (0, .ref b)]) hx hb dL_law_19 rfl hl (by decide) rfl (fun ls hl => ?_)
  refine lv_iconst (v := 0) hx hb dL_law_20 (by decide) ?_
  refine lv_istore (lv' := [(4, .int 0), (3, .ref o0), (2, .ref m0), (1, .ref x0), (0, .ref b)]) hx hb dL_law_21 hl (by decide) rfl (fun ls hl => ?_)
  have w1 := (⟨w.1.sub [0, 8, 9, 10, 11, 19, 12, 14, 13, 17, 15, 1, 6, 7, 3, 5, 4, 2, 16, 18, 30, 31, 32, 33, 38, 39, 35, 37, 36, 34, 20, 21, 29, 22, 24, 23, 27, 25, 26, 28, 40, 45, 47, 44, 46, 50, 49, 51, 41, 43, 48, 42, 52] rfl, w.2.1.sub [0, 8, 9, 10, 11, 19, 12, 14, 13, 17, 15, 1, 6, 7, 3, 5, 4, 2, 16, 18, 30, 31, 32, 33, 38, 39, 35, 37, 36, 34, 20, 21, 29, 22, 24, 23, 27, 25, 26, 28, 40, 45, 47, 44, 46, 50, 49, 51, 41, 43, 48, 42, 52] (by decide +kernel) (bq_pick_map (by exact rfl)), w.2.2⟩ : bq_w D (lwA s) s.heap (bq_pick _ [0, 8, 9, 10, 11, 19, 12, 14, 13, 17, 15, 1, 6, 7, 3, 5, 4, 2, 16, 18, 30, 31, 32, 33, 38, 39, 35, 37, 36, 34, 20, 21, 29, 22, 24, 23, 27, 25, 26, 28, 40, 45, 47, 44, 46, 50, 49, 51, 41, 43, 48, 42, 52]) H locs)
  have w2 : bq_w D (lwA s) s.heap (wdL cI cJ (fun k => [x0, u107, u108, u109, u110, u118, u111, u113, u112, u116, u114, u100, u105, u106, u102, u104, u103, u101, u115, u117, u129, u130, u131, u132, u137, u138, u134, u136, u135, u133, u119, u120, u128, u121, u123, u122, u126, u124, u125, u127, m0, v104, v106, v103, v105, v109, v108, v110, v100, v102, v107, v101, o0].getD k 0) u100 σ0 (fun _ => 0)) H locs := w1
  refine W.widen (k := 100 + 0) (n := 2000 + 6 * 0) (Nat.le_of_ble_eq_true rfl) (Nat.le_of_ble_eq_true rfl) ?_
  exact law_loop ⟨hlf, E, K, hX, hXs, hbl, hL⟩ hr hlk L 0 (by omega) (by omega) σ0 _ _ _ H locs ls c_inv0 w2 (lv_sub hl [4, 3, 2, 1, 0] rfl)
