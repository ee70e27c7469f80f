section LAW
variable {p : Program} {l : Launch} {e : Env} {s : State} {m : MethodId} {below : List Frame} {meth : Method} {c : Code} {H : Heap} {locs : List Loc} {cells slots : Nat} {Q : State → Prop} {ls : Array Slot} {D : va_G} {cI cJ : ClassId} {b L : Nat} {xs : Nat → Int32} {i T n : Nat} {σ : Nat → Nat → Int32} {o : Nat → Int64} {a : Nat → Nat} {q : Nat}
set_option maxHeartbeats 8000000 in
set_option maxRecDepth 100000 in
theorem lc_errorKind (G : LGo p l e s m below meth c b L xs D cI cJ i T n cells slots Q) (hv : INV T n σ) (w : bq_w D (lwA s) s.heap (wdL cI cJ a q σ o) H locs) (hl : lv_has ls 7 (LV b (a 0) (a 40) (a 52) i)) : W p l e room_1 s m #[Value.ref b] below meth c H locs cells slots Q (F0 m 290 ls []) := by
  have G0 := G
  obtain ⟨⟨hlf, E, K, hX, hXs, hbl, hL⟩, hi, hn, hT, hf, kk⟩ := G0
  have hx := E.1
  have hb := E.2.1
  have hA : ∀ q : Nat, s.heap.size ≤ q → lwA s q := fun q h => h
  have hf0 : cells ≤ room_1.cells ∧ slots ≤ room_1.slots := ⟨by omega, by omega⟩
  refine W.widen (k := cells + 1) (n := slots + 6) (Nat.le_add_right _ 1) (Nat.le_add_right _ 6) ?_
  rcases c_errorKind hv with ⟨v, hm, h8⟩
  refine lv_aload_n hx hb dL_law_290 rfl (lv_at hl 1 rfl) ?_
  refine bq_VM (As := []) (rest := []) (st1 := [.int v]) (ws' := wdL cI cJ a q σ o) E K w hA (kX7_errorKind l D cI cJ (a 0) (a 1) (a 3) (a 30) (a 20) (a 23) (σ 0) v hm) (bq_gV ml_L_121 im_X7_errorKind sl_X7_errorKind in_X7 cd_X7_errorKind) hd_X7_errorKind ⟨Nat.le_of_ble_eq_true rfl, Nat.le_of_ble_eq_true rfl⟩ hf ⟨[true, false, false, false, false, false, false, false, false, false, false, false, false, false, false, false, false, false, false, false, false, false, false, false, false, false, false, false, false, false, false, false, false, false, false, false, false, false, false, false, false, false, false, false, false, false, false, false, false, false, false, false, false], rfl, rfl, rfl, rfl⟩ 0 rfl rfl rfl hl.1 rfl (Nat.le_of_ble_eq_true rfl) rfl dL_law_291 (fun H locs w => bq_z ⟨rfl, rfl⟩ ?_)
  refine lv_aload_n hx hb dL_law_294 rfl (lv_at hl 2 rfl) ?_
  refine bq_VM (As := []) (rest := [.int v]) (st1 := [.int v, .int v]) (ws' := wdL cI cJ a q (su σ 40 (upd (σ 40) 3 0)) o) E K w hA (kX8_errorKind l D cI cJ (a 40) (a 48) (a 51) (a 49) (a 43) (a 41) (a 44) (a 42) (a 50) (a 46) (a 45) (a 47) (σ 40) v (upd (σ 40) 3 0) h8) (bq_gV ml_L_124 im_X8_errorKind sl_X8_errorKind in_X8 cd_X8_errorKind) hd_X8_errorKind ⟨Nat.le_of_ble_eq_true rfl, Nat.le_of_ble_eq_true rfl⟩ hf ⟨[false, false, false, false, false, false, false, false, false, false, false, false, false, false, false, false, false, false, false, false, false, false, false, false, false, false, false, false, false, false, false, false, false, false, false, false, false, false, false, false, true, false, false, false, false, false, false, false, false, false, false, false, false], rfl, rfl, rfl, rfl⟩ 40 rfl rfl rfl hl.1 rfl (Nat.le_of_ble_eq_true rfl) rfl dL_law_295 (fun H locs w => bq_z ⟨rfl, rfl⟩ ?_)
  clear hm h8
  exact lv_icmp_eq (tgt := 1966) hx hb dL_law_298 (by decide) (fun _ => kk (su σ 40 (upd (σ 40) 3 0)) o a q _ _ _ (inv_le (inv_thr hv) (by omega) (by omega)) w hl) (fun hc => absurd rfl hc)
set_option maxHeartbeats 8000000 in
set_option maxRecDepth 100000 in
theorem lc_steps (G : LGo p l e s m below meth c b L xs D cI cJ i T n cells slots Q) (hv : INV T n σ) (w : bq_w D (lwA s) s.heap (wdL cI cJ a q σ o) H locs) (hl : lv_has ls 7 (LV b (a 0) (a 40) (a 52) i)) : W p l e room_1 s m #[Value.ref b] below meth c H locs cells slots Q (F0 m 303 ls []) := by
  have G0 := G
  obtain ⟨⟨hlf, E, K, hX, hXs, hbl, hL⟩, hi, hn, hT, hf, kk⟩ := G0
  have hx := E.1
  have hb := E.2.1
  have hA : ∀ q : Nat, s.heap.size ≤ q → lwA s q := fun q h => h
  have hf0 : cells ≤ room_1.cells ∧ slots ≤ room_1.slots := ⟨by omega, by omega⟩
  refine W.widen (k := cells + 1) (n := slots + 6) (Nat.le_add_right _ 1) (Nat.le_add_right _ 6) ?_
  rcases c_steps hv with ⟨v, hm, h8⟩
  refine lv_aload_n hx hb dL_law_303 rfl (lv_at hl 1 rfl) ?_
  refine bq_VM (As := []) (rest := []) (st1 := [.int v]) (ws' := wdL cI cJ a q σ o) E K w hA (kX7_steps l D cI cJ (a 0) (a 3) (a 11) (a 1) (a 30) (a 20) (a 23) (a 4) (a 6) (a 10) (a 18) (a 9) (a 19) (a 5) (a 17) (a 14) (a 16) (a 15) (a 12) (a 13) (σ 0) (σ 3) (σ 11) v hm) (bq_gV ml_L_125 im_X7_steps sl_X7_steps in_X7 cd_X7_steps) hd_X7_steps ⟨Nat.le_of_ble_eq_true rfl, Nat.le_of_ble_eq_true rfl⟩ hf ⟨[true, false, false, true, false, false, false, false, false, false, false, true, false, false, false, false, false, false, false, false, false, false, false, false, false, false, false, false, false, false, false, false, false, false, false, false, false, false, false, false, false, false, false, false, false, false, false, false, false, false, false, false, false], rfl, rfl, rfl, rfl⟩ 0 rfl rfl rfl hl.1 rfl (Nat.le_of_ble_eq_true rfl) rfl dL_law_304 (fun H locs w => bq_z ⟨rfl, rfl⟩ ?_)
  refine lv_aload_n hx hb dL_law_307 rfl (lv_at hl 2 rfl) ?_
  refine bq_VM (As := []) (rest := [.int v]) (st1 := [.int v, .int v]) (ws' := wdL cI cJ a q (su σ 40 (upd (σ 40) 3 0)) o) E K w hA (kX8_steps l D cI cJ (a 40) (a 48) (a 51) (a 49) (a 43) (a 41) (a 44) (a 42) (a 50) (a 46) (a 45) (a 47) (σ 40) v (upd (σ 40) 3 0) h8) (bq_gV ml_L_128 im_X8_steps sl_X8_steps in_X8 cd_X8_steps) hd_X8_steps ⟨Nat.le_of_ble_eq_true rfl, Nat.le_of_ble_eq_true rfl⟩ hf ⟨[false, false, false, false, false, false, false, false, false, false, false, false, false, false, false, false, false, false, false, false, false, false, false, false, false, false, false, false, false, false, false, false, false, false, false, false, false, false, false, false, true, false, false, false, false, false, false, false, false, false, false, false, false], rfl, rfl, rfl, rfl⟩ 40 rfl rfl rfl hl.1 rfl (Nat.le_of_ble_eq_true rfl) rfl dL_law_308 (fun H locs w => bq_z ⟨rfl, rfl⟩ ?_)
  clear hm h8
  exact lv_icmp_eq (tgt := 1966) hx hb dL_law_311 (by decide) (fun _ => kk (su σ 40 (upd (σ 40) 3 0)) o a q _ _ _ (inv_le (inv_thr hv) (by omega) (by omega)) w hl) (fun hc => absurd rfl hc)
set_option maxHeartbeats 8000000 in
set_option maxRecDepth 100000 in
theorem lc_time (G : LGo p l e s m below meth c b L xs D cI cJ i T n cells slots Q) (hv : INV T n σ) (w : bq_w D (lwA s) s.heap (wdL cI cJ a q σ o) H locs) (hl : lv_has ls 7 (LV b (a 0) (a 40) (a 52) i)) : W p l e room_1 s m #[Value.ref b] below meth c H locs cells slots Q (F0 m 1157 ls []) := by
  have G0 := G
  obtain ⟨⟨hlf, E, K, hX, hXs, hbl, hL⟩, hi, hn, hT, hf, kk⟩ := G0
  have hx := E.1
  have hb := E.2.1
  have hA : ∀ q : Nat, s.heap.size ≤ q → lwA s q := fun q h => h
  have hf0 : cells ≤ room_1.cells ∧ slots ≤ room_1.slots := ⟨by omega, by omega⟩
  refine W.widen (k := cells + 1) (n := slots + 6) (Nat.le_add_right _ 1) (Nat.le_add_right _ 6) ?_
  rcases c_time hv with ⟨v, hm, h8⟩
  refine lv_aload_n hx hb dL_law_1157 rfl (lv_at hl 1 rfl) ?_
  refine bq_VM (As := []) (rest := []) (st1 := [.int v]) (ws' := wdL cI cJ a q σ o) E K w hA (kX7_time l D cI cJ (a 0) (a 3) (a 1) (a 30) (a 20) (a 23) (a 11) (a 4) (a 6) (a 10) (a 18) (a 9) (a 19) (a 5) (σ 0) (σ 3) v hm) (bq_gV ml_L_180 im_X7_time sl_X7_time in_X7 cd_X7_time) hd_X7_time ⟨Nat.le_of_ble_eq_true rfl, Nat.le_of_ble_eq_true rfl⟩ hf ⟨[true, false, false, true, false, false, false, false, false, false, false, false, false, false, false, false, false, false, false, false, false, false, false, false, false, false, false, false, false, false, false, false, false, false, false, false, false, false, false, false, false, false, false, false, false, false, false, false, false, false, false, false, false], rfl, rfl, rfl, rfl⟩ 0 rfl rfl rfl hl.1 rfl (Nat.le_of_ble_eq_true rfl) rfl dL_law_1158 (fun H locs w => bq_z ⟨rfl, rfl⟩ ?_)
  refine lv_aload_n hx hb dL_law_1161 rfl (lv_at hl 2 rfl) ?_
  refine bq_VM (As := []) (rest := [.int v]) (st1 := [.int v, .int v]) (ws' := wdL cI cJ a q (su σ 40 (upd (σ 40) 3 0)) o) E K w hA (kX8_time l D cI cJ (a 40) (a 48) (a 51) (a 49) (a 43) (a 41) (a 44) (a 42) (a 50) (a 46) (a 45) (a 47) (σ 40) (σ 48) v (upd (σ 40) 3 0) h8) (bq_gV ml_L_183 im_X8_time sl_X8_time in_X8 cd_X8_time) hd_X8_time ⟨Nat.le_of_ble_eq_true rfl, Nat.le_of_ble_eq_true rfl⟩ hf ⟨[false, false, false, false, false, false, false, false, false, false, false, false, false, false, false, false, false, false, false, false, false, false, false, false, false, false, false, false, false, false, false, false, false, false, false, false, false, false, false, false, true, false, false, false, false, false, false, false, true, false, false, false, false], rfl, rfl, rfl, rfl⟩ 40 rfl rfl rfl hl.1 rfl (Nat.le_of_ble_eq_true rfl) rfl dL_law_1162 (fun H locs w => bq_z ⟨rfl, rfl⟩ ?_)
  clear hm h8
  exact lv_icmp_eq (tgt := 1966) hx hb dL_law_1165 (by decide) (fun _ => kk (su σ 40 (upd (σ 40) 3 0)) o a q _ _ _ (inv_le (inv_thr hv) (by omega) (by omega)) w hl) (fun hc => absurd rfl hc)
set_option maxHeartbeats 8000000 in
set_option maxRecDepth 100000 in
theorem lc_active (G : LGo p l e s m below meth c b L xs D cI cJ i T n cells slots Q) (hv : INV T n σ) (w : bq_w D (lwA s) s.heap (wdL cI cJ a q σ o) H locs) (hl : lv_has ls 7 (LV b (a 0) (a 40) (a 52) i)) : W p l e room_1 s m #[Value.ref b] below meth c H locs cells slots Q (F0 m 1420 ls []) := by
  have G0 := G
  obtain ⟨⟨hlf, E, K, hX, hXs, hbl, hL⟩, hi, hn, hT, hf, kk⟩ := G0
  have hx := E.1
  have hb := E.2.1
  have hA : ∀ q : Nat, s.heap.size ≤ q → lwA s q := fun q h => h
  have hf0 : cells ≤ room_1.cells ∧ slots ≤ room_1.slots := ⟨by omega, by omega⟩
  refine W.widen (k := cells + 1) (n := slots + 6) (Nat.le_add_right _ 1) (Nat.le_add_right _ 6) ?_
  rcases c_active hv with ⟨v, hm, h8⟩
  refine lv_aload_n hx hb dL_law_1420 rfl (lv_at hl 1 rfl) ?_
  refine bq_VM (As := []) (rest := []) (st1 := [.int v]) (ws' := wdL cI cJ a q σ o) E K w hA (kX7_active l D cI cJ (a 0) (a 3) (a 4) (a 1) (a 30) (a 20) (a 23) (a 11) (a 6) (a 10) (a 18) (a 9) (a 19) (a 5) (σ 0) (σ 3) (σ 4) v hm) (bq_gV ml_L_196 im_X7_active sl_X7_active in_X7 cd_X7_active) hd_X7_active ⟨Nat.le_of_ble_eq_true rfl, Nat.le_of_ble_eq_true rfl⟩ hf ⟨[true, false, false, true, true, false, false, false, false, false, false, false, false, false, false, false, false, false, false, false, false, false, false, false, false, false, false, false, false, false, false, false, false, false, false, false, false, false, false, false, false, false, false, false, false, false, false, false, false, false, false, false, false], rfl, rfl, rfl, rfl⟩ 0 rfl rfl rfl hl.1 rfl (Nat.le_of_ble_eq_true rfl) rfl dL_law_1421 (fun H locs w => bq_z ⟨rfl, rfl⟩ ?_)
  refine lv_aload_n hx hb dL_law_1424 rfl (lv_at hl 2 rfl) ?_
  refine bq_VM (As := []) (rest := [.int v]) (st1 := [.int v, .int v]) (ws' := wdL cI cJ a q (su σ 40 (upd (σ 40) 3 0)) o) E K w hA (kX8_active l D cI cJ (a 40) (a 48) (a 51) (a 49) (a 43) (a 41) (a 44) (a 42) (a 50) (a 46) (a 45) (a 47) (σ 40) (σ 48) v (upd (σ 40) 3 0) h8) (bq_gV ml_L_199 im_X8_active sl_X8_active in_X8 cd_X8_active) hd_X8_active ⟨Nat.le_of_ble_eq_true rfl, Nat.le_of_ble_eq_true rfl⟩ hf ⟨[false, false, false, false, false, false, false, false, false, false, false, false, false, false, false, false, false, false, false, false, false, false, false, false, false, false, false, false, false, false, false, false, false, false, false, false, false, false, false, false, true, false, false, false, false, false, false, false, true, false, false, false, false], rfl, rfl, rfl, rfl⟩ 40 rfl rfl rfl hl.1 rfl (Nat.le_of_ble_eq_true rfl) rfl dL_law_1425 (fun H locs w => bq_z ⟨rfl, rfl⟩ ?_)
  clear hm h8
  exact lv_icmp_eq (tgt := 1966) hx hb dL_law_1428 (by decide) (fun _ => kk (su σ 40 (upd (σ 40) 3 0)) o a q _ _ _ (inv_le (inv_thr hv) (by omega) (by omega)) w hl) (fun hc => absurd rfl hc)
set_option maxHeartbeats 8000000 in
set_option maxRecDepth 100000 in
theorem lc_events (G : LGo p l e s m below meth c b L xs D cI cJ i T n cells slots Q) (hv : INV T n σ) (w : bq_w D (lwA s) s.heap (wdL cI cJ a q σ o) H locs) (hl : lv_has ls 7 (LV b (a 0) (a 40) (a 52) i)) : W p l e room_1 s m #[Value.ref b] below meth c H locs cells slots Q (F0 m 1489 ls []) := by
  have G0 := G
  obtain ⟨⟨hlf, E, K, hX, hXs, hbl, hL⟩, hi, hn, hT, hf, kk⟩ := G0
  have hx := E.1
  have hb := E.2.1
  have hA : ∀ q : Nat, s.heap.size ≤ q → lwA s q := fun q h => h
  have hf0 : cells ≤ room_1.cells ∧ slots ≤ room_1.slots := ⟨by omega, by omega⟩
  refine W.widen (k := cells + 1) (n := slots + 6) (Nat.le_add_right _ 1) (Nat.le_add_right _ 6) ?_
  rcases c_events hv with ⟨v, hm, h8⟩
  refine lv_aload_n hx hb dL_law_1489 rfl (lv_at hl 1 rfl) ?_
  refine bq_VM (As := []) (rest := []) (st1 := [.int v]) (ws' := wdL cI cJ a q σ o) E K w hA (kX7_events l D cI cJ (a 0) (a 3) (a 6) (a 1) (a 30) (a 20) (a 23) (a 11) (a 4) (a 10) (a 18) (a 9) (a 19) (a 5) (a 8) (a 7) (σ 0) (σ 3) (σ 6) v hm) (bq_gV ml_L_203 im_X7_events sl_X7_events in_X7 cd_X7_events) hd_X7_events ⟨Nat.le_of_ble_eq_true rfl, Nat.le_of_ble_eq_true rfl⟩ hf ⟨[true, false, false, true, false, false, true, false, false, false, false, false, false, false, false, false, false, false, false, false, false, false, false, false, false, false, false, false, false, false, false, false, false, false, false, false, false, false, false, false, false, false, false, false, false, false, false, false, false, false, false, false, false], rfl, rfl, rfl, rfl⟩ 0 rfl rfl rfl hl.1 rfl (Nat.le_of_ble_eq_true rfl) rfl dL_law_1490 (fun H locs w => bq_z ⟨rfl, rfl⟩ ?_)
  refine lv_aload_n hx hb dL_law_1493 rfl (lv_at hl 2 rfl) ?_
  refine bq_VM (As := []) (rest := [.int v]) (st1 := [.int v, .int v]) (ws' := wdL cI cJ a q (su σ 40 (upd (σ 40) 3 0)) o) E K w hA (kX8_events l D cI cJ (a 40) (a 48) (a 51) (a 49) (a 43) (a 41) (a 44) (a 42) (a 50) (a 46) (a 45) (a 47) (σ 40) (σ 48) v (upd (σ 40) 3 0) h8) (bq_gV ml_L_206 im_X8_events sl_X8_events in_X8 cd_X8_events) hd_X8_events ⟨Nat.le_of_ble_eq_true rfl, Nat.le_of_ble_eq_true rfl⟩ hf ⟨[false, false, false, false, false, false, false, false, false, false, false, false, false, false, false, false, false, false, false, false, false, false, false, false, false, false, false, false, false, false, false, false, false, false, false, false, false, false, false, false, true, false, false, false, false, false, false, false, true, false, false, false, false], rfl, rfl, rfl, rfl⟩ 40 rfl rfl rfl hl.1 rfl (Nat.le_of_ble_eq_true rfl) rfl dL_law_1494 (fun H locs w => bq_z ⟨rfl, rfl⟩ ?_)
  clear hm h8
  exact lv_icmp_eq (tgt := 1966) hx hb dL_law_1497 (by decide) (fun _ => kk (su σ 40 (upd (σ 40) 3 0)) o a q _ _ _ (inv_le (inv_thr hv) (by omega) (by omega)) w hl) (fun hc => absurd rfl hc)
set_option maxHeartbeats 8000000 in
set_option maxRecDepth 100000 in
theorem lc_rightEvents (G : LGo p l e s m below meth c b L xs D cI cJ i T n cells slots Q) (hv : INV T n σ) (w : bq_w D (lwA s) s.heap (wdL cI cJ a q σ o) H locs) (hl : lv_has ls 7 (LV b (a 0) (a 40) (a 52) i)) : W p l e room_1 s m #[Value.ref b] below meth c H locs cells slots Q (F0 m 1614 ls []) := by
  have G0 := G
  obtain ⟨⟨hlf, E, K, hX, hXs, hbl, hL⟩, hi, hn, hT, hf, kk⟩ := G0
  have hx := E.1
  have hb := E.2.1
  have hA : ∀ q : Nat, s.heap.size ≤ q → lwA s q := fun q h => h
  have hf0 : cells ≤ room_1.cells ∧ slots ≤ room_1.slots := ⟨by omega, by omega⟩
  refine W.widen (k := cells + 1) (n := slots + 6) (Nat.le_add_right _ 1) (Nat.le_add_right _ 6) ?_
  rcases c_rightEvents hv with ⟨v, hm, h8⟩
  refine lv_aload_n hx hb dL_law_1614 rfl (lv_at hl 1 rfl) ?_
  refine bq_VM (As := []) (rest := []) (st1 := [.int v]) (ws' := wdL cI cJ a q σ o) E K w hA (kX7_rightEvents l D cI cJ (a 0) (a 3) (a 10) (a 1) (a 30) (a 20) (a 23) (a 11) (a 4) (a 6) (a 18) (a 9) (a 19) (a 5) (σ 0) (σ 3) (σ 10) v hm) (bq_gV ml_L_213 im_X7_rightEvents sl_X7_rightEvents in_X7 cd_X7_rightEvents) hd_X7_rightEvents ⟨Nat.le_of_ble_eq_true rfl, Nat.le_of_ble_eq_true rfl⟩ hf ⟨[true, false, false, true, false, false, false, false, false, false, true, false, false, false, false, false, false, false, false, false, false, false, false, false, false, false, false, false, false, false, false, false, false, false, false, false, false, false, false, false, false, false, false, false, false, false, false, false, false, false, false, false, false], rfl, rfl, rfl, rfl⟩ 0 rfl rfl rfl hl.1 rfl (Nat.le_of_ble_eq_true rfl) rfl dL_law_1615 (fun H locs w => bq_z ⟨rfl, rfl⟩ ?_)
  refine lv_aload_n hx hb dL_law_1618 rfl (lv_at hl 2 rfl) ?_
  refine bq_VM (As := []) (rest := [.int v]) (st1 := [.int v, .int v]) (ws' := wdL cI cJ a q (su σ 40 (upd (σ 40) 3 0)) o) E K w hA (kX8_rightEvents l D cI cJ (a 40) (a 48) (a 51) (a 49) (a 43) (a 41) (a 44) (a 42) (a 50) (a 46) (a 45) (a 47) (σ 40) (σ 48) v (upd (σ 40) 3 0) h8) (bq_gV ml_L_216 im_X8_rightEvents sl_X8_rightEvents in_X8 cd_X8_rightEvents) hd_X8_rightEvents ⟨Nat.le_of_ble_eq_true rfl, Nat.le_of_ble_eq_true rfl⟩ hf ⟨[false, false, false, false, false, false, false, false, false, false, false, false, false, false, false, false, false, false, false, false, false, false, false, false, false, false, false, false, false, false, false, false, false, false, false, false, false, false, false, false, true, false, false, false, false, false, false, false, true, false, false, false, false], rfl, rfl, rfl, rfl⟩ 40 rfl rfl rfl hl.1 rfl (Nat.le_of_ble_eq_true rfl) rfl dL_law_1619 (fun H locs w => bq_z ⟨rfl, rfl⟩ ?_)
  clear hm h8
  exact lv_icmp_eq (tgt := 1966) hx hb dL_law_1622 (by decide) (fun _ => kk (su σ 40 (upd (σ 40) 3 0)) o a q _ _ _ (inv_le (inv_thr hv) (by omega) (by omega)) w hl) (fun hc => absurd rfl hc)
set_option maxHeartbeats 8000000 in
set_option maxRecDepth 100000 in
theorem lc_cycles (G : LGo p l e s m below meth c b L xs D cI cJ i T n cells slots Q) (hv : INV T n σ) (w : bq_w D (lwA s) s.heap (wdL cI cJ a q σ o) H locs) (hl : lv_has ls 7 (LV b (a 0) (a 40) (a 52) i)) : W p l e room_1 s m #[Value.ref b] below meth c H locs cells slots Q (F0 m 1627 ls []) := by
  have G0 := G
  obtain ⟨⟨hlf, E, K, hX, hXs, hbl, hL⟩, hi, hn, hT, hf, kk⟩ := G0
  have hx := E.1
  have hb := E.2.1
  have hA : ∀ q : Nat, s.heap.size ≤ q → lwA s q := fun q h => h
  have hf0 : cells ≤ room_1.cells ∧ slots ≤ room_1.slots := ⟨by omega, by omega⟩
  refine W.widen (k := cells + 1) (n := slots + 6) (Nat.le_add_right _ 1) (Nat.le_add_right _ 6) ?_
  rcases c_cycles hv with ⟨v, hm, h8⟩
  refine lv_aload_n hx hb dL_law_1627 rfl (lv_at hl 1 rfl) ?_
  refine bq_VM (As := []) (rest := []) (st1 := [.int v]) (ws' := wdL cI cJ a q σ o) E K w hA (kX7_cycles l D cI cJ (a 0) (a 3) (a 10) (a 1) (a 30) (a 20) (a 23) (a 11) (a 4) (a 6) (a 18) (a 9) (a 19) (a 5) (σ 0) (σ 3) (σ 10) v hm) (bq_gV ml_L_217 im_X7_cycles sl_X7_cycles in_X7 cd_X7_cycles) hd_X7_cycles ⟨Nat.le_of_ble_eq_true rfl, Nat.le_of_ble_eq_true rfl⟩ hf ⟨[true, false, false, true, false, false, false, false, false, false, true, false, false, false, false, false, false, false, false, false, false, false, false, false, false, false, false, false, false, false, false, false, false, false, false, false, false, false, false, false, false, false, false, false, false, false, false, false, false, false, false, false, false], rfl, rfl, rfl, rfl⟩ 0 rfl rfl rfl hl.1 rfl (Nat.le_of_ble_eq_true rfl) rfl dL_law_1628 (fun H locs w => bq_z ⟨rfl, rfl⟩ ?_)
  refine lv_aload_n hx hb dL_law_1631 rfl (lv_at hl 2 rfl) ?_
  refine bq_VM (As := []) (rest := [.int v]) (st1 := [.int v, .int v]) (ws' := wdL cI cJ a q (su σ 40 (upd (σ 40) 3 0)) o) E K w hA (kX8_cycles l D cI cJ (a 40) (a 48) (a 51) (a 49) (a 43) (a 41) (a 44) (a 42) (a 50) (a 46) (a 45) (a 47) (σ 40) (σ 48) v (upd (σ 40) 3 0) h8) (bq_gV ml_L_220 im_X8_cycles sl_X8_cycles in_X8 cd_X8_cycles) hd_X8_cycles ⟨Nat.le_of_ble_eq_true rfl, Nat.le_of_ble_eq_true rfl⟩ hf ⟨[false, false, false, false, false, false, false, false, false, false, false, false, false, false, false, false, false, false, false, false, false, false, false, false, false, false, false, false, false, false, false, false, false, false, false, false, false, false, false, false, true, false, false, false, false, false, false, false, true, false, false, false, false], rfl, rfl, rfl, rfl⟩ 40 rfl rfl rfl hl.1 rfl (Nat.le_of_ble_eq_true rfl) rfl dL_law_1632 (fun H locs w => bq_z ⟨rfl, rfl⟩ ?_)
  clear hm h8
  exact lv_icmp_eq (tgt := 1966) hx hb dL_law_1635 (by decide) (fun _ => kk (su σ 40 (upd (σ 40) 3 0)) o a q _ _ _ (inv_le (inv_thr hv) (by omega) (by omega)) w hl) (fun hc => absurd rfl hc)
set_option maxHeartbeats 8000000 in
set_option maxRecDepth 100000 in
theorem lc_quiet (G : LGo p l e s m below meth c b L xs D cI cJ i T n cells slots Q) (hv : INV T n σ) (w : bq_w D (lwA s) s.heap (wdL cI cJ a q σ o) H locs) (hl : lv_has ls 7 (LV b (a 0) (a 40) (a 52) i)) : W p l e room_1 s m #[Value.ref b] below meth c H locs cells slots Q (F0 m 1640 ls []) := by
  have G0 := G
  obtain ⟨⟨hlf, E, K, hX, hXs, hbl, hL⟩, hi, hn, hT, hf, kk⟩ := G0
  have hx := E.1
  have hb := E.2.1
  have hA : ∀ q : Nat, s.heap.size ≤ q → lwA s q := fun q h => h
  have hf0 : cells ≤ room_1.cells ∧ slots ≤ room_1.slots := ⟨by omega, by omega⟩
  refine W.widen (k := cells + 1) (n := slots + 6) (Nat.le_add_right _ 1) (Nat.le_add_right _ 6) ?_
  rcases c_quiet hv with ⟨v, hm, h8⟩
  refine lv_aload_n hx hb dL_law_1640 rfl (lv_at hl 1 rfl) ?_
  refine bq_VM (As := []) (rest := []) (st1 := [.int v]) (ws' := wdL cI cJ a q σ o) E K w hA (kX7_quiet l D cI cJ (a 0) (a 3) (a 1) (a 30) (a 20) (a 23) (a 11) (a 4) (a 6) (a 10) (a 18) (a 9) (a 19) (a 5) (σ 0) (σ 3) v hm) (bq_gV ml_L_221 im_X7_quiet sl_X7_quiet in_X7 cd_X7_quiet) hd_X7_quiet ⟨Nat.le_of_ble_eq_true rfl, Nat.le_of_ble_eq_true rfl⟩ hf ⟨[true, false, false, true, false, false, false, false, false, false, false, false, false, false, false, false, false, false, false, false, false, false, false, false, false, false, false, false, false, false, false, false, false, false, false, false, false, false, false, false, false, false, false, false, false, false, false, false, false, false, false, false, false], rfl, rfl, rfl, rfl⟩ 0 rfl rfl rfl hl.1 rfl (Nat.le_of_ble_eq_true rfl) rfl dL_law_1641 (fun H locs w => bq_z ⟨rfl, rfl⟩ ?_)
  refine lv_aload_n hx hb dL_law_1644 rfl (lv_at hl 2 rfl) ?_
  refine bq_VM (As := []) (rest := [.int v]) (st1 := [.int v, .int v]) (ws' := wdL cI cJ a q (su σ 40 (upd (σ 40) 3 0)) o) E K w hA (kX8_quiet l D cI cJ (a 40) (a 48) (a 51) (a 49) (a 43) (a 41) (a 44) (a 42) (a 50) (a 46) (a 45) (a 47) (σ 40) (σ 48) v (upd (σ 40) 3 0) h8) (bq_gV ml_L_224 im_X8_quiet sl_X8_quiet in_X8 cd_X8_quiet) hd_X8_quiet ⟨Nat.le_of_ble_eq_true rfl, Nat.le_of_ble_eq_true rfl⟩ hf ⟨[false, false, false, false, false, false, false, false, false, false, false, false, false, false, false, false, false, false, false, false, false, false, false, false, false, false, false, false, false, false, false, false, false, false, false, false, false, false, false, false, true, false, false, false, false, false, false, false, true, false, false, false, false], rfl, rfl, rfl, rfl⟩ 40 rfl rfl rfl hl.1 rfl (Nat.le_of_ble_eq_true rfl) rfl dL_law_1645 (fun H locs w => bq_z ⟨rfl, rfl⟩ ?_)
  clear hm h8
  exact lv_icmp_eq (tgt := 1966) hx hb dL_law_1648 (by decide) (fun _ => kk (su σ 40 (upd (σ 40) 3 0)) o a q _ _ _ (inv_le (inv_thr hv) (by omega) (by omega)) w hl) (fun hc => absurd rfl hc)
set_option maxHeartbeats 8000000 in
set_option maxRecDepth 100000 in
theorem lc_fingerprint (G : LGo p l e s m below meth c b L xs D cI cJ i T n cells slots Q) (hv : INV T n σ) (w : bq_w D (lwA s) s.heap (wdL cI cJ a q σ o) H locs) (hl : lv_has ls 7 (LV b (a 0) (a 40) (a 52) i)) : W p l e room_1 s m #[Value.ref b] below meth c H locs cells slots Q (F0 m 1952 ls []) := by
  have G0 := G
  obtain ⟨⟨hlf, E, K, hX, hXs, hbl, hL⟩, hi, hn, hT, hf, kk⟩ := G0
  have hx := E.1
  have hb := E.2.1
  have hA : ∀ q : Nat, s.heap.size ≤ q → lwA s q := fun q h => h
  have hf0 : cells ≤ room_1.cells ∧ slots ≤ room_1.slots := ⟨by omega, by omega⟩
  refine W.widen (k := cells + 1) (n := slots + 6) (Nat.le_add_right _ 1) (Nat.le_add_right _ 6) ?_
  rcases c_fingerprint hv with ⟨v, hm, h8⟩
  refine lv_aload_n hx hb dL_law_1952 rfl (lv_at hl 1 rfl) ?_
  refine bq_VM (As := []) (rest := []) (st1 := [.long v]) (ws' := wdL cI cJ a q σ o) E K w hA (kX7_fingerprint l D cI cJ (a 0) (a 3) (a 4) (a 6) (a 9) (a 10) (a 11) (a 19) (a 1) (a 30) (a 20) (a 23) (a 18) (a 5) (a 8) (a 7) (a 17) (a 14) (a 16) (a 15) (a 12) (a 13) (σ 0) (σ 3) (σ 4) (σ 6) (σ 9) (σ 10) (σ 11) (σ 19) v hm) (bq_gV ml_L_241 im_X7_fingerprint sl_X7_fingerprint in_X7 cd_X7_fingerprint) hd_X7_fingerprint ⟨Nat.le_of_ble_eq_true rfl, Nat.le_of_ble_eq_true rfl⟩ hf ⟨[true, false, false, true, true, false, true, false, false, true, true, true, false, false, false, false, false, false, false, true, false, false, false, false, false, false, false, false, false, false, false, false, false, false, false, false, false, false, false, false, false, false, false, false, false, false, false, false, false, false, false, false, false], rfl, rfl, rfl, rfl⟩ 0 rfl rfl rfl hl.1 rfl (Nat.le_of_ble_eq_true rfl) rfl dL_law_1953 (fun H locs w => bq_z ⟨rfl, rfl⟩ ?_)
  refine lv_aload_n hx hb dL_law_1956 rfl (lv_at hl 2 rfl) ?_
  refine bq_VM (As := []) (rest := [.long v]) (st1 := [.long v, .long v]) (ws' := wdL cI cJ a q (su σ 40 (upd (σ 40) 3 0)) o) E K w hA (kX8_fingerprint l D cI cJ (a 40) (a 48) (a 51) (a 49) (a 43) (a 41) (a 44) (a 42) (a 50) (a 46) (a 45) (a 47) (σ 40) (σ 48) v (upd (σ 40) 3 0) h8) (bq_gV ml_L_245 im_X8_fingerprint sl_X8_fingerprint in_X8 cd_X8_fingerprint) hd_X8_fingerprint ⟨Nat.le_of_ble_eq_true rfl, Nat.le_of_ble_eq_true rfl⟩ hf ⟨[false, false, false, false, false, false, false, false, false, false, false, false, false, false, false, false, false, false, false, false, false, false, false, false, false, false, false, false, false, false, false, false, false, false, false, false, false, false, false, false, true, false, false, false, false, false, false, false, true, false, false, false, false], rfl, rfl, rfl, rfl⟩ 40 rfl rfl rfl hl.1 rfl (Nat.le_of_ble_eq_true rfl) rfl dL_law_1957 (fun H locs w => bq_z ⟨rfl, rfl⟩ ?_)
  clear hm h8
  refine W.lcmp hx hb dL_law_1960 ?_
  exact lv_if_eq (tgt := 1966) hx hb dL_law_1961 (by decide) (fun _ => kk (su σ 40 (upd (σ 40) 3 0)) o a q _ _ _ (inv_le (inv_thr hv) (by omega) (by omega)) w hl) (fun hc => absurd ((lg_cmp_eq _ _).mpr rfl) hc)
set_option maxHeartbeats 8000000 in
set_option maxRecDepth 100000 in
theorem lc_clearText (G : LGo p l e s m below meth c b L xs D cI cJ i T n cells slots Q) (hv : INV T n σ) (w : bq_w D (lwA s) s.heap (wdL cI cJ a q σ o) H locs) (hl : lv_has ls 7 (LV b (a 0) (a 40) (a 52) i)) : W p l e room_1 s m #[Value.ref b] below meth c H locs cells slots Q (F0 m 264 ls []) := by
  have G0 := G
  obtain ⟨⟨hlf, E, K, hX, hXs, hbl, hL⟩, hi, hn, hT, hf, kk⟩ := G0
  have hx := E.1
  have hb := E.2.1
  have hA : ∀ q : Nat, s.heap.size ≤ q → lwA s q := fun q h => h
  have hf0 : cells ≤ room_1.cells ∧ slots ≤ room_1.slots := ⟨by omega, by omega⟩
  refine W.widen (k := cells + 1) (n := slots + 6) (Nat.le_add_right _ 1) (Nat.le_add_right _ 6) ?_
  rcases c_clearText hv with ⟨v, rd', tr', hm, h8, hv'⟩
  refine lv_aload_n hx hb dL_law_264 rfl (lv_at hl 1 rfl) ?_
  refine bq_VM (As := []) (rest := []) (st1 := [.int v]) (ws' := wdL cI cJ a q (su σ 1 rd') o) E K w hA (kX7_clearText l D cI cJ (a 0) (a 1) (a 3) (a 30) (a 20) (a 23) (a 2) (σ 0) (σ 1) v rd' hm) (bq_gV ml_L_113 im_X7_clearText sl_X7_clearText in_X7 cd_X7_clearText) hd_X7_clearText ⟨Nat.le_of_ble_eq_true rfl, Nat.le_of_ble_eq_true rfl⟩ hf ⟨[true, true, false, false, false, false, false, false, false, false, false, false, false, false, false, false, false, false, false, false, false, false, false, false, false, false, false, false, false, false, false, false, false, false, false, false, false, false, false, false, false, false, false, false, false, false, false, false, false, false, false, false, false], rfl, rfl, rfl, rfl⟩ 0 rfl rfl rfl hl.1 rfl (Nat.le_of_ble_eq_true rfl) rfl dL_law_265 (fun H locs w => bq_z ⟨rfl, rfl⟩ ?_)
  refine lv_aload_n hx hb dL_law_268 rfl (lv_at hl 2 rfl) ?_
  refine bq_VM (As := []) (rest := [.int v]) (st1 := [.int v, .int v]) (ws' := wdL cI cJ a q (su (su σ 1 rd') 40 tr') o) E K w hA (kX8_clearText l D cI cJ (a 40) (a 48) (a 51) (a 49) (a 43) (a 41) (a 44) (a 42) (a 50) (a 46) (a 45) (a 47) (σ 40) v tr' h8) (bq_gV ml_L_116 im_X8_clearText sl_X8_clearText in_X8 cd_X8_clearText) hd_X8_clearText ⟨Nat.le_of_ble_eq_true rfl, Nat.le_of_ble_eq_true rfl⟩ hf ⟨[false, false, false, false, false, false, false, false, false, false, false, false, false, false, false, false, false, false, false, false, false, false, false, false, false, false, false, false, false, false, false, false, false, false, false, false, false, false, false, false, true, false, false, false, false, false, false, false, false, false, false, false, false], rfl, rfl, rfl, rfl⟩ 40 rfl rfl rfl hl.1 rfl (Nat.le_of_ble_eq_true rfl) rfl dL_law_269 (fun H locs w => bq_z ⟨rfl, rfl⟩ ?_)
  clear hm h8
  exact lv_icmp_eq (tgt := 1966) hx hb dL_law_272 (by decide) (fun _ => kk (su (su σ 1 rd') 40 tr') o a q _ _ _ (inv_le hv' (by omega) (by omega)) w hl) (fun hc => absurd rfl hc)
set_option maxHeartbeats 8000000 in
set_option maxRecDepth 100000 in
theorem lc_rest (G : LGo p l e s m below meth c b L xs D cI cJ i T n cells slots Q) (hv : INV T n σ) (w : bq_w D (lwA s) s.heap (wdL cI cJ a q σ o) H locs) (hl : lv_has ls 7 (LV b (a 0) (a 40) (a 52) i)) : W p l e room_1 s m #[Value.ref b] below meth c H locs cells slots Q (F0 m 1088 ls []) := by
  have G0 := G
  obtain ⟨⟨hlf, E, K, hX, hXs, hbl, hL⟩, hi, hn, hT, hf, kk⟩ := G0
  have hx := E.1
  have hb := E.2.1
  have hA : ∀ q : Nat, s.heap.size ≤ q → lwA s q := fun q h => h
  have hf0 : cells ≤ room_1.cells ∧ slots ≤ room_1.slots := ⟨by omega, by omega⟩
  refine W.widen (k := cells + 1) (n := slots + 6) (Nat.le_add_right _ 1) (Nat.le_add_right _ 6) ?_
  rcases c_rest hv with ⟨v, rg', cir', lg', po', sc', ti', tr', r', hm, h8, hv'⟩
  refine lv_aload_n hx hb dL_law_1088 rfl (lv_at hl 1 rfl) ?_
  refine bq_VM (As := []) (rest := []) (st1 := [.int v]) (ws' := wdL cI cJ a q (su (su (su (su (su (su σ 3 rg') 4 cir') 6 lg') 9 po') 10 sc') 19 ti') o) E K w hA (kX7_rest l D cI cJ (a 0) (a 3) (a 4) (a 6) (a 9) (a 10) (a 11) (a 14) (a 17) (a 19) (a 1) (a 30) (a 20) (a 23) (a 18) (a 5) (a 8) (a 7) (a 16) (a 15) (a 12) (a 13) (σ 0) (σ 3) (σ 4) (σ 6) (σ 9) (σ 10) (σ 11) (σ 14) (σ 17) (σ 19) v rg' cir' lg' po' sc' ti' hm) (bq_gV ml_L_173 im_X7_rest sl_X7_rest in_X7 cd_X7_rest) hd_X7_rest ⟨Nat.le_of_ble_eq_true rfl, Nat.le_of_ble_eq_true rfl⟩ hf ⟨[true, false, false, true, true, false, true, false, false, true, true, true, false, false, true, false, false, true, false, true, false, false, false, false, false, false, false, false, false, false, false, false, false, false, false, false, false, false, false, false, false, false, false, false, false, false, false, false, false, false, false, false, false], rfl, rfl, rfl, rfl⟩ 0 rfl rfl rfl hl.1 rfl (Nat.le_of_ble_eq_true rfl) rfl dL_law_1089 (fun H locs w => bq_z ⟨rfl, rfl⟩ ?_)
  refine lv_aload_n hx hb dL_law_1092 rfl (lv_at hl 2 rfl) ?_
  refine bq_VM (As := []) (rest := [.int v]) (st1 := [.int v, .int v]) (ws' := wdL cI cJ a q (su (su (su (su (su (su (su (su σ 3 rg') 4 cir') 6 lg') 9 po') 10 sc') 19 ti') 40 tr') 48 r') o) E K w hA (kX8_rest l D cI cJ (a 40) (a 41) (a 43) (a 44) (a 48) (a 51) (a 49) (a 42) (a 50) (a 46) (a 45) (a 47) (σ 40) (σ 41) (σ 43) (σ 44) (σ 48) v tr' r' h8) (bq_gV ml_L_176 im_X8_rest sl_X8_rest in_X8 cd_X8_rest) hd_X8_rest ⟨Nat.le_of_ble_eq_true rfl, Nat.le_of_ble_eq_true rfl⟩ hf ⟨[false, false, false, false, false, false, false, false, false, false, false, false, false, false, false, false, false, false, false, false, false, false, false, false, false, false, false, false, false, false, false, false, false, false, false, false, false, false, false, false, true, true, false, true, true, false, false, false, true, false, false, false, false], rfl, rfl, rfl, rfl⟩ 40 rfl rfl rfl hl.1 rfl (Nat.le_of_ble_eq_true rfl) rfl dL_law_1093 (fun H locs w => bq_z ⟨rfl, rfl⟩ ?_)
  clear hm h8
  exact lv_icmp_eq (tgt := 1966) hx hb dL_law_1096 (by decide) (fun _ => kk (su (su (su (su (su (su (su (su σ 3 rg') 4 cir') 6 lg') 9 po') 10 sc') 19 ti') 40 tr') 48 r') o a q _ _ _ (inv_le hv' (by omega) (by omega)) w hl) (fun hc => absurd rfl hc)
set_option maxHeartbeats 8000000 in
set_option maxRecDepth 100000 in
theorem lc_setStart (G : LGo p l e s m below meth c b L xs D cI cJ i T n cells slots Q) (hv : INV T n σ) (w : bq_w D (lwA s) s.heap (wdL cI cJ a q σ o) H locs) (hl : lv_has ls 7 (LV b (a 0) (a 40) (a 52) i)) : W p l e room_1 s m #[Value.ref b] below meth c H locs cells slots Q (F0 m 944 ls []) := by
  have G0 := G
  obtain ⟨⟨hlf, E, K, hX, hXs, hbl, hL⟩, hi, hn, hT, hf, kk⟩ := G0
  have hx := E.1
  have hb := E.2.1
  have hA : ∀ q : Nat, s.heap.size ≤ q → lwA s q := fun q h => h
  have hf0 : cells ≤ room_1.cells ∧ slots ≤ room_1.slots := ⟨by omega, by omega⟩
  refine W.widen (k := cells + 1) (n := slots + 6) (Nat.le_add_right _ 1) (Nat.le_add_right _ 6) ?_
  by_cases hb0 : xs (i + 1) = 0
  · have hC := c_setStart hv false
    simp only [Bool.false_eq_true, ↓reduceIte] at hC
    rcases hC with ⟨v, rg', tr', r', hm, h8, hv'⟩
    refine lv_aload_n hx hb dL_law_944 rfl (lv_at hl 1 rfl) ?_
    refine la_arg G w.2.2 (lv_at hl 0 rfl) (lv_at hl 4 rfl) 1 (by decide) (by decide) dL_law_945 dL_law_946 dL_law_948 dL_law_949 dL_law_950 ?_
    refine lv_if_eq (tgt := 958) hx hb dL_law_951 (by decide) (fun _ => ?_) (fun hc => absurd hb0 hc)
    refine lv_iconst (v := 0) hx hb dL_law_958 (by decide) ?_
    refine bq_VM (As := [.int 0]) (rest := []) (st1 := [.int v]) (ws' := wdL cI cJ a q (su σ 3 rg') o) E K w hA (kX7_setStart l D cI cJ (a 0) (a 3) (a 1) (a 30) (a 20) (a 23) (a 11) (a 4) (a 6) (a 10) (a 18) (a 9) (a 19) (a 5) (σ 0) (σ 3) 0 v rg' hm) (bq_gV ml_L_164 im_X7_setStart sl_X7_setStart in_X7 cd_X7_setStart) hd_X7_setStart ⟨Nat.le_of_ble_eq_true rfl, Nat.le_of_ble_eq_true rfl⟩ hf ⟨[true, false, false, true, false, false, false, false, false, false, false, false, false, false, false, false, false, false, false, false, false, false, false, false, false, false, false, false, false, false, false, false, false, false, false, false, false, false, false, false, false, false, false, false, false, false, false, false, false, false, false, false, false], rfl, rfl, rfl, rfl⟩ 0 rfl rfl rfl hl.1 rfl (Nat.le_of_ble_eq_true rfl) rfl dL_law_959 (fun H locs w => bq_z ⟨rfl, rfl⟩ ?_)
    refine lv_aload_n hx hb dL_law_962 rfl (lv_at hl 2 rfl) ?_
    refine la_arg G w.2.2 (lv_at hl 0 rfl) (lv_at hl 4 rfl) 1 (by decide) (by decide) dL_law_963 dL_law_964 dL_law_966 dL_law_967 dL_law_968 ?_
    refine lv_if_eq (tgt := 976) hx hb dL_law_969 (by decide) (fun _ => ?_) (fun hc => absurd hb0 hc)
    refine lv_iconst (v := 0) hx hb dL_law_976 (by decide) ?_
    refine bq_VM (As := [.int 0]) (rest := [.int v]) (st1 := [.int v, .int v]) (ws' := wdL cI cJ a q (su (su (su σ 3 rg') 40 tr') 48 r') o) E K w hA (kX8_setStart l D cI cJ (a 40) (a 48) (a 51) (a 49) (a 43) (a 41) (a 44) (a 42) (a 50) (a 46) (a 45) (a 47) (σ 40) (σ 48) 0 v tr' r' h8) (bq_gV ml_L_168 im_X8_setStart sl_X8_setStart in_X8 cd_X8_setStart) hd_X8_setStart ⟨Nat.le_of_ble_eq_true rfl, Nat.le_of_ble_eq_true rfl⟩ hf ⟨[false, false, false, false, false, false, false, false, false, false, false, false, false, false, false, false, false, false, false, false, false, false, false, false, false, false, false, false, false, false, false, false, false, false, false, false, false, false, false, false, true, false, false, false, false, false, false, false, true, false, false, false, false], rfl, rfl, rfl, rfl⟩ 40 rfl rfl rfl hl.1 rfl (Nat.le_of_ble_eq_true rfl) rfl dL_law_977 (fun H locs w => bq_z ⟨rfl, rfl⟩ ?_)
    clear hm h8
    exact lv_icmp_eq (tgt := 1966) hx hb dL_law_980 (by decide) (fun _ => kk (su (su (su σ 3 rg') 40 tr') 48 r') o a q _ _ _ (inv_le hv' (by omega) (by omega)) w hl) (fun hc => absurd rfl hc)
  · have hC := c_setStart hv true
    simp only [↓reduceIte] at hC
    rcases hC with ⟨v, rg', tr', r', hm, h8, hv'⟩
    refine lv_aload_n hx hb dL_law_944 rfl (lv_at hl 1 rfl) ?_
    refine la_arg G w.2.2 (lv_at hl 0 rfl) (lv_at hl 4 rfl) 1 (by decide) (by decide) dL_law_945 dL_law_946 dL_law_948 dL_law_949 dL_law_950 ?_
    refine lv_if_eq (tgt := 958) hx hb dL_law_951 (by decide) (fun hc => absurd hc hb0) (fun _ => ?_)
    refine lv_iconst (v := 1) hx hb dL_law_954 (by decide) ?_
    refine lv_goto (tgt := 959) hx hb dL_law_955 (by decide) ?_
    refine bq_VM (As := [.int 1]) (rest := []) (st1 := [.int v]) (ws' := wdL cI cJ a q (su σ 3 rg') o) E K w hA (kX7_setStart l D cI cJ (a 0) (a 3) (a 1) (a 30) (a 20) (a 23) (a 11) (a 4) (a 6) (a 10) (a 18) (a 9) (a 19) (a 5) (σ 0) (σ 3) 1 v rg' hm) (bq_gV ml_L_164 im_X7_setStart sl_X7_setStart in_X7 cd_X7_setStart) hd_X7_setStart ⟨Nat.le_of_ble_eq_true rfl, Nat.le_of_ble_eq_true rfl⟩ hf ⟨[true, false, false, true, false, false, false, false, false, false, false, false, false, false, false, false, false, false, false, false, false, false, false, false, false, false, false, false, false, false, false, false, false, false, false, false, false, false, false, false, false, false, false, false, false, false, false, false, false, false, false, false, false], rfl, rfl, rfl, rfl⟩ 0 rfl rfl rfl hl.1 rfl (Nat.le_of_ble_eq_true rfl) rfl dL_law_959 (fun H locs w => bq_z ⟨rfl, rfl⟩ ?_)
    refine lv_aload_n hx hb dL_law_962 rfl (lv_at hl 2 rfl) ?_
    refine la_arg G w.2.2 (lv_at hl 0 rfl) (lv_at hl 4 rfl) 1 (by decide) (by decide) dL_law_963 dL_law_964 dL_law_966 dL_law_967 dL_law_968 ?_
    refine lv_if_eq (tgt := 976) hx hb dL_law_969 (by decide) (fun hc => absurd hc hb0) (fun _ => ?_)
    refine lv_iconst (v := 1) hx hb dL_law_972 (by decide) ?_
    refine lv_goto (tgt := 977) hx hb dL_law_973 (by decide) ?_
    refine bq_VM (As := [.int 1]) (rest := [.int v]) (st1 := [.int v, .int v]) (ws' := wdL cI cJ a q (su (su (su σ 3 rg') 40 tr') 48 r') o) E K w hA (kX8_setStart l D cI cJ (a 40) (a 48) (a 51) (a 49) (a 43) (a 41) (a 44) (a 42) (a 50) (a 46) (a 45) (a 47) (σ 40) (σ 48) 1 v tr' r' h8) (bq_gV ml_L_168 im_X8_setStart sl_X8_setStart in_X8 cd_X8_setStart) hd_X8_setStart ⟨Nat.le_of_ble_eq_true rfl, Nat.le_of_ble_eq_true rfl⟩ hf ⟨[false, false, false, false, false, false, false, false, false, false, false, false, false, false, false, false, false, false, false, false, false, false, false, false, false, false, false, false, false, false, false, false, false, false, false, false, false, false, false, false, true, false, false, false, false, false, false, false, true, false, false, false, false], rfl, rfl, rfl, rfl⟩ 40 rfl rfl rfl hl.1 rfl (Nat.le_of_ble_eq_true rfl) rfl dL_law_977 (fun H locs w => bq_z ⟨rfl, rfl⟩ ?_)
    clear hm h8
    exact lv_icmp_eq (tgt := 1966) hx hb dL_law_980 (by decide) (fun _ => kk (su (su (su σ 3 rg') 40 tr') 48 r') o a q _ _ _ (inv_le hv' (by omega) (by omega)) w hl) (fun hc => absurd rfl hc)
end LAW
