section LAW
variable {p : Program} {l : Launch} {e : Env} {s : State} {m : MethodId} {below : List Frame} {meth : Method} {c : Code} {H : Heap} {locs : List Loc} {cells slots : Nat} {Q : State → Prop} {ls : Array Slot} {D : va_G} {cI cJ : ClassId} {b L : Nat} {xs : Nat → Int32} {i T n : Nat} {σ : Nat → Nat → Int32} {o : Nat → Int64} {a : Nat → Nat} {q : Nat}
theorem lw_in39 {v : Nat} (h : v < 39) : v = 0 ∨ v = 1 ∨ v = 2 ∨ v = 3 ∨ v = 4 ∨ v = 5 ∨ v = 6 ∨ v = 7 ∨ v = 8 ∨ v = 9 ∨ v = 10 ∨ v = 11 ∨ v = 12 ∨ v = 13 ∨ v = 14 ∨ v = 15 ∨ v = 16 ∨ v = 17 ∨ v = 18 ∨ v = 19 ∨ v = 20 ∨ v = 21 ∨ v = 22 ∨ v = 23 ∨ v = 24 ∨ v = 25 ∨ v = 26 ∨ v = 27 ∨ v = 28 ∨ v = 29 ∨ v = 30 ∨ v = 31 ∨ v = 32 ∨ v = 33 ∨ v = 34 ∨ v = 35 ∨ v = 36 ∨ v = 37 ∨ v = 38 := by omega
theorem lw_sub4 {L : Nat} (h : L ≤ 2048) : (Int32.ofNat L - 4).toInt = (L : Int) - 4 := by
  rw [Int32.toInt_sub, show (Int32.ofNat L).toInt = (L : Int) from nI_toInt (by omega), show (4 : Int32).toInt = 4 from rfl]
  rw [Int.bmod_def]
  split <;> omega
set_option maxHeartbeats 8000000 in
set_option maxRecDepth 100000 in
theorem law_turn {v : Nat} (hv64 : v < 64) (G : LGo p l e s m below meth c b L xs D cI cJ i T n cells slots Q) (hv : INV T n σ) (w : bq_w D (lwA s) s.heap (wdL cI cJ a q σ o) H locs) (hl : lv_has ls 7 (LV b (a 0) (a 40) (a 52) i)) : W p l e room_1 s m #[Value.ref b] below meth c H locs cells slots Q (F0 m 39 ls [.int (nI v)]) := by
  have G0 := G
  obtain ⟨⟨hlf, E, K, hX, hXs, hbl, hL⟩, hi, hn, hT, hf, kk⟩ := G0
  have hx := E.1
  have hb := E.2.1
  by_cases h : v < 39
  · rcases lw_in39 h with rfl | rfl | rfl | rfl | rfl | rfl | rfl | rfl | rfl | rfl | rfl | rfl | rfl | rfl | rfl | rfl | rfl | rfl | rfl | rfl | rfl | rfl | rfl | rfl | rfl | rfl | rfl | rfl | rfl | rfl | rfl | rfl | rfl | rfl | rfl | rfl | rfl | rfl | rfl
    · exact lv_tableIn (off := 169) (tgt := 208) hx hb dL_law_39 (by decide) (by decide) rfl (by decide) (lc_type G hv w hl)
    · exact lv_tableIn (off := 225) (tgt := 264) hx hb dL_law_39 (by decide) (by decide) rfl (by decide) (lc_clearText G hv w hl)
    · exact lv_tableIn (off := 238) (tgt := 277) hx hb dL_law_39 (by decide) (by decide) rfl (by decide) (lc_readSequence G hv w hl)
    · exact lv_tableIn (off := 251) (tgt := 290) hx hb dL_law_39 (by decide) (by decide) rfl (by decide) (lc_errorKind G hv w hl)
    · exact lv_tableIn (off := 264) (tgt := 303) hx hb dL_law_39 (by decide) (by decide) rfl (by decide) (lc_steps G hv w hl)
    · exact lv_tableIn (off := 277) (tgt := 316) hx hb dL_law_39 (by decide) (by decide) rfl (by decide) (lc_moves G hv w hl)
    · exact lv_tableIn (off := 333) (tgt := 372) hx hb dL_law_39 (by decide) (by decide) rfl (by decide) (lc_direction G hv w hl)
    · exact lv_tableIn (off := 401) (tgt := 440) hx hb dL_law_39 (by decide) (by decide) rfl (by decide) (lc_pause G hv w hl)
    · exact lv_tableIn (off := 457) (tgt := 496) hx hb dL_law_39 (by decide) (by decide) rfl (by decide) (lc_clashes G hv w hl)
    · exact lv_tableIn (off := 501) (tgt := 540) hx hb dL_law_39 (by decide) (by decide) rfl (by decide) (lc_clash G hv w hl)
    · exact lv_tableIn (off := 569) (tgt := 608) hx hb dL_law_39 (by decide) (by decide) rfl (by decide) (lc_groups G hv w hl)
    · exact lv_tableIn (off := 613) (tgt := 652) hx hb dL_law_39 (by decide) (by decide) rfl (by decide) (lc_cut G hv w hl)
    · exact lv_tableIn (off := 669) (tgt := 708) hx hb dL_law_39 (by decide) (by decide) rfl (by decide) (lc_groupOf G hv w hl)
    · exact lv_tableIn (off := 725) (tgt := 764) hx hb dL_law_39 (by decide) (by decide) rfl (by decide) (lc_valves G hv w hl)
    · exact lv_tableIn (off := 781) (tgt := 820) hx hb dL_law_39 (by decide) (by decide) rfl (by decide) (lc_setMethod G hv w hl)
    · exact lv_tableIn (off := 837) (tgt := 876) hx hb dL_law_39 (by decide) (by decide) rfl (by decide) (lc_setStroke G hv w hl)
    · exact lv_tableIn (off := 905) (tgt := 944) hx hb dL_law_39 (by decide) (by decide) rfl (by decide) (lc_setStart G hv w hl)
    · exact lv_tableIn (off := 946) (tgt := 985) hx hb dL_law_39 (by decide) (by decide) rfl (by decide) (lc_setFault G hv w hl)
    · exact lv_tableIn (off := 1049) (tgt := 1088) hx hb dL_law_39 (by decide) (by decide) rfl (by decide) (lc_rest G hv w hl)
    · exact lv_tableIn (off := 1062) (tgt := 1101) hx hb dL_law_39 (by decide) (by decide) rfl (by decide) (lc_ticks G hv w hl)
    · exact lv_tableIn (off := 1118) (tgt := 1157) hx hb dL_law_39 (by decide) (by decide) rfl (by decide) (lc_time G hv w hl)
    · exact lv_tableIn (off := 1131) (tgt := 1170) hx hb dL_law_39 (by decide) (by decide) rfl (by decide) (lc_position G hv w hl)
    · exact lv_tableIn (off := 1187) (tgt := 1226) hx hb dL_law_39 (by decide) (by decide) rfl (by decide) (lc_isOut G hv w hl)
    · exact lv_tableIn (off := 1250) (tgt := 1289) hx hb dL_law_39 (by decide) (by decide) rfl (by decide) (lc_sensor G hv w hl)
    · exact lv_tableIn (off := 1325) (tgt := 1364) hx hb dL_law_39 (by decide) (by decide) rfl (by decide) (lc_timer G hv w hl)
    · exact lv_tableIn (off := 1381) (tgt := 1420) hx hb dL_law_39 (by decide) (by decide) rfl (by decide) (lc_active G hv w hl)
    · exact lv_tableIn (off := 1394) (tgt := 1433) hx hb dL_law_39 (by decide) (by decide) rfl (by decide) (lc_commands G hv w hl)
    · exact lv_tableIn (off := 1450) (tgt := 1489) hx hb dL_law_39 (by decide) (by decide) rfl (by decide) (lc_events G hv w hl)
    · exact lv_tableIn (off := 1463) (tgt := 1502) hx hb dL_law_39 (by decide) (by decide) rfl (by decide) (lc_eventTime G hv w hl)
    · exact lv_tableIn (off := 1519) (tgt := 1558) hx hb dL_law_39 (by decide) (by decide) rfl (by decide) (lc_eventMove G hv w hl)
    · exact lv_tableIn (off := 1575) (tgt := 1614) hx hb dL_law_39 (by decide) (by decide) rfl (by decide) (lc_rightEvents G hv w hl)
    · exact lv_tableIn (off := 1588) (tgt := 1627) hx hb dL_law_39 (by decide) (by decide) rfl (by decide) (lc_cycles G hv w hl)
    · exact lv_tableIn (off := 1601) (tgt := 1640) hx hb dL_law_39 (by decide) (by decide) rfl (by decide) (lc_quiet G hv w hl)
    · exact lv_tableIn (off := 1614) (tgt := 1653) hx hb dL_law_39 (by decide) (by decide) rfl (by decide) (lc_works G hv w hl)
    · exact lv_tableIn (off := 1677) (tgt := 1716) hx hb dL_law_39 (by decide) (by decide) rfl (by decide) (lc_cycleTime G hv w hl)
    · exact lv_tableIn (off := 1733) (tgt := 1772) hx hb dL_law_39 (by decide) (by decide) rfl (by decide) (lc_cheapest G hv w hl)
    · exact lv_tableIn (off := 1777) (tgt := 1816) hx hb dL_law_39 (by decide) (by decide) rfl (by decide) (lc_effect G hv w hl)
    · exact lv_tableIn (off := 1857) (tgt := 1896) hx hb dL_law_39 (by decide) (by decide) rfl (by decide) (lc_suspect G hv w hl)
    · exact lv_tableIn (off := 1913) (tgt := 1952) hx hb dL_law_39 (by decide) (by decide) rfl (by decide) (lc_fingerprint G hv w hl)
  · refine lv_tableOut (tgt := 1966) hx hb dL_law_39 (Or.inr (by rw [nI_toInt (by omega)]; omega)) (by decide) ?_
    refine W.widen (k := cells + 1) (n := slots + 6) (Nat.le_add_right _ 1) (Nat.le_add_right _ 6) ?_
    exact kk σ o a q _ _ _ (inv_le hv (by omega) (by omega)) w hl
theorem law_head {j : Nat} (C : LC p l s m c b L xs D cI cJ) (hr : meth.sig.returnType = ret) (hk : meth.locks = false) (hj : 4 * j ≤ L) (hv : INV (5000 * j) (30000 * j) σ) (w : bq_w D (lwA s) s.heap (wdL cI cJ a q σ o) H locs) (hl : lv_has ls 7 (LV b (a 0) (a 40) (a 52) (4 * j)))
    (next : 4 * j + 4 ≤ L → ∀ (σ : Nat → Nat → Int32) (o : Nat → Int64) (a : Nat → Nat) (q : Nat) (H : Heap) (locs : List Loc) (ls : Array Slot), INV (5000 * (j + 1)) (30000 * (j + 1)) σ → bq_w D (lwA s) s.heap (wdL cI cJ a q σ o) H locs → lv_has ls 7 (LV b (a 0) (a 40) (a 52) (4 * (j + 1))) → W p l e room_1 s m #[Value.ref b] below meth c H locs (100 + (j + 1)) (2000 + 6 * (j + 1)) (lw_Z below #[Value.ref b] s) (F0 m 23 ls [])) :
    W p l e room_1 s m #[Value.ref b] below meth c H locs (100 + j) (2000 + 6 * j) (lw_Z below #[Value.ref b] s) (F0 m 23 ls []) := by
  have C0 := C
  obtain ⟨hlf, E, K, hX, hXs, hbl, hL⟩ := C0
  have hx := E.1
  have hb := E.2.1
  refine lv_iload hx hb dL_law_23 (lv_at hl 4 rfl) ?_
  refine lv_aload_n hx hb dL_law_25 rfl (lv_at hl 0 rfl) ?_
  refine va_slen hx hb hXs hbl (Nat.not_le_of_lt hbl) w.2.2 dL_law_26 ?_
  refine lv_iconst (v := 4) hx hb dL_law_27 (by decide) ?_
  refine lv_isub hx hb dL_law_28 ?_
  refine lv_icmp_gt (tgt := 1972) hx hb dL_law_29 (by decide) (fun hc => ?_) (fun hc => ?_)
  · refine lv_iconst (v := 1) hx hb dL_law_1972 (by decide) ?_
    refine va_forget w.2.2.2.2 ?_
    refine W.widen (k := 1091) (n := 9390) (by omega) (by omega) ?_
    exact lw_ret hx hb hr hk dL_law_1973
  · have h4 : 4 * j + 4 ≤ L := by
      rw [Int32.lt_iff_toInt_lt, lw_sub4 hL, nI_toInt (by omega)] at hc
      omega
    refine lv_aload_n hx hb dL_law_32 rfl (lv_at hl 0 rfl) ?_
    refine lv_iload hx hb dL_law_33 (lv_at hl 4 rfl) ?_
    refine va_sld hx hb hXs hbl (Nat.not_le_of_lt hbl) w.2.2 (vp_in_nI (n := 4 * j) (N := L) (by omega) (by omega)) dL_law_35 ?_
    refine lv_bipush (v := 63) hx hb dL_law_36 (by decide) ?_
    refine lv_iand hx hb dL_law_38 ?_
    obtain ⟨v, hv64, he⟩ := pk_andE (xs (nI (4 * j)).toNatClampNeg) (m := 63) 6 (by decide)
    refine bq_nmi (y := nI v) he.symm ?_
    refine law_turn hv64 (i := 4 * j) ⟨C, h4, by omega, by omega, ⟨show 100 + j + 1 ≤ 1091 by omega, show 2000 + 6 * j + 6 ≤ 9390 by omega⟩, ?_⟩ hv w hl
    intro σ o a q H locs ls hv w hl
    refine lv_iinc (k := 4) (v := nI (4 * (j + 1))) (lv' := [(4, .int (nI (4 * (j + 1)))), (0, .ref b), (1, .ref (a 0)), (2, .ref (a 40)), (3, .ref (a 52))]) hx hb dL_law_1966 hl rfl (nI_add (4 * j) 4) (by decide) rfl (fun ls hl => ?_)
    refine lv_goto (tgt := 23) hx hb dL_law_1969 (by decide) ?_
    refine W.widen (k := 100 + (j + 1)) (n := 2000 + 6 * (j + 1)) (by omega) (by omega) ?_
    exact next h4 σ o a q H locs ls hv w (lv_sub hl [1, 2, 3, 4, 0] rfl)
theorem law_loop (C : LC p l s m c b L xs D cI cJ) (hr : meth.sig.returnType = ret) (hk : meth.locks = false) : ∀ (f j : Nat), L ≤ 4 * j + f → 4 * j ≤ L → ∀ (σ : Nat → Nat → Int32) (o : Nat → Int64) (a : Nat → Nat) (q : Nat) (H : Heap) (locs : List Loc) (ls : Array Slot), INV (5000 * j) (30000 * j) σ → bq_w D (lwA s) s.heap (wdL cI cJ a q σ o) H locs → lv_has ls 7 (LV b (a 0) (a 40) (a 52) (4 * j)) → W p l e room_1 s m #[Value.ref b] below meth c H locs (100 + j) (2000 + 6 * j) (lw_Z below #[Value.ref b] s) (F0 m 23 ls []) := by
  intro f
  induction f with
  | zero => exact fun j h1 h2 σ o a q H locs ls hv w hl => law_head C hr hk h2 hv w hl (fun h4 => by omega)
  | succ f ih => exact fun j h1 h2 σ o a q H locs ls hv w hl => law_head C hr hk h2 hv w hl (fun h4 => ih (j + 1) (by omega) (by omega))
end LAW
