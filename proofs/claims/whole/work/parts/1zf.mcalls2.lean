section
theorem c_sensor {T n : Nat} {σ : Nat → Nat → Int32} (h : INV T n σ) (o : Nat → Int64) (x y : Int32) : STB (tL_sensor (σ 5) (σ 9) (σ 18) o x y) (mL_sensor (σ 5) (σ 9) (σ 18) o x y) (mX8_sensor (σ 40) (σ 48) (σ 49) x y) (σ 40) := by
  obtain ⟨N, me, start, ac, n', hN, hn', hq, ht, hO⟩ := inv_ob h
  have hst : ∀ c, c < 6 → σ 18 c = σ 49 c := by
    obtain ⟨L, me, start, _, _, _, _, h5, _⟩ := h
    exact h5
  rcases cyl_cases x with ⟨k1, k2⟩ | ⟨c, hc, rfl, k1, k2, k3⟩
  · refine stb_t (e := 2) (k := 1) (b := 0) (by unfold tX7_sensor; rw [k1, tc_some]) rfl (by decide) ?_
    unfold mX8_sensor
    rw [k2, me_bd, if_pos rfl, me_bd, me_let, mu_s, if_neg (by decide), me_bd]; rfl
  · rcases rng (x := y) (n := 2) (by omega) (by omega) with ⟨h1, h2⟩ | ⟨s, hs, rfl, h2, h3, h4, h5⟩
    · have hin : mX8_in y 0 1 = some 0 := in_rng (n := 2) h1
      refine stb_t (e := 2) (k := 1) (b := 0) ?_ rfl (by decide) ?_
      · unfold tX7_sensor
        rw [k1, tc_none, k2, me_bd]
        by_cases h : y < 0
        · rw [if_pos h]
        · have h9' : ¬ y ≤ (1 : Int32) := fun h9 => h1 ⟨Int32.not_lt.mp h, h9⟩
          rw [if_neg h, if_neg h9']
      · unfold mX8_sensor
        rw [k3, me_bd, if_neg (by decide), hin, me_bd, if_pos rfl, me_bd, me_let, mu_s, if_neg (by decide), me_bd]; rfl
    · have hin : mX8_in (nI s) 0 1 = some 1 := in_rng1 (n := 2) h4 h5
      have h5' : nI s ≤ (1 : Int32) := h5
      have hsr : ∀ b, sp_sn (σ 5) (σ 9) (σ 18) c b = sp_rs (σ 49) (σ 48) c b := fun b => sn_rs (hO.2.2.2.1 c hc).1 (hst c hc) (hO.2.2.2.1 c hc).2.2.2 b
      have h8 : ∀ b : Bool, mX8_senses (σ 49) (σ 48) (nI c) (nI s) = some (if b then 1 else 0) → mX8_sensor (σ 40) (σ 48) (σ 49) (nI c) (nI s) = some (if b then 1 else 0, upd (σ 40) 3 0) := fun b hb => by
        unfold mX8_sensor
        rw [k3, me_bd, if_neg (by decide), hin, me_bd, if_neg (by decide), me_bd, me_let, mu_s, if_pos rfl, hb, me_bd]
        cases b <;> rfl
      rcases (by omega : s = 0 ∨ s = 1) with rfl | rfl
      · refine stb_m (v := if sp_rs (σ 49) (σ 48) c false then 1 else 0) ?_ (h8 _ (me_senses0 _ _ hc))
        unfold mX7_sensor
        rw [k2, me_bd, if_neg h2, if_pos h5', if_pos (by decide), me_sensedR, me_bd, me_bd, me_holds _ (by omega), me_bd, me_cbi, me_snR _ _ (σ 18) hc, hsr]
      · refine stb_m (v := if sp_rs (σ 49) (σ 48) c true then 1 else 0) ?_ (h8 _ (me_senses1 _ _ hc))
        unfold mX7_sensor
        rw [k2, me_bd, if_neg h2, if_pos h5', if_neg (by decide), me_sensedE, me_bd, me_bd, me_holds _ (by omega), me_bd, me_cbi, me_snE _ _ _ hc, hsr]
/-- where the i-th latest event is -/
theorem me_slot {lg : Nat → Int32} {n i : Nat} (h3 : lg 3 = nI (min n 40)) (h4 : lg 4 = nI (n % 40)) (hi : i < 2 ^ 31) : mX1_slotOf lg (nI i) = some (if i < 40 ∧ i < n then nI ((n - i) % 40) else -1) := by
  unfold mX1_slotOf
  rw [if_neg (nI_pos hi), h3, h4]
  by_cases h : i < min n 40
  · have hc : i < 40 ∧ i < n := ⟨by omega, by omega⟩
    rw [if_pos (nI_lt h (by omega)), if_pos hc, me_let]
    have h40 : (40 : Int32) = nI 40 := rfl
    by_cases h2 : n % 40 < i
    · rw [if_pos (nI_lt h2 hi)]
      have e1 : nI (n % 40) - nI i + 40 = nI (n % 40) + 40 - nI i := by
        rw [Int32.sub_eq_add_neg, Int32.sub_eq_add_neg, Int32.add_assoc, Int32.add_comm (-nI i) 40, Int32.add_assoc]
      rw [e1, h40, nI_add, pk_sub (by omega), show n % 40 + 40 - i = (n - i) % 40 by omega]
    · rw [if_neg (nI_nlt (by omega) (by omega)), pk_sub (by omega), show n % 40 - i = (n - i) % 40 by omega]
  · rw [if_neg (nI_nlt (by omega) hi), if_neg (by omega)]
theorem mr_ofEvent {tr r : Nat → Int32} {n i f : Nat} (h4 : r 4 = nI n) (hn : n < 2 ^ 31) (hi : i < 2 ^ 31) (hf : f ≤ 100) : mX8_ofEvent tr r (nI i) (nI f) = some (if i < 40 ∧ i < n then r (f + (n - 1 - i) % 40) else -1, upd tr 3 0) := by
  unfold mX8_ofEvent
  have h40 : (40 : Int32) = nI 40 := rfl
  rw [me_let, if_pos (nI_pos' hi), h4]
  by_cases h1 : 40 ≤ i
  · have : (40 : Int32) ≤ nI i := nI_le (a := 40) h1 hi
    rw [if_pos this, me_bd, if_neg (by omega)]
  · have : ¬ (40 : Int32) ≤ nI i := mq_nle (a := 40) (by omega) (by omega)
    rw [if_neg this]
    by_cases h2 : n ≤ i
    · rw [if_pos (nI_le h2 hi), me_bd, if_neg (by omega)]
    · rw [if_neg (mq_nle (by omega) hn), mq_pred (by omega), pk_sub (by omega), h40, pk_rem (by omega) (by omega) (by omega), nI_add, me_ci _ (by omega) (by omega), me_bd, nI_clamp (by omega), if_pos ⟨by omega, by omega⟩]
theorem ev_cases (x : Int32) : (¬ 0 ≤ x ∧ tX7_checkEvent x = some 2) ∨ ∃ i, i < 2 ^ 31 ∧ x = nI i ∧ tX7_checkEvent x = none ∧ mX7_checkEvent x = some () := by
  by_cases h : 0 ≤ x
  · right
    obtain ⟨i, h1, h2⟩ := nI_of (Int32.not_lt.mpr h)
    refine ⟨i, h1, h2, ?_, ?_⟩
    · unfold tX7_checkEvent; rw [if_pos h]
    · unfold mX7_checkEvent; rw [if_pos h]
  · left
    refine ⟨h, ?_⟩
    unfold tX7_checkEvent; rw [if_neg h]
theorem mr_ofEvent0 {tr r : Nat → Int32} {x : Int32} (h : ¬ 0 ≤ x) (y : Int32) : mX8_ofEvent tr r x y = some (0, upd tr 3 1) := by
  unfold mX8_ofEvent
  rw [me_let, if_neg h, mr_fails]; rfl
theorem c_eventTime {T n : Nat} {σ : Nat → Nat → Int32} (h : INV T n σ) (hn : n < 2 ^ 31) (o : Nat → Int64) (x : Int32) : STR (tL_eventTime (σ 6) (σ 8) o x) (mL_eventTime (σ 6) (σ 8) o x) (mX8_eventTime (σ 40) (σ 48) x) (σ 40) := by
  obtain ⟨N, me, start, ac, n', hN, hn', hq, ht, hO⟩ := inv_ob h
  obtain ⟨⟨l2, r4, l3, l4⟩, hE⟩ := hO.2.2.2.2.2.1
  rcases ev_cases x with ⟨h1, h2⟩ | ⟨i, hi, rfl, h1, h2⟩
  · refine str_t (e := 2) (k := 1) (b := 0) (by unfold tX7_eventTime; rw [h2, tc_some]) rfl (by decide) ?_
    unfold mX8_eventTime
    rw [mr_ofEvent0 h1, me_b2]
  · have h8 := mr_ofEvent (tr := σ 40) (f := 60) r4 (by omega) hi (by omega)
    refine str_m (v := if i < 40 ∧ i < n' then σ 48 (60 + (n' - 1 - i) % 40) else -1) ?_ ?_
    · unfold mX7_eventTime
      rw [h2, me_bd, me_slot l3 l4 hi, me_bd]
      by_cases hc : i < 40 ∧ i < n'
      · have := (hE ((n' - 1 - i) % 40) (by omega) (by omega)).1
        rw [show ((n' - 1 - i) % 40 + 1) % 40 = (n' - i) % 40 by omega] at this
        rw [if_pos hc, if_pos (nI_pos' (by omega)), me_ci _ (by omega) (by omega), me_bd, nI_clamp (by omega), this, if_pos hc]
      · rw [if_neg hc, if_neg (by decide), me_bd, if_neg hc]
    · unfold mX8_eventTime
      have h8' : mX8_ofEvent (σ 40) (σ 48) (nI i) 60 = _ := h8
      rw [h8', me_b2]
theorem c_eventMove {T n : Nat} {σ : Nat → Nat → Int32} (h : INV T n σ) (hn : n < 2 ^ 31) (o : Nat → Int64) (x : Int32) : STR (tL_eventMove (σ 6) (σ 7) o x) (mL_eventMove (σ 6) (σ 7) o x) (mX8_eventMove (σ 40) (σ 48) x) (σ 40) := by
  obtain ⟨N, me, start, ac, n', hN, hn', hq, ht, hO⟩ := inv_ob h
  obtain ⟨⟨l2, r4, l3, l4⟩, hE⟩ := hO.2.2.2.2.2.1
  rcases ev_cases x with ⟨h1, h2⟩ | ⟨i, hi, rfl, h1, h2⟩
  · refine str_t (e := 2) (k := 1) (b := 0) (by unfold tX7_eventMove; rw [h2, tc_some]) rfl (by decide) ?_
    unfold mX8_eventMove
    rw [mr_ofEvent0 h1, me_b2]
  · have h8 := mr_ofEvent (tr := σ 40) (f := 100) r4 (by omega) hi (by omega)
    refine str_m (v := if i < 40 ∧ i < n' then σ 48 (100 + (n' - 1 - i) % 40) else -1) ?_ ?_
    · unfold mX7_eventMove
      rw [h2, me_bd, me_slot l3 l4 hi, me_bd]
      by_cases hc : i < 40 ∧ i < n'
      · have := (hE ((n' - 1 - i) % 40) (by omega) (by omega)).2
        rw [show ((n' - 1 - i) % 40 + 1) % 40 = (n' - i) % 40 by omega] at this
        rw [if_pos hc, if_pos (nI_pos' (by omega)), me_ci _ (by omega) (by omega), me_bd, nI_clamp (by omega), this, if_pos hc]
      · rw [if_neg hc, if_neg (by decide), me_bd, if_neg hc]
    · unfold mX8_eventMove
      have h8' : mX8_ofEvent (σ 40) (σ 48) (nI i) 100 = _ := h8
      rw [h8', me_b2]
-- calls without a throw
theorem c_errorKind {T n : Nat} {σ : Nat → Nat → Int32} (h : INV T n σ) : ∃ v, mX7_errorKind (σ 0) = some v ∧ mX8_errorKind (σ 40) = some (v, upd (σ 40) 3 0) := by
  obtain ⟨L, me, start, _, _, h3, _⟩ := h
  refine ⟨σ 0 5, rfl, ?_⟩
  unfold mX8_errorKind
  rw [me_let, mu_n _ _ (by omega), h3]
theorem c_steps {T n : Nat} {σ : Nat → Nat → Int32} (h : INV T n σ) : ∃ v, mX7_steps (σ 11) = some v ∧ mX8_steps (σ 40) = some (v, upd (σ 40) 3 0) := by
  obtain ⟨N, me, start, ac, n', hN, hn', hq, ht, hO⟩ := inv_ob h
  refine ⟨σ 11 0, rfl, ?_⟩
  unfold mX8_steps
  rw [me_let, mu_n _ _ (by omega), hq, ht]
theorem c_time {T n : Nat} {σ : Nat → Nat → Int32} (h : INV T n σ) : ∃ v, mX7_time (σ 3) = some v ∧ mX8_time (σ 40) (σ 48) = some (v, upd (σ 40) 3 0) := by
  obtain ⟨N, me, start, ac, n', hN, hn', hq, ht, hO⟩ := inv_ob h
  refine ⟨σ 3 10, rfl, ?_⟩
  unfold mX8_time
  rw [me_let, hO.2.1.1]
theorem c_active {T n : Nat} {σ : Nat → Nat → Int32} (h : INV T n σ) : ∃ v, mX7_active (σ 4) = some v ∧ mX8_active (σ 40) (σ 48) = some (v, upd (σ 40) 3 0) := by
  obtain ⟨N, me, start, ac, n', hN, hn', hq, ht, hO⟩ := inv_ob h
  refine ⟨σ 4 1, rfl, ?_⟩
  unfold mX8_active
  rw [me_let, hO.2.2.1.2.2.1, hO.2.2.1.2.2.2]
theorem c_events {T n : Nat} {σ : Nat → Nat → Int32} (h : INV T n σ) : ∃ v, mX7_events (σ 6) = some v ∧ mX8_events (σ 40) (σ 48) = some (v, upd (σ 40) 3 0) := by
  obtain ⟨N, me, start, ac, n', hN, hn', hq, ht, hO⟩ := inv_ob h
  obtain ⟨⟨l2, r4, l3, l4⟩, hE⟩ := hO.2.2.2.2.2.1
  refine ⟨σ 6 2, rfl, ?_⟩
  unfold mX8_events
  rw [me_let, l2, r4]
theorem c_rightEvents {T n : Nat} {σ : Nat → Nat → Int32} (h : INV T n σ) : ∃ v, mX7_rightEvents (σ 10) = some v ∧ mX8_rightEvents (σ 40) (σ 48) = some (v, upd (σ 40) 3 0) := by
  obtain ⟨N, me, start, ac, n', hN, hn', hq, ht, hO⟩ := inv_ob h
  refine ⟨σ 10 0, rfl, ?_⟩
  unfold mX8_rightEvents
  rw [me_let, hO.2.2.2.2.2.2.1]
theorem c_cycles {T n : Nat} {σ : Nat → Nat → Int32} (h : INV T n σ) : ∃ v, mX7_cycles (σ 10) = some v ∧ mX8_cycles (σ 40) (σ 48) = some (v, upd (σ 40) 3 0) := by
  obtain ⟨N, me, start, ac, n', hN, hn', hq, ht, hO⟩ := inv_ob h
  refine ⟨σ 10 1, rfl, ?_⟩
  unfold mX8_cycles
  rw [me_let, hO.2.2.2.2.2.2.2.1]
theorem c_quiet {T n : Nat} {σ : Nat → Nat → Int32} (h : INV T n σ) : ∃ v, mX7_quiet (σ 3) = some v ∧ mX8_quiet (σ 40) (σ 48) = some (v, upd (σ 40) 3 0) := by
  obtain ⟨N, me, start, ac, n', hN, hn', hq, ht, hO⟩ := inv_ob h
  refine ⟨σ 3 10 - σ 3 11, rfl, ?_⟩
  unfold mX8_quiet
  rw [me_let, hO.2.1.2]
def fpc (g : Nat → Int64 → Int64) (a : Int64) : Nat → Int64
  | 0 => a
  | n + 1 => g n (fpc g a n)
theorem c_fingerprint {T n : Nat} {σ : Nat → Nat → Int32} (h : INV T n σ) : ∃ v, mX7_fingerprint (σ 3) (σ 4) (σ 6) (σ 9) (σ 10) (σ 11) (σ 19) = some v ∧ mX8_fingerprint (σ 40) (σ 48) = some (v, upd (σ 40) 3 0) := by
  obtain ⟨N, me, start, ac, n', hN, hn', hq, ht, hO⟩ := inv_ob h
  obtain ⟨⟨l2, r4, l3, l4⟩, hE⟩ := hO.2.2.2.2.2.1
  have hcy := hO.2.2.2.1
  have hti := hO.2.2.2.2.1
  generalize hg6 : (fun (c : Nat) (f : Int64) => 31 * (31 * (31 * f + Int32.toInt64 (σ 48 (20 + c))) + Int32.toInt64 (σ 48 (26 + c))) + Int32.toInt64 (σ 48 (32 + c))) = g6
  generalize hgN : (fun (i : Nat) (f : Int64) => 31 * f + Int32.toInt64 (σ 48 (44 + i))) = gN
  have s6 : ∀ c f, g6 c f = 31 * (31 * (31 * f + Int32.toInt64 (σ 48 (20 + c))) + Int32.toInt64 (σ 48 (26 + c))) + Int32.toInt64 (σ 48 (32 + c)) := fun c f => by rw [← hg6]
  have sN : ∀ i f, gN i f = 31 * f + Int32.toInt64 (σ 48 (44 + i)) := fun i f => by rw [← hgN]
  have c6 : ∀ a, bq_loop (bq_u2 (bX7_fingerprint_105 (σ 3) (σ 4) (σ 9))) (0, a) = some (fpc g6 a 6) := by
    intro a
    refine ml_run (fun j => (nI j, fpc g6 a j)) 6 (fun j hj => ?_) ?_
    · rw [me_u2]
      unfold bX7_fingerprint_105 mX0_commandsOf
      obtain ⟨q1, q2, q3, _⟩ := hcy j hj
      rw [if_neg (mq_6 hj), me_ci _ hj (by omega), nI_clamp (by omega), me_let, me_holds _ (by omega), me_bd, me_let, me_let, me_holds _ (by omega), me_bd, me_let, me_holds _ (by omega), me_bd, me_let, me_bd, me_let, me_let, nI_1, fpc, s6, q1, q2, q3]
      unfold sp_cmd
      cases bt (σ 3 9) j <;> cases bt (σ 4 2) j <;> cases bt (σ 4 3) j <;> rfl
    · rw [me_u2]
      unfold bX7_fingerprint_105
      rw [if_pos (by decide)]
  have r6 : ∀ a, bq_loop (bq_u2 (bX8_fingerprint_91 (σ 48))) (0, a) = some (fpc g6 a 6) := by
    intro a
    refine ml_run (fun j => (nI j, fpc g6 a j)) 6 (fun j hj => ?_) ?_
    · rw [me_u2]
      unfold bX8_fingerprint_91
      have e20 : (20 : Int32) + nI j = nI (20 + j) := nI_add 20 j
      have e26 : (26 : Int32) + nI j = nI (26 + j) := nI_add 26 j
      have e32 : (32 : Int32) + nI j = nI (32 + j) := nI_add 32 j
      rw [if_neg (mq_6 hj), e20, e26, e32, me_ci _ (by omega) (by omega), nI_clamp (by omega), me_let, me_ci _ (by omega) (by omega), nI_clamp (by omega), me_let, me_ci _ (by omega) (by omega), nI_clamp (by omega), me_let, me_let, nI_1, fpc, s6]
    · rw [me_u2]
      unfold bX8_fingerprint_91
      rw [if_pos (by decide)]
  have cN : ∀ a, bq_loop (bq_u2 (bX7_fingerprint_182 (σ 11) (σ 19))) (0, a) = some (fpc gN a N) := by
    intro a
    refine ml_run (fun j => (nI j, fpc gN a j)) N (fun j hj => ?_) ?_
    · rw [me_u2]
      unfold bX7_fingerprint_182
      rw [hq, if_neg (mq_nle hj (by omega)), me_ci _ (by omega) (by omega), nI_clamp (by omega), me_let, me_let, nI_1, fpc, sN, (hti j hj).1]
    · rw [me_u2]
      unfold bX7_fingerprint_182
      rw [hq, if_pos (mq_rfl _)]
  have rN : ∀ a, bq_loop (bq_u2 (bX8_fingerprint_156 (σ 48) (upd (σ 40) 3 0))) (0, a) = some (fpc gN a N) := by
    intro a
    have ht' : upd (σ 40) 3 0 4 = nI N := ht
    refine ml_run (fun j => (nI j, fpc gN a j)) N (fun j hj => ?_) ?_
    · rw [me_u2]
      unfold bX8_fingerprint_156
      have e44 : (44 : Int32) + nI j = nI (44 + j) := nI_add 44 j
      rw [ht', if_neg (mq_nle hj (by omega)), e44, me_ci _ (by omega) (by omega), nI_clamp (by omega), me_let, me_let, nI_1, fpc, sN]
    · rw [me_u2]
      unfold bX8_fingerprint_156
      rw [ht', if_pos (mq_rfl _)]
  have e589 : (31 * 19 : Int64) = 589 := by decide
  have x1 : σ 3 10 = σ 48 0 := hO.2.1.1
  have x2 : σ 48 10 = σ 3 10 - σ 3 11 := hO.2.1.2
  have x3 : σ 4 1 = σ 48 3 := by rw [hO.2.2.1.2.2.1, hO.2.2.1.2.2.2]
  have x4 : σ 6 2 = σ 48 4 := by rw [l2, r4]
  have x5 : σ 10 0 = σ 48 5 := hO.2.2.2.2.2.2.1
  have x6 : σ 10 1 = σ 48 9 := hO.2.2.2.2.2.2.2.1
  refine ⟨fpc gN (fpc g6 (31 * (31 * (31 * (31 * (31 * (589 + Int32.toInt64 (σ 48 0)) + Int32.toInt64 (σ 48 3)) + Int32.toInt64 (σ 48 4)) + Int32.toInt64 (σ 48 5)) + Int32.toInt64 (σ 48 9)) + Int32.toInt64 (σ 48 10)) 6) N, ?_, ?_⟩
  · unfold mX7_fingerprint mX7_quiet
    rw [me_let, me_let, me_let, me_let, me_let, me_bd, me_let, c6, me_bd, cN, me_bd, ← x2, e589, x1, x3, x4, x5, x6]
  · unfold mX8_fingerprint
    rw [me_let, me_let, me_let, me_let, me_let, me_let, me_let, r6, me_bd, rN, me_bd]
end
