section
/-- a call that only answers: both throw the same, or answer the same -/
def STR (tL : Option Int32) (mL : Option (Int32 × (Nat → Int64))) (x8 : Option (Int32 × (Nat → Int32))) (tr : Nat → Int32) : Prop := (∃ k, tL = some k ∧ ¬ k = 0 ∧ ∃ b, x8 = some (b, upd tr 3 k)) ∨ (∃ b o', mL = some (0, o') ∧ x8 = some (b, upd tr 3 0) ∧ o' 0 = Int32.toInt64 b)
def STB (tL : Option Int32) (mL : Option (Int32 × (Nat → Int64))) (x8 : Option (Int32 × (Nat → Int32))) (tr : Nat → Int32) : Prop := (∃ k, tL = some k ∧ ¬ k = 0 ∧ ∃ b, x8 = some (b, upd tr 3 k)) ∨ (∃ b o', mL = some (0, o') ∧ x8 = some (b, upd tr 3 0) ∧ o' 0 = (if b = 0 then 0 else 1))
theorem str_t {tx : Option Nat} {f : Nat → Option Int32} {mL : Option (Int32 × (Nat → Int64))} {x8 : Option (Int32 × (Nat → Int32))} {tr : Nat → Int32} {e : Nat} {k b : Int32} (h : tx = some e) (hf : f e = some k) (hk : ¬ k = 0) (h8 : x8 = some (b, upd tr 3 k)) : STR (bq_bd tx f) mL x8 tr := Or.inl ⟨k, by rw [h, me_bd, hf], hk, b, h8⟩
theorem str_m {mx : Option Int32} {o : Nat → Int64} {tL : Option Int32} {x8 : Option (Int32 × (Nat → Int32))} {tr : Nat → Int32} {v : Int32} (h : mx = some v) (h8 : x8 = some (v, upd tr 3 0)) : STR tL (bq_bd mx (fun v1 => bq_let (vp_updL o 0 (Int32.toInt64 v1)) (fun p => some (0, p)))) x8 tr := Or.inr ⟨v, _, by rw [h, me_bd, me_let], h8, rfl⟩
theorem stb_t {tx : Option Nat} {f : Nat → Option Int32} {mL : Option (Int32 × (Nat → Int64))} {x8 : Option (Int32 × (Nat → Int32))} {tr : Nat → Int32} {e : Nat} {k b : Int32} (h : tx = some e) (hf : f e = some k) (hk : ¬ k = 0) (h8 : x8 = some (b, upd tr 3 k)) : STB (bq_bd tx f) mL x8 tr := Or.inl ⟨k, by rw [h, me_bd, hf], hk, b, h8⟩
theorem stb_m {mx : Option Int32} {o : Nat → Int64} {tL : Option Int32} {x8 : Option (Int32 × (Nat → Int32))} {tr : Nat → Int32} {v : Int32} (h : mx = some v) (h8 : x8 = some (v, upd tr 3 0)) : STB tL (bq_bd mx (fun v1 => bq_let (if v1 = 0 then 0 else 1 : Int64) (fun v2 => bq_let (vp_updL o 0 v2) (fun p => some (0, p))))) x8 tr := Or.inr ⟨v, _, by rw [h, me_bd, me_let, me_let], h8, rfl⟩
theorem mr_fails (tr : Nat → Int32) (k : Int32) : mX8_fails (upd tr 3 0) k = some (0, upd tr 3 k) := by
  unfold mX8_fails
  rw [me_let, upd_upd]
theorem rng {x : Int32} {n : Nat} (h0 : 0 < n) (hn : n < 2 ^ 31) : (¬ (0 ≤ x ∧ x ≤ nI (n - 1)) ∧ (x < 0 ∨ (¬ x < 0 ∧ ¬ x < nI n))) ∨ ∃ j, j < n ∧ x = nI j ∧ ¬ x < 0 ∧ x < nI n ∧ 0 ≤ x ∧ x ≤ nI (n - 1) := by
  rcases pk_ix x hn with h | h | ⟨j, hj, rfl⟩
  · exact Or.inl ⟨fun h9 => absurd h9.1 (Int32.not_le.mpr h), Or.inl h⟩
  · have h1 : ¬ x < 0 := fun h9 => by
      have : (0 : Int32) ≤ nI n := nI_pos' hn
      exact absurd (Int32.lt_of_lt_of_le h9 (Int32.le_trans this h)) (Int32.lt_irrefl)
    refine Or.inl ⟨fun h9 => ?_, Or.inr ⟨h1, Int32.not_lt.mpr h⟩⟩
    have h2 : nI n ≤ nI (n - 1) := Int32.le_trans h h9.2
    exact absurd ((mq_le hn (by omega)).mp h2) (by omega)
  · exact Or.inr ⟨j, hj, rfl, nI_pos (by omega), nI_lt hj hn, nI_pos' (by omega), nI_le (by omega) (by omega)⟩
theorem in_rng {x : Int32} {n : Nat} (h : ¬ (0 ≤ x ∧ x ≤ nI (n - 1))) : mX8_in x 0 (nI (n - 1)) = some 0 := by rw [me_in, if_neg h]
theorem in_rng1 {x : Int32} {n : Nat} (h0 : 0 ≤ x) (h : x ≤ nI (n - 1)) : mX8_in x 0 (nI (n - 1)) = some 1 := by rw [me_in, if_pos ⟨h0, h⟩]
theorem cyl_cases (x : Int32) : (tX7_checkCylinder x = some 2 ∧ mX8_in x 0 5 = some 0) ∨ ∃ c, c < 6 ∧ x = nI c ∧ tX7_checkCylinder x = none ∧ mX7_checkCylinder x = some () ∧ mX8_in x 0 5 = some 1 := by
  rcases rng (x := x) (n := 6) (by omega) (by omega) with ⟨h1, h2⟩ | ⟨c, hc, h1, h2, h3, h4, h5⟩
  · refine Or.inl ⟨?_, in_rng (n := 6) h1⟩
    unfold tX7_checkCylinder
    rcases h2 with h | ⟨h, h'⟩
    · rw [if_pos h]
    · have h'' : ¬ x < (6 : Int32) := h'
      rw [if_neg h, if_neg h'']
  · have h3' : x < (6 : Int32) := h3
    refine Or.inr ⟨c, hc, h1, ?_, ?_, in_rng1 (n := 6) h4 h5⟩
    · unfold tX7_checkCylinder; rw [if_neg h2, if_pos h3']
    · unfold mX7_checkCylinder; rw [if_neg h2, if_pos h3']
theorem kind_cases (x : Int32) : (tX7_checkFaultKind x = some 0 ∧ mX8_in x 0 4 = some 0) ∨ ∃ c, c < 5 ∧ x = nI c ∧ tX7_checkFaultKind x = none ∧ mX7_checkFaultKind x = some () ∧ mX8_in x 0 4 = some 1 := by
  rcases rng (x := x) (n := 5) (by omega) (by omega) with ⟨h1, h2⟩ | ⟨c, hc, h1, h2, h3, h4, h5⟩
  · refine Or.inl ⟨?_, in_rng (n := 5) h1⟩
    unfold tX7_checkFaultKind
    rcases h2 with h | ⟨h, h'⟩
    · rw [if_pos h]
    · have h'' : ¬ x < (5 : Int32) := h'
      rw [if_neg h, if_neg h'']
  · have h3' : x < (5 : Int32) := h3
    refine Or.inr ⟨c, hc, h1, ?_, ?_, in_rng1 (n := 5) h4 h5⟩
    · unfold tX7_checkFaultKind; rw [if_neg h2, if_pos h3']
    · unfold mX7_checkFaultKind; rw [if_neg h2, if_pos h3']
theorem meth_cases (x : Int32) : (tX7_checkMethod x = some 0 ∧ mX8_in x 0 2 = some 0) ∨ ∃ c, c < 3 ∧ x = nI c ∧ tX7_checkMethod x = none ∧ mX7_checkMethod x = some () ∧ mX8_in x 0 2 = some 1 := by
  rcases rng (x := x) (n := 3) (by omega) (by omega) with ⟨h1, h2⟩ | ⟨c, hc, h1, h2, h3, h4, h5⟩
  · refine Or.inl ⟨?_, in_rng (n := 3) h1⟩
    unfold tX7_checkMethod
    rcases h2 with h | ⟨h, h'⟩
    · rw [if_pos h]
    · have h'' : ¬ x < (3 : Int32) := h'
      rw [if_neg h, if_neg h'']
  · have h3' : x < (3 : Int32) := h3
    refine Or.inr ⟨c, hc, h1, ?_, ?_, in_rng1 (n := 3) h4 h5⟩
    · unfold tX7_checkMethod; rw [if_neg h2, if_pos h3']
    · unfold mX7_checkMethod; rw [if_neg h2, if_pos h3']
theorem step_cases {sq tr : Nat → Int32} {N : Nat} (hq : sq 0 = nI N) (ht : tr 4 = nI N) (hN : N ≤ 16) (x : Int32) : (tX7_checkStep sq x = some 2 ∧ mX8_isStep tr x = some 0) ∨ ∃ j, j < N ∧ x = nI j ∧ tX7_checkStep sq x = none ∧ mX7_checkStep sq x = some () ∧ mX8_isStep tr x = some 1 := by
  rcases Nat.eq_zero_or_pos N with h0 | h0
  · subst h0
    left
    unfold tX7_checkStep mX8_isStep
    rw [hq, ht, me_in]
    have hno : ¬ ((0 : Int32) ≤ x ∧ x ≤ nI 0 - 1) := fun h9 => by
      have : (0 : Int32) ≤ nI 0 - 1 := Int32.le_trans h9.1 h9.2
      exact absurd this (by decide)
    rw [if_neg hno]
    refine ⟨?_, rfl⟩
    by_cases h : x < 0
    · rw [if_pos h]
    · rw [if_neg h]
      exact if_neg h
  · rcases rng (x := x) (n := N) h0 (by omega) with ⟨h1, h2⟩ | ⟨c, hc, h1, h2, h3, h4, h5⟩
    · left
      unfold tX7_checkStep mX8_isStep
      rw [hq, ht, mq_pred h0, in_rng h1]
      refine ⟨?_, rfl⟩
      rcases h2 with h | ⟨h, h'⟩
      · rw [if_pos h]
      · rw [if_neg h, if_neg h']
    · right
      refine ⟨c, hc, h1, ?_, ?_, ?_⟩
      · unfold tX7_checkStep; rw [hq, if_neg h2, if_pos h3]
      · unfold mX7_checkStep; rw [hq, if_neg h2, if_pos h3]
      · unfold mX8_isStep; rw [ht, mq_pred h0, in_rng1 h4 h5]; rfl
theorem seq_cases {sq : Nat → Int32} {N : Nat} (hq : sq 0 = nI N) (hN : N ≤ 16) : (N = 0 ∧ tX7_checkSequence sq = some 1) ∨ (0 < N ∧ tX7_checkSequence sq = none ∧ mX7_checkSequence sq = some ()) := by
  rcases Nat.eq_zero_or_pos N with h0 | h0
  · subst h0
    left
    unfold tX7_checkSequence
    exact ⟨rfl, if_pos hq⟩
  · right
    unfold tX7_checkSequence mX7_checkSequence
    rw [hq]
    exact ⟨h0, if_neg (nI_ne0 h0 (by omega)), if_neg (nI_ne0 h0 (by omega))⟩
theorem tc_some {k : Nat} {y : Option Nat} : bq_tc (some k) y = some k := rfl
theorem tc_none {y : Option Nat} : bq_tc none y = y := rfl
/-- what a step of the sequence is, on both sides -/
theorem inv_step {T n : Nat} {σ : Nat → Nat → Int32} (h : INV T n σ) {N : Nat} (hN : σ 11 0 = nI N) (hN16 : N ≤ 16) (h0 : 0 < N) : ∃ F G cf, SQ N F G cf (σ 11) (σ 12) (σ 13) (σ 14) (σ 16) (σ 17) (σ 40) (σ 42) (σ 41) (σ 43) (σ 44) ∧ SX N (σ 17) (σ 14) (σ 15) := by
  rcases inv_sq h with ⟨h1, _⟩ | ⟨N', F, G, cf, h1, h2⟩
  · rw [hN] at h1
    exact absurd h1 (nI_ne0 h0 (by omega))
  · have hq := h1.2.1.1
    rw [hN] at hq
    have hN' := h1.1.1.2
    have : N = N' := (nI_eq (by omega) (by omega)).mp hq
    subst this
    exact ⟨F, G, cf, h1, h2⟩
theorem c_moves {T n : Nat} {σ : Nat → Nat → Int32} (h : INV T n σ) (o : Nat → Int64) (x : Int32) : STR (tL_moves (σ 11) (σ 14) (σ 17) o x) (mL_moves (σ 11) (σ 14) (σ 17) o x) (mX8_moves (σ 40) (σ 41) (σ 43) x) (σ 40) := by
  obtain ⟨N, me, start, ac, n', hN, hn', hq, ht, hO⟩ := inv_ob h
  rcases step_cases (tr := upd (σ 40) 3 0) hq ht hN x with ⟨g1, g2⟩ | ⟨j, hj, rfl, g1, g2, g3⟩
  · refine str_t (e := 2) (k := 1) (b := 0) (by unfold tX7_moves; rw [g1, tc_some]) rfl (by decide) ?_
    unfold mX8_moves
    rw [me_let, g2, me_bd, if_pos rfl, mr_fails]; rfl
  · obtain ⟨F, G, cf, hS, _⟩ := inv_step h hq hN (by omega)
    obtain ⟨p1, p2, p3⟩ := hS.1.2.1 j hj
    refine str_m (v := σ 17 j ||| σ 14 j) ?_ ?_
    · unfold mX7_moves
      rw [g2, me_bd, me_movesIn _ _ (by omega), me_bd]
    · unfold mX8_moves
      rw [me_let, g3, me_bd, if_neg (by decide), me_ci _ (by omega) (by omega), me_ci _ (by omega) (by omega), me_b2, nI_clamp (by omega), p1, p2]
theorem c_direction {T n : Nat} {σ : Nat → Nat → Int32} (h : INV T n σ) (o : Nat → Int64) (x y : Int32) : STR (tL_direction (σ 11) (σ 14) (σ 17) o x y) (mL_direction (σ 11) (σ 14) (σ 17) o x y) (mX8_direction (σ 40) (σ 41) (σ 43) x y) (σ 40) := by
  obtain ⟨N, me, start, ac, n', hN, hn', hq, ht, hO⟩ := inv_ob h
  rcases step_cases (tr := upd (σ 40) 3 0) hq ht hN x with ⟨g1, g2⟩ | ⟨j, hj, rfl, g1, g2, g3⟩
  · refine str_t (e := 2) (k := 1) (b := 0) (by unfold tX7_direction; rw [g1, tc_some]) rfl (by decide) ?_
    unfold mX8_direction
    rw [me_let, g2, me_bd, if_pos rfl, mr_fails]; rfl
  · rcases cyl_cases y with ⟨k1, k2⟩ | ⟨c, hc, rfl, k1, k2, k3⟩
    · refine str_t (e := 2) (k := 1) (b := 0) (by unfold tX7_direction; rw [g1, tc_none, g2, me_bd, k1, tc_some]) rfl (by decide) ?_
      unfold mX8_direction
      rw [me_let, g3, me_bd, if_neg (by decide), k2, me_bd, if_pos rfl, mr_fails]; rfl
    · obtain ⟨F, G, cf, hS, _⟩ := inv_step h hq hN (by omega)
      obtain ⟨p1, p2, p3⟩ := hS.1.2.1 j hj
      have hd := hS.1.2.2.2.2.1 j hj c hc
      refine str_m (v := (if bt (σ 17 j) c then 1 else 0) - (if bt (σ 14 j) c then 1 else 0)) ?_ ?_
      · unfold mX7_direction
        rw [g2, me_bd, k2, me_bd, me_ci _ (by omega) (by omega), nI_clamp (by omega), me_holds _ (by omega), me_bd, me_ci _ (by omega) (by omega), me_holds _ (by omega), me_bd, me_let]
        revert hd
        generalize bt (σ 17 j) c = a
        generalize bt (σ 14 j) c = b
        intro hd
        cases a <;> cases b <;> first | rfl | exact absurd ⟨rfl, rfl⟩ hd
      · unfold mX8_direction
        rw [me_let, g3, me_bd, if_neg (by decide), k3, me_bd, if_neg (by decide), me_dirOf _ _ (by omega) (by omega), me_bd, me_b2, p1, p2]
theorem c_pause {T n : Nat} {σ : Nat → Nat → Int32} (h : INV T n σ) (o : Nat → Int64) (x : Int32) : STR (tL_pause (σ 11) (σ 16) o x) (mL_pause (σ 11) (σ 16) o x) (mX8_pause (σ 40) (σ 44) x) (σ 40) := by
  obtain ⟨N, me, start, ac, n', hN, hn', hq, ht, hO⟩ := inv_ob h
  rcases step_cases (tr := upd (σ 40) 3 0) hq ht hN x with ⟨g1, g2⟩ | ⟨j, hj, rfl, g1, g2, g3⟩
  · refine str_t (e := 2) (k := 1) (b := 0) (by unfold tX7_pause; rw [g1, tc_some]) rfl (by decide) ?_
    unfold mX8_pause
    rw [me_let, g2, me_bd, if_pos rfl, mr_fails]; rfl
  · obtain ⟨F, G, cf, hS, _⟩ := inv_step h hq hN (by omega)
    obtain ⟨p1, p2, p3⟩ := hS.1.2.1 j hj
    refine str_m (v := σ 16 j) ?_ ?_
    · unfold mX7_pause
      rw [g2, me_bd, me_ci _ (by omega) (by omega), nI_clamp (by omega)]
    · unfold mX8_pause
      rw [me_let, g3, me_bd, if_neg (by decide), me_ci _ (by omega) (by omega), me_b2, nI_clamp (by omega), p3]
theorem sp_clash_congr {N : Nat} {P M Z P' M' Z' : Nat → Int32} (h0 : 0 < N) (h : ∀ j, j < N → P' j = P j ∧ M' j = M j ∧ Z' j = Z j) {i : Nat} (hi : i < N) (c : Nat) : sp_clash N P' M' Z' i c = sp_clash N P M Z i c := by
  unfold sp_clash
  refine sp_fst_congr N 0 (fun j _ hj => ?_)
  have hb := mp_bf_lt h0 (show j < N by omega)
  unfold sp_clp sp_er
  rw [(h i hi).1, (h i hi).2.1, (h j (by omega)).1, (h j (by omega)).2.1, (h _ hb).1, (h _ hb).2.1, (h _ hb).2.2, sp_ob_congr (P := P') (M := M') (P' := P) (M' := M) i (fun k hk => ⟨(h k (by omega)).1, (h k (by omega)).2.1⟩)]
theorem c_clash {T n : Nat} {σ : Nat → Nat → Int32} (h : INV T n σ) (o : Nat → Int64) (x y : Int32) : STR (tL_clash (σ 11) (σ 14) (σ 15) (σ 16) (σ 17) o x y) (mL_clash (σ 11) (σ 14) (σ 15) (σ 16) (σ 17) o x y) (mX8_clash (σ 40) (σ 41) (σ 43) (σ 44) x y) (σ 40) := by
  obtain ⟨N, me, start, ac, n', hN, hn', hq, ht, hO⟩ := inv_ob h
  rcases step_cases (tr := upd (σ 40) 3 0) hq ht hN x with ⟨g1, g2⟩ | ⟨j, hj, rfl, g1, g2, g3⟩
  · refine str_t (e := 2) (k := 1) (b := 0) (by unfold tX7_clash; rw [g1, tc_some]) rfl (by decide) ?_
    unfold mX8_clash
    rw [me_let, g2, me_bd, if_pos rfl, mr_fails]; rfl
  · rcases cyl_cases y with ⟨k1, k2⟩ | ⟨c, hc, rfl, k1, k2, k3⟩
    · refine str_t (e := 2) (k := 1) (b := 0) (by unfold tX7_clash; rw [g1, tc_none, g2, me_bd, k1, tc_some]) rfl (by decide) ?_
      unfold mX8_clash
      rw [me_let, g3, me_bd, if_neg (by decide), k2, me_bd, if_pos rfl, mr_fails]; rfl
    · obtain ⟨F, G, cf, hS, hX⟩ := inv_step h hq hN (by omega)
      refine str_m (v := sp_clash N (σ 17) (σ 14) (σ 16) j c) ?_ ?_
      · unfold mX7_clash
        rw [g2, me_bd, k2, me_bd, me_clash hq (by omega) hN hj hc (hX.1 j hj) hS.1.2.2.2.2.1, me_bd]
      · unfold mX8_clash
        have hdr : ∀ i, i < N → ∀ c, c < 6 → ¬ (bt (σ 43 i) c = true ∧ bt (σ 41 i) c = true) := fun i hi c hc => by rw [(hS.1.2.1 i hi).1, (hS.1.2.1 i hi).2.1]; exact hS.1.2.2.2.2.1 i hi c hc
        rw [me_let, g3, me_bd, if_neg (by decide), k3, me_bd, if_neg (by decide), mr_clash (tr := upd (σ 40) 3 0) ht (by omega) hN hj hc hdr, me_bd, me_b2, sp_clash_congr (by omega) hS.1.2.1 hj]
theorem sp_cac_congr {g g' : Nat → Int32} (a : Int32) : ∀ n, (∀ c, c < n → g c = g' c) → sp_cac g a n = sp_cac g' a n := by
  intro n
  induction n with
  | zero => intro _; rfl
  | succ n ih => intro h; rw [sp_cac, sp_cac, h n (by omega), ih (fun c hc => h c (by omega))]
theorem sp_call_congr {g g' : Nat → Nat → Int32} : ∀ n, (∀ i, i < n → ∀ c, c < 6 → g i c = g' i c) → sp_call g n = sp_call g' n := by
  intro n
  induction n with
  | zero => intro _; rfl
  | succ n ih => intro h; rw [sp_call, sp_call, ih (fun i hi => h i (by omega)), sp_cac_congr _ 6 (h n (by omega))]
theorem c_clashes {T n : Nat} {σ : Nat → Nat → Int32} (h : INV T n σ) (o : Nat → Int64) : STR (tL_clashes (σ 11) (σ 14) (σ 15) (σ 16) (σ 17) o) (mL_clashes (σ 11) (σ 14) (σ 15) (σ 16) (σ 17) o) (mX8_clashes (σ 40) (σ 41) (σ 43) (σ 44)) (σ 40) := by
  obtain ⟨N, me, start, ac, n', hN, hn', hq, ht, hO⟩ := inv_ob h
  rcases seq_cases hq hN with ⟨h0, g1⟩ | ⟨h0, g1, g2⟩
  · subst h0
    refine str_t (e := 1) (k := 1) (b := 0) (by unfold tX7_clashes; rw [g1, tc_some]) rfl (by decide) ?_
    unfold mX8_clashes
    have ht' : upd (σ 40) 3 0 4 = 0 := ht
    rw [me_let, if_pos ht', mr_fails]; rfl
  · obtain ⟨F, G, cf, hS, hX⟩ := inv_step h hq hN h0
    have hdr : ∀ i, i < N → ∀ c, c < 6 → ¬ (bt (σ 43 i) c = true ∧ bt (σ 41 i) c = true) := fun i hi c hc => by rw [(hS.1.2.1 i hi).1, (hS.1.2.1 i hi).2.1]; exact hS.1.2.2.2.2.1 i hi c hc
    refine str_m (v := sp_call (sp_clash N (σ 17) (σ 14) (σ 16)) N) ?_ ?_
    · exact me_clashes hq h0 hN hX.1 hS.1.2.2.2.2.1
    · rw [mr_clashes ht h0 hN hdr, sp_call_congr N (fun i hi c _ => sp_clash_congr h0 hS.1.2.1 hi c)]
theorem c_groups {T n : Nat} {σ : Nat → Nat → Int32} (h : INV T n σ) (o : Nat → Int64) : STR (tL_groups (σ 11) o) (mL_groups (σ 11) o) (mX8_groups (σ 40)) (σ 40) := by
  obtain ⟨N, me, start, ac, n', hN, hn', hq, ht, hO⟩ := inv_ob h
  rcases seq_cases hq hN with ⟨h0, g1⟩ | ⟨h0, g1, g2⟩
  · subst h0
    refine str_t (e := 1) (k := 1) (b := 0) (by unfold tX7_groups; rw [g1, tc_some]) rfl (by decide) ?_
    unfold mX8_groups
    have ht' : upd (σ 40) 3 0 4 = 0 := ht
    rw [me_let, if_pos ht', mr_fails]; rfl
  · obtain ⟨F, G, cf, hS, hX⟩ := inv_step h hq hN h0
    have hg := hS.2.1.2.2.1
    have hg8 := hS.2.1.2.2.2
    refine str_m (v := σ 11 5) ?_ ?_
    · unfold mX7_groups
      rw [g2, me_bd]
    · unfold mX8_groups
      have ht' : ¬ upd (σ 40) 3 0 4 = 0 := by rw [mu_n _ _ (by omega), ht]; exact nI_ne0 h0 (by omega)
      rw [me_let, if_neg ht', me_b2, mu_n _ _ (by omega), hg, hg8]
theorem c_cut {T n : Nat} {σ : Nat → Nat → Int32} (h : INV T n σ) (o : Nat → Int64) (x : Int32) : STR (tL_cut (σ 11) (σ 12) o x) (mL_cut (σ 11) (σ 12) o x) (mX8_cut (σ 40) (σ 42) x) (σ 40) := by
  obtain ⟨N, me, start, ac, n', hN, hn', hq, ht, hO⟩ := inv_ob h
  have e4 : upd (σ 40) 3 0 4 = nI N := ht
  rcases Nat.eq_zero_or_pos N with h0 | h0
  · subst h0
    have h5 : σ 11 5 = 0 := by
      rcases inv_sq h with ⟨_, _, h5, _⟩ | ⟨N', F, G, cf, h1, _⟩
      · exact h5
      · have := h1.2.1.1
        rw [hq] at this
        exact absurd ((nI_eq (by omega) (by have := h1.1.1.2; omega)).mp this) (by have := h1.1.1.1; omega)
    refine str_t (e := 2) (k := 1) (b := 0) ?_ rfl (by decide) ?_
    · unfold tX7_cut
      rw [h5]
      by_cases h : x < 0
      · rw [if_pos h]
      · rw [if_neg h, if_neg h]
    · unfold mX8_cut
      rw [me_let, e4, if_pos (by decide), mr_fails]; rfl
  · obtain ⟨F, G, cf, hS, hX⟩ := inv_step h hq hN h0
    obtain ⟨hG0, hG⟩ := hS.2.2.1
    have hg := hS.2.1.2.2.1
    have hg8 : upd (σ 40) 3 0 8 = nI G := hS.2.1.2.2.2
    rcases rng (x := x) (n := G) hG0 (by omega) with ⟨h1, h2⟩ | ⟨c, hc, rfl, h2, h3, h4, h5⟩
    · refine str_t (e := 2) (k := 1) (b := 0) ?_ rfl (by decide) ?_
      · unfold tX7_cut
        rw [hg]
        rcases h2 with h | ⟨h, h'⟩
        · rw [if_pos h]
        · rw [if_neg h, if_neg h']
      · unfold mX8_cut
        rw [me_let, e4, if_neg (nI_nle h0 (by omega)), hg8, mq_pred hG0, in_rng h1, me_bd, if_pos rfl, mr_fails]; rfl
    · obtain ⟨q1, q2, q3⟩ := hS.2.2.2.1 c hc
      refine str_m (v := nI (cf c)) ?_ ?_
      · unfold mX7_cut
        rw [hg, if_neg h2, if_pos h3, me_ci _ (by omega) (by omega), nI_clamp (by omega), q1]
      · unfold mX8_cut
        rw [me_let, e4, if_neg (nI_nle h0 (by omega)), hg8, mq_pred hG0, in_rng1 h4 h5, me_bd, if_neg (by decide), me_ci _ (by omega) (by omega), me_b2, nI_clamp (by omega), q2]
theorem c_groupOf {T n : Nat} {σ : Nat → Nat → Int32} (h : INV T n σ) (o : Nat → Int64) (x : Int32) : STR (tL_groupOf (σ 11) (σ 13) o x) (mL_groupOf (σ 11) (σ 13) o x) (mX8_groupOf (σ 40) (σ 42) x) (σ 40) := by
  obtain ⟨N, me, start, ac, n', hN, hn', hq, ht, hO⟩ := inv_ob h
  rcases step_cases (tr := upd (σ 40) 3 0) hq ht hN x with ⟨g1, g2⟩ | ⟨j, hj, rfl, g1, g2, g3⟩
  · refine str_t (e := 2) (k := 1) (b := 0) (by unfold tX7_groupOf; rw [g1, tc_some]) rfl (by decide) ?_
    unfold mX8_groupOf
    rw [me_let, g2, me_bd, if_pos rfl, mr_fails]; rfl
  · obtain ⟨F, G, cf, hS, _⟩ := inv_step h hq hN (by omega)
    have hgf := hS.2.2.2.2.1 (upd (σ 40) 3 0) hS.2.1.2.2.2 j hj
    refine str_m (v := σ 13 j) ?_ ?_
    · unfold mX7_groupOf
      rw [g2, me_bd, me_ci _ (by omega) (by omega), nI_clamp (by omega)]
    · unfold mX8_groupOf
      rw [me_let, g3, me_bd, if_neg (by decide), hgf, me_bd, me_b2]
theorem mr_lacks {tr : Nat → Int32} {N : Nat} (ht : tr 4 = nI N) (hN : N ≤ 16) (x : Int32) : (mX8_in x 0 2 = some 0 → mX8_lacks tr x = some (1, upd tr 3 1)) ∧ (mX8_in x 0 2 = some 1 → (N = 0 → mX8_lacks tr x = some (1, upd tr 3 2)) ∧ (0 < N → mX8_lacks tr x = some (0, upd tr 3 0))) := by
  refine ⟨fun h => ?_, fun h => ⟨fun h0 => ?_, fun h0 => ?_⟩⟩
  · unfold mX8_lacks
    rw [h, me_bd, if_pos rfl, me_let, me_let, mu_s, if_neg (by decide)]; rfl
  · unfold mX8_lacks
    have ht' : tr 4 = 0 := by rw [ht, h0]; rfl
    rw [h, me_bd, if_neg (by decide), if_pos ht', me_let, me_let, mu_s, if_neg (by decide)]; rfl
  · unfold mX8_lacks
    rw [h, me_bd, if_neg (by decide), ht, if_neg (nI_ne0 h0 (by omega)), me_let, me_let, mu_s, if_pos rfl]; rfl
theorem c_valves {T n : Nat} {σ : Nat → Nat → Int32} (h : INV T n σ) (o : Nat → Int64) (x : Int32) : STR (tL_valves (σ 11) (σ 14) (σ 17) o x) (mL_valves (σ 11) (σ 14) (σ 17) o x) (mX8_valves (σ 40) (σ 43) x) (σ 40) := by
  obtain ⟨N, me, start, ac, n', hN, hn', hq, ht, hO⟩ := inv_ob h
  have hl := mr_lacks ht hN x
  rcases meth_cases x with ⟨g1, g2⟩ | ⟨c, hc, rfl, g1, g2, g3⟩
  · refine str_t (e := 0) (k := 1) (b := 0) (by unfold tX7_valves; rw [g1, tc_some]) rfl (by decide) ?_
    unfold mX8_valves
    rw [hl.1 g2, me_b2, if_neg (by decide), me_bd]
  · rcases seq_cases hq hN with ⟨h0, k1⟩ | ⟨h0, k1, k2⟩
    · refine str_t (e := 1) (k := 2) (b := 0) (by unfold tX7_valves; rw [g1, tc_none, g2, me_bd, k1, tc_some]) rfl (by decide) ?_
      unfold mX8_valves
      rw [(hl.2 g3).1 h0, me_b2, if_neg (by decide), me_bd]
    · obtain ⟨F, G, cf, hS, hX⟩ := inv_step h hq hN h0
      have hcp := hS.1.2.1
      have e1 : sp_vs (σ 43) N G c = sp_vs (σ 17) N G c := by
        unfold sp_vs
        rw [sp_or_congr (on := fun _ => true) (on' := fun _ => true) (P := σ 43) (P' := σ 17) N (fun i hi => ⟨rfl, (hcp i hi).1⟩)]
      refine str_m (v := sp_vs (σ 17) N G c) ?_ ?_
      · unfold mX7_valves
        rw [g2, me_bd, k2, me_bd, me_valves hq hS.2.1.2.2.1 hN hc hS.1.2.2.2.1 hX.2, me_bd]
      · unfold mX8_valves
        rw [(hl.2 g3).2 h0, me_b2, if_pos rfl, mr_valves (tr := upd (σ 40) 3 0) ht hS.2.1.2.2.2 hN hc, me_bd, me_bd, e1]
theorem mr_ofCyl {tr r : Nat → Int32} (x : Int32) (f : Nat) (hf : f < 100) : (mX8_in x 0 5 = some 0 → mX8_ofCylinder tr r x (nI f) = some (0, upd tr 3 1)) ∧ ∀ c, c < 6 → x = nI c → mX8_in x 0 5 = some 1 → mX8_ofCylinder tr r x (nI f) = some (r (f + c), upd tr 3 0) := by
  refine ⟨fun h => ?_, fun c hc hx h => ?_⟩
  · unfold mX8_ofCylinder
    rw [h, me_bd, if_pos rfl, me_let, me_let, mu_s, if_neg (by decide), me_bd]
  · subst hx
    unfold mX8_ofCylinder
    rw [h, me_bd, if_neg (by decide), me_let, me_let, mu_s, if_pos rfl, nI_add, me_ci _ (by omega) (by omega), me_bd, nI_clamp (by omega)]
theorem c_position {T n : Nat} {σ : Nat → Nat → Int32} (h : INV T n σ) (o : Nat → Int64) (x : Int32) : STR (tL_position (σ 9) o x) (mL_position (σ 9) o x) (mX8_position (σ 40) (σ 48) x) (σ 40) := by
  obtain ⟨N, me, start, ac, n', hN, hn', hq, ht, hO⟩ := inv_ob h
  have hr := mr_ofCyl (tr := σ 40) (r := σ 48) x 20 (by omega)
  rcases cyl_cases x with ⟨k1, k2⟩ | ⟨c, hc, rfl, k1, k2, k3⟩
  · refine str_t (e := 2) (k := 1) (b := 0) (by unfold tX7_position; rw [k1, tc_some]) rfl (by decide) ?_
    unfold mX8_position
    have := hr.1 k2
    rw [show mX8_ofCylinder (σ 40) (σ 48) x 20 = _ from this, me_b2]
  · refine str_m (v := σ 9 c) ?_ ?_
    · unfold mX7_position
      rw [k2, me_bd, me_ci _ (by omega) (by omega), nI_clamp (by omega)]
    · unfold mX8_position
      have := hr.2 c hc rfl k3
      rw [show mX8_ofCylinder (σ 40) (σ 48) (nI c) 20 = _ from this, me_b2, (hO.2.2.2.1 c hc).1]
theorem c_isOut {T n : Nat} {σ : Nat → Nat → Int32} (h : INV T n σ) (o : Nat → Int64) (x : Int32) : STB (tL_isOut (σ 3) o x) (mL_isOut (σ 3) o x) (mX8_isOut (σ 40) (σ 48) x) (σ 40) := by
  obtain ⟨N, me, start, ac, n', hN, hn', hq, ht, hO⟩ := inv_ob h
  have hr := mr_ofCyl (tr := σ 40) (r := σ 48) x 26 (by omega)
  rcases cyl_cases x with ⟨k1, k2⟩ | ⟨c, hc, rfl, k1, k2, k3⟩
  · refine stb_t (e := 2) (k := 1) (b := 0) (by unfold tX7_isOut; rw [k1, tc_some]) rfl (by decide) ?_
    unfold mX8_isOut
    have := hr.1 k2
    rw [show mX8_ofCylinder (σ 40) (σ 48) x 26 = _ from this, me_b2, me_let, if_neg (by decide)]; rfl
  · refine stb_m (v := if bt (σ 3 9) c then 1 else 0) ?_ ?_
    · unfold mX7_isOut
      rw [k2, me_bd, me_holds _ (by omega), me_bd, me_cbi]
    · unfold mX8_isOut
      have := hr.2 c hc rfl k3
      rw [show mX8_ofCylinder (σ 40) (σ 48) (nI c) 26 = _ from this, me_b2, (hO.2.2.2.1 c hc).2.1, me_let]
      cases bt (σ 3 9) c <;> rfl
theorem c_commands {T n : Nat} {σ : Nat → Nat → Int32} (h : INV T n σ) (o : Nat → Int64) (x : Int32) : STR (tL_commands (σ 4) o x) (mL_commands (σ 4) o x) (mX8_commands (σ 40) (σ 48) x) (σ 40) := by
  obtain ⟨N, me, start, ac, n', hN, hn', hq, ht, hO⟩ := inv_ob h
  have hr := mr_ofCyl (tr := σ 40) (r := σ 48) x 32 (by omega)
  rcases cyl_cases x with ⟨k1, k2⟩ | ⟨c, hc, rfl, k1, k2, k3⟩
  · refine str_t (e := 2) (k := 1) (b := 0) (by unfold tX7_commands; rw [k1, tc_some]) rfl (by decide) ?_
    unfold mX8_commands
    have := hr.1 k2
    rw [show mX8_ofCylinder (σ 40) (σ 48) x 32 = _ from this, me_b2]
  · refine str_m (v := sp_cmd (bt (σ 4 2) c) (bt (σ 4 3) c)) ?_ ?_
    · unfold mX7_commands mX0_commandsOf
      rw [k2, me_bd, me_holds _ (by omega), me_bd, me_let, me_holds _ (by omega), me_bd, me_let, me_bd]
      unfold sp_cmd
      cases bt (σ 4 2) c <;> cases bt (σ 4 3) c <;> rfl
    · unfold mX8_commands
      have := hr.2 c hc rfl k3
      rw [show mX8_ofCylinder (σ 40) (σ 48) (nI c) 32 = _ from this, me_b2, (hO.2.2.2.1 c hc).2.2.1]
theorem c_timer {T n : Nat} {σ : Nat → Nat → Int32} (h : INV T n σ) (o : Nat → Int64) (x : Int32) : STR (tL_timer (σ 11) (σ 19) o x) (mL_timer (σ 11) (σ 19) o x) (mX8_timer (σ 40) (σ 48) x) (σ 40) := by
  obtain ⟨N, me, start, ac, n', hN, hn', hq, ht, hO⟩ := inv_ob h
  rcases step_cases (tr := upd (σ 40) 3 0) hq ht hN x with ⟨g1, g2⟩ | ⟨j, hj, rfl, g1, g2, g3⟩
  · refine str_t (e := 2) (k := 1) (b := 0) (by unfold tX7_timer; rw [g1, tc_some]) rfl (by decide) ?_
    unfold mX8_timer
    rw [me_let, g2, me_bd, if_pos rfl, mr_fails]; rfl
  · refine str_m (v := σ 19 j) ?_ ?_
    · unfold mX7_timer
      rw [g2, me_bd, me_ci _ (by omega) (by omega), nI_clamp (by omega)]
    · unfold mX8_timer
      have e44 : (44 : Int32) + nI j = nI (44 + j) := nI_add 44 j
      rw [me_let, g3, me_bd, if_neg (by decide), e44, me_ci _ (by omega) (by omega), me_b2, nI_clamp (by omega), (hO.2.2.2.2.1 j hj).1]
end
