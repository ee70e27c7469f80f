def sp_or (on : Nat → Bool) (P : Nat → Int32) : Nat → Int32
  | 0 => 0
  | n + 1 => if on n then sp_or on P n ||| P n else sp_or on P n
theorem sp_or_bt (on : Nat → Bool) (P : Nat → Int32) (c : Nat) : ∀ n, bt (sp_or on P n) c = true ↔ ∃ i, i < n ∧ on i = true ∧ bt (P i) c = true := by
  intro n
  induction n with
  | zero =>
    rw [sp_or, b_0]
    exact ⟨fun h => (by cases h), fun ⟨i, h, _⟩ => absurd h (Nat.not_lt_zero i)⟩
  | succ n ih =>
    rw [sp_or]
    by_cases ho : on n = true
    · rw [if_pos ho, b_or, Bool.or_eq_true, ih]
      constructor
      · rintro (⟨i, h1, h2, h3⟩ | h)
        · exact ⟨i, by omega, h2, h3⟩
        · exact ⟨n, by omega, ho, h⟩
      · rintro ⟨i, h1, h2, h3⟩
        rcases Nat.lt_or_ge i n with h | h
        · exact Or.inl ⟨i, h, h2, h3⟩
        · rw [show i = n by omega] at h3
          exact Or.inr h3
    · rw [if_neg ho, ih]
      constructor
      · rintro ⟨i, h1, h2, h3⟩
        exact ⟨i, by omega, h2, h3⟩
      · rintro ⟨i, h1, h2, h3⟩
        rcases Nat.lt_or_ge i n with h | h
        · exact ⟨i, h, h2, h3⟩
        · rw [show i = n by omega] at h2
          exact absurd h2 ho
/-- a circuit's cell with these commands and timers -/
def sp_cir (t : Nat → Int32) (a b c : Int32) : Nat → Int32 := fun k => if k = 2 then a else if k = 3 then b else if k = 4 then c else t k
theorem sp_cir_2 (t : Nat → Int32) (a b c x : Int32) : upd (sp_cir t a b c) 2 x = sp_cir t x b c := by
  funext k
  unfold upd sp_cir
  by_cases h : k = 2
  · rw [if_pos h, if_pos h]
  · rw [if_neg h, if_neg h, if_neg h]
theorem sp_cir_3 (t : Nat → Int32) (a b c x : Int32) : upd (sp_cir t a b c) 3 x = sp_cir t a x c := by
  funext k
  unfold upd sp_cir
  by_cases h : k = 3
  · subst h; rfl
  · rw [if_neg h, if_neg h, if_neg h]
theorem sp_cir_4 (t : Nat → Int32) (a b c x : Int32) : upd (sp_cir t a b c) 4 x = sp_cir t a b x := by
  funext k
  unfold upd sp_cir
  by_cases h : k = 4
  · subst h; rfl
  · rw [if_neg h, if_neg h, if_neg h]
theorem sp_cir_1 (t : Nat → Int32) (a b c x : Int32) : upd (sp_cir t a b c) 1 x = sp_cir (upd t 1 x) a b c := by
  funext k
  unfold upd sp_cir
  by_cases h : k = 1
  · subst h; rfl
  · simp only [if_neg h]
theorem me_allOff (t : Nat → Int32) : mX0_switchAllOff t = some (sp_cir t 0 0 0) := by
  have e : upd (upd (upd t 2 0) 3 0) 4 0 = sp_cir t 0 0 0 := by
    funext k
    unfold upd sp_cir
    by_cases h2 : k = 2
    · subst h2; rfl
    · by_cases h3 : k = 3
      · subst h3; rfl
      · by_cases h4 : k = 4
        · subst h4; rfl
        · rw [if_neg h4, if_neg h3, if_neg h2, if_neg h2, if_neg h3, if_neg h4]
  unfold mX0_switchAllOff
  rw [me_let, me_let, me_let, e]
theorem me_switchOn (t : Nat → Int32) (a b c : Int32) (M Z P : Nat → Int32) {j : Nat} (hj : j < 16) : mX0_switchOn (sp_cir t a b c) M Z P (nI j) = some (sp_cir t (a ||| P j) (b ||| M j) (if Z j ≤ 0 then c else c ||| ((1 : Int32) <<< (nI j &&& 31)))) := by
  unfold mX0_switchOn
  rw [me_ci _ hj (by omega), me_let, me_ci _ hj (by omega), me_let, me_ci _ hj (by omega), nI_clamp (by omega)]
  have e2 : sp_cir t a b c 2 = a := rfl
  rw [e2, sp_cir_2]
  have e3 : sp_cir t (a ||| P j) b c 3 = b := rfl
  rw [e3, sp_cir_3]
  by_cases h : Z j ≤ 0
  · rw [if_pos h, me_bd, if_pos h]
  · have e4 : sp_cir t (a ||| P j) (b ||| M j) c 4 = c := rfl
    rw [if_neg h, me_let, e4, sp_cir_4, me_bd, if_neg h]
/-- the commands and timers that the steps of a set switch on -/
def sp_onc (t : Nat → Int32) (P M Z : Nat → Int32) (on : Nat → Bool) (n : Nat) : Nat → Int32 := sp_cir t (sp_or on P n) (sp_or on M n) (sp_bits (fun i => on i && decide (¬ Z i ≤ 0)) n)
theorem sp_onc_s (t : Nat → Int32) (P M Z : Nat → Int32) {on : Nat → Bool} {n : Nat} (h : on n = true) (hn : n < 16) : mX0_switchOn (sp_onc t P M Z on n) M Z P (nI n) = some (sp_onc t P M Z on (n + 1)) := by
  unfold sp_onc
  rw [me_switchOn _ _ _ _ _ _ _ hn, sp_or, sp_or, if_pos h, if_pos h, sp_bits]
  by_cases hz : Z n ≤ 0
  · rw [if_pos hz, if_neg (by rw [decide_eq_false (fun h9 => h9 hz), Bool.and_false]; decide)]
  · rw [if_neg hz, if_pos (by rw [h, decide_eq_true hz]; rfl)]
theorem sp_onc_n (t : Nat → Int32) (P M Z : Nat → Int32) {on : Nat → Bool} {n : Nat} (h : on n = false) : sp_onc t P M Z on (n + 1) = sp_onc t P M Z on n := by
  unfold sp_onc
  rw [sp_or, sp_or, sp_bits, if_neg (by rw [h]; decide), if_neg (by rw [h]; decide), if_neg (by rw [h, Bool.false_and]; decide)]
theorem me_direct {p1 : Nat → Int32} (t M Z P : Nat → Int32) {N : Nat} (hq : p1 0 = nI N) (hN : N ≤ 16) (x : Int32) : mX0_decideDirect (sp_cir t 0 0 0) p1 M Z P x = some (sp_onc t P M Z (bt x) N) := by
  have h : bq_loop (bq_u2 (bX0_decideDirect_2 p1 M Z P x)) (0, sp_cir t 0 0 0) = some (sp_onc t P M Z (bt x) N) := by
    refine ml_run (fun j => (nI j, sp_onc t P M Z (bt x) j)) N (fun j hj => ?_) ?_
    · rw [me_u2]
      unfold bX0_decideDirect_2
      rw [hq, if_neg (mq_nle (by omega) (by omega)), me_holds _ (by omega), me_bd]
      cases hb : bt x j
      · rw [if_pos (by decide), me_bd, me_let, nI_1, sp_onc_n _ _ _ _ hb]
      · rw [if_neg (by decide), sp_onc_s _ _ _ _ hb (by omega), me_bd, me_bd, me_let, nI_1]
    · rw [me_u2]
      unfold bX0_decideDirect_2
      rw [hq, if_pos (mq_rfl _)]
  unfold mX0_decideDirect
  rw [h]
  rfl
/-- which steps are ready: the step before is complete, for step 0 the start signal is on too -/
def sp_rd (cm : Nat → Bool) (start : Bool) (N i : Nat) : Bool := cm (mp_bf N i) && (decide (0 < i) || start)
theorem me_ready {p1 : Nat → Int32} {cm : Nat → Bool} {start : Bool} {N : Nat} (hq : p1 0 = nI N) (h0 : 0 < N) (hN : N ≤ 16) : ∃ x, mX0_readySteps p1 (sp_bits cm N) (if start then 1 else 0) = some x ∧ ∀ i, i < N → bt x i = sp_rd cm start N i := by
  have hb : bt (sp_bits cm N) (N - 1) = cm (N - 1) := by rw [sp_bits_bt _ _ (by omega) _ (by omega), decide_eq_true (by omega), Bool.true_and]
  have hsb : mX5_stepBefore p1 0 = some (nI (N - 1)) := by
    have := me_stepBefore hq h0 hN (j := 0) (by omega)
    exact this
  have e1 : mX0_readySteps p1 (sp_bits cm N) (if start then 1 else 0) = some (((sp_bits cm N) <<< (nI 1 &&& 31)) ||| (if (start && cm (N - 1)) = true then (1 : Int32) else 0)) := by
    unfold mX0_readySteps
    cases start
    · simp only [Bool.false_eq_true, if_false, if_true, me_bd, me_let, Bool.false_and]
      rfl
    · rw [if_pos rfl, if_neg (by decide), hsb, me_bd, me_holds _ (by omega), hb, me_bd, Bool.true_and]
      cases cm (N - 1)
      · simp only [Bool.false_eq_true, if_false, if_true, me_bd, me_let]
        rfl
      · simp only [if_true, me_bd, me_let]
        rfl
  refine ⟨_, e1, fun i hi => ?_⟩
  have hv : bt (if (start && cm (N - 1)) = true then (1 : Int32) else 0) i = (decide (i = 0) && (start && cm (N - 1))) := by
    cases (start && cm (N - 1))
    · rw [if_neg (by decide), b_0, Bool.and_false]
    · rw [if_pos rfl, mb_1 i (by omega), Bool.and_true]
  rw [b_or, b_shl 1 (by omega) _ (by omega), hv]
  unfold sp_rd mp_bf
  by_cases hz : i = 0
  · subst hz
    rw [if_pos rfl, decide_eq_false (by omega), Bool.false_and, Bool.false_or, decide_eq_true rfl, Bool.true_and, decide_eq_false (by omega), Bool.false_or, Bool.and_comm]
  · rw [if_neg hz, decide_eq_true (by omega), Bool.true_and, decide_eq_false hz, Bool.false_and, Bool.or_false, sp_bits_bt _ _ (by omega) _ (by omega), decide_eq_true (by omega), Bool.true_and, decide_eq_true (by omega), Bool.true_or, Bool.and_true]
theorem mq_or0 (x : Int32) : x ||| 0 = x := b_ext (fun i hi => by rw [b_or, b_0, Bool.or_false])
theorem mq_pos {j : Nat} (hj : j < 2 ^ 31) : ((0 : Int32) < nI j) ↔ 0 < j := nI_ltI (a := 0) (by omega) hj
/-- completion as the reference reads it -/
def sp_rcm (P M Z st r : Nat → Int32) : Nat → Bool := sp_cm P M Z (fun i => r (44 + i)) (fun c => sp_rs st r c true) (fun c => sp_rs st r c false)
theorem mr_isComplete {M P Z st r : Nat → Int32} {N i : Nat} (hN : N ≤ 16) (hi : i < N) (hd : ∀ i, i < N → ∀ c, c < 6 → ¬ (bt (P i) c = true ∧ bt (M i) c = true)) : mX8_isComplete M P Z st r (nI i) = some (if sp_rcm P M Z st r i then 1 else 0) := me_isComplete (by omega) (hd i hi)
theorem mr_direct {t M P Z st r : Nat → Int32} {N : Nat} (ht : t 4 = nI N) (h0 : 0 < N) (hN : N ≤ 16) (hd : ∀ i, i < N → ∀ c, c < 6 → ¬ (bt (P i) c = true ∧ bt (M i) c = true)) (start : Bool) :
    bq_loop (bq_u2 (bX8_decides_24 t M P Z st r (if start then 1 else 0))) (0, 0) = some (sp_bits (sp_rd (sp_rcm P M Z st r) start N) N) := by
  refine ml_run (fun j => (nI j, sp_bits (sp_rd (sp_rcm P M Z st r) start N) j)) N (fun j hj => ?_) ?_
  · rw [me_u2]
    unfold bX8_decides_24
    rw [ht, if_neg (mq_nle (by omega) (by omega)), me_before ht h0 hN (by omega), me_bd, mr_isComplete hN (mp_bf_lt h0 hj) hd, me_bd, me_let, me_let, me_let, nI_1]
    have key : (sp_bits (sp_rd (sp_rcm P M Z st r) start N) j ||| (if (if sp_rcm P M Z st r (mp_bf N j) = true then (1 : Int32) else 0) = 0 then (0 : Int32) else (if 0 < nI j then (1 : Int32) <<< (nI j &&& 31) else (if (if start = true then (1 : Int32) else 0) = 0 then 0 else (1 : Int32) <<< (nI j &&& 31))))) = sp_bits (sp_rd (sp_rcm P M Z st r) start N) (j + 1) := by
      rw [sp_bits]
      have er : sp_rd (sp_rcm P M Z st r) start N j = (sp_rcm P M Z st r (mp_bf N j) && (decide (0 < j) || start)) := rfl
      rw [er]
      cases sp_rcm P M Z st r (mp_bf N j)
      · simp [mq_or0]
      · by_cases hz : 0 < j
        · have := (mq_pos (j := j) (by omega)).mpr hz
          simp [hz, this]
        · have h9 : ¬ (0 : Int32) < nI j := fun h => hz ((mq_pos (by omega)).mp h)
          cases start
          · simp [hz, h9, mq_or0]
          · simp [hz, h9]
    rw [key]
  · rw [me_u2]
    unfold bX8_decides_24
    rw [ht, if_pos (mq_rfl _)]
