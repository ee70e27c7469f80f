/-- the set of the numbers below n with p, as bits -/
def sp_bits (p : Nat → Bool) : Nat → Int32
  | 0 => 0
  | n + 1 => if p n then sp_bits p n ||| ((1 : Int32) <<< (nI n &&& 31)) else sp_bits p n
theorem sp_bits_bt (p : Nat → Bool) : ∀ (n : Nat), n ≤ 32 → ∀ i, i < 32 → bt (sp_bits p n) i = (decide (i < n) && p i) := by
  intro n
  induction n with
  | zero =>
    intro _ i _
    rw [sp_bits, b_0, decide_eq_false (by omega), Bool.false_and]
  | succ n ih =>
    intro hn i hi
    rw [sp_bits]
    by_cases hp : p n = true
    · rw [if_pos hp, mb_set _ (by omega) hi, ih (by omega) i hi]
      by_cases h : i = n
      · subst h
        simp [hp]
      · rw [decide_eq_false h, Bool.or_false]
        by_cases h2 : i < n
        · rw [decide_eq_true h2, decide_eq_true (by omega : i < n + 1)]
        · rw [decide_eq_false h2, decide_eq_false (by omega : ¬ i < n + 1)]
    · rw [if_neg hp, ih (by omega) i hi]
      by_cases h : i = n
      · subst h
        simp [hp]
      · by_cases h2 : i < n
        · rw [decide_eq_true h2, decide_eq_true (by omega : i < n + 1)]
        · rw [decide_eq_false h2, decide_eq_false (by omega : ¬ i < n + 1)]
theorem mq_le {a j : Nat} (ha : a < 2 ^ 31) (hj : j < 2 ^ 31) : (nI a ≤ nI j) ↔ a ≤ j := nI_leI ha hj
theorem mq_and2 (y : Int32) : (y &&& 2) = 0 ↔ bt y 1 = false := by
  have h2 : ∀ j, j < 32 → bt 2 j = decide (j = 1) := by decide +kernel
  rw [mb_zero]
  constructor
  · intro h
    have := h 1 (by omega)
    rw [b_and, h2 1 (by omega), decide_eq_true rfl, Bool.and_true] at this
    exact this
  · intro h i hi
    rw [b_and, h2 i hi]
    by_cases h1 : i = 1
    · subst h1; rw [h, Bool.false_and]
    · rw [decide_eq_false h1, Bool.and_false]
theorem mq_bits_step (p : Nat → Bool) {j : Nat} : (if p j = true then sp_bits p j ||| ((1 : Int32) <<< (nI j &&& 31)) else sp_bits p j) = sp_bits p (j + 1) := rfl
theorem me_sensedR (fa po : Nat → Int32) : mX3_sensedRetracted fa po = some ((sp_bits (fun c => decide (po c = 0)) 6 ||| fa 2) &&& (fa 1 ^^^ (-1))) := by
  have h : bq_loop (bq_u2 (bX3_sensedRetracted_4 po)) (0, 0) = some (sp_bits (fun c => decide (po c = 0)) 6) := by
    refine ml_run (fun j => (nI j, sp_bits (fun c => decide (po c = 0)) j)) 6 (fun j hj => ?_) ?_
    · rw [me_u2]
      unfold bX3_sensedRetracted_4
      rw [if_neg (mq_6 hj), me_ci _ hj (by omega), nI_clamp (by omega), me_let, me_let, nI_1]
      simp only [sp_bits, decide_eq_true_eq]
    · rw [me_u2]
      unfold bX3_sensedRetracted_4
      rw [if_pos (by decide)]
  unfold mX3_sensedRetracted
  rw [h]
  rfl
theorem me_sensedE (fa po st : Nat → Int32) : mX3_sensedExtended fa po st = some ((sp_bits (fun c => decide (po c = st c)) 6 ||| fa 4) &&& (fa 3 ^^^ (-1))) := by
  have h : bq_loop (bq_u2 (bX3_sensedExtended_4 po st)) (0, 0) = some (sp_bits (fun c => decide (po c = st c)) 6) := by
    refine ml_run (fun j => (nI j, sp_bits (fun c => decide (po c = st c)) j)) 6 (fun j hj => ?_) ?_
    · rw [me_u2]
      unfold bX3_sensedExtended_4
      rw [if_neg (mq_6 hj), me_ci _ hj (by omega), me_ci _ hj (by omega), nI_clamp (by omega), me_let, me_let, nI_1]
      simp only [sp_bits, decide_eq_true_eq]
    · rw [me_u2]
      unfold bX3_sensedExtended_4
      rw [if_pos (by decide)]
  unfold mX3_sensedExtended
  rw [h]
  rfl
/-- how a sensor is read (s: 1), by positions, strokes and faults of the class -/
def sp_sn (fa po st : Nat → Int32) (c : Nat) (s : Bool) : Bool := !bt (fa (if s then 3 else 1)) c && (decide (po c = if s then st c else 0) || bt (fa (if s then 4 else 2)) c)
theorem me_snR (fa po st : Nat → Int32) {c : Nat} (hc : c < 6) : bt ((sp_bits (fun c => decide (po c = 0)) 6 ||| fa 2) &&& (fa 1 ^^^ (-1))) c = sp_sn fa po st c false := by
  rw [b_and, b_or, mb_not _ (by omega), sp_bits_bt _ 6 (by omega) c (by omega), decide_eq_true hc, Bool.true_and]
  simp only [sp_sn, Bool.false_eq_true, if_false]
  rw [Bool.and_comm]
theorem me_snE (fa po st : Nat → Int32) {c : Nat} (hc : c < 6) : bt ((sp_bits (fun c => decide (po c = st c)) 6 ||| fa 4) &&& (fa 3 ^^^ (-1))) c = sp_sn fa po st c true := by
  rw [b_and, b_or, mb_not _ (by omega), sp_bits_bt _ 6 (by omega) c (by omega), decide_eq_true hc, Bool.true_and]
  simp only [sp_sn, if_true]
  rw [Bool.and_comm]
def sp_all (p : Nat → Bool) : Nat → Bool
  | 0 => true
  | n + 1 => sp_all p n && p n
theorem sp_all_iff (p : Nat → Bool) : ∀ n, sp_all p n = true ↔ ∀ c, c < n → p c = true := by
  intro n
  induction n with
  | zero => exact ⟨fun _ c hc => absurd hc (Nat.not_lt_zero c), fun _ => rfl⟩
  | succ n ih =>
    rw [sp_all, Bool.and_eq_true, ih]
    constructor
    · intro h c hc
      rcases Nat.lt_or_ge c n with h1 | h1
      · exact h.1 c h1
      · rw [show c = n by omega]; exact h.2
    · intro h
      exact ⟨fun c hc => h c (by omega), h n (by omega)⟩
theorem sp_imp (X : Int32) (s : Nat → Bool) : sp_all (fun c => !bt X c || s c) 6 = true ↔ ∀ c, c < 6 → bt X c = true → s c = true := by
  rw [sp_all_iff]
  constructor
  · intro h c hc hb
    have := h c hc
    rw [hb] at this
    exact this
  · intro h c hc
    cases hb : bt X c
    · rfl
    · rw [h c hc hb]; rfl
/-- a step is complete -/
def sp_cm (P M Z ti : Nat → Int32) (se sr : Nat → Bool) (i : Nat) : Bool := sp_all (fun c => !bt (P i) c || se c) 6 && sp_all (fun c => !bt (M i) c || sr c) 6 && decide (¬ ti i < Z i)
theorem mq_sub {X Y : Int32} {se : Nat → Bool} (hX : ∀ c, c < 32 → bt X c = true → c < 6) (hY : ∀ c, c < 6 → bt Y c = se c) : ((X &&& (Y ^^^ (-1))) = 0) ↔ sp_all (fun c => !bt X c || se c) 6 = true := by
  rw [mb_zero, sp_imp]
  constructor
  · intro h c hc hb
    have := h c (by omega)
    rw [b_and, mb_not _ (by omega), hb, hY c hc] at this
    cases hs : se c
    · rw [hs] at this; exact absurd this (by decide)
    · rfl
  · intro h i hi
    rw [b_and, mb_not _ hi]
    cases hb : bt X i
    · rfl
    · have h6 := hX i hi hb
      rw [hY i h6, h i h6 hb]
      rfl
theorem me_complete {fa po sq M Z P st ti : Nat → Int32} {N : Nat} (hq : sq 0 = nI N) (hN : N ≤ 16) (hP : ∀ i, i < N → ∀ c, c < 32 → bt (P i) c = true → c < 6) (hM : ∀ i, i < N → ∀ c, c < 32 → bt (M i) c = true → c < 6) :
    mX3_completeSteps fa po sq M Z P st ti = some (sp_bits (sp_cm P M Z ti (fun c => sp_sn fa po st c true) (fun c => sp_sn fa po st c false)) N) := by
  unfold mX3_completeSteps
  rw [me_sensedR, me_bd, me_let, me_sensedE, me_bd, me_let]
  generalize hR : (sp_bits (fun c => decide (po c = 0)) 6 ||| fa 2) &&& (fa 1 ^^^ (-1)) = sR
  generalize hE : (sp_bits (fun c => decide (po c = st c)) 6 ||| fa 4) &&& (fa 3 ^^^ (-1)) = sE
  have hR' : ∀ c, c < 6 → bt sR c = sp_sn fa po st c false := fun c hc => by rw [← hR]; exact me_snR fa po st hc
  have hE' : ∀ c, c < 6 → bt sE c = sp_sn fa po st c true := fun c hc => by rw [← hE]; exact me_snE fa po st hc
  generalize hcm : sp_cm P M Z ti (fun c => sp_sn fa po st c true) (fun c => sp_sn fa po st c false) = cm
  have h : bq_loop (bq_u2 (bX3_completeSteps_19 sq M Z P ti (sR ^^^ (-1)) (sE ^^^ (-1)))) (0, 0) = some (sp_bits cm N) := by
    refine ml_run (fun j => (nI j, sp_bits cm j)) N (fun j hj => ?_) ?_
    · rw [me_u2]
      unfold bX3_completeSteps_19
      rw [hq, if_neg (mq_nle (by omega) (by omega)), me_ci _ (by omega) (by omega), nI_clamp (by omega)]
      have e1 := mq_sub (hP j hj) hE'
      have e2 := mq_sub (hM j hj) hR'
      have ecm : cm j = (sp_all (fun c => !bt (P j) c || sp_sn fa po st c true) 6 && sp_all (fun c => !bt (M j) c || sp_sn fa po st c false) 6 && decide (¬ ti j < Z j)) := by rw [← hcm]; rfl
      have key : (if (P j &&& (sE ^^^ (-1))) = 0 then bq_ci (nI j) 16 (if (M j &&& (sR ^^^ (-1))) = 0 then bq_ci (nI j) 16 (bq_ci (nI j) 16 (if ti j < Z j then some (sp_bits cm j) else bq_let (sp_bits cm j ||| ((1 : Int32) <<< (nI j &&& 31))) (fun v9 => some v9))) else some (sp_bits cm j)) else some (sp_bits cm j)) = some (sp_bits cm (j + 1)) := by
        rw [me_ci _ (by omega) (by omega), me_ci _ (by omega) (by omega), me_ci _ (by omega) (by omega)]
        rw [sp_bits]
        by_cases c1 : (P j &&& (sE ^^^ (-1))) = 0
        · by_cases c2 : (M j &&& (sR ^^^ (-1))) = 0
          · by_cases c3 : ti j < Z j
            · rw [if_pos c1, if_pos c2, if_pos c3, if_neg (by rw [ecm, decide_eq_false (fun h9 => h9 c3), Bool.and_false]; decide)]
            · rw [if_pos c1, if_pos c2, if_neg c3, if_pos (by rw [ecm, e1.mp c1, e2.mp c2, decide_eq_true c3]; rfl)]
              rfl
          · rw [if_pos c1, if_neg c2, if_neg (by rw [ecm, Bool.eq_false_iff.mpr (fun h9 => c2 (e2.mpr h9)), Bool.and_false, Bool.false_and]; decide)]
        · rw [if_neg c1, if_neg (by rw [ecm, Bool.eq_false_iff.mpr (fun h9 => c1 (e1.mpr h9)), Bool.false_and, Bool.false_and]; decide)]
      rw [key, me_bd, me_let, nI_1]
    · rw [me_u2]
      unfold bX3_completeSteps_19
      rw [hq, if_pos (mq_rfl _)]
  rw [h]
  rfl
/-- how the reference reads a sensor -/
def sp_rs (st r : Nat → Int32) (c : Nat) (s : Bool) : Bool := !bt (r (38 + c)) (if s then 3 else 1) && (decide (r (20 + c) = if s then st c else 0) || bt (r (38 + c)) (if s then 4 else 2))
theorem mq_bt1 (x : Int32) {k : Nat} (hk : k < 31) : bt (x >>> (nI k &&& 31)) 1 = bt x (k + 1) := by
  rw [b_sshr k (by omega) x (by omega), if_pos (by omega)]
theorem me_senses0 (st r : Nat → Int32) {c : Nat} (hc : c < 6) : mX8_senses st r (nI c) 0 = some (if sp_rs st r c false then 1 else 0) := by
  unfold mX8_senses
  have e20 : (20 : Int32) + nI c = nI (20 + c) := nI_add 20 c
  have e38 : (38 : Int32) + nI c = nI (38 + c) := nI_add 38 c
  rw [e20, e38, me_ci _ (by omega) (by omega), if_pos rfl, me_bd, me_let, me_ci _ (by omega) (by omega), me_let, me_let, nI_clamp (by omega), nI_clamp (by omega)]
  have e1 : ((1 : Int32) + 2 * 0) &&& 31 = nI 1 &&& 31 := by decide
  rw [e1, mb_shr _ (by omega)]
  generalize hx : r (38 + c) >>> (nI 1 &&& 31) = X
  have h2 := mq_and2 X
  rw [← hx, mq_bt1 _ (by omega), hx] at h2
  unfold sp_rs
  simp only [Bool.false_eq_true, if_false]
  by_cases b1 : bt (r (38 + c)) 1 = true
  · simp [b1, bq_cb]
  · have b1' : bt (r (38 + c)) 1 = false := by simpa using b1
    by_cases b2 : r (20 + c) = 0
    · simp [b1', b2, bq_cb]
    · by_cases b3 : bt (r (38 + c)) 2 = true
      · have : ¬ X &&& 2 = 0 := fun h9 => by rw [h2.mp h9] at b3; cases b3
        simp [b1', b2, b3, this, bq_cb]
      · have b3' : bt (r (38 + c)) 2 = false := by simpa using b3
        have : X &&& 2 = 0 := h2.mpr b3'
        simp [b1', b2, b3', this, bq_cb]
theorem me_senses1 (st r : Nat → Int32) {c : Nat} (hc : c < 6) : mX8_senses st r (nI c) 1 = some (if sp_rs st r c true then 1 else 0) := by
  unfold mX8_senses
  have e20 : (20 : Int32) + nI c = nI (20 + c) := nI_add 20 c
  have e38 : (38 : Int32) + nI c = nI (38 + c) := nI_add 38 c
  rw [e20, e38, me_ci _ (by omega) (by omega), if_neg (by decide), me_ci _ hc (by omega), me_bd, me_let, me_ci _ (by omega) (by omega), me_let, me_let, nI_clamp (by omega), nI_clamp (by omega), nI_clamp (by omega)]
  have e1 : ((1 : Int32) + 2 * 1) &&& 31 = nI 3 &&& 31 := by decide
  rw [e1, mb_shr _ (by omega)]
  generalize hx : r (38 + c) >>> (nI 3 &&& 31) = X
  have h2 := mq_and2 X
  rw [← hx, mq_bt1 _ (by omega), hx] at h2
  unfold sp_rs
  simp only [if_true]
  by_cases b1 : bt (r (38 + c)) 3 = true
  · simp [b1, bq_cb]
  · have b1' : bt (r (38 + c)) 3 = false := by simpa using b1
    by_cases b2 : r (20 + c) = st c
    · simp [b1', b2, bq_cb]
    · by_cases b3 : bt (r (38 + c)) 4 = true
      · have : ¬ X &&& 2 = 0 := fun h9 => by rw [h2.mp h9] at b3; cases b3
        simp [b1', b2, b3, this, bq_cb]
      · have b3' : bt (r (38 + c)) 4 = false := by simpa using b3
        have : X &&& 2 = 0 := h2.mpr b3'
        simp [b1', b2, b3', this, bq_cb]
def sp_ok (P M st r : Nat → Int32) (i c : Nat) : Bool := (!bt (P i) c || sp_rs st r c true) && (!bt (M i) c || sp_rs st r c false)
theorem me_isComplete {M P Z st r : Nat → Int32} {i : Nat} (hi : i < 16) (hd : ∀ c, c < 6 → ¬ (bt (P i) c = true ∧ bt (M i) c = true)) :
    mX8_isComplete M P Z st r (nI i) = some (if sp_cm P M Z (fun i => r (44 + i)) (fun c => sp_rs st r c true) (fun c => sp_rs st r c false) i then 1 else 0) := by
  have e44 : (44 : Int32) + nI i = nI (44 + i) := nI_add 44 i
  unfold mX8_isComplete
  rw [e44, me_ci _ (by omega) (by omega), me_ci _ hi (by omega), me_let, nI_clamp (by omega), nI_clamp (by omega)]
  generalize hbs : decide (¬ r (44 + i) < Z i) = bs
  have e0 : (if r (44 + i) < Z i then (0 : Int32) else 1) = if (bs && sp_all (sp_ok P M st r i) 0) = true then 1 else 0 := by
    rw [← hbs, sp_all, Bool.and_true]
    by_cases h : r (44 + i) < Z i
    · simp [h]
    · simp [h]
  rw [e0]
  have h : bq_loop (bq_u2 (bX8_isComplete_24 M P st r (nI i))) (0, if (bs && sp_all (sp_ok P M st r i) 0) = true then 1 else 0) = some (if (bs && sp_all (sp_ok P M st r i) 6) = true then 1 else 0) := by
    refine ml_run (fun j => (nI j, if (bs && sp_all (sp_ok P M st r i) j) = true then (1 : Int32) else 0)) 6 (fun j hj => ?_) ?_
    · rw [me_u2]
      unfold bX8_isComplete_24
      rw [if_neg (mq_6 hj), me_dirOf _ _ hi (by omega), me_bd]
      have key : (if (if (bs && sp_all (sp_ok P M st r i) j) = true then (1 : Int32) else 0) = 0 then some (0 : Int32) else (if ((if bt (P i) j = true then (1 : Int32) else 0) - (if bt (M i) j = true then 1 else 0)) = 0 then some 1 else bq_let (if ((if bt (P i) j = true then (1 : Int32) else 0) - (if bt (M i) j = true then 1 else 0)) ≤ 0 then (0 : Int32) else 1) (fun v7 => bq_bd (mX8_senses st r (nI j) v7) (fun v8 => if v8 = 0 then some 0 else some 1)))) = some (if (bs && sp_all (sp_ok P M st r i) (j + 1)) = true then 1 else 0) := by
        rw [sp_all, ← Bool.and_assoc]
        cases hA : (bs && sp_all (sp_ok P M st r i) j)
        · simp
        · rw [if_neg (by decide), Bool.true_and]
          have hdj := hd j hj
          unfold sp_ok
          cases hp : bt (P i) j <;> cases hm : bt (M i) j
          · simp
          · have e1 : ¬ ((0 : Int32) - 1 = 0) := by decide
            have e2 : ((0 : Int32) - 1 ≤ 0) := by decide
            simp only [if_true, Bool.false_eq_true, if_false, e1, e2, me_let, me_senses0 st r hj, me_bd]
            cases sp_rs st r j false <;> simp
          · have e1 : ¬ ((1 : Int32) - 0 = 0) := by decide
            have e2 : ¬ ((1 : Int32) - 0 ≤ 0) := by decide
            simp only [if_true, Bool.false_eq_true, if_false, e1, e2, me_let, me_senses1 st r hj, me_bd]
            cases sp_rs st r j true <;> simp
          · exact absurd ⟨hp, hm⟩ hdj
      rw [key, me_bd, me_let, nI_1]
    · rw [me_u2]
      unfold bX8_isComplete_24
      rw [if_pos (by decide)]
  rw [h, me_bd, me_cbi]
  have e9 : (bs && sp_all (sp_ok P M st r i) 6) = sp_cm P M Z (fun i => r (44 + i)) (fun c => sp_rs st r c true) (fun c => sp_rs st r c false) i := by
    rw [Bool.eq_iff_iff, Bool.and_eq_true, sp_all_iff, ← hbs]
    unfold sp_cm
    rw [Bool.and_eq_true, Bool.and_eq_true, sp_all_iff, sp_all_iff]
    constructor
    · rintro ⟨h1, h2⟩
      refine ⟨⟨fun c hc => ?_, fun c hc => ?_⟩, h1⟩
      · have := h2 c hc
        unfold sp_ok at this
        rw [Bool.and_eq_true] at this
        exact this.1
      · have := h2 c hc
        unfold sp_ok at this
        rw [Bool.and_eq_true] at this
        exact this.2
    · rintro ⟨⟨h1, h2⟩, h3⟩
      refine ⟨h3, fun c hc => ?_⟩
      unfold sp_ok
      rw [Bool.and_eq_true]
      exact ⟨h1 c hc, h2 c hc⟩
  rw [e9]
