def sp_ai : Option Nat → Int32
  | none => -1
  | some a => nI a
def sp_st (N : Nat) (start : Bool) (cm : Nat → Bool) : Option Nat → Option Nat
  | none => if start then some 0 else none
  | some a => if cm a then (if N ≤ a + 1 then none else some (a + 1)) else some a
theorem sp_st_some (N : Nat) (start : Bool) (cm : Nat → Bool) (a : Nat) : sp_st N start cm (some a) = if cm a then (if N ≤ a + 1 then none else some (a + 1)) else some a := rfl
theorem sp_st_lt {N : Nat} {start : Bool} {cm : Nat → Bool} {ac : Option Nat} (h0 : 0 < N) (h : ∀ a, ac = some a → a < N) : ∀ a, sp_st N start cm ac = some a → a < N := by
  intro a ha
  cases ac with
  | none =>
    unfold sp_st at ha
    cases start
    · simp at ha
    · simp at ha; omega
  | some b =>
    have hb := h b rfl
    rw [sp_st_some] at ha
    by_cases c1 : cm b = true
    · rw [if_pos c1] at ha
      by_cases c2 : N ≤ b + 1
      · rw [if_pos c2] at ha; cases ha
      · rw [if_neg c2] at ha; cases ha; omega
    · rw [if_neg c1] at ha; cases ha; exact hb
theorem sp_or_none (P : Nat → Int32) {on : Nat → Bool} (n : Nat) (h : ∀ i, i < n → on i = false) : sp_or on P n = 0 := by
  induction n with
  | zero => rfl
  | succ n ih => rw [sp_or, if_neg (by rw [h n (by omega)]; decide), ih (fun i hi => h i (by omega))]
theorem sp_bits_none {on : Nat → Bool} (n : Nat) (h : ∀ i, i < n → on i = false) : sp_bits on n = 0 := by
  induction n with
  | zero => rfl
  | succ n ih => rw [sp_bits, if_neg (by rw [h n (by omega)]; decide), ih (fun i hi => h i (by omega))]
theorem mq_0or (x : Int32) : 0 ||| x = x := b_ext (fun i hi => by rw [b_or, b_0, Bool.false_or])
theorem sp_or_one (P : Nat → Int32) {on : Nat → Bool} {a : Nat} (n : Nat) (ha : a < n) (h1 : on a = true) (h : ∀ i, i < n → i ≠ a → on i = false) : sp_or on P n = P a := by
  induction n with
  | zero => omega
  | succ n ih =>
    rw [sp_or]
    by_cases hz : n = a
    · subst hz
      rw [if_pos h1, sp_or_none P n (fun i hi => h i (by omega) (by omega)), mq_0or]
    · rw [if_neg (by rw [h n (by omega) hz]; decide)]
      exact ih (by omega) (fun i hi hi2 => h i (by omega) hi2)
theorem sp_bits_one {on : Nat → Bool} {a : Nat} (n : Nat) (ha : a < n) (h : ∀ i, i < n → i ≠ a → on i = false) : sp_bits on n = if on a then (1 : Int32) <<< (nI a &&& 31) else 0 := by
  induction n with
  | zero => omega
  | succ n ih =>
    rw [sp_bits]
    by_cases hz : n = a
    · subst hz
      rw [sp_bits_none n (fun i hi => h i (by omega) (by omega)), mq_0or]
    · rw [if_neg (by rw [h n (by omega) hz]; decide)]
      exact ih (by omega) (fun i hi hi2 => h i (by omega) hi2)
theorem me_stepper {p1 : Nat → Int32} (t M Z P : Nat → Int32) {N : Nat} {cm : Nat → Bool} {start : Bool} {ac : Option Nat} (hq : p1 0 = nI N) (h0 : 0 < N) (hN : N ≤ 16) (hta : t 1 = sp_ai ac) (hac : ∀ a, ac = some a → a < N) :
    mX0_decideStepper (sp_cir t 0 0 0) p1 M Z P (sp_bits cm N) (if start then 1 else 0) = some (sp_onc (upd t 1 (sp_ai (sp_st N start cm ac))) P M Z (fun i => decide (sp_st N start cm ac = some i)) N) := by
  have h1 : sp_cir t 0 0 0 1 = sp_ai ac := hta
  have hu : upd t 1 (sp_ai ac) = t := by
    funext k
    unfold upd
    by_cases h : k = 1
    · rw [if_pos h, h, hta]
    · rw [if_neg h]
  have e1 : (if 0 ≤ sp_cir t 0 0 0 1 then bq_bd (mX7_holds (sp_bits cm N) (sp_cir t 0 0 0 1)) (fun v2 => if v2 = 0 then some (sp_cir t 0 0 0) else bq_let (if p1 0 ≤ sp_cir t 0 0 0 1 + 1 then (-1 : Int32) else sp_cir t 0 0 0 1 + 1) (fun v3 => bq_let (upd (sp_cir t 0 0 0) 1 v3) (fun t_4 => some t_4))) else bq_let (if (if start = true then (1 : Int32) else 0) = 0 then (-1 : Int32) else 0) (fun v5 => bq_let (upd (sp_cir t 0 0 0) 1 v5) (fun t_6 => some t_6))) = some (sp_cir (upd t 1 (sp_ai (sp_st N start cm ac))) 0 0 0) := by
    rw [h1]
    cases ac with
    | none =>
      rw [if_neg (by decide), me_let, me_let, sp_cir_1]
      unfold sp_st
      cases start <;> rfl
    | some a =>
      have ha := hac a rfl
      have ea : sp_ai (some a) = nI a := rfl
      rw [ea, if_pos (nI_pos' (by omega)), me_holds _ (by omega), me_bd, sp_bits_bt _ _ (by omega) _ (by omega), decide_eq_true ha, Bool.true_and]
      rw [sp_st_some]
      cases hb : cm a
      · rw [if_pos (by decide)]
        simp only [Bool.false_eq_true, if_false]
        rw [hu]
      · rw [if_neg (by decide), me_let, me_let, sp_cir_1, hq, nI_1]
        simp only [if_true]
        by_cases h : N ≤ a + 1
        · rw [if_pos ((mq_le (by omega) (by omega)).mpr h), if_pos h]; rfl
        · rw [if_neg (fun h9 => h ((mq_le (by omega) (by omega)).mp h9)), if_neg h]; rfl
  unfold mX0_decideStepper
  rw [e1, me_bd]
  have hlt := sp_st_lt (start := start) (cm := cm) h0 hac
  generalize sp_st N start cm ac = ac' at hlt ⊢
  have h2 : sp_cir (upd t 1 (sp_ai ac')) 0 0 0 1 = sp_ai ac' := rfl
  rw [h2]
  cases ac' with
  | none =>
    rw [if_pos (by decide), me_bd]
    unfold sp_onc
    rw [sp_or_none _ _ (fun i _ => by simp), sp_or_none _ _ (fun i _ => by simp), sp_bits_none _ (fun i _ => by simp)]
  | some a =>
    have ha := hlt a rfl
    have ea : sp_ai (some a) = nI a := rfl
    rw [ea, if_neg (nI_pos (by omega)), hq, if_neg (mq_nle ha (by omega)), me_switchOn _ _ _ _ _ _ _ (by omega), me_bd, me_bd]
    unfold sp_onc
    rw [sp_or_one P N ha (by simp) (fun i _ h => by simpa using fun h9 => h h9.symm), sp_or_one M N ha (by simp) (fun i _ h => by simpa using fun h9 => h h9.symm), sp_bits_one N ha (fun i _ h => by simp; intro h9; exact absurd h9.symm h), mq_0or, mq_0or, mq_0or]
    by_cases hz : Z a ≤ 0
    · rw [if_pos hz, if_neg (by simp [hz])]
    · rw [if_neg hz, if_pos (by simp [hz])]
