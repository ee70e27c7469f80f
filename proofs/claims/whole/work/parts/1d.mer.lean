/-- what a sequence with steps is, and its copy in the reference -/
def VS (N F : Nat) (P M Z Pr Mr Zr : Nat → Int32) : Prop := (0 < N ∧ N ≤ 16) ∧ (∀ i, i < N → Pr i = P i ∧ Mr i = M i ∧ Zr i = Z i) ∧ (∀ i, i < N → (Z i ≤ 0 ↔ ¬ P i ||| M i = 0)) ∧ (∀ i, i < N → ∀ c, c < 32 → (bt (P i) c = true ∨ bt (M i) c = true) → c < 6) ∧ (∀ i, i < N → ∀ c, c < 6 → ¬ (bt (P i) c = true ∧ bt (M i) c = true)) ∧ (F < N ∧ Z F ≤ 0 ∧ ∀ i, i < F → ¬ Z i ≤ 0)
/-- log and score of the class against the reference's row, after n events -/
def ER (N F n : Nat) (Z lg mv tm sc r : Nat → Int32) : Prop := (lg 2 = nI n ∧ r 4 = nI n ∧ lg 3 = nI (min n 40) ∧ lg 4 = nI (n % 40)) ∧ (∀ k, k < 40 → k < n → tm ((k + 1) % 40) = r (60 + k) ∧ mv ((k + 1) % 40) = r (100 + k)) ∧ (sc 0 = r 5 ∧ sc 1 = r 9 ∧ sc 2 = r 6 ∧ (r 6 = 0 ∨ r 6 = 1)) ∧ (∃ d, sc 3 = nI d ∧ r 7 = nI d ∧ d < N ∧ F ≤ d ∧ Z d ≤ 0) ∧ (∀ i, i < 32 → bt (r 8) i = ((decide (i < 6) && bt (sc 4) i) || (decide (6 ≤ i ∧ i < 12) && bt (sc 5) (i - 6)))) ∧ (∀ i, i < 32 → (bt (sc 4) i = true ∨ bt (sc 5) i = true) → i < 6) ∧ (∀ i, i < 6 → ¬ (bt (sc 4) i = true ∧ bt (sc 5) i = true))
theorem sp_mo_bt {P M : Nat → Int32} {m : Nat} (h : ∀ c, c < 32 → (bt (P m) c = true ∨ bt (M m) c = true) → c < 6) : ∀ i, i < 32 → bt (sp_mo P M m) i = ((decide (i < 6) && bt (P m) i) || (decide (6 ≤ i ∧ i < 12) && bt (M m) (i - 6))) := by
  intro i hi
  unfold sp_mo
  have e6 : (6 : Int32) = nI 6 := rfl
  rw [e6, b_or, b_shl 6 (by omega) _ hi]
  have hp : bt (P m) i = (decide (i < 6) && bt (P m) i) := by
    by_cases h6 : i < 6
    · rw [decide_eq_true h6, Bool.true_and]
    · cases hb : bt (P m) i
      · rw [Bool.and_false]
      · exact absurd (h i hi (Or.inl hb)) h6
  have hm : (decide (6 ≤ i) && bt (M m) (i - 6)) = (decide (6 ≤ i ∧ i < 12) && bt (M m) (i - 6)) := by
    by_cases h6 : 6 ≤ i
    · by_cases h12 : i < 12
      · rw [decide_eq_true h6, decide_eq_true ⟨h6, h12⟩]
      · cases hb : bt (M m) (i - 6)
        · rw [Bool.and_false, Bool.and_false]
        · exact absurd (h (i - 6) (by omega) (Or.inr hb)) (by omega)
    · rw [decide_eq_false h6, decide_eq_false (fun h9 => h6 h9.1)]
  rw [hm, ← hp]
theorem sp_dueOf_bt {sc r : Nat → Int32} (h : ∀ i, i < 32 → bt (r 8) i = ((decide (i < 6) && bt (sc 4) i) || (decide (6 ≤ i ∧ i < 12) && bt (sc 5) (i - 6)))) {c : Nat} (hc : c < 6) (o : Bool) : bt (r 8) (sp_ebit c o) = bt (sp_dueOf sc o) c := by
  unfold sp_ebit sp_dueOf
  cases o
  · simp only [Bool.false_eq_true, if_false]
    rw [h _ (by omega), decide_eq_false (by omega), decide_eq_true (by omega), Nat.add_sub_cancel_left]
    simp
  · simp only [if_true]
    rw [h _ (by omega), decide_eq_true hc, decide_eq_false (by omega)]
    simp
/-- the due moves behind a right event -/
theorem sp_right_due {sc r : Nat → Int32} {n c : Nat} (hc : c < 6) (o : Bool) (h : ∀ i, i < 32 → bt (r 8) i = ((decide (i < 6) && bt (sc 4) i) || (decide (6 ≤ i ∧ i < 12) && bt (sc 5) (i - 6)))) (hd : ∀ i, i < 6 → ¬ (bt (sc 4) i = true ∧ bt (sc 5) i = true)) (hb : bt (sp_dueOf sc o) c = true) : ∀ i, i < 32 → bt (sp_rr r n c o 8) i = ((decide (i < 6) && bt (sp_right sc c 4) i) || (decide (6 ≤ i ∧ i < 12) && bt (sp_right sc c 5) (i - 6))) := by
  intro i hi
  have e8 : sp_rr r n c o 8 = r 8 &&& (((1 : Int32) <<< (nI (sp_ebit c o) &&& 31)) ^^^ (-1)) := mu_s _ _ _
  have e4 : sp_right sc c 4 = sc 4 &&& (((1 : Int32) <<< (nI c &&& 31)) ^^^ (-1)) := rfl
  have e5 : sp_right sc c 5 = sc 5 &&& (((1 : Int32) <<< (nI c &&& 31)) ^^^ (-1)) := rfl
  have hl := sp_ebit_lt hc o
  rw [e8, e4, e5, mb_clr _ (by omega) hi, mb_clr _ (by omega) hi, mb_clr _ (by omega) (by omega), h i hi]
  have hdc := hd c hc
  unfold sp_ebit
  unfold sp_dueOf at hb
  by_cases h6 : i < 6
  · rw [decide_eq_true h6, decide_eq_false (by omega : ¬ (6 ≤ i ∧ i < 12))]
    cases o
    · simp only [Bool.false_eq_true, if_false] at hb ⊢
      rw [decide_eq_false (by omega : ¬ i = 6 + c)]
      by_cases hic : i = c
      · subst hic
        have : bt (sc 4) i = false := by
          cases hx : bt (sc 4) i
          · rfl
          · exact absurd ⟨hx, hb⟩ hdc
        simp [this]
      · simp [hic]
    · simp
  · rw [decide_eq_false h6]
    by_cases h12 : i < 12
    · rw [decide_eq_true (by omega : 6 ≤ i ∧ i < 12)]
      cases o
      · simp only [Bool.false_eq_true, if_false] at hb ⊢
        have : decide (i = 6 + c) = decide (i - 6 = c) := by
          by_cases hq : i = 6 + c
          · rw [decide_eq_true hq, decide_eq_true (by omega)]
          · rw [decide_eq_false hq, decide_eq_false (by omega)]
        rw [this]
        simp
      · simp only [if_true] at hb ⊢
        rw [decide_eq_false (by omega : ¬ i = c)]
        by_cases hic : i - 6 = c
        · have : bt (sc 5) (i - 6) = false := by
            rw [hic]
            cases hx : bt (sc 5) c
            · rfl
            · exact absurd ⟨hb, hx⟩ hdc
          simp [this]
        · simp [hic]
    · rw [decide_eq_false (by omega : ¬ (6 ≤ i ∧ i < 12))]
      simp
theorem sp_due_zero {a b x : Int32} (h : ∀ i, i < 32 → bt x i = ((decide (i < 6) && bt a i) || (decide (6 ≤ i ∧ i < 12) && bt b (i - 6)))) (hs : ∀ i, i < 32 → (bt a i = true ∨ bt b i = true) → i < 6) : x = 0 ↔ (a = 0 ∧ b = 0) := by
  rw [mb_zero, mb_zero, mb_zero]
  constructor
  · intro hx
    constructor
    · intro i hi
      cases ha : bt a i
      · rfl
      · have h6 := hs i hi (Or.inl ha)
        have := h i hi
        rw [hx i hi, ha, decide_eq_true h6] at this
        cases this
    · intro i hi
      cases hb : bt b i
      · rfl
      · have h6 := hs i hi (Or.inr hb)
        have := h (i + 6) (by omega)
        rw [hx (i + 6) (by omega), decide_eq_true (by omega : 6 ≤ i + 6 ∧ i + 6 < 12), Nat.add_sub_cancel, hb, Bool.true_and, Bool.or_true] at this
        cases this
  · rintro ⟨ha, hb⟩ i hi
    rw [h i hi, ha i hi, hb (i - 6) (by omega)]
    simp
