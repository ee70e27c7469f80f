
theorem me_holds (x : Int32) {c : Nat} (hc : c < 32) : mX7_holds x (nI c) = some (if bt x c then 1 else 0) := by
  unfold mX7_holds
  rw [me_let, mb_shr x hc]
  by_cases h : bt x c = true
  · rw [if_pos h, if_pos rfl]; rfl
  · rw [if_neg h, if_neg (by decide)]; rfl
theorem me_in (x lo hi : Int32) : mX8_in x lo hi = some (if lo ≤ x ∧ x ≤ hi then 1 else 0) := by
  unfold mX8_in
  by_cases h1 : lo ≤ x
  · by_cases h2 : x ≤ hi
    · simp [h1, h2, bq_let, bq_bd, bq_cb, Int32.not_lt.mpr h1, Int32.not_lt.mpr h2]
    · simp [h1, h2, bq_let, bq_bd, bq_cb, Int32.not_lt.mpr h1, Int32.not_le.mp h2]
  · simp [h1, bq_let, bq_bd, bq_cb, Int32.not_le.mp h1]
theorem me_movesIn (mi pl : Nat → Int32) {j : Nat} (h : j < 16) : mX5_movesIn mi pl (nI j) = some (pl j ||| mi j) := by
  unfold mX5_movesIn
  rw [me_ci _ h (by omega), me_ci _ h (by omega), nI_clamp (by omega)]
theorem mq_pred {n : Nat} (h : 0 < n) : nI n - 1 = nI (n - 1) := by
  obtain ⟨k, rfl⟩ : ∃ k, n = k + 1 := ⟨n - 1, by omega⟩
  exact nI_pred k
/-- the step before step j -/
def mp_bf (N j : Nat) : Nat := if j = 0 then N - 1 else j - 1
theorem mp_bf_lt {N j : Nat} (h0 : 0 < N) (h : j < N) : mp_bf N j < N := by unfold mp_bf; split <;> omega
theorem me_stepBefore {t : Nat → Int32} {N j : Nat} (ht : t 0 = nI N) (h0 : 0 < N) (hN : N ≤ 16) (hj : j < 16) : mX5_stepBefore t (nI j) = some (nI (mp_bf N j)) := by
  unfold mX5_stepBefore mp_bf
  rw [me_let, ht]
  by_cases h : j = 0
  · subst h
    rw [if_pos (by decide), if_pos rfl, mq_pred h0]
  · rw [if_neg (nI_nle (by omega) (by omega)), if_neg h, mq_pred (by omega)]
theorem me_before {t : Nat → Int32} {N j : Nat} (ht : t 4 = nI N) (h0 : 0 < N) (hN : N ≤ 16) (hj : j < 16) : mX8_before t (nI j) = some (nI (mp_bf N j)) := by
  unfold mX8_before mp_bf
  by_cases h : j = 0
  · subst h
    simp [bq_let, bq_bd, ht, nI_0, mq_pred h0]
  · have h2 : ¬ nI j = 0 := nI_ne0 (by omega) (by omega)
    simp [bq_let, bq_bd, h, h2, mq_pred (show 0 < j by omega)]
theorem me_dirOf (b o : Nat → Int32) {i c : Nat} (hi : i < 16) (hc : c < 32) : mX8_directionOf b o (nI i) (nI c) = some ((if bt (o i) c then 1 else 0) - (if bt (b i) c then 1 else 0)) := by
  unfold mX8_directionOf
  rw [me_ci _ hi (by omega), me_ci _ hi (by omega), nI_clamp (by omega), mb_shr _ hc, mb_shr _ hc]
theorem mq_nle {a j : Nat} (h : j < a) (ha : a < 2 ^ 31) : ¬ nI a ≤ nI j := fun h9 => absurd ((nI_leI (by omega) (by omega)).mp h9) (by omega)
theorem mq_6 {j : Nat} (h : j < 6) : ¬ (6 : Int32) ≤ nI j := mq_nle (a := 6) h (by omega)
theorem mq_rfl (x : Int32) : x ≤ x := Int32.le_refl x
theorem me_u1 {α β : Type} (k : α → β) (a : α) : bq_u1 k a = k a := rfl
theorem me_u2 {α1 α2 β : Type} (k : α1 → α2 → β) (a : α1) (b : α2) : bq_u2 k (a, b) = k a b := rfl
theorem me_u3 {α1 α2 α3 β : Type} (k : α1 → α2 → α3 → β) (a : α1) (b : α2) (c : α3) : bq_u3 k (a, b, c) = k a b c := rfl
theorem me_b2 {α1 α2 β : Type} (k : α1 → α2 → Option β) (x1 : α1) (x2 : α2) : bq_b2 (some (x1, x2)) k = k x1 x2 := rfl
theorem me_b3 {α1 α2 α3 β : Type} (k : α1 → α2 → α3 → Option β) (x1 : α1) (x2 : α2) (x3 : α3) : bq_b3 (some (x1, x2, x3)) k = k x1 x2 x3 := rfl
theorem me_b4 {α1 α2 α3 α4 β : Type} (k : α1 → α2 → α3 → α4 → Option β) (x1 : α1) (x2 : α2) (x3 : α3) (x4 : α4) : bq_b4 (some (x1, x2, x3, x4)) k = k x1 x2 x3 x4 := rfl
theorem me_b5 {α1 α2 α3 α4 α5 β : Type} (k : α1 → α2 → α3 → α4 → α5 → Option β) (x1 : α1) (x2 : α2) (x3 : α3) (x4 : α4) (x5 : α5) : bq_b5 (some (x1, x2, x3, x4, x5)) k = k x1 x2 x3 x4 x5 := rfl
theorem me_b6 {α1 α2 α3 α4 α5 α6 β : Type} (k : α1 → α2 → α3 → α4 → α5 → α6 → Option β) (x1 : α1) (x2 : α2) (x3 : α3) (x4 : α4) (x5 : α5) (x6 : α6) : bq_b6 (some (x1, x2, x3, x4, x5, x6)) k = k x1 x2 x3 x4 x5 x6 := rfl
theorem me_b7 {α1 α2 α3 α4 α5 α6 α7 β : Type} (k : α1 → α2 → α3 → α4 → α5 → α6 → α7 → Option β) (x1 : α1) (x2 : α2) (x3 : α3) (x4 : α4) (x5 : α5) (x6 : α6) (x7 : α7) : bq_b7 (some (x1, x2, x3, x4, x5, x6, x7)) k = k x1 x2 x3 x4 x5 x6 x7 := rfl
theorem me_b8 {α1 α2 α3 α4 α5 α6 α7 α8 β : Type} (k : α1 → α2 → α3 → α4 → α5 → α6 → α7 → α8 → Option β) (x1 : α1) (x2 : α2) (x3 : α3) (x4 : α4) (x5 : α5) (x6 : α6) (x7 : α7) (x8 : α8) : bq_b8 (some (x1, x2, x3, x4, x5, x6, x7, x8)) k = k x1 x2 x3 x4 x5 x6 x7 x8 := rfl
theorem me_b9 {α1 α2 α3 α4 α5 α6 α7 α8 α9 β : Type} (k : α1 → α2 → α3 → α4 → α5 → α6 → α7 → α8 → α9 → Option β) (x1 : α1) (x2 : α2) (x3 : α3) (x4 : α4) (x5 : α5) (x6 : α6) (x7 : α7) (x8 : α8) (x9 : α9) : bq_b9 (some (x1, x2, x3, x4, x5, x6, x7, x8, x9)) k = k x1 x2 x3 x4 x5 x6 x7 x8 x9 := rfl
