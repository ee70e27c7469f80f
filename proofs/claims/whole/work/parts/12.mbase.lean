/-! ===== Int32 by its bits: bt x i ===== -/
def bt (x : Int32) (i : Nat) : Bool := x.toBitVec.getLsbD i
theorem b_ext {x y : Int32} (h : ∀ i, i < 32 → bt x i = bt y i) : x = y := Int32.toBitVec_inj.mp (BitVec.eq_of_getLsbD_eq (fun i hi => h i hi))
theorem b_or (x y : Int32) (i : Nat) : bt (x ||| y) i = (bt x i || bt y i) := by unfold bt; rw [Int32.toBitVec_or, BitVec.getLsbD_or]
theorem b_and (x y : Int32) (i : Nat) : bt (x &&& y) i = (bt x i && bt y i) := by unfold bt; rw [Int32.toBitVec_and, BitVec.getLsbD_and]
theorem b_xor (x y : Int32) (i : Nat) : bt (x ^^^ y) i = (bt x i ^^ bt y i) := by unfold bt; rw [Int32.toBitVec_xor, BitVec.getLsbD_xor]
theorem b_big {x : Int32} {i : Nat} (h : 32 ≤ i) : bt x i = false := BitVec.getLsbD_of_ge _ _ h
theorem b_255 (i : Nat) : bt 255 i = decide (i < 8) := by
  rcases Nat.lt_or_ge i 32 with h | h
  · exact (by decide +kernel : ∀ i, i < 32 → bt 255 i = decide (i < 8)) i h
  · rw [b_big h, decide_eq_false (by omega)]
theorem b_65535 (i : Nat) : bt 65535 i = decide (i < 16) := by
  rcases Nat.lt_or_ge i 32 with h | h
  · exact (by decide +kernel : ∀ i, i < 32 → bt 65535 i = decide (i < 16)) i h
  · rw [b_big h, decide_eq_false (by omega)]
theorem b_m1 : ∀ i, i < 32 → bt (-1) i = true := by decide +kernel
theorem b_0 (i : Nat) : bt 0 i = false := BitVec.getLsbD_zero
theorem s_l : ∀ n, n < 32 → ((nI n &&& 31).toBitVec.smod 32).toNat = n := by decide +kernel
theorem s_u : ∀ n, n < 32 → (((nI n).toUInt32 &&& Int32.toUInt32 31).toBitVec % 32).toNat = n := by decide +kernel
theorem b_shl (n : Nat) (hn : n < 32) (x : Int32) {i : Nat} (hi : i < 32) : bt (x <<< (nI n &&& 31)) i = (decide (n ≤ i) && bt x (i - n)) := by
  unfold bt
  rw [Int32.toBitVec_shiftLeft]
  show (x.toBitVec <<< ((nI n &&& 31).toBitVec.smod 32).toNat).getLsbD i = _
  rw [s_l n hn, BitVec.getLsbD_shiftLeft]
  rcases Nat.lt_or_ge i n with h | h
  · simp [h, Nat.not_le.mpr h]
  · simp [hi, h, Nat.not_lt.mpr h]
theorem b_ushr (n : Nat) (hn : n < 32) (x : Int32) (i : Nat) : bt ((x.toUInt32 >>> ((nI n).toUInt32 &&& Int32.toUInt32 31)).toInt32) i = bt x (n + i) := by
  show (x.toUInt32 >>> ((nI n).toUInt32 &&& Int32.toUInt32 31)).toBitVec.getLsbD i = x.toUInt32.toBitVec.getLsbD (n + i)
  rw [UInt32.toBitVec_shiftRight]
  show (x.toUInt32.toBitVec >>> (((nI n).toUInt32 &&& Int32.toUInt32 31).toBitVec % 32).toNat).getLsbD i = _
  rw [s_u n hn, BitVec.getLsbD_ushiftRight]
theorem b_sshr (n : Nat) (hn : n < 32) (x : Int32) {i : Nat} (hi : i < 32) : bt (x >>> (nI n &&& 31)) i = if n + i < 32 then bt x (n + i) else bt x 31 := by
  unfold bt
  rw [Int32.toBitVec_shiftRight]
  show (x.toBitVec.sshiftRight ((nI n &&& 31).toBitVec.smod 32).toNat).getLsbD i = _
  rw [s_l n hn, BitVec.getLsbD_sshiftRight, BitVec.msb_eq_getLsbD_last]
  simp [hi]

theorem mb_1 : ∀ j, j < 32 → bt 1 j = decide (j = 0) := by decide +kernel
theorem mb_bit {k i : Nat} (hk : k < 32) (hi : i < 32) : bt ((1 : Int32) <<< (nI k &&& 31)) i = decide (i = k) := by
  rw [b_shl k hk 1 hi]
  by_cases h : k ≤ i
  · rw [mb_1 (i - k) (by omega)]
    by_cases h2 : i = k
    · subst h2; simp
    · rw [decide_eq_false h2, decide_eq_false (by omega : ¬ (i - k = 0)), Bool.and_false]
  · rw [decide_eq_false h, decide_eq_false (by omega : ¬ i = k), Bool.false_and]
theorem mb_not (x : Int32) {i : Nat} (hi : i < 32) : bt (x ^^^ (-1)) i = !bt x i := by
  rw [b_xor, b_m1 i hi]
  cases bt x i <;> rfl
theorem mb_zero {x : Int32} : x = 0 ↔ ∀ i, i < 32 → bt x i = false := by
  constructor
  · intro h i _
    rw [h, b_0]
  · intro h
    exact b_ext (fun i hi => by rw [h i hi, b_0])
theorem mb_and1 (x : Int32) : x &&& 1 = if bt x 0 then 1 else 0 := by
  refine b_ext (fun i hi => ?_)
  rw [b_and, mb_1 i hi]
  by_cases h0 : i = 0
  · subst h0
    cases bt x 0 <;> decide
  · rw [decide_eq_false h0, Bool.and_false]
    cases bt x 0
    · exact (b_0 i).symm
    · exact ((mb_1 i hi).trans (decide_eq_false h0)).symm
theorem mb_shr (x : Int32) {c : Nat} (hc : c < 32) : (x >>> (nI c &&& 31)) &&& 1 = if bt x c then 1 else 0 := by
  rw [mb_and1, b_sshr c hc x (by omega), Nat.add_zero, if_pos hc]
theorem mb_clr (x : Int32) {k i : Nat} (hk : k < 32) (hi : i < 32) : bt (x &&& (((1 : Int32) <<< (nI k &&& 31)) ^^^ (-1))) i = (bt x i && !decide (i = k)) := by
  rw [b_and, mb_not _ hi, mb_bit hk hi]
theorem mb_set (x : Int32) {k i : Nat} (hk : k < 32) (hi : i < 32) : bt (x ||| ((1 : Int32) <<< (nI k &&& 31))) i = (bt x i || decide (i = k)) := by
  rw [b_or, mb_bit hk hi]
-- the words of the models, at known values
theorem me_let {α β : Type} (x : α) (k : α → β) : bq_let x k = k x := rfl
theorem me_bd {α β : Type} (x : α) (k : α → Option β) : bq_bd (some x) k = k x := rfl
theorem me_ci {β : Type} {j n : Nat} (k : Option β) (h : j < n) (hn : n < 2 ^ 31) : bq_ci (nI j) n k = k := by
  unfold bq_ci
  rw [if_neg (nI_in h hn)]
theorem me_cb {β : Type} {y : Int32} (k : Option β) (h : y = 0 ∨ y = 1) : bq_cb y k = k := by
  unfold bq_cb
  rw [if_pos h]
theorem me_cbi {β : Type} {c : Prop} [Decidable c] (k : Option β) : bq_cb (if c then (1 : Int32) else 0) k = k := by
  apply me_cb
  by_cases h : c
  · rw [if_pos h]; exact Or.inr rfl
  · rw [if_neg h]; exact Or.inl rfl
theorem me_ite (c : Prop) [Decidable c] : ((if c then (1 : Int32) else 0) = 0) ↔ ¬ c := by
  by_cases h : c
  · rw [if_pos h]; exact ⟨fun h9 => absurd h9 (by decide), fun h9 => absurd h h9⟩
  · rw [if_neg h]; exact ⟨fun _ => h, fun _ => rfl⟩
theorem me_ite1 (c : Prop) [Decidable c] : ((if c then (1 : Int32) else 0) = 1) ↔ c := by
  by_cases h : c
  · rw [if_pos h]; exact ⟨fun _ => h, fun _ => rfl⟩
  · rw [if_neg h]; exact ⟨fun h9 => absurd h9 (by decide), fun h9 => absurd h9 h⟩
theorem ml_lp {S R : Type} {b : S → Option (S ⊕ R)} (f : Nat → S) {r : R} {N : Nat} (hs : ∀ j, j < N → b (f j) = some (.inl (f (j + 1)))) (he : b (f N) = some (.inr r)) : ∀ n k, k + n = N → bq_lp b (n + 1) (f k) = some r := by
  intro n
  induction n with
  | zero =>
    intro k hk
    have : k = N := by omega
    subst this
    unfold bq_lp
    rw [he]
  | succ n ih =>
    intro k hk
    unfold bq_lp
    rw [hs k (by omega)]
    exact ih (k + 1) (by omega)
/-- a loop by its trace: f j is the state after j turns, it leaves at turn N with r -/
theorem ml_run {S R : Type} {b : S → Option (S ⊕ R)} (f : Nat → S) {r : R} (N : Nat) (hs : ∀ j, j < N → b (f j) = some (.inl (f (j + 1)))) (he : b (f N) = some (.inr r)) : bq_loop b (f 0) = some r := bq_loop_of (ml_lp f hs he N 0 (by omega))
/-- a loop by an invariant that counts its turns -/
theorem ml_inv {S R : Type} {b : S → Option (S ⊕ R)} (I : Nat → S → Prop) (Q : R → Prop) (N : Nat) (hs : ∀ j s, j < N → I j s → (∃ s', b s = some (.inl s') ∧ I (j + 1) s') ∨ (∃ r, b s = some (.inr r) ∧ Q r)) (he : ∀ s, I N s → ∃ r, b s = some (.inr r) ∧ Q r) : ∀ (n j : Nat) (s : S), j + n = N → I j s → ∃ r, bq_loop b s = some r ∧ Q r := by
  have key : ∀ (n j : Nat) (s : S), j + n = N → I j s → ∃ r, bq_lp b (n + 1) s = some r ∧ Q r := by
    intro n
    induction n with
    | zero =>
      intro j s hj hI
      have : j = N := by omega
      subst this
      obtain ⟨r, h1, h2⟩ := he s hI
      refine ⟨r, ?_, h2⟩
      unfold bq_lp
      rw [h1]
    | succ n ih =>
      intro j s hj hI
      rcases hs j s (by omega) hI with ⟨s', h1, h2⟩ | ⟨r, h1, h2⟩
      · obtain ⟨r, h3, h4⟩ := ih (j + 1) s' (by omega) h2
        refine ⟨r, ?_, h4⟩
        unfold bq_lp
        rw [h1]
        exact h3
      · refine ⟨r, ?_, h2⟩
        unfold bq_lp
        rw [h1]
  intro n j s hj hI
  obtain ⟨r, h1, h2⟩ := key n j s hj hI
  exact ⟨r, bq_loop_of h1, h2⟩
