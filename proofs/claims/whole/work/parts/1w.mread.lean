section
/-- the text of both sides -/
def TXT (L : Nat) (sg tx : Nat → Int32) : Prop := L ≤ 80 ∧ ∀ i, i < L → tx i = sg i ∧ ∃ c, 32 ≤ c ∧ c < 127 ∧ sg i = nI c
/-- the sign at place i; -1 behind the text -/
def ch (L : Nat) (sg : Nat → Int32) (i : Nat) : Int32 := if i < L then sg i else -1
theorem me_sign {L : Nat} {t sg : Nat → Int32} (hL : L ≤ 80) (ht : t 1 = nI L) {i : Nat} (hi : i < 1000) : mX2_signAt t sg (nI i) = some (ch L sg i) := by
  unfold mX2_signAt ch
  rw [if_neg (nI_pos (by omega)), ht]
  by_cases h : i < L
  · rw [if_neg (mq_nle h (by omega)), me_ci _ (by omega) (by omega), nI_clamp (by omega), me_bd, if_pos h]
  · rw [if_pos ((mq_le (by omega) (by omega)).mpr (by omega)), me_bd, if_neg h]
theorem mr_letter {L : Nat} {tr sg tx : Nat → Int32} (hT : TXT L sg tx) (ht : tr 11 = nI L) {i : Nat} (hi : i < 1000) : mX8_letter tr tx (nI i) = some (ch L sg i) := by
  have hL := hT.1
  unfold mX8_letter ch
  rw [ht]
  by_cases h : i < L
  · rw [if_neg (mq_nle h (by omega)), me_ci _ (by omega) (by omega), nI_clamp (by omega), me_bd, if_pos h, (hT.2 i h).1]
  · rw [if_pos ((mq_le (by omega) (by omega)).mpr (by omega)), me_bd, if_neg h]
theorem ch_or {L : Nat} {sg tx : Nat → Int32} (hT : TXT L sg tx) (i : Nat) : ch L sg i = -1 ∨ ∃ c, c < 127 ∧ ch L sg i = nI c := by
  unfold ch
  by_cases h : i < L
  · rw [if_pos h]
    obtain ⟨c, h1, h2, h3⟩ := (hT.2 i h).2
    exact Or.inr ⟨c, h2, h3⟩
  · rw [if_neg h]; exact Or.inl rfl
theorem ch_lt {L : Nat} {sg : Nat → Int32} {i : Nat} {x : Int32} (h : ch L sg i = x) (hx : x ≠ -1) : i < L := by
  unfold ch at h
  by_cases h1 : i < L
  · exact h1
  · rw [if_neg h1] at h
    exact absurd h.symm hx
/-- a letter from A to F, or none -/
theorem ch_cyl {x : Int32} (hx : x = -1 ∨ ∃ c, c < 127 ∧ x = nI c) : (∃ c, c < 6 ∧ x = nI (65 + c) ∧ x - 65 = nI c ∧ mX8_in x 65 70 = some 1) ∨ (mX8_in x 65 70 = some 0 ∧ (x - 65 < 0 ∨ (¬ x - 65 < 0 ∧ ¬ x - 65 < 6))) := by
  have key : ∀ c, c < 127 → (65 ≤ c ∧ c < 71 ∧ nI c - 65 = nI (c - 65) ∧ (65 : Int32) ≤ nI c ∧ nI c ≤ (70 : Int32)) ∨ (¬ ((65 : Int32) ≤ nI c ∧ nI c ≤ (70 : Int32)) ∧ (nI c - 65 < 0 ∨ (¬ nI c - 65 < 0 ∧ ¬ nI c - 65 < 6))) := by decide +kernel
  rcases hx with rfl | ⟨c, hc, rfl⟩
  · right
    rw [me_in]
    exact ⟨by rw [if_neg (by decide)], Or.inl (by decide)⟩
  · rcases key c hc with ⟨h1, h2, h3, h4, h5⟩ | ⟨h1, h2⟩
    · left
      refine ⟨c - 65, by omega, by rw [show 65 + (c - 65) = c by omega], h3, ?_⟩
      rw [me_in, if_pos ⟨h4, h5⟩]
    · right
      rw [me_in, if_neg h1]
      exact ⟨rfl, h2⟩
/-- a digit, or none -/
theorem ch_dig {x : Int32} (hx : x = -1 ∨ ∃ c, c < 127 ∧ x = nI c) : (∃ d, d < 10 ∧ x = nI (48 + d) ∧ x - 48 = nI d ∧ ¬ x < 48 ∧ ¬ 57 < x ∧ mX8_in x 48 57 = some 1) ∨ (mX8_in x 48 57 = some 0 ∧ (x < 48 ∨ (¬ x < 48 ∧ 57 < x))) := by
  have key : ∀ c, c < 127 → (48 ≤ c ∧ c < 58 ∧ nI c - 48 = nI (c - 48) ∧ (48 : Int32) ≤ nI c ∧ nI c ≤ (57 : Int32) ∧ ¬ nI c < 48 ∧ ¬ 57 < nI c) ∨ (¬ ((48 : Int32) ≤ nI c ∧ nI c ≤ (57 : Int32)) ∧ (nI c < 48 ∨ (¬ nI c < 48 ∧ 57 < nI c))) := by decide +kernel
  rcases hx with rfl | ⟨c, hc, rfl⟩
  · right
    rw [me_in]
    exact ⟨by rw [if_neg (by decide)], Or.inl (by decide)⟩
  · rcases key c hc with ⟨h1, h2, h3, h4, h5, h6, h7⟩ | ⟨h1, h2⟩
    · left
      refine ⟨c - 48, by omega, by rw [show 48 + (c - 48) = c by omega], h3, h6, h7, ?_⟩
      rw [me_in, if_pos ⟨h4, h5⟩]
    · right
      rw [me_in, if_neg h1]
      exact ⟨rfl, h2⟩
/-- errors so far: none, or a wrong move -/
def EW (t tr : Nat → Int32) : Prop := (t 2 = 0 ∧ tr 19 = -1) ∨ (t 2 = 2 ∧ ∃ p, p < 200 ∧ t 3 = nI p ∧ tr 19 = nI p)
/-- inside of step n: both sides -/
def MS (L n : Nat) (before : Int32) (t M P tr rb ro : Nat → Int32) : Prop := (t 1 = nI L ∧ tr 11 = nI L ∧ tr 14 = nI n ∧ tr 18 = t 5) ∧ EW t tr ∧ (∀ i, i ≤ n → ro i = P i ∧ rb i = M i) ∧ (∀ c, c < 6 → bt (P n) c = false → bt (M n) c = false → bt (t 5) c = bt before c) ∧ (∀ c, c < 32 → (bt (P n) c = true ∨ bt (M n) c = true) → c < 6) ∧ (t 2 = 0 → (∀ c, c < 6 → ¬ (bt (P n) c = true ∧ bt (M n) c = true)) ∧ (∀ c, c < 6 → bt (P n) c = true → bt before c = false) ∧ (∀ c, c < 6 → bt (M n) c = true → bt before c = true) ∧ ∀ c, c < 32 → bt (t 5) c = ((bt before c || bt (P n) c) && !bt (M n) c))
def bit (c : Nat) : Int32 := (1 : Int32) <<< (nI c &&& 31)
theorem bit_bt {c i : Nat} (hc : c < 6) (hi : i < 32) : bt (bit c) i = decide (i = c) := mb_bit (by omega) hi
theorem and_bit {x : Int32} {c : Nat} (hc : c < 6) : (x &&& bit c = 0) ↔ bt x c = false := by
  rw [mb_zero]
  constructor
  · intro h
    have := h c (by omega)
    rw [b_and, bit_bt hc (by omega), decide_eq_true rfl, Bool.and_true] at this
    exact this
  · intro h i hi
    rw [b_and, bit_bt hc hi]
    by_cases e : i = c
    · rw [e, h]; rfl
    · rw [decide_eq_false e, Bool.and_false]
/-- a wrong move -/
def wr (P M : Nat → Int32) (n c : Nat) (out : Int32) (e : Bool) : Bool := (bt (P n) c || bt (M n) c) || (bt out c == e)
def mvO (o : Int32) (c : Nat) (e : Bool) : Int32 := if e then o ||| bit c else o &&& (bit c ^^^ (-1))
theorem me_takeMove {t M P : Nat → Int32} {n c : Nat} (hn : n < 16) (hc : c < 6) (e : Bool) : mX2_takeMove t M P (nI n) (nI c) (if e then 1 else 0) = some (upd (if t 2 = 0 ∧ wr P M n c (t 5) e = true then upd (upd t 2 2) 3 (t 4) else t) 5 (mvO (t 5) c e), (if e then M else upd M n (M n ||| bit c)), (if e then upd P n (P n ||| bit c) else P)) := by
  unfold mX2_takeMove
  rw [me_movesIn _ _ hn, me_bd, me_holds _ (by omega), me_bd, b_or, me_holds _ (by omega)]
  have h3 : (if t 2 = 0 then (bq_let (fun (_ : Unit) => bq_let (upd t 2 2) (fun t_4 => bq_let (upd t_4 3 (t_4 4)) (fun t_5 => some t_5))) (fun J36 => if (if (bt (P n) c || bt (M n) c) = true then (1 : Int32) else 0) = 0 then (bq_bd (some (if bt (t 5) c = true then (1 : Int32) else 0)) (fun v6 => if v6 = (if e = true then 1 else 0) then (J36 ()) else (some t))) else (J36 ()))) else (some t) : Option ((Nat → Int32))) = some (if t 2 = 0 ∧ wr P M n c (t 5) e = true then upd (upd t 2 2) 3 (t 4) else t) := by
    by_cases h0 : t 2 = 0
    · rw [if_pos h0, me_let]
      unfold wr
      cases hb : (bt (P n) c || bt (M n) c)
      · rw [if_pos (by decide), me_bd, Bool.false_or]
        by_cases he : bt (t 5) c = e
        · rw [if_pos ((mq_01 _ _).mpr he), if_pos ⟨h0, by rw [he]; exact beq_self_eq_true e⟩]
          rfl
        · rw [if_neg (fun h9 => he ((mq_01 _ _).mp h9)), if_neg (fun h9 => he (eq_of_beq h9.2))]
      · rw [if_neg (by decide), if_pos ⟨h0, rfl⟩]
        rfl
    · rw [if_neg h0, if_neg (fun h9 => h0 h9.1)]
  rw [h3, me_bd]
  generalize ht3 : (if t 2 = 0 ∧ wr P M n c (t 5) e = true then upd (upd t 2 2) 3 (t 4) else t) = t3
  have h5 : t3 5 = t 5 := by
    rw [← ht3]
    by_cases h : t 2 = 0 ∧ wr P M n c (t 5) e = true
    · rw [if_pos h]; rfl
    · rw [if_neg h]
  rw [h5]
  unfold mvO bit
  cases e
  · rw [if_pos (by decide), me_ci _ hn (by omega), me_ci _ hn (by omega), nI_clamp (by omega)]
    rfl
  · rw [if_neg (by decide), me_ci _ hn (by omega), me_ci _ hn (by omega), nI_clamp (by omega)]
    rfl
theorem mr_notes {L n c i : Nat} {tr sg tx rb ro : Nat → Int32} {before : Int32} (hT : TXT L sg tx) (h11 : tr 11 = nI L) (h14 : tr 14 = nI n) (hn : n < 16) (hi : i < 900) (hc : c < 6) (hch : ch L sg i = nI (65 + c)) : mX8_notes tr rb ro tx (nI i) before = some (upd (if ((bt (ro n) c || bt (rb n) c) || (bt before c == decide (ch L sg (i + 1) = 43))) = true ∧ tr 19 < 0 then upd tr 19 (nI i) else tr) 18 (mvO (tr 18) c (decide (ch L sg (i + 1) = 43))), upd rb n (if decide (ch L sg (i + 1) = 43) then rb n else rb n ||| bit c), upd ro n (if decide (ch L sg (i + 1) = 43) then ro n ||| bit c else ro n)) := by
  have e65 : nI (65 + c) - 65 = nI c := by
    have : (65 : Int32) = nI 65 := rfl
    rw [this, pk_sub (by omega), Nat.add_sub_cancel_left]
  unfold mX8_notes
  rw [mr_letter hT h11 (by omega), me_bd, hch, e65, nI_1, mr_letter hT h11 (by omega), me_let, me_bd]
  have hbit : (1 : Int32) <<< (nI c &&& 31) = bit c := rfl
  rw [hbit]
  generalize he : decide (ch L sg (i + 1) = 43) = e
  have ee : (if ch L sg (i + 1) = 43 then (1 : Int32) else 0) = if e = true then 1 else 0 := by
    rw [← he]
    by_cases h : ch L sg (i + 1) = 43
    · rw [if_pos h, if_pos (decide_eq_true h)]
    · rw [if_neg h, if_neg (by rw [decide_eq_false h]; decide)]
  rw [ee, me_let, h14, me_ci _ (by omega) (by omega), me_ci _ (by omega) (by omega), nI_clamp (by omega), me_let, me_let]
  have e1 : (if (ro n ||| rb n) &&& bit c = 0 then (0 : Int32) else 1) = if (bt (ro n) c || bt (rb n) c) = true then 1 else 0 := by
    have := and_bit (x := ro n ||| rb n) hc
    rw [b_or] at this
    cases hb : (bt (ro n) c || bt (rb n) c)
    · rw [if_pos (this.mpr hb)]; rfl
    · rw [if_neg (fun h9 => by rw [this.mp h9] at hb; cases hb)]; rfl
  have e2 : (if before &&& bit c = 0 then (0 : Int32) else 1) = if bt before c = true then 1 else 0 := by
    have := and_bit (x := before) hc
    cases hb : bt before c
    · rw [if_pos (this.mpr hb)]; rfl
    · rw [if_neg (fun h9 => by rw [this.mp h9] at hb; cases hb)]; rfl
  rw [e1, e2]
  have h3 : (if (if (bt (ro n) c || bt (rb n) c) = true then (1 : Int32) else 0) = 0 then (if (if bt before c = true then (1 : Int32) else 0) = (if e = true then 1 else 0) then (if 0 ≤ tr 19 then (some tr) else (bq_let (upd tr 19 (nI i)) (fun t_9 => some t_9))) else (some tr)) else (if 0 ≤ tr 19 then (some tr) else (bq_let (upd tr 19 (nI i)) (fun t_8 => some t_8))) : Option (Nat → Int32)) = some (if ((bt (ro n) c || bt (rb n) c) || (bt before c == e)) = true ∧ tr 19 < 0 then upd tr 19 (nI i) else tr) := by
    have hin : (if 0 ≤ tr 19 then (some tr) else (bq_let (upd tr 19 (nI i)) (fun t_9 => some t_9)) : Option (Nat → Int32)) = some (if tr 19 < 0 then upd tr 19 (nI i) else tr) := by
      by_cases h : tr 19 < 0
      · rw [if_neg (Int32.not_le.mpr h), if_pos h]; rfl
      · rw [if_pos (Int32.not_lt.mp h), if_neg h]
    rw [hin]
    cases hb : (bt (ro n) c || bt (rb n) c)
    · rw [if_pos (by decide), Bool.false_or]
      by_cases hq : bt before c = e
      · rw [if_pos ((mq_01 _ _).mpr hq)]
        have : (bt before c == e) = true := by rw [hq]; exact beq_self_eq_true e
        simp only [this, true_and]
      · rw [if_neg (fun h9 => hq ((mq_01 _ _).mp h9)), if_neg (fun h9 => hq (eq_of_beq h9.1))]
    · rw [if_neg (by decide)]
      simp only [Bool.true_or, true_and]
  rw [h3, me_bd]
  generalize ht3 : (if ((bt (ro n) c || bt (rb n) c) || (bt before c == e)) = true ∧ tr 19 < 0 then upd tr 19 (nI i) else tr) = t3
  have g14 : t3 14 = nI n := by
    rw [← ht3]
    split
    · exact h14
    · exact h14
  have g18 : t3 18 = tr 18 := by
    rw [← ht3]
    split
    · rfl
    · rfl
  rw [g14, me_ci _ (by omega) (by omega), me_let, me_ci _ (by omega) (by omega), nI_clamp (by omega), me_let, me_ci _ (by omega) (by omega), me_let, me_ci _ (by omega) (by omega), me_let, me_let, me_let, g18]
  unfold mvO
  cases e
  · simp only [Bool.false_eq_true, if_false, if_true, mq_or0]
  · simp only [if_true, Bool.true_eq_false, if_neg (by decide : ¬ (1 : Int32) = 0), mq_or0]
end
