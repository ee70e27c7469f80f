section
/-- the class's reader behind a move -/
def rdm (t M P : Nat → Int32) (n c i : Nat) (e : Bool) : Nat → Int32 := upd (upd (if t 2 = 0 ∧ wr P M n c (t 5) e = true then upd (upd t 2 2) 3 (t 4) else t) 5 (mvO (t 5) c e)) 4 (nI (i + 2))
def rfs (t : Nat → Int32) (p : Nat) : Nat → Int32 := upd (upd t 2 1) 3 (nI p)
theorem mv_cases {L n i : Nat} {t tr sg tx : Nat → Int32} (hT : TXT L sg tx) (h1 : t 1 = nI L) (h11 : tr 11 = nI L) (h4 : t 4 = nI i) (hn : n < 16) (hi : i < 900) :
    (∃ c, c < 6 ∧ ch L sg i = nI (65 + c) ∧ i + 1 < L ∧ mX8_isMove tr tx (nI i) = some 1 ∧ ∀ M P, mX2_readMove t sg M P (nI n) = some (rdm t M P n c i (decide (ch L sg (i + 1) = 43)), (if decide (ch L sg (i + 1) = 43) then M else upd M n (M n ||| bit c)), (if decide (ch L sg (i + 1) = 43) then upd P n (P n ||| bit c) else P))) ∨
    (∃ p, p ≤ i + 1 ∧ mX8_isMove tr tx (nI i) = some 0 ∧ mX8_failsAt tr tx (nI i) = some (nI p) ∧ ∀ M P, mX2_readMove t sg M P (nI n) = some (rfs t p, M, P)) := by
  have hL := hT.1
  have hs1 : mX2_signAt t sg (t 4) = some (ch L sg i) := by rw [h4]; exact me_sign hL h1 (by omega)
  have hs2 : mX2_signAt t sg (t 4 + 1) = some (ch L sg (i + 1)) := by rw [h4, nI_1]; exact me_sign hL h1 (by omega)
  have hl1 : mX8_letter tr tx (nI i) = some (ch L sg i) := mr_letter hT h11 (by omega)
  have hl2 : mX8_letter tr tx (nI i + 1) = some (ch L sg (i + 1)) := by rw [nI_1]; exact mr_letter hT h11 (by omega)
  rcases ch_cyl (ch_or hT i) with ⟨c, hc, e1, e2, e3⟩ | ⟨e3, e4⟩
  · have hb0 : ¬ nI c < 0 := nI_pos (by omega)
    have hb6 : nI c < 6 := nI_lt (b := 6) (by omega) (by omega)
    have hfa : mX8_failsAt tr tx (nI i) = some (nI (i + 1)) := by
      unfold mX8_failsAt
      rw [hl1, me_bd, e3, me_bd, if_neg (by decide), me_let, nI_1]
    by_cases hsg : ch L sg (i + 1) = 43 ∨ ch L sg (i + 1) = 45
    · left
      have hlt : i + 1 < L := ch_lt (x := ch L sg (i + 1)) rfl (by rcases hsg with h | h <;> rw [h] <;> decide)
      refine ⟨c, hc, e1, hlt, ?_, fun M P => ?_⟩
      · unfold mX8_isMove
        rw [hl1, me_bd, e3, me_bd, if_neg (by decide), hl2, me_bd, me_bd]
        rcases hsg with h | h
        · rw [if_pos h]; rfl
        · rw [if_neg (by rw [h]; decide), if_pos h]; rfl
      · unfold mX2_readMove
        have htk : (bq_let (if ch L sg (i + 1) = 43 then 1 else 0 : Int32) (fun v8 => bq_b3 (mX2_takeMove t M P (nI n) (nI c) v8) (fun t_9 p1_minus_10 p1_plus_11 => bq_let (upd t_9 4 ((t_9 4) + 2)) (fun t_12 => some (t_12, p1_minus_10, p1_plus_11))))) = some (rdm t M P n c i (decide (ch L sg (i + 1) = 43)), (if decide (ch L sg (i + 1) = 43) then M else upd M n (M n ||| bit c)), (if decide (ch L sg (i + 1) = 43) then upd P n (P n ||| bit c) else P)) := by
          have ee : (if ch L sg (i + 1) = 43 then (1 : Int32) else 0) = if decide (ch L sg (i + 1) = 43) = true then 1 else 0 := by
            by_cases h : ch L sg (i + 1) = 43
            · rw [if_pos h, if_pos (decide_eq_true h)]
            · rw [if_neg h, if_neg (by rw [decide_eq_false h]; decide)]
          rw [me_let, ee, me_takeMove hn hc, me_b3, me_let]
          unfold rdm
          generalize hX : (if t 2 = 0 ∧ wr P M n c (t 5) (decide (ch L sg (i + 1) = 43)) = true then upd (upd t 2 2) 3 (t 4) else t) = X
          have hX4 : X 4 = nI i := by
            rw [← hX]
            split
            · exact h4
            · exact h4
          have e2' : (2 : Int32) = nI 2 := rfl
          rw [mu_n _ _ (by omega), hX4, e2', nI_add]
        rw [hs1, me_bd, e2, me_let, hs2, me_bd, if_neg hb0, if_pos hb6, me_let, htk]
        rcases hsg with h | h
        · rw [if_pos h]; rfl
        · rw [if_neg (by rw [h]; decide), if_pos h]; rfl
    · right
      have hn43 : ¬ ch L sg (i + 1) = 43 := fun h => hsg (Or.inl h)
      have hn45 : ¬ ch L sg (i + 1) = 45 := fun h => hsg (Or.inr h)
      refine ⟨i + 1, Nat.le_refl _, ?_, hfa, fun M P => ?_⟩
      · unfold mX8_isMove
        rw [hl1, me_bd, e3, me_bd, if_neg (by decide), hl2, me_bd, me_bd, if_neg hn43, if_neg hn45]; rfl
      · unfold mX2_readMove
        rw [hs1, me_bd, e2, me_let, hs2, me_bd, if_neg hb0, if_pos hb6, me_let, if_neg hn43, if_neg hn45, h4, nI_1]
        rfl
  · right
    refine ⟨i, by omega, ?_, ?_, fun M P => ?_⟩
    · unfold mX8_isMove
      rw [hl1, me_bd, e3, me_bd, if_pos rfl]; rfl
    · unfold mX8_failsAt
      rw [hl1, me_bd, e3, me_bd, if_pos rfl, me_let]
    · unfold mX2_readMove
      rw [hs1, me_bd, me_let, hs2, me_bd]
      rcases e4 with h | ⟨h, h2⟩
      · rw [if_pos h, h4]; rfl
      · rw [if_neg h, if_neg h2, h4]; rfl
theorem mvO_bt (o : Int32) {c i : Nat} (hc : c < 6) (hi : i < 32) (e : Bool) : bt (mvO o c e) i = if i = c then e else bt o i := by
  unfold mvO
  cases e
  · rw [if_neg (by decide), b_and, mb_not _ hi, bit_bt hc hi]
    by_cases h : i = c
    · rw [if_pos h, decide_eq_true h]; simp
    · rw [if_neg h, decide_eq_false h]; simp
  · rw [if_pos rfl, b_or, bit_bt hc hi]
    by_cases h : i = c
    · rw [if_pos h, decide_eq_true h]; simp
    · rw [if_neg h, decide_eq_false h]; simp
/-- a move, both sides -/
theorem move_sim {L n i c : Nat} {before : Int32} {t M P tr rb ro sg tx : Nat → Int32} (hT : TXT L sg tx) (h : MS L n before t M P tr rb ro) (h4 : t 4 = nI i) (hn : n < 16) (hi : i < 100) (hc : c < 6) (hch : ch L sg i = nI (65 + c)) {e : Bool} (he : decide (ch L sg (i + 1) = 43) = e) :
    ∃ tr' rb' ro', mX8_notes tr rb ro tx (nI i) before = some (tr', rb', ro') ∧ MS L n before (rdm t M P n c i e) (if e then M else upd M n (M n ||| bit c)) (if e then upd P n (P n ||| bit c) else P) tr' rb' ro' ∧ ¬ (rdm t M P n c i e) 2 = 1 ∧ (rdm t M P n c i e) 4 = nI (i + 2) ∧ (bt ((if e then upd P n (P n ||| bit c) else P) n) c = true ∨ bt ((if e then M else upd M n (M n ||| bit c)) n) c = true) ∧ ∀ k, k ≠ 18 → k ≠ 19 → tr' k = tr k := by
  obtain ⟨⟨h1, h11, h14, h18⟩, hE, hA, hB, h6, hV⟩ := h
  have hno := mr_notes (rb := rb) (ro := ro) (before := before) hT h11 h14 hn (by omega) hc hch
  rw [he] at hno
  obtain ⟨a1, a2⟩ := hA n (Nat.le_refl n)
  rw [a1, a2] at hno
  -- the new commands of the step
  generalize hM' : (if e = true then M else upd M n (M n ||| bit c)) = M'
  generalize hP' : (if e = true then upd P n (P n ||| bit c) else P) = P'
  have hP'n : P' n = if e then P n ||| bit c else P n := by
    rw [← hP']
    cases e
    · rfl
    · rw [if_pos rfl, if_pos rfl, mu_s]
  have hM'n : M' n = if e then M n else M n ||| bit c := by
    rw [← hM']
    cases e
    · rw [if_neg (by decide), if_neg (by decide), mu_s]
    · rfl
  have hP'o : ∀ j, j ≠ n → P' j = P j := fun j hj => by
    rw [← hP']
    cases e
    · rfl
    · rw [if_pos rfl, mu_n _ _ hj]
  have hM'o : ∀ j, j ≠ n → M' j = M j := fun j hj => by
    rw [← hM']
    cases e
    · rw [if_neg (by decide), mu_n _ _ hj]
    · rfl
  have hPb : ∀ x, x < 32 → bt (P' n) x = (bt (P n) x || (e && decide (x = c))) := fun x hx => by
    rw [hP'n]
    cases e
    · rw [if_neg (by decide), Bool.false_and, Bool.or_false]
    · rw [if_pos rfl, b_or, bit_bt hc hx, Bool.true_and]
  have hMb : ∀ x, x < 32 → bt (M' n) x = (bt (M n) x || (!e && decide (x = c))) := fun x hx => by
    rw [hM'n]
    cases e
    · rw [if_neg (by decide), b_or, bit_bt hc hx, Bool.not_false, Bool.true_and]
    · rw [if_pos rfl, Bool.not_true, Bool.false_and, Bool.or_false]
  -- wrong on both sides
  have hw : ((bt (P n) c || bt (M n) c) || (bt before c == e)) = wr P M n c (t 5) e := by
    unfold wr
    cases hb : (bt (P n) c || bt (M n) c)
    · rw [Bool.or_eq_false_iff] at hb
      rw [hB c hc hb.1 hb.2]
    · rfl
  rw [hw] at hno
  -- the fields of the two readers
  have r5 : rdm t M P n c i e 5 = mvO (t 5) c e := by unfold rdm; rw [mu_n _ _ (by omega), mu_s]
  have r4 : rdm t M P n c i e 4 = nI (i + 2) := by unfold rdm; rw [mu_s]
  have rk : ∀ k, k ≠ 5 → k ≠ 4 → rdm t M P n c i e k = (if t 2 = 0 ∧ wr P M n c (t 5) e = true then upd (upd t 2 2) 3 (t 4) else t) k := fun k k5 k4 => by unfold rdm; rw [mu_n _ _ k4, mu_n _ _ k5]
  have r1 : rdm t M P n c i e 1 = nI L := by
    rw [rk 1 (by omega) (by omega)]
    split
    · exact h1
    · exact h1
  refine ⟨_, _, _, hno, ⟨⟨r1, ?_, ?_, ?_⟩, ?_, fun j hj => ?_, fun x hx p1 p2 => ?_, fun x hx hb => ?_, fun h0 => ?_⟩, ?_, r4, ?_, fun k k1 k2 => ?_⟩
  · rw [mu_n _ _ (by omega)]
    split
    · exact h11
    · exact h11
  · rw [mu_n _ _ (by omega)]
    split
    · exact h14
    · exact h14
  · rw [mu_s, r5, h18]
  · -- errors
    unfold EW
    rw [rk 2 (by omega) (by omega), rk 3 (by omega) (by omega)]
    have e19 : ∀ X : Nat → Int32, ∀ v, upd X 18 v 19 = X 19 := fun X v => mu_n _ _ (by omega)
    rw [e19]
    rcases hE with ⟨q1, q2⟩ | ⟨q1, p, q2, q3, q4⟩
    · cases hwr : wr P M n c (t 5) e
      · left
        rw [if_neg (fun h9 => by cases h9.2), if_neg (fun h9 => by cases h9.1)]
        exact ⟨q1, q2⟩
      · right
        rw [if_pos ⟨q1, rfl⟩, if_pos ⟨rfl, by rw [q2]; decide⟩]
        exact ⟨rfl, i, by omega, h4, mu_s _ _ _⟩
    · right
      rw [if_neg (fun h9 => by rw [q1] at h9; exact absurd h9.1 (by decide)), if_neg (fun h9 => by rw [q4] at h9; exact absurd h9.2 (nI_pos (by omega)))]
      exact ⟨q1, p, q2, q3, q4⟩
  · rcases Nat.lt_or_ge j n with hjn | hjn
    · rw [mu_n _ _ (by omega), mu_n _ _ (by omega), hP'o j (by omega), hM'o j (by omega)]
      exact hA j (by omega)
    · rw [show j = n by omega, mu_s, mu_s, hP'n, hM'n]
      exact ⟨rfl, rfl⟩
  · rw [hPb x (by omega), Bool.or_eq_false_iff] at p1
    rw [hMb x (by omega), Bool.or_eq_false_iff] at p2
    have hxc : ¬ x = c := fun h9 => by
      rw [decide_eq_true h9, Bool.and_true] at p1 p2
      rw [p1.2] at p2
      exact absurd p2.2 (by decide)
    rw [r5, mvO_bt _ hc (by omega), if_neg hxc]
    exact hB x hx p1.1 p2.1
  · by_cases hxc : x = c
    · omega
    · rw [hPb x hx, hMb x hx, decide_eq_false hxc, Bool.and_false, Bool.and_false, Bool.or_false, Bool.or_false] at hb
      exact h6 x hx hb
  · -- no wrong move yet: neither this one
    rw [rk 2 (by omega) (by omega)] at h0
    have ht2 : t 2 = 0 ∧ wr P M n c (t 5) e = false := by
      by_cases h9 : t 2 = 0 ∧ wr P M n c (t 5) e = true
      · rw [if_pos h9, mu_n _ _ (by omega), mu_s] at h0
        exact absurd h0 (by decide)
      · rw [if_neg h9] at h0
        refine ⟨h0, ?_⟩
        cases hx : wr P M n c (t 5) e
        · rfl
        · exact absurd ⟨h0, hx⟩ h9
    obtain ⟨t2, hwf⟩ := ht2
    obtain ⟨v1, v2, v3, v4⟩ := hV t2
    rw [← hw, Bool.or_eq_false_iff, Bool.or_eq_false_iff] at hwf
    obtain ⟨⟨w1, w2⟩, w3⟩ := hwf
    have w3' : bt before c = !e := by
      cases hbb : bt before c <;> cases e <;> rw [hbb] at w3 <;> first | rfl | exact absurd w3 (by decide)
    refine ⟨fun x hx hb => ?_, fun x hx hb => ?_, fun x hx hb => ?_, fun x hx => ?_⟩
    · rw [hPb x (by omega), hMb x (by omega)] at hb
      by_cases hxc : x = c
      · subst hxc
        rw [w1, w2] at hb
        cases e <;> simp at hb
      · rw [decide_eq_false hxc, Bool.and_false, Bool.and_false, Bool.or_false, Bool.or_false] at hb
        exact v1 x hx hb
    · rw [hPb x (by omega)] at hb
      by_cases hxc : x = c
      · subst hxc
        rw [w1, decide_eq_true rfl, Bool.and_true, Bool.false_or] at hb
        rw [w3', hb]; rfl
      · rw [decide_eq_false hxc, Bool.and_false, Bool.or_false] at hb
        exact v2 x hx hb
    · rw [hMb x (by omega)] at hb
      by_cases hxc : x = c
      · subst hxc
        rw [w2, decide_eq_true rfl, Bool.and_true, Bool.false_or] at hb
        rw [w3']; exact hb
      · rw [decide_eq_false hxc, Bool.and_false, Bool.or_false] at hb
        exact v3 x hx hb
    · rw [r5, mvO_bt _ hc hx, hPb x hx, hMb x hx]
      by_cases hxc : x = c
      · subst hxc
        rw [if_pos rfl, w1, w2, w3']
        cases e <;> simp
      · rw [if_neg hxc, decide_eq_false hxc, Bool.and_false, Bool.and_false, Bool.or_false, Bool.or_false]
        exact v4 x hx
  · rw [rk 2 (by omega) (by omega)]
    split
    · rw [mu_n _ _ (by omega), mu_s]; decide
    · rcases hE with ⟨q1, _⟩ | ⟨q1, _⟩ <;> rw [q1] <;> decide
  · rw [hPb c (by omega), hMb c (by omega), decide_eq_true rfl]
    cases e
    · right; simp
    · left; simp
  · rw [mu_n _ _ k1]
    split
    · rw [mu_n _ _ k2]
    · rfl
end
