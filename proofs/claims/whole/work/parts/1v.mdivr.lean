section
theorem bt_nI {k i : Nat} (hk : k < 2 ^ 32) (hi : i < 32) : bt (nI k) i = k.testBit i := by
  unfold bt
  show (BitVec.ofNat 32 k).getLsbD i = _
  rw [BitVec.getLsbD_ofNat, decide_eq_true hi, Bool.true_and]
theorem bt_neg (x : Int32) {i : Nat} (hi : i < 32) : bt (-x) i = (bt x i ^^ decide (∃ j, j < i ∧ bt x j = true)) := by
  unfold bt
  rw [Int32.toBitVec_neg, BitVec.getLsbD_neg, decide_eq_true hi, Bool.true_and]
theorem bt_low {x y : Int32} : (x &&& y) &&& (-y) = 0 ↔ ¬ ∃ p, p < 32 ∧ bt y p = true ∧ (∀ q, q < p → bt y q = false) ∧ bt x p = true := by
  rw [mb_zero]
  constructor
  · rintro h ⟨p, h1, h2, h3, h4⟩
    have := h p h1
    rw [b_and, b_and, bt_neg y h1, h2, h4, decide_eq_false (by rintro ⟨j, j1, j2⟩; rw [h3 j j1] at j2; cases j2)] at this
    cases this
  · intro h i hi
    rw [b_and, b_and, bt_neg y hi]
    cases hx : bt x i
    · rfl
    · cases hy : bt y i
      · rfl
      · by_cases he : ∃ j, j < i ∧ bt y j = true
        · rw [decide_eq_true he]; rfl
        · exfalso
          exact h ⟨i, hi, hy, fun q hq => Bool.eq_false_iff.mpr (fun h9 => he ⟨q, hq, h9⟩), hx⟩
/-- x comes before y: at the lowest bit where they differ x has it -/
def AH (x y : Int32) : Prop := ∃ p, p < 32 ∧ bt x p ≠ bt y p ∧ (∀ q, q < p → bt x q = bt y q) ∧ bt x p = true
theorem mr_ahead (x y : Int32) : ∃ v, mX8_isAhead x y = some v ∧ (¬ v = 0 ↔ AH x y) := by
  have hxor : ∀ p, p < 32 → (bt (x ^^^ y) p = true ↔ bt x p ≠ bt y p) := fun p _ => by
    rw [b_xor]
    cases bt x p <;> cases bt y p <;> decide
  have hah : AH x y ↔ ∃ p, p < 32 ∧ bt (x ^^^ y) p = true ∧ (∀ q, q < p → bt (x ^^^ y) q = false) ∧ bt x p = true := by
    constructor
    · rintro ⟨p, h1, h2, h3, h4⟩
      exact ⟨p, h1, (hxor p h1).mpr h2, fun q hq => Bool.eq_false_iff.mpr (fun h9 => (hxor q (by omega)).mp h9 (h3 q hq)), h4⟩
    · rintro ⟨p, h1, h2, h3, h4⟩
      exact ⟨p, h1, (hxor p h1).mp h2, fun q hq => Classical.byContradiction (fun h9 => by have := h3 q hq; rw [(hxor q (by omega)).mpr h9] at this; cases this), h4⟩
  unfold mX8_isAhead
  rw [me_let, me_let]
  by_cases h0 : x ^^^ y = 0
  · rw [if_pos h0, me_cb _ (Or.inl rfl)]
    refine ⟨0, rfl, fun h => absurd rfl h, fun h => ?_⟩
    obtain ⟨p, h1, h2, _⟩ := hah.mp h
    rw [h0, b_0] at h2
    cases h2
  · rw [if_neg h0]
    by_cases h1 : (x &&& (x ^^^ y)) &&& (-(x ^^^ y)) = 0
    · rw [if_pos h1, me_cb _ (Or.inl rfl)]
      exact ⟨0, rfl, fun h => absurd rfl h, fun h => absurd (hah.mp h) (bt_low.mp h1)⟩
    · rw [if_neg h1, me_cb _ (Or.inr rfl)]
      refine ⟨1, rfl, fun _ => hah.mpr (Classical.byContradiction (fun h9 => h1 (bt_low.mpr h9))), fun _ => by decide⟩
theorem bt_diff {x y : Int32} (h : ¬ x = y) : ∃ p, p < 32 ∧ bt x p ≠ bt y p ∧ ∀ q, q < p → bt x q = bt y q := by
  rcases ml_least (fun p => bt x p ≠ bt y p) 0 32 with h1 | ⟨m, _, m2, m3, m4⟩
  · exact absurd (b_ext (fun i hi => Classical.byContradiction (fun h9 => h1 i (by omega) hi h9))) h
  · exact ⟨m, m2, m3, fun q hq => Classical.byContradiction (fun h9 => m4 q (by omega) hq h9)⟩
/-- how far the groups of a set are looked at -/
def GI (f : Nat → Int32) (N : Nat) (T : Nat → Bool) (t k : Nat) (u : Int32) : Prop := (∃ c, t ≤ c ∧ c ≤ t + k ∧ rg N T c = true ∧ ORS f c (t + k) u ∧ (∀ m, c < m → m < t + k → rg N T m = false) ∧ FRE f c (t + k)) ∧ ∀ i j, t ≤ i → i < j → j < t + k → (∀ m, i < m → m ≤ j → rg N T m = false) → f i &&& f j = 0
theorem mr_areGroups {tr M P : Nat → Int32} {N : Nat} {x : Int32} {t : Nat} (ht : tr 4 = nI N) (h0 : 0 < N) (hN : N ≤ 16) (htN : t < N) (hx : bt x t = true) (hlow : ∀ q, q < t → bt x q = false) : ∃ v, mX8_areGroups tr M P x = some v ∧ (¬ v = 0 ↔ VT (mr N P M) N (bt x) t) := by
  have hfirst : bq_loop (bq_u1 (bX8_areGroups_2 x)) 0 = some (nI t) := by
    refine ml_run (fun j => nI j) t (fun j hj => ?_) ?_
    · rw [me_u1]
      unfold bX8_areGroups_2
      rw [mb_shr x (by omega), hlow j hj, if_pos (by decide), me_let, nI_1]
    · rw [me_u1]
      unfold bX8_areGroups_2
      rw [mb_shr x (by omega), hx, if_neg (by decide)]
  have hl := ml_inv (b := bq_u2 (bX8_areGroups_21 tr M P x (nI t))) (fun k s => s.1 = nI k ∧ GI (mr N P M) N (bt x) t k s.2) (fun r => (r = .inl () ∧ VT (mr N P M) N (bt x) t) ∨ (r = .inr 0 ∧ ¬ VT (mr N P M) N (bt x) t)) N (fun k s hk hs => ?_) (fun s hs => ?_) N 0 (0, 0) (by omega) ⟨rfl, ⟨t, by omega, by omega, by rw [rg_lt _ htN]; exact hx, ors_0 _ _, fun m m1 m2 => by omega, fre_one _ (by omega)⟩, fun i j h1 h2 h3 => by omega⟩
  · obtain ⟨r, h1, h2⟩ := hl
    unfold mX8_areGroups
    rw [hfirst, me_bd, h1, me_bd]
    rcases h2 with ⟨rfl, h3⟩ | ⟨rfl, h3⟩
    · exact ⟨1, rfl, fun _ => h3, fun _ => by decide⟩
    · exact ⟨0, rfl, fun h => absurd rfl h, fun h => absurd h h3⟩
  · obtain ⟨i3, u⟩ := s
    obtain ⟨e1, ⟨c, c1, c2, c0, c3, c4, c5⟩, hP⟩ := hs
    have e1' : i3 = nI k := e1
    subst e1'
    have c3' : ORS (mr N P M) c (t + k) u := c3
    rw [me_u2]
    unfold bX8_areGroups_21
    rw [ht, if_neg (mq_nle hk (by omega))]
    unfold bq_cz
    have hml : (t + k) % N < N := Nat.mod_lt _ h0
    rw [if_neg (nI_ne0 h0 (by omega)), nI_add, me_let, pk_rem (by omega) h0 (by omega), mb_shr x (by omega), me_let, me_ci _ (by omega) (by omega), me_ci _ (by omega) (by omega), nI_clamp (by omega), me_let, nI_1]
    have hf : P ((t + k) % N) ||| M ((t + k) % N) = mr N P M (t + k) := rfl
    rw [hf]
    -- where the group begins now
    obtain ⟨c', u', hu', d1, d2, d0, d3, d4, d5⟩ : ∃ c' u', (if (if bt x ((t + k) % N) = true then (1 : Int32) else 0) = 1 then 0 else u) = u' ∧ t ≤ c' ∧ c' ≤ t + k ∧ rg N (bt x) c' = true ∧ ORS (mr N P M) c' (t + k) u' ∧ (∀ m, c' < m → m < t + k + 1 → rg N (bt x) m = false) ∧ FRE (mr N P M) c' (t + k) := by
      by_cases hT : bt x ((t + k) % N) = true
      · refine ⟨t + k, 0, by rw [if_pos hT, if_pos rfl], by omega, by omega, hT, ors_0 _ _, fun m m1 m2 => by omega, fre_one _ (by omega)⟩
      · refine ⟨c, u, by rw [if_neg hT, if_neg (by decide)], c1, c2, c0, c3', fun m m1 m2 => ?_, c5⟩
        rcases Nat.lt_or_ge m (t + k) with h9 | h9
        · exact c4 m m1 h9
        · rw [show m = t + k by omega]
          unfold rg
          simpa using hT
    rw [hu']
    by_cases hz : u' &&& mr N P M (t + k) = 0
    · left
      rw [if_pos hz, me_let]
      refine ⟨_, rfl, rfl, ⟨c', d1, by omega, d0, ?_, fun m m1 m2 => d4 m m1 (by omega), ?_⟩, fun i j h1 h2 h3 h4 => ?_⟩
      · have := ors_s d3 d2
        rw [show t + (k + 1) = t + k + 1 by omega]
        exact this
      · rw [show t + (k + 1) = t + k + 1 by omega]
        exact fre_s d3 d5 hz
      · rcases Nat.lt_or_ge j (t + k) with h9 | h9
        · exact hP i j h1 h2 h9 h4
        · have hj : j = t + k := by omega
          subst hj
          have hci : c' ≤ i := by
            apply Classical.byContradiction
            intro h8
            have := h4 c' (by omega) d2
            rw [d0] at this
            cases this
          exact (ors_and d3).mp hz i hci h2
    · right
      rw [if_neg hz]
      refine ⟨_, rfl, Or.inr ⟨rfl, fun hV => hz ((ors_and d3).mpr (fun m m1 m2 => hV.2 m (t + k) (by omega) m2 (by omega) (fun q q1 q2 => d4 q (by omega) (by omega))))⟩⟩
  · obtain ⟨i3, u⟩ := s
    obtain ⟨e1, _, hP⟩ := hs
    have e1' : i3 = nI N := e1
    subst e1'
    refine ⟨.inl (), ?_, Or.inl ⟨rfl, hx, hP⟩⟩
    rw [me_u2]
    unfold bX8_areGroups_21
    rw [ht, if_pos (mq_rfl _)]
theorem sp_pc_cnt (x : Int32) : ∀ n, n ≤ 32 → sp_pc x n = nI (cnt (bt x) 0 n) := by
  intro n
  induction n with
  | zero => intro _; rfl
  | succ n ih =>
    intro hn
    rw [sp_pc, ih (by omega), mb_shr x (by omega), cnt_s]
    by_cases h : bt x n = true
    · rw [if_pos h, if_pos h, nI_1]
    · rw [if_neg h, if_neg h, mq_add0]; rfl
/-- a set of cuts, as a number below 2^N -/
theorem set_bits {N j : Nat} (hN : N ≤ 16) (hj : j < 2 ^ N) {i : Nat} (hi : N ≤ i) : bt (nI j) i = false := by
  have h1 : (2 : Nat) ^ N ≤ 2 ^ 16 := Nat.pow_le_pow_right (by omega) hN
  rcases Nat.lt_or_ge i 32 with h | h
  · rw [bt_nI (by omega) h]
    exact Nat.testBit_lt_two_pow (Nat.lt_of_lt_of_le hj (Nat.pow_le_pow_right (by omega) hi))
  · exact b_big h
theorem set_low {N j : Nat} (hN : N ≤ 16) (h1 : 1 ≤ j) (hj : j < 2 ^ N) : ∃ t, t < N ∧ bt (nI j) t = true ∧ ∀ q, q < t → bt (nI j) q = false := by
  rcases ml_least (fun p => bt (nI j) p = true) 0 N with h | ⟨m, _, m2, m3, m4⟩
  · exfalso
    have h16 : (2 : Nat) ^ N ≤ 2 ^ 16 := Nat.pow_le_pow_right (by omega) hN
    have : nI j = 0 := mb_zero.mpr (fun i _ => by
      rcases Nat.lt_or_ge i N with h9 | h9
      · exact Bool.eq_false_iff.mpr (h i (by omega) h9)
      · exact set_bits hN hj h9)
    exact nI_ne0 (by omega) (by omega) this
  · exact ⟨m, m2, m3, fun q hq => Bool.eq_false_iff.mpr (m4 q (by omega) hq)⟩
theorem set_cnt {N j : Nat} (hN : N ≤ 16) (hj : j < 2 ^ N) : cnt (bt (nI j)) 0 16 = cnt (bt (nI j)) 0 N := by
  have := cnt_add (bt (nI j)) 0 N (16 - N)
  rw [show N + (16 - N) = 16 by omega, cnt_none (16 - N) (fun i h1 _ => set_bits hN hj (by omega))] at this
  omega
/-- the best set -/
theorem set_best {N : Nat} {C : Nat → Bool} {a : Nat} (hN : N ≤ 16) (ha : a < N) (hC : C a = true) : ∃ k, 1 ≤ k ∧ k < 2 ^ N ∧ ∀ i, i < N → bt (nI k) i = C i := by
  have hb := fun i (hi : i < 32) => sp_bits_bt C N (by omega) i hi
  generalize hx : sp_bits C N = x at hb
  have e : x = nI x.toBitVec.toNat := by
    apply Int32.toBitVec_inj.mp
    show x.toBitVec = BitVec.ofNat 32 x.toBitVec.toNat
    rw [BitVec.ofNat_toNat, BitVec.setWidth_eq]
  have hlt : x.toBitVec.toNat < 2 ^ N := by
    apply Nat.lt_pow_two_of_testBit
    intro i hi
    rcases Nat.lt_or_ge i 32 with h | h
    · have := hb i h
      rw [decide_eq_false (by omega), Bool.false_and] at this
      exact this
    · exact BitVec.getLsbD_of_ge _ _ h
  refine ⟨x.toBitVec.toNat, ?_, hlt, fun i hi => ?_⟩
  · rcases Nat.eq_zero_or_pos x.toBitVec.toNat with h | h
    · rw [h] at e
      have := hb a (by omega)
      rw [e, nI_0, b_0, decide_eq_true ha, hC] at this
      cases this
    · exact h
  · rw [← e, hb i (by omega), decide_eq_true hi, Bool.true_and]
theorem cnt_bt {N : Nat} {x : Int32} {C : Nat → Bool} (h : ∀ i, i < N → bt x i = C i) : cnt (bt x) 0 N = cnt C 0 N := cnt_congr N (fun i _ hi => h i (by omega))
theorem vt_congr {f : Nat → Int32} {N t : Nat} {T T' : Nat → Bool} (h0 : 0 < N) (ht : t < N) (h : ∀ i, i < N → T i = T' i) (hv : VT f N T t) : VT f N T' t := by
  refine ⟨by rw [← h t ht]; exact hv.1, fun i j h1 h2 h3 h4 => hv.2 i j h1 h2 h3 (fun m m1 m2 => ?_)⟩
  have := h4 m m1 m2
  unfold rg at this ⊢
  rw [h _ (Nat.mod_lt _ h0)]
  exact this
theorem mq_shN : ∀ N, N ≤ 16 → (1 : Int32) <<< (nI N &&& 31) = nI (2 ^ N) := by decide +kernel
theorem mr_divides {tr M P : Nat → Int32} {N a k : Nat} (ct : Nat → Int32) (ht : tr 4 = nI N) (hN : N ≤ 16) (hm : MIN (mr N P M) N a k) : ∃ ct', mX8_divides tr M ct P = some (upd tr 8 (nI k), ct') ∧ ARR (Cb (mr N P M) N a) N ct' := by
  have ha := hm.1
  have h0 : 0 < N := by omega
  have hp := mr_per N P M
  have hall := cb_all hp hm
  have hvt := cb_vt hp hm
  have hkN : k ≤ N := by rw [← hm.2.1]; exact nd_N h0
  have h16 : (2 : Nat) ^ N ≤ 2 ^ 16 := Nat.pow_le_pow_right (by omega) hN
  obtain ⟨ks, ks1, ks2, ks3⟩ := set_best (C := Cb (mr N P M) N a) hN ha cb_a
  -- what a set's groups and number are
  have hset : ∀ j, 1 ≤ j → j < 2 ^ N → ∃ v t, t < N ∧ (∀ q, bt (nI j) q = true → t ≤ q) ∧ mX8_areGroups tr M P (nI j) = some v ∧ (¬ v = 0 ↔ VT (mr N P M) N (bt (nI j)) t) ∧ mX8_countOf (nI j) = some (nI (cnt (bt (nI j)) 0 N)) ∧ cnt (bt (nI j)) 0 N ≤ 16 := by
    intro j hj1 hj2
    obtain ⟨t, t1, t2, t3⟩ := set_low hN hj1 hj2
    obtain ⟨v, v1, v2⟩ := mr_areGroups (M := M) (P := P) ht h0 hN t1 t2 t3
    refine ⟨v, t, t1, fun q hq => ?_, v1, v2, by rw [mr_countOf, sp_pc_cnt _ 16 (by omega), set_cnt hN hj2], Nat.le_trans (cnt_le _ 0 N) hN⟩
    rcases Nat.lt_or_ge q t with h9 | h9
    · rw [t3 q h9] at hq; cases hq
    · exact h9
  -- other sets, as few, are behind the best
  have hbeh : ∀ j t, 1 ≤ j → j < 2 ^ N → t < N → (∀ q, bt (nI j) q = true → t ≤ q) → VT (mr N P M) N (bt (nI j)) t → cnt (bt (nI j)) 0 N = k → ∀ p, p < 32 → bt (nI j) p ≠ bt (nI ks) p → (∀ q, q < p → bt (nI j) q = bt (nI ks) q) → bt (nI j) p = true → False := by
    intro j t j1 j2 t1 t2 hv hc p p1 p2 p3 p4
    have hpN : p < N := by
      rcases Nat.lt_or_ge p N with h9 | h9
      · exact h9
      · rw [set_bits hN j2 h9] at p4; cases p4
    have := cb_lex hp hm hv t2 hc hpN (fun q hq => by rw [p3 q hq, ks3 q (by omega)]) p4
    rw [ks3 p hpN, this, p4] at p2
    exact p2 rfl
  have hl := ml_inv (b := bq_u3 (bX8_divides_7 tr M P)) (fun d x => ∃ i2 i3, x = (nI (d + 1), i2, i3) ∧ (ks < d + 1 → i2 = nI k ∧ i3 = nI ks) ∧ (d + 1 ≤ ks → (i2 = nI 17 ∨ ∃ b t, 1 ≤ b ∧ b < d + 1 ∧ t < N ∧ (∀ q, bt (nI b) q = true → t ≤ q) ∧ VT (mr N P M) N (bt (nI b)) t ∧ i3 = nI b ∧ i2 = nI (cnt (bt (nI b)) 0 N)))) (fun r => r = nI ks) (2 ^ N - 1) (fun d x hd hx => ?_) (fun x hx => ?_) (2 ^ N - 1) 0 (1, 17, 0) (by omega) ⟨17, 0, rfl, fun h => by omega, fun _ => Or.inl rfl⟩
  · obtain ⟨r, h1, rfl⟩ := hl
    have hl2 := ml_inv (b := bq_u3 (bX8_divides_69 (nI ks))) (fun s x => ∃ ct', x = (nI s, upd tr 8 (nI (cnt (Cb (mr N P M) N a) 0 s)), ct') ∧ ARR (Cb (mr N P M) N a) s ct') (fun r => ∃ ct', r = (upd tr 8 (nI k), ct') ∧ ARR (Cb (mr N P M) N a) N ct') N (fun s x hs hx => ?_) (fun x hx => ?_) N 0 (0, upd tr 8 0, ct) (by omega) ⟨ct, rfl, fun s hs => by omega⟩
    · obtain ⟨r, g1, ct', rfl, g2⟩ := hl2
      refine ⟨ct', ?_, g2⟩
      unfold mX8_divides
      rw [h1, me_bd, me_let, g1, me_b2]
    · obtain ⟨ct', rfl, h2⟩ := hx
      left
      have u4 : upd tr 8 (nI (cnt (Cb (mr N P M) N a) 0 s)) 4 = nI N := ht
      have hcl := cnt_le (Cb (mr N P M) N a) 0 s
      rw [me_u3]
      unfold bX8_divides_69
      rw [u4, if_neg (mq_nle hs (by omega)), mb_shr _ (by omega), ks3 s hs, mu_s]
      cases hc : Cb (mr N P M) N a s
      · rw [if_neg (by decide), me_b2, me_let, nI_1]
        refine ⟨_, rfl, ct', ?_, arr_n h2 hc⟩
        rw [cnt_s, hc]
        rfl
      · rw [if_pos (by decide), me_ci _ (by omega) (by omega), nI_clamp (by omega), me_let, me_let, me_b2, nI_1, me_let, nI_1, upd_upd]
        refine ⟨_, rfl, upd ct' (cnt (Cb (mr N P M) N a) 0 s) (nI s), ?_, arr_s h2 hc⟩
        rw [cnt_s, hc]
        rfl
    · obtain ⟨ct', rfl, h2⟩ := hx
      have u4 : upd tr 8 (nI (cnt (Cb (mr N P M) N a) 0 N)) 4 = nI N := ht
      refine ⟨(upd tr 8 (nI k), ct'), ?_, ct', rfl, h2⟩
      rw [me_u3]
      unfold bX8_divides_69
      rw [u4, if_pos (mq_rfl _), hall]
  · obtain ⟨i2, i3, rfl, hx1, hx2⟩ := hx
    left
    obtain ⟨v, t, t1, t2, v1, v2, v3, v4⟩ := hset (d + 1) (by omega) (by omega)
    obtain ⟨w, w1, w2⟩ := mr_ahead (nI (d + 1)) i3
    rw [me_u3]
    unfold bX8_divides_7
    rw [ht, mq_shN N hN, if_neg (mq_nle (by omega) (by omega)), v3, me_bd, v1, w1, me_bd, me_bd, nI_1]
    have hres : ∀ (o : Int32 × Int32), (if nI (cnt (bt (nI (d + 1))) 0 N) < i2 then (if v = 0 then some (i3, i2) else some (nI (d + 1), nI (cnt (bt (nI (d + 1))) 0 N))) else (if nI (cnt (bt (nI (d + 1))) 0 N) = i2 then (if w = 0 then some (i3, i2) else (if v = 0 then some (i3, i2) else some (nI (d + 1), nI (cnt (bt (nI (d + 1))) 0 N)))) else some (i3, i2))) = some o → (∃ i2' i3', (nI (d + 1 + 1), o.2, o.1) = (nI (d + 1 + 1), i2', i3') ∧ (ks < d + 1 + 1 → i2' = nI k ∧ i3' = nI ks) ∧ (d + 1 + 1 ≤ ks → (i2' = nI 17 ∨ ∃ b t, 1 ≤ b ∧ b < d + 1 + 1 ∧ t < N ∧ (∀ q, bt (nI b) q = true → t ≤ q) ∧ VT (mr N P M) N (bt (nI b)) t ∧ i3' = nI b ∧ i2' = nI (cnt (bt (nI b)) 0 N)))) → (∃ s', (bq_b2 (if nI (cnt (bt (nI (d + 1))) 0 N) < i2 then (if v = 0 then some (i3, i2) else some (nI (d + 1), nI (cnt (bt (nI (d + 1))) 0 N))) else (if nI (cnt (bt (nI (d + 1))) 0 N) = i2 then (if w = 0 then some (i3, i2) else (if v = 0 then some (i3, i2) else some (nI (d + 1), nI (cnt (bt (nI (d + 1))) 0 N)))) else some (i3, i2)) : Option (Int32 × Int32)) (fun v17 v18 => bq_let (nI (d + 1 + 1)) (fun v22 => some (Sum.inl (v22, v18, v17) : (Int32 × Int32 × Int32) ⊕ Int32)))) = some (.inl s') ∧ ∃ i2' i3', s' = (nI (d + 1 + 1), i2', i3') ∧ (ks < d + 1 + 1 → i2' = nI k ∧ i3' = nI ks) ∧ (d + 1 + 1 ≤ ks → (i2' = nI 17 ∨ ∃ b t, 1 ≤ b ∧ b < d + 1 + 1 ∧ t < N ∧ (∀ q, bt (nI b) q = true → t ≤ q) ∧ VT (mr N P M) N (bt (nI b)) t ∧ i3' = nI b ∧ i2' = nI (cnt (bt (nI b)) 0 N)))) := by
      intro o ho hI
      obtain ⟨o1, o2⟩ := o
      rw [ho, me_b2, me_let]
      exact ⟨_, rfl, hI⟩
    rcases Nat.lt_trichotomy (d + 1) ks with hlt | heq | hgt
    · -- before the best: what is held is a set that divides, or none
      have hold := hx2 (by omega)
      by_cases hv : v = 0
      · refine hres (i3, i2) ?_ ⟨i2, i3, rfl, fun h => by omega, fun _ => ?_⟩
        · rw [if_pos hv, ite_self, ite_self, ite_self]
        · rcases hold with h | ⟨b, tb, b1, b2, b3, b4, b5, b6, b7⟩
          · exact Or.inl h
          · exact Or.inr ⟨b, tb, b1, by omega, b3, b4, b5, b6, b7⟩
      · have hnew : ∃ i2' i3', (nI (d + 1 + 1), nI (cnt (bt (nI (d + 1))) 0 N), nI (d + 1)) = (nI (d + 1 + 1), i2', i3') ∧ (ks < d + 1 + 1 → i2' = nI k ∧ i3' = nI ks) ∧ (d + 1 + 1 ≤ ks → (i2' = nI 17 ∨ ∃ b t, 1 ≤ b ∧ b < d + 1 + 1 ∧ t < N ∧ (∀ q, bt (nI b) q = true → t ≤ q) ∧ VT (mr N P M) N (bt (nI b)) t ∧ i3' = nI b ∧ i2' = nI (cnt (bt (nI b)) 0 N))) := ⟨_, _, rfl, fun h => by omega, fun _ => Or.inr ⟨d + 1, t, by omega, by omega, t1, t2, v2.mp hv, rfl, rfl⟩⟩
        have hsame : ∃ i2' i3', (nI (d + 1 + 1), i2, i3) = (nI (d + 1 + 1), i2', i3') ∧ (ks < d + 1 + 1 → i2' = nI k ∧ i3' = nI ks) ∧ (d + 1 + 1 ≤ ks → (i2' = nI 17 ∨ ∃ b t, 1 ≤ b ∧ b < d + 1 + 1 ∧ t < N ∧ (∀ q, bt (nI b) q = true → t ≤ q) ∧ VT (mr N P M) N (bt (nI b)) t ∧ i3' = nI b ∧ i2' = nI (cnt (bt (nI b)) 0 N))) := ⟨_, _, rfl, fun h => by omega, fun _ => by
          rcases hold with h | ⟨b, tb, b1, b2, b3, b4, b5, b6, b7⟩
          · exact Or.inl h
          · exact Or.inr ⟨b, tb, b1, by omega, b3, b4, b5, b6, b7⟩⟩
        by_cases c1 : nI (cnt (bt (nI (d + 1))) 0 N) < i2
        · exact hres (nI (d + 1), nI (cnt (bt (nI (d + 1))) 0 N)) (by rw [if_pos c1, if_neg hv]) hnew
        · by_cases c2 : nI (cnt (bt (nI (d + 1))) 0 N) = i2
          · by_cases c3 : w = 0
            · exact hres (i3, i2) (by rw [if_neg c1, if_pos c2, if_pos c3]) hsame
            · exact hres (nI (d + 1), nI (cnt (bt (nI (d + 1))) 0 N)) (by rw [if_neg c1, if_pos c2, if_neg c3, if_neg hv]) hnew
          · exact hres (i3, i2) (by rw [if_neg c1, if_neg c2]) hsame
    · -- the best
      have hks : ∀ i, i < N → bt (nI (d + 1)) i = Cb (mr N P M) N a i := by rw [heq]; exact ks3
      have hcn : cnt (bt (nI (d + 1))) 0 N = k := by rw [cnt_bt hks, hall]
      have hta : t = a := by
        have h1 := t2 a (by rw [hks a ha]; exact cb_a)
        rcases Nat.lt_or_ge t a with h9 | h9
        · obtain ⟨t', t1', t2', t3'⟩ := set_low hN (by omega : 1 ≤ d + 1) (by omega)
          have h3 := t2 t' t2'
          -- the lowest of the set is a
          have h4 : bt (nI (d + 1)) t' = Cb (mr N P M) N a t' := hks t' t1'
          rw [t2'] at h4
          have h5 : a ≤ t' := by
            rcases Nat.lt_or_ge t' a with h8 | h8
            · rw [cb_low h8] at h4; cases h4
            · exact h8
          exfalso
          -- t is in the set where it divides
          have hv0 : v = 0 ∨ ¬ v = 0 := Classical.em _
          rcases hv0 with h8 | h8
          · exact absurd (vt_congr h0 ha (fun i hi => (hks i hi).symm) hvt) (fun _ => by
              have := mr_areGroups (M := M) (P := P) ht h0 hN t1' t2' t3'
              obtain ⟨v', q1, q2⟩ := this
              have ht'a : t' = a := by
                rcases Nat.lt_or_ge a t' with h7 | h7
                · have := t3' a h7
                  rw [hks a ha, cb_a] at this
                  cases this
                · omega
              rw [v1] at q1
              have hvv : v = v' := Option.some.inj q1
              subst hvv
              subst ht'a
              exact (q2.mpr (vt_congr h0 t1' (fun i hi => (hks i hi).symm) hvt)) h8)
          · have := (v2.mp h8).1
            rw [hks t t1, cb_low h9] at this
            cases this
        · omega
      have hv : ¬ v = 0 := v2.mpr (by rw [hta]; exact vt_congr h0 ha (fun i hi => (hks i hi).symm) hvt)
      rw [hcn] at hres ⊢
      have hnew : ∃ i2' i3', (nI (d + 1 + 1), nI k, nI (d + 1)) = (nI (d + 1 + 1), i2', i3') ∧ (ks < d + 1 + 1 → i2' = nI k ∧ i3' = nI ks) ∧ (d + 1 + 1 ≤ ks → (i2' = nI 17 ∨ ∃ b t, 1 ≤ b ∧ b < d + 1 + 1 ∧ t < N ∧ (∀ q, bt (nI b) q = true → t ≤ q) ∧ VT (mr N P M) N (bt (nI b)) t ∧ i3' = nI b ∧ i2' = nI (cnt (bt (nI b)) 0 N))) := ⟨_, _, rfl, fun _ => ⟨rfl, by rw [heq]⟩, fun h => by omega⟩
      rcases hx2 (by omega) with h | ⟨b, tb, b1, b2, b3, b4, b5, b6, b7⟩
      · exact hres (nI (d + 1), nI k) (by rw [h, if_pos ((nI_ltI (by omega) (by omega)).mpr (by omega)), if_neg hv]) hnew
      · have hbk := vt_min hm b5 b3
        have hb16 := cnt_le (bt (nI b)) 0 N
        by_cases hek : cnt (bt (nI b)) 0 N = k
        · -- as few: the best is ahead
          have hne : ¬ nI (d + 1) = nI b := fun h9 => by
            have := (nI_eq (by omega) (by omega)).mp h9
            omega
          obtain ⟨p, p1, p2, p3⟩ := bt_diff hne
          have hpt : bt (nI (d + 1)) p = true := by
            cases h9 : bt (nI (d + 1)) p
            · exfalso
              rw [h9] at p2
              have h8 : bt (nI b) p = true := by
                cases h7 : bt (nI b) p
                · exact absurd h7.symm p2
                · rfl
              exact hbeh b tb b1 (by omega) b3 b4 b5 hek p p1 (by rw [← heq, h9, h8]; decide) (fun q hq => by rw [← heq, p3 q hq]) h8
            · rfl
          have hw : ¬ w = 0 := w2.mpr (by rw [b6]; exact ⟨p, p1, p2, p3, hpt⟩)
          exact hres (nI (d + 1), nI k) (by rw [b7, hek, if_neg (nI_nlt (Nat.le_refl k) (by omega)), if_pos rfl, if_neg hw, if_neg hv]) hnew
        · exact hres (nI (d + 1), nI k) (by rw [b7, if_pos ((nI_ltI (by omega) (by omega)).mpr (by omega)), if_neg hv]) hnew
    · -- behind the best: nothing changes
      obtain ⟨e1, e2⟩ := hx1 (by omega)
      refine hres (i3, i2) ?_ ⟨i2, i3, rfl, fun _ => ⟨e1, e2⟩, fun h => by omega⟩
      by_cases hv : v = 0
      · rw [if_pos hv, ite_self, ite_self, ite_self]
      · have hV := v2.mp hv
        have hmn := vt_min hm hV t1
        have hcl := cnt_le (bt (nI (d + 1))) 0 N
        rw [e1, if_neg (nI_nlt hmn (by omega))]
        by_cases hek : cnt (bt (nI (d + 1))) 0 N = k
        · have hw : w = 0 := by
            apply Classical.byContradiction
            intro h9
            have hA := w2.mp h9
            rw [e2] at hA
            obtain ⟨p, p1, p2, p3, p4⟩ := hA
            exact hbeh (d + 1) t (by omega) (by omega) t1 t2 hV hek p p1 p2 p3 p4
          rw [if_pos (by rw [hek]), if_pos hw]
        · rw [if_neg (fun h9 => hek ((nI_eq (by omega) (by omega)).mp h9))]
  · obtain ⟨i2, i3, rfl, hx1, hx2⟩ := hx
    obtain ⟨e1, e2⟩ := hx1 (by omega)
    refine ⟨i3, ?_, e2⟩
    rw [me_u3]
    unfold bX8_divides_7
    rw [ht, mq_shN N hN, if_pos ((mq_le (by omega) (by omega)).mpr (by omega))]
end
