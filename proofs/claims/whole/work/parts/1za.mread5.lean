section
theorem ms_start {L n i : Nat} {t M ob Z P tr rb ro rp : Nat → Int32} (h : RD L n i t M ob Z P tr rb ro rp) (hn : n < 16) : MS L n (t 5) t M P tr (upd rb n 0) (upd ro n 0) := by
  obtain ⟨⟨a1, a2, a3, a4, a5⟩, b, c1, c2, c3, c4⟩ := h
  obtain ⟨p1, p2, p3⟩ := c2 n (Nat.le_refl n) hn
  refine ⟨⟨a1, a2, a3, a4⟩, b, fun j hj => ?_, fun c hc _ _ => rfl, fun c hc h => ?_, fun _ => ⟨fun c hc h => ?_, fun c hc h => ?_, fun c hc h => ?_, fun c hc => ?_⟩⟩
  · rcases Nat.lt_or_ge j n with h9 | h9
    · rw [mu_n _ _ (by omega), mu_n _ _ (by omega)]
      exact ⟨(c1 j h9).1, (c1 j h9).2.1⟩
    · rw [show j = n by omega, mu_s, mu_s, p1, p2]
      exact ⟨rfl, rfl⟩
  · rw [p1, p2, b_0] at h
    rcases h with h | h <;> cases h
  · rw [p1, b_0] at h; cases h.1
  · rw [p1, b_0] at h; cases h
  · rw [p2, b_0] at h; cases h
  · rw [p1, p2, b_0, Bool.or_false, Bool.not_false, Bool.and_true]
/-- a step, both sides -/
theorem step_sim {L n i : Nat} {t M ob Z P tr rb ro rp sg tx : Nat → Int32} (hT : TXT L sg tx) (h : RD L n i t M ob Z P tr rb ro rp) (h2 : ¬ t 2 = 1) (hn : n < 16) (hi : i < L) :
    ∃ t' M' Z' P' v tr' rb' ro' rp', mX2_readStep t sg M Z P (nI n) = some (t', M', Z', P') ∧ mX8_readsStep tr rb ro rp tx (nI i) = some (v, tr', rb', ro', rp') ∧ (∀ k, k ≠ 18 → k ≠ 19 → tr' k = tr k) ∧ ((∃ e, i < e ∧ e ≤ L ∧ v = nI e ∧ ¬ t' 2 = 1 ∧ (∀ j, j ≠ n → Z' j = Z j) ∧ RD L (n + 1) e t' M' (upd ob n (t 5)) Z' P' (upd tr' 14 (nI (n + 1))) rb' ro' rp') ∨ (∃ p, p < 200 ∧ v = -1 - nI p ∧ t' 2 = 1 ∧ t' 3 = nI p ∧ t' 1 = nI L)) := by
  have hL := hT.1
  have hMS := ms_start h hn
  have h0 := h
  obtain ⟨⟨a1, a2, a3, a4, a5⟩, b, c1, c2, c3, c4⟩ := h
  obtain ⟨p1, p2, p3⟩ := c2 n (Nat.le_refl n) hn
  have hrp : ∀ j, j ≤ n → upd rp n 0 j = Z j := fun j hj => by
    rcases Nat.lt_or_ge j n with h9 | h9
    · rw [mu_n _ _ (by omega)]; exact (c1 j h9).2.2
    · rw [show j = n by omega, mu_s, p3]
  have hcl0 : ∀ X, (if ch L sg i = 40 then (bq_b3 (mX2_readParallel t sg M P (nI n)) (fun t_11 p1_minus_12 p1_plus_13 => some (t_11, p1_minus_12, Z, p1_plus_13))) else (if ch L sg i = 84 then (bq_b2 (mX2_readPause t sg Z (nI n)) (fun t_9 p1_pauses_10 => some (t_9, M, p1_pauses_10, P))) else (bq_b3 (mX2_readMove t sg M P (nI n)) (fun t_6 p1_minus_7 p1_plus_8 => some (t_6, p1_minus_7, Z, p1_plus_8)))) : Option ((Nat → Int32) × (Nat → Int32) × (Nat → Int32) × (Nat → Int32))) = some X → mX2_readStep t sg M Z P (nI n) = some X := by
    intro X hX
    unfold mX2_readStep
    rw [a5, me_sign hL a1 (by omega), me_bd, hX]
    rfl
  have hrf0 : ∀ X, (if ch L sg i = 84 then (bq_b2 (mX8_readsPause tr (upd rp n 0) tx (nI (i + 1))) (fun v33 t_readPauses_34 => some (v33, tr, upd rb n 0, upd ro n 0, t_readPauses_34))) else (if ch L sg i = 40 then (bq_b5 (bq_loop (bq_u5 (bX8_readsStep_96 tx (tr 18))) (0, nI (i + 1), tr, upd rb n 0, upd ro n 0)) (fun v13 v14 t_15 t_readBacks_16 t_readOuts_17 => bq_bd (if v14 < 2 then (bq_bd (mX8_failsAt t_15 tx v13) (fun v19 => some (((-1) - v19)))) else (bq_bd (mX8_letter t_15 tx v13) (fun v20 => if v20 = 41 then (some ((v13 + 1))) else (bq_bd (mX8_failsAt t_15 tx v13) (fun v21 => some (((-1) - v21)))))) : Option (Int32)) (fun v18 => some (v18, t_15, t_readBacks_16, t_readOuts_17, upd rp n 0)))) else (bq_bd (mX8_isMove tr tx (nI i)) (fun v28 => if v28 = 0 then (bq_bd (mX8_failsAt tr tx (nI i)) (fun v32 => some (((-1) - v32), tr, upd rb n 0, upd ro n 0, upd rp n 0))) else (bq_b3 (mX8_notes tr (upd rb n 0) (upd ro n 0) tx (nI i) (tr 18)) (fun t_29 t_readBacks_30 t_readOuts_31 => some ((nI i + 2), t_29, t_readBacks_30, t_readOuts_31, upd rp n 0)))))) : Option (Int32 × (Nat → Int32) × (Nat → Int32) × (Nat → Int32) × (Nat → Int32))) = some X → mX8_readsStep tr rb ro rp tx (nI i) = some X := by
    intro X hX
    unfold mX8_readsStep
    rw [me_let, a3, me_ci _ (by omega) (by omega), nI_clamp (by omega), me_let, me_ci _ (by omega) (by omega), me_let, me_ci _ (by omega) (by omega), me_let, mr_letter hT a2 (by omega), me_bd, me_bd, nI_1, me_let]
    exact hX
  by_cases h84 : ch L sg i = 84
  · -- a pause
    have h40 : ¬ ch L sg i = 40 := by rw [h84]; decide
    rcases pause_sim (Z := Z) (rp := upd rp n 0) hT a1 a2 a3 a5 hn hi with ⟨e, v, e1, e2, v1, v2, g1, g2⟩ | ⟨p, rp', hp, g1, g2⟩
    · refine ⟨_, _, _, _, _, _, _, _, _, hcl0 _ (by rw [if_neg h40, if_pos h84, g1, me_b2]), hrf0 _ (by rw [if_pos h84, g2, me_b2]), fun k _ _ => rfl, Or.inl ⟨e, e1, e2, rfl, ?_, fun j hj => mu_n _ _ hj, ?_⟩⟩
      · rw [mu_n _ _ (by omega)]; exact h2
      · have hv0 : ¬ nI v ≤ 0 := nI_nle (by omega) (by omega)
        refine rd_next hn h0 ⟨?_, a2, a3, ?_, mu_s _ _ _⟩ ?_ (fun j hj => ?_) (fun j hj => ⟨rfl, rfl, mu_n _ _ hj⟩) ⟨?_, ?_⟩ (fun c hc h9 => ?_) (fun h9 => ?_)
        · rw [mu_n _ _ (by omega)]; exact a1
        · rw [mu_n _ _ (by omega)]; exact a4
        · unfold EW at b ⊢
          rw [mu_n _ _ (by omega), mu_n _ _ (by omega)]
          exact b
        · obtain ⟨q1, q2⟩ := hMS.2.2.1 j hj
          refine ⟨q1, q2, ?_⟩
          rcases Nat.lt_or_ge j n with h9 | h9
          · have hjn : j ≠ n := by omega
            exact (mu_n (upd rp n 0) _ hjn).trans ((hrp j hj).trans (mu_n Z _ hjn).symm)
          · rw [show j = n by omega, mu_s, mu_s]
        · rw [mu_s, p1, p2]
          exact ⟨fun h9 => absurd h9 hv0, fun h9 => absurd (by decide) h9⟩
        · rw [mu_s]; exact Or.inr hv0
        · rw [p1, p2, b_0] at h9
          rcases h9 with h9 | h9 <;> cases h9
        · rw [mu_n _ _ (by omega)] at h9
          refine ⟨h9, fun c hc h8 => ?_, fun c hc h8 => ?_, fun c hc h8 => ?_, fun c hc => ?_⟩
          · rw [p1, b_0] at h8; cases h8.1
          · rw [p1, b_0] at h8; cases h8
          · rw [p2, b_0] at h8; cases h8
          · rw [mu_n _ _ (by omega), p1, p2, b_0, Bool.or_false, Bool.not_false, Bool.and_true]
    · exact ⟨rfs t p, M, Z, P, -1 - nI p, tr, upd rb n 0, upd ro n 0, rp', hcl0 _ (by rw [if_neg h40, if_pos h84, g1, me_b2]), hrf0 _ (by rw [if_pos h84, g2, me_b2]), fun k _ _ => rfl, Or.inr ⟨p, hp, rfl, rfl, rfl, a1⟩⟩
  · by_cases h40 : ch L sg i = 40
    · -- brackets
      have hst : MSI L n (i + 1) (t 5) (t 2 = 0) tr M P (upd t 4 (nI (i + 1))) M P tr (upd rb n 0) (upd ro n 0) := by
        obtain ⟨⟨m1, m2, m3, m4⟩, m5, m6, m7, m8, m9⟩ := hMS
        refine ⟨⟨⟨?_, m2, m3, ?_⟩, ?_, m6, fun c hc x y => ?_, m8, fun h9 => ?_⟩, mu_s _ _ _, ?_, fun j _ => ⟨rfl, rfl⟩, fun k _ _ => rfl, fun h9 => ?_⟩
        · rw [mu_n _ _ (by omega)]; exact m1
        · rw [mu_n _ _ (by omega)]; exact m4
        · unfold EW at m5 ⊢
          rw [mu_n _ _ (by omega), mu_n _ _ (by omega)]
          exact m5
        · rw [mu_n _ _ (by omega)]
        · rw [mu_n _ _ (by omega)] at h9
          obtain ⟨x1, x2, x3, x4⟩ := m9 h9
          exact ⟨x1, x2, x3, fun c hc => by rw [mu_n _ _ (by omega)]; exact x4 c hc⟩
        · rw [mu_n _ _ (by omega)]; exact h2
        · rw [mu_n _ _ (by omega)] at h9; exact h9
      obtain ⟨i', f', tr', rb', ro', g1, g2, g3, g4, g5, g6⟩ := par_sim hT hn 84 0 (i + 1) _ M P tr _ _ (by omega) (by omega) (by omega) hst (fun h9 => absurd h9 (by omega))
      have g1' : bq_loop (bq_u5 (bX8_readsStep_96 tx (tr 18))) (0, nI (i + 1), tr, upd rb n 0, upd ro n 0) = some (nI i', nI f', tr', rb', ro') := by rw [a4]; exact g1
      have hpar : ∀ rr, bq_loop (bq_u4 (bX2_readParallel_12 sg (nI n))) (nI 0, upd t 4 (nI (i + 1)), M, P) = some rr → mX2_readParallel t sg M P (nI n) = (match rr with | .inl r => some r | .inr r => some r) := by
        intro rr hr
        unfold mX2_readParallel
        have hr' : bq_loop (bq_u4 (bX2_readParallel_12 sg (nI n))) (0, upd t 4 (nI (i + 1)), M, P) = some rr := hr
        rw [a5, nI_1, me_let, hr', me_bd]
        cases rr <;> rfl
      rcases g6 with ⟨t', M', P', k1, k2, k3, k4, k5⟩ | ⟨t', M', P', p, k1, k2, k3, k4, k5⟩
      · have hf2 : ¬ nI f' < (2 : Int32) := nI_nlt (b := 2) k2 (by omega)
        have hlt : i' < L := ch_lt k3 (by decide)
        have hii : i < i' + 1 := by have := g2.1; omega
        refine ⟨_, _, _, _, _, _, _, _, _, hcl0 _ (by rw [if_pos h40, hpar _ k1, me_b3]), hrf0 _ (by rw [if_neg h84, if_pos h40, g1', me_b5, if_neg hf2, mr_letter hT g4 (by omega), me_bd, if_pos k3, me_bd, nI_1]), g5, Or.inl ⟨i' + 1, hii, by omega, rfl, ?_, fun j _ => rfl, ?_⟩⟩
        · rw [mu_n _ _ (by omega)]; exact k4.2.2.1
        · obtain ⟨⟨⟨m1, m2, m3, m4⟩, m5, m6, m7, m8, m9⟩, n4, n2, nO, nF, nz⟩ := k4
          refine rd_next hn h0 ⟨?_, m2, m3, ?_, mu_s _ _ _⟩ ?_ (fun j hj => ⟨(m6 j hj).1, (m6 j hj).2, hrp j hj⟩) (fun j hj => ⟨(nO j hj).1, (nO j hj).2, rfl⟩) ⟨?_, Or.inl p3⟩ m8 (fun h9 => ?_)
          · rw [mu_n _ _ (by omega)]; exact m1
          · rw [mu_n _ _ (by omega)]; exact m4
          · unfold EW at m5 ⊢
            rw [mu_n _ _ (by omega), mu_n _ _ (by omega)]
            exact m5
          · rw [p3]
            exact ⟨fun _ => k5, fun _ => by decide⟩
          · rw [mu_n _ _ (by omega)] at h9
            obtain ⟨x1, x2, x3, x4⟩ := m9 h9
            exact ⟨nz h9, x1, x2, x3, fun c hc => by rw [mu_n _ _ (by omega)]; exact x4 c hc⟩
      · refine ⟨rfs t' p, M', Z, P', -1 - nI p, tr', rb', ro', upd rp n 0, hcl0 _ (by rw [if_pos h40, hpar _ k1, me_b3]), hrf0 _ ?_, g5, Or.inr ⟨p, by omega, rfl, rfl, rfl, k3⟩⟩
        rw [if_neg h84, if_pos h40, g1', me_b5, k4, me_bd, mr_letter hT g4 (by omega), me_bd]
        by_cases hf2 : nI f' < (2 : Int32)
        · rw [if_pos hf2, me_bd]
        · rw [if_neg hf2, if_neg (fun h9 => k5 ⟨by
            rcases Nat.lt_or_ge f' 2 with h8 | h8
            · exact absurd (nI_lt (b := 2) h8 (by omega)) hf2
            · exact h8, h9⟩), me_bd]
    · -- a move
      rcases mv_cases (n := n) hT a1 a2 a5 hn (by omega) with ⟨c, hc, hch, hlt, hmv, hrd⟩ | ⟨p, hp, hmv, hfa, hrd⟩
      · obtain ⟨tr', rb', ro', hno, hMS', hn1, hn4, hbit, hfr⟩ := move_sim hT hMS a5 hn (by omega) hc hch rfl
        have hr := hrd M P
        generalize decide (ch L sg (i + 1) = 43) = e at *
        generalize hM' : (if e = true then M else upd M n (M n ||| bit c)) = M' at *
        generalize hP' : (if e = true then upd P n (P n ||| bit c) else P) = P' at *
        have hO' : ∀ j, j ≠ n → P' j = P j ∧ M' j = M j := fun j hj => by
          rw [← hM', ← hP']
          cases e
          · rw [if_neg (by decide), if_neg (by decide), mu_n _ _ hj]; exact ⟨rfl, rfl⟩
          · rw [if_pos rfl, if_pos rfl, mu_n _ _ hj]; exact ⟨rfl, rfl⟩
        have hnz : ¬ P' n ||| M' n = 0 := fun h9 => by
          have := mb_zero.mp h9 c (by omega)
          rw [b_or] at this
          rcases hbit with h | h <;> rw [h] at this <;> simp at this
        have e2 : (2 : Int32) = nI 2 := rfl
        refine ⟨_, _, _, _, nI (i + 2), tr', rb', ro', upd rp n 0, hcl0 _ (by rw [if_neg h40, if_neg h84, hr, me_b3]), hrf0 _ (by rw [if_neg h84, if_neg h40, hmv, me_bd, if_neg (by decide), a4, hno, me_b3, e2, nI_add]), hfr, Or.inl ⟨i + 2, by omega, by omega, rfl, hn1, fun j _ => rfl, ?_⟩⟩
        obtain ⟨⟨m1, m2, m3, m4⟩, m5, m6, m7, m8, m9⟩ := hMS'
        refine rd_next hn h0 ⟨m1, m2, m3, m4, hn4⟩ m5 (fun j hj => ⟨(m6 j hj).1, (m6 j hj).2, hrp j hj⟩) (fun j hj => ⟨(hO' j hj).1, (hO' j hj).2, rfl⟩) ⟨?_, Or.inl p3⟩ m8 (fun h9 => ⟨rdm_2 h9, m9 h9⟩)
        rw [p3]
        exact ⟨fun _ => hnz, fun _ => by decide⟩
      · exact ⟨rfs t p, M, Z, P, -1 - nI p, tr, upd rb n 0, upd ro n 0, upd rp n 0, hcl0 _ (by rw [if_neg h40, if_neg h84, hrd M P, me_b3]), hrf0 _ (by rw [if_neg h84, if_neg h40, hmv, me_bd, if_pos rfl, hfa, me_bd]), fun k _ _ => rfl, Or.inr ⟨p, by omega, rfl, rfl, rfl, a1⟩⟩
end
