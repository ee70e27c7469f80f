theorem me_timers {cir sq ti : Nat → Int32} {N : Nat} (hq : sq 0 = nI N) (hN : N ≤ 16) : mX3_advanceTimers cir sq ti = some (if sp_any (fun i => decide (¬ (if bt (cir 4) i then (if 60 < ti i + 1 then 60 else ti i + 1) else 0) = ti i)) N then 1 else 0, sp_put ti (fun i => if bt (cir 4) i then (if 60 < ti i + 1 then 60 else ti i + 1) else 0) 0 N) := by
  generalize hn : (fun i => if bt (cir 4) i then (if 60 < ti i + 1 then (60 : Int32) else ti i + 1) else 0) = nx
  have hnc : ∀ i, (if bt (cir 4) i then (if 60 < ti i + 1 then (60 : Int32) else ti i + 1) else 0) = nx i := fun i => by rw [← hn]
  simp only [hnc]
  have h : bq_loop (bq_u3 (bX3_advanceTimers_4 cir sq)) (0, 0, ti) = some (if sp_any (fun i => decide (¬ nx i = ti i)) N then 1 else 0, sp_put ti nx 0 N) := by
    have h0 : ((0 : Int32), (0 : Int32), ti) = (nI 0, (if sp_any (fun i => decide (¬ nx i = ti i)) 0 then (1 : Int32) else 0), sp_put ti nx 0 0) := by rw [sp_put_0]; rfl
    rw [h0]
    refine ml_run (fun j => (nI j, (if sp_any (fun i => decide (¬ nx i = ti i)) j then (1 : Int32) else 0), sp_put ti nx 0 j)) N (fun j hj => ?_) ?_
    · rw [me_u3]
      unfold bX3_advanceTimers_4
      have ep : sp_put ti nx 0 j j = ti j := by
        have := sp_put_at ti nx 0 j
        rw [Nat.zero_add] at this
        exact this
      have es := sp_put_s ti nx 0 j
      rw [Nat.zero_add] at es
      have hci : ∀ (k : Option Int32), bq_ci (nI j) 16 k = k := fun k => me_ci k (by omega) (by omega)
      have hci2 : ∀ (k : Option ((Int32 × Int32 × (Nat → Int32)) ⊕ (Int32 × (Nat → Int32)))), bq_ci (nI j) 16 k = k := fun k => me_ci k (by omega) (by omega)
      have hcl : (nI j).toNatClampNeg = j := nI_clamp (by omega)
      rw [hq, if_neg (mq_nle (by omega) (by omega)), me_holds _ (by omega), me_bd]
      simp only [hci, hci2, hcl, ep]
      have eg : (if (if bt (cir 4) j = true then (1 : Int32) else 0) = 0 then some (0 : Int32) else some (if 60 < ti j + 1 then 60 else ti j + 1)) = some (nx j) := by
        rw [← hnc j]
        cases bt (cir 4) j <;> rfl
      rw [eg, me_bd, sp_any]
      have ef : (if (if sp_any (fun i => decide (¬ nx i = ti i)) j = true then (1 : Int32) else 0) = 0 then (if nx j = ti j then some (0 : Int32) else some 1) else some 1) = some (if (sp_any (fun i => decide (¬ nx i = ti i)) j || decide (¬ nx j = ti j)) = true then 1 else 0) := by
        cases sp_any (fun i => decide (¬ nx i = ti i)) j
        · by_cases c1 : nx j = ti j <;> simp [c1]
        · simp
      rw [ef, me_bd, me_let, me_let, es, nI_1]
    · rw [me_u3]
      unfold bX3_advanceTimers_4
      rw [hq, if_pos (mq_rfl _)]
  unfold mX3_advanceTimers
  rw [h, me_b2, me_cbi]
theorem sp_by_ne {p g : Int32} {s : Bool} : (sp_by p g s = 0) ↔ sp_mv p g s = false := by
  constructor
  · intro h
    unfold sp_by at h
    unfold sp_mv
    by_cases h1 : p = g
    · rw [decide_eq_false (fun h9 => h9 h1)]; rfl
    · cases s
      · rw [if_neg (by rintro (h9 | h9); exact h1 h9; cases h9)] at h
        by_cases h2 : g ≤ p
        · rw [if_pos h2] at h; exact absurd h (by decide)
        · rw [if_neg h2] at h; exact absurd h (by decide)
      · rw [Bool.not_true, Bool.and_false]
  · exact sp_by_0
/-- the reference's pistons -/
theorem mr_pistons (st r : Nat → Int32) (v : Bool) : bq_loop (bq_u3 (bX8_ticksOnce_175 st)) (0, (if v then 1 else 0), r) = some (if (v || sp_any (fun c => sp_mv (r (20 + c)) (if r (26 + c) = 1 then st c else 0) (bt (r (38 + c)) 0)) 6) then 1 else 0, sp_put r (fun c => r (20 + c) + sp_by (r (20 + c)) (if r (26 + c) = 1 then st c else 0) (bt (r (38 + c)) 0)) 20 6) := by
  generalize hg : (fun c => if r (26 + c) = 1 then st c else 0) = g
  have hgc : ∀ c, (if r (26 + c) = 1 then st c else 0) = g c := fun c => by rw [← hg]
  simp only [hgc]
  generalize hn : (fun c => r (20 + c) + sp_by (r (20 + c)) (g c) (bt (r (38 + c)) 0)) = np
  have hnc : ∀ c, r (20 + c) + sp_by (r (20 + c)) (g c) (bt (r (38 + c)) 0) = np c := fun c => by rw [← hn]
  have h0 : ((0 : Int32), (if v then (1 : Int32) else 0), r) = (nI 0, (if (v || sp_any (fun c => sp_mv (r (20 + c)) (g c) (bt (r (38 + c)) 0)) 0) then (1 : Int32) else 0), sp_put r np 20 0) := by rw [sp_put_0, sp_any, Bool.or_false]; rfl
  rw [h0]
  refine ml_run (fun j => (nI j, (if (v || sp_any (fun c => sp_mv (r (20 + c)) (g c) (bt (r (38 + c)) 0)) j) then (1 : Int32) else 0), sp_put r np 20 j)) 6 (fun j hj => ?_) ?_
  · rw [me_u3]
    unfold bX8_ticksOnce_175
    have e26 : (26 : Int32) + nI j = nI (26 + j) := nI_add 26 j
    have e38 : (38 : Int32) + nI j = nI (38 + j) := nI_add 38 j
    have e20 : (20 : Int32) + nI j = nI (20 + j) := nI_add 20 j
    have c26 : (nI (26 + j)).toNatClampNeg = 26 + j := nI_clamp (by omega)
    have c38 : (nI (38 + j)).toNatClampNeg = 38 + j := nI_clamp (by omega)
    have c20 : (nI (20 + j)).toNatClampNeg = 20 + j := nI_clamp (by omega)
    have cj : (nI j).toNatClampNeg = j := nI_clamp (by omega)
    have i26 : ∀ {β : Type} (k : Option β), bq_ci (nI (26 + j)) 140 k = k := fun k => me_ci k (by omega) (by omega)
    have i38 : ∀ {β : Type} (k : Option β), bq_ci (nI (38 + j)) 140 k = k := fun k => me_ci k (by omega) (by omega)
    have i20 : ∀ {β : Type} (k : Option β), bq_ci (nI (20 + j)) 140 k = k := fun k => me_ci k (by omega) (by omega)
    have ij : ∀ {β : Type} (k : Option β), bq_ci (nI j) 6 k = k := fun k => me_ci k (by omega) (by omega)
    have p26 : sp_put r np 20 j (26 + j) = r (26 + j) := sp_put_out _ _ (Or.inr (by omega))
    have p38 : sp_put r np 20 j (38 + j) = r (38 + j) := sp_put_out _ _ (Or.inr (by omega))
    have p20 : sp_put r np 20 j (20 + j) = r (20 + j) := sp_put_at _ _ _ _
    rw [if_neg (mq_6 hj)]
    simp only [e26, e38, e20, c26, c38, c20, cj, i26, i38, i20, ij, p26, p38, p20, mb_and1]
    have eg : (if r (26 + j) = 1 then some (st j) else some 0) = some (g j) := by
      rw [← hgc j]
      split <;> rfl
    rw [eg, me_bd]
    have eb : (if (if bt (r (38 + j)) 0 = true then (1 : Int32) else 0) = 1 then some (0 : Int32) else (if r (20 + j) = g j then some 0 else (if g j ≤ r (20 + j) then some (-1) else some 1))) = some (sp_by (r (20 + j)) (g j) (bt (r (38 + j)) 0)) := by
      unfold sp_by
      cases bt (r (38 + j)) 0
      · by_cases c1 : r (20 + j) = g j
        · simp [c1]
        · by_cases c2 : g j ≤ r (20 + j)
          · simp [c1, c2]
          · simp [c1, c2]
      · simp
    rw [eb, me_bd, me_let, me_let, me_let, hnc, sp_put_s, nI_1, sp_any, ← Bool.or_assoc]
    have ef : (if (if (v || sp_any (fun c => sp_mv (r (20 + c)) (g c) (bt (r (38 + c)) 0)) j) = true then (1 : Int32) else 0) = 0 then (if sp_by (r (20 + j)) (g j) (bt (r (38 + j)) 0) = 0 then (0 : Int32) else 1) else 1) = if (v || sp_any (fun c => sp_mv (r (20 + c)) (g c) (bt (r (38 + c)) 0)) j || sp_mv (r (20 + j)) (g j) (bt (r (38 + j)) 0)) = true then 1 else 0 := by
      cases (v || sp_any (fun c => sp_mv (r (20 + c)) (g c) (bt (r (38 + c)) 0)) j)
      · cases hm : sp_mv (r (20 + j)) (g j) (bt (r (38 + j)) 0)
        · have := sp_by_ne.mpr hm
          simp [this]
        · have : ¬ sp_by (r (20 + j)) (g j) (bt (r (38 + j)) 0) = 0 := fun h9 => by rw [sp_by_ne.mp h9] at hm; cases hm
          simp [this]
      · simp
    rw [ef]
  · rw [me_u3]
    unfold bX8_ticksOnce_175
    rw [if_pos (by decide)]
/-- the reference's timers -/
theorem mr_timers {t Z r : Nat → Int32} {N : Nat} (ht : t 4 = nI N) (hN : N ≤ 16) (x : Int32) : bq_loop (bq_u2 (bX8_ticksOnce_290 t Z x)) (0, r) = some (sp_put r (fun i => if (decide (¬ Z i ≤ 0) && bt x i) = true then (if 60 ≤ r (44 + i) then 60 else r (44 + i) + 1) else 0) 44 N) := by
  generalize hn : (fun i => if (decide (¬ Z i ≤ 0) && bt x i) = true then (if 60 ≤ r (44 + i) then (60 : Int32) else r (44 + i) + 1) else 0) = nx
  have hnc : ∀ i, (if (decide (¬ Z i ≤ 0) && bt x i) = true then (if 60 ≤ r (44 + i) then (60 : Int32) else r (44 + i) + 1) else 0) = nx i := fun i => by rw [← hn]
  have h0 : ((0 : Int32), r) = (nI 0, sp_put r nx 44 0) := by rw [sp_put_0]; rfl
  rw [h0]
  refine ml_run (fun j => (nI j, sp_put r nx 44 j)) N (fun j hj => ?_) ?_
  · rw [me_u2]
    unfold bX8_ticksOnce_290
    have e44 : (44 : Int32) + nI j = nI (44 + j) := nI_add 44 j
    have c44 : (nI (44 + j)).toNatClampNeg = 44 + j := nI_clamp (by omega)
    have cj : (nI j).toNatClampNeg = j := nI_clamp (by omega)
    have i44 : ∀ {β : Type} (k : Option β), bq_ci (nI (44 + j)) 140 k = k := fun k => me_ci k (by omega) (by omega)
    have ij : ∀ {β : Type} (k : Option β), bq_ci (nI j) 16 k = k := fun k => me_ci k (by omega) (by omega)
    have p44 : sp_put r nx 44 j (44 + j) = r (44 + j) := sp_put_at _ _ _ _
    rw [ht, if_neg (mq_nle (by omega) (by omega))]
    simp only [e44, c44, cj, i44, ij, p44, me_let]
    rw [mb_shr _ (by omega)]
    have ev : (if (if Z j ≤ 0 then (0 : Int32) else (if (if bt x j = true then (1 : Int32) else 0) = 1 then 1 else 0)) = 0 then (0 : Int32) else (if 60 ≤ r (44 + j) then 60 else r (44 + j) + 1)) = nx j := by
      rw [← hnc j]
      by_cases c1 : Z j ≤ 0
      · simp [c1]
      · cases bt x j <;> simp [c1]
    rw [ev, sp_put_s, nI_1]
  · rw [me_u2]
    unfold bX8_ticksOnce_290
    rw [ht, if_pos (mq_rfl _)]
