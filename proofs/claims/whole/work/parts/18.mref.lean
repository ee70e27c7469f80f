theorem sp_rs_upd (st r : Nat → Int32) (x : Int32) (c : Nat) (s : Bool) : sp_rs st (upd r 3 x) c s = sp_rs st r c s := by
  have e1 : upd r 3 x (38 + c) = r (38 + c) := by unfold upd; rw [if_neg (by omega)]
  have e2 : upd r 3 x (20 + c) = r (20 + c) := by unfold upd; rw [if_neg (by omega)]
  unfold sp_rs
  simp only [e1, e2]
theorem sp_rcm_upd (P M Z st r : Nat → Int32) (x : Int32) : sp_rcm P M Z st (upd r 3 x) = sp_rcm P M Z st r := by
  funext i
  have e1 : upd r 3 x (44 + i) = r (44 + i) := by unfold upd; rw [if_neg (by omega)]
  unfold sp_rcm sp_cm
  simp only [sp_rs_upd, e1]
theorem mq_rem {G a : Nat} (hG : G ≤ 16) (ha : a < G) : (nI a + 1) - (nI a + 1) / nI G * nI G = nI (sp_nx G a) := by
  rw [nI_1, pk_rem (by omega) (by omega) (by omega)]
  unfold sp_nx
  by_cases h : G ≤ a + 1
  · rw [if_pos h, show a + 1 = G by omega, Nat.mod_self]
  · rw [if_neg h, Nat.mod_eq_of_lt (by omega)]
/-- the steps whose commands are on, and what is active then -/
theorem mr_decides0 {t M ct P Z st r : Nat → Int32} {N : Nat} {start : Bool} (ht : t 4 = nI N) (h0 : 0 < N) (hN : N ≤ 16) (hd : ∀ i, i < N → ∀ c, c < 6 → ¬ (bt (P i) c = true ∧ bt (M i) c = true)) (hs : r 2 = if start then 1 else 0) (hm : r 1 = 0) :
    mX8_decides t M ct P Z st r = some (sp_bits (sp_rd (sp_rcm P M Z st r) start N) N, r) := by
  unfold mX8_decides
  have e1 : (if r 2 = 1 then (1 : Int32) else 0) = if start then 1 else 0 := by
    rw [hs]
    cases start <;> rfl
  rw [me_let, e1, if_pos hm, mr_direct ht h0 hN hd start, me_bd]
theorem mr_decides2 {t M ct P Z st r : Nat → Int32} {N : Nat} {start : Bool} {ac : Option Nat} (ht : t 4 = nI N) (h0 : 0 < N) (hN : N ≤ 16) (hd : ∀ i, i < N → ∀ c, c < 6 → ¬ (bt (P i) c = true ∧ bt (M i) c = true)) (hs : r 2 = if start then 1 else 0) (hm : r 1 = 2) (ha : r 3 = sp_ai ac) (hac : ∀ a, ac = some a → a < N) :
    mX8_decides t M ct P Z st r = some (sp_bits (fun i => decide (sp_st N start (sp_rcm P M Z st r) ac = some i)) N, upd r 3 (sp_ai (sp_st N start (sp_rcm P M Z st r) ac))) := by
  unfold mX8_decides
  have e1 : (if r 2 = 1 then (1 : Int32) else 0) = if start then 1 else 0 := by
    rw [hs]
    cases start <;> rfl
  have hu : upd r 3 (sp_ai ac) = r := by
    funext k
    unfold upd
    by_cases h : k = 3
    · rw [if_pos h, h, ha]
    · rw [if_neg h]
  rw [me_let, e1, if_neg (by rw [hm]; decide), if_pos hm, me_let, ha]
  have e2 : (if 0 ≤ sp_ai ac then bq_bd (mX8_isComplete M P Z st r (sp_ai ac)) (fun v21 => if v21 = 0 then some r else bq_let (if t 4 ≤ sp_ai ac + 1 then (-1 : Int32) else sp_ai ac + 1) (fun v22 => bq_let (upd r 3 v22) (fun p1_23 => some p1_23))) else bq_let (if (if start = true then (1 : Int32) else 0) = 0 then (-1 : Int32) else 0) (fun v24 => bq_let (upd r 3 v24) (fun p1_25 => some p1_25))) = some (upd r 3 (sp_ai (sp_st N start (sp_rcm P M Z st r) ac))) := by
    cases ac with
    | none =>
      rw [if_neg (by decide), me_let, me_let]
      unfold sp_st
      cases start <;> rfl
    | some a =>
      have hl := hac a rfl
      have ea : sp_ai (some a) = nI a := rfl
      rw [ea, if_pos (nI_pos' (by omega)), mr_isComplete hN hl hd, me_bd]
      rw [sp_st_some]
      cases hb : sp_rcm P M Z st r a
      · rw [if_pos (by decide)]
        simp only [Bool.false_eq_true, if_false]
        rw [hu]
      · rw [if_neg (by decide), me_let, me_let, ht, nI_1]
        simp only [if_true]
        by_cases h : N ≤ a + 1
        · rw [if_pos ((mq_le (by omega) (by omega)).mpr h), if_pos h]; rfl
        · rw [if_neg (fun h9 => h ((mq_le (by omega) (by omega)).mp h9)), if_neg h]; rfl
  rw [e2, me_bd]
  have hlt := sp_st_lt (start := start) (cm := sp_rcm P M Z st r) h0 hac
  generalize sp_st N start (sp_rcm P M Z st r) ac = ac' at hlt ⊢
  have h3 : upd r 3 (sp_ai ac') 3 = sp_ai ac' := rfl
  rw [h3, me_let]
  cases ac' with
  | none =>
    rw [if_neg (by decide), sp_bits_none N (fun i _ => by simp)]
  | some a =>
    have ea : sp_ai (some a) = nI a := rfl
    rw [ea, if_pos (nI_pos' (by have := hlt a rfl; omega)), sp_bits_one N (hlt a rfl) (fun i _ h => by simpa using fun h9 => h h9.symm), if_pos (by simp)]
theorem mr_decides1 {t M ct P Z st r gos : Nat → Int32} {N G a : Nat} {c : Nat → Nat} {start : Bool} (ht : t 4 = nI N) (h0 : 0 < N) (hN : N ≤ 16) (hg : t 8 = nI G) (hG : G ≤ 16) (hd : ∀ i, i < N → ∀ c, c < 6 → ¬ (bt (P i) c = true ∧ bt (M i) c = true)) (hs : r 2 = if start then 1 else 0) (hm : r 1 = 1) (hra : r 3 = nI a) (ha : a < G) (hc : ∀ g, g < G → ct g = nI (c g) ∧ c g < N) (hgf : ∀ i, i < N → mX8_groupFor t ct (nI i) = some (gos i)) :
    mX8_decides t M ct P Z st r = some (sp_bits (sp_con gos c (sp_rd (sp_rcm P M Z st r) start N) (sp_ca G a c (sp_rd (sp_rcm P M Z st r) start N))) N, upd r 3 (nI (sp_ca G a c (sp_rd (sp_rcm P M Z st r) start N)))) := by
  unfold mX8_decides
  have e1 : (if r 2 = 1 then (1 : Int32) else 0) = if start then 1 else 0 := by
    rw [hs]
    cases start <;> rfl
  have hu : upd r 3 (nI a) = r := by
    funext k
    unfold upd
    by_cases h : k = 3
    · rw [if_pos h, h, hra]
    · rw [if_neg h]
  have hn := sp_nx_lt ha
  have hcn := (hc _ hn).2
  have hcz : bq_cz (t 8) = fun (k : Option (Int32 × (Nat → Int32))) => k := by
    funext k
    unfold bq_cz
    rw [hg, if_neg (nI_ne0 (by omega) (by omega))]
  rw [me_let, e1, if_neg (by rw [hm]; decide), if_neg (by rw [hm]; decide), hcz]
  simp only
  rw [hra, hg, mq_rem hG ha, me_let, me_ci _ (by omega) (by omega), me_ci _ (by omega) (by omega), nI_clamp (by omega), (hc _ hn).1, me_before ht h0 hN (by omega), me_bd, mr_isComplete hN (mp_bf_lt h0 hcn) hd, me_bd]
  generalize hrd : sp_rd (sp_rcm P M Z st r) start N = rd
  have erd : rd (c (sp_nx G a)) = (sp_rcm P M Z st r (mp_bf N (c (sp_nx G a))) && (decide (0 < c (sp_nx G a)) || start)) := by rw [← hrd]; rfl
  have e2 : (if (if sp_rcm P M Z st r (mp_bf N (c (sp_nx G a))) = true then (1 : Int32) else 0) = 0 then some r else (if 0 < nI (c (sp_nx G a)) then bq_let (upd r 3 (nI (sp_nx G a))) (fun p1_6 => some p1_6) else (if (if start = true then (1 : Int32) else 0) = 0 then some r else bq_let (upd r 3 (nI (sp_nx G a))) (fun p1_7 => some p1_7)))) = some (upd r 3 (nI (sp_ca G a c rd))) := by
    unfold sp_ca
    rw [erd]
    cases sp_rcm P M Z st r (mp_bf N (c (sp_nx G a)))
    · simp [hu]
    · by_cases hz : 0 < c (sp_nx G a)
      · have := (mq_pos (j := c (sp_nx G a)) (by omega)).mpr hz
        simp [hz, this, bq_let]
      · have h9 : ¬ (0 : Int32) < nI (c (sp_nx G a)) := fun h => hz ((mq_pos (by omega)).mp h)
        cases start
        · simp [hz, h9, hu]
        · simp [hz, h9, bq_let]
  rw [e2, me_bd]
  have ha' := sp_ca_lt (c := c) (rd := rd) ha
  generalize sp_ca G a c rd = a' at ha' ⊢
  have h3 : upd r 3 (nI a') 3 = nI a' := rfl
  have hca := (hc _ ha').2
  rw [h3, me_ci _ (by omega) (by omega), nI_clamp (by omega), me_let, (hc _ ha').1]
  have h : bq_loop (bq_u2 (bX8_decides_218 t M ct P Z st (if start then 1 else 0) (upd r 3 (nI a')) (nI (c a')))) (0, 0) = some (sp_bits (sp_con gos c rd a') N) := by
    refine ml_run (fun j => (nI j, sp_bits (sp_con gos c rd a') j)) N (fun j hj => ?_) ?_
    · rw [me_u2]
      unfold bX8_decides_218
      have ej : (nI j = nI (c a')) ↔ j = c a' := nI_eq (by omega) (by omega)
      have hrj : rd j = (sp_rcm P M Z st r (mp_bf N j) && (decide (0 < j) || start)) := by rw [← hrd]; rfl
      have e4 : (if nI j = nI (c a') then some (1 : Int32) else bq_bd (mX8_before t (nI j)) (fun v13 => bq_bd (mX8_isComplete M P Z st (upd r 3 (nI a')) v13) (fun v14 => if v14 = 0 then some 0 else (if 0 < nI j then some 1 else (if (if start = true then (1 : Int32) else 0) = 0 then some 0 else some 1))))) = some (if (decide (j = c a') || rd j) = true then 1 else 0) := by
        by_cases c2 : j = c a'
        · rw [if_pos (ej.mpr c2), if_pos (by rw [decide_eq_true c2]; rfl)]
        · rw [if_neg (fun h9 => c2 (ej.mp h9)), me_before ht h0 hN (by omega), me_bd, mr_isComplete hN (mp_bf_lt h0 hj) hd, me_bd, sp_rcm_upd, decide_eq_false c2, Bool.false_or, hrj]
          cases sp_rcm P M Z st r (mp_bf N j)
          · simp
          · by_cases hz : 0 < j
            · have := (mq_pos (j := j) (by omega)).mpr hz
              simp [hz, this]
            · have h9 : ¬ (0 : Int32) < nI j := fun h => hz ((mq_pos (by omega)).mp h)
              cases start <;> simp [hz, h9]
      rw [ht, if_neg (mq_nle (by omega) (by omega)), e4, me_bd, hgf j hj, me_bd, me_let, me_let, me_let, nI_1, h3]
      have key : (sp_bits (sp_con gos c rd a') j ||| (if gos j = nI a' then (if (if (decide (j = c a') || rd j) = true then (1 : Int32) else 0) = 0 then (0 : Int32) else (1 : Int32) <<< (nI j &&& 31)) else 0)) = sp_bits (sp_con gos c rd a') (j + 1) := by
        rw [sp_bits]
        have eo : sp_con gos c rd a' j = (decide (gos j = nI a') && (decide (j = c a') || rd j)) := rfl
        rw [eo]
        by_cases c1 : gos j = nI a'
        · rw [if_pos c1, decide_eq_true c1, Bool.true_and]
          cases (decide (j = c a') || rd j)
          · simp [mq_or0]
          · simp
        · rw [if_neg c1, decide_eq_false c1, Bool.false_and, mq_or0]
          simp
      rw [key]
    · rw [me_u2]
      unfold bX8_decides_218
      rw [ht, if_pos (mq_rfl _)]
  rw [h, me_bd]
