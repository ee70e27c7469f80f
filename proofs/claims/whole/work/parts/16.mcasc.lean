theorem me_first {p1 ct : Nat → Int32} {G a : Nat} (hg : p1 5 = nI G) (hG : G ≤ 16) (ha : a < G) : mX5_firstStepOf p1 ct (nI a) = some (ct a) := by
  unfold mX5_firstStepOf
  rw [if_neg (nI_pos (by omega)), hg, if_neg (mq_nle (by omega) (by omega)), me_ci _ (by omega) (by omega), nI_clamp (by omega), me_bd]
/-- the group after group a -/
def sp_nx (G a : Nat) : Nat := if G ≤ a + 1 then 0 else a + 1
theorem sp_nx_lt {G a : Nat} (h : a < G) : sp_nx G a < G := by unfold sp_nx; split <;> omega
def sp_ca (G a : Nat) (c : Nat → Nat) (rd : Nat → Bool) : Nat := if rd (c (sp_nx G a)) then sp_nx G a else a
theorem sp_ca_lt {G a : Nat} {c : Nat → Nat} {rd : Nat → Bool} (h : a < G) : sp_ca G a c rd < G := by
  unfold sp_ca
  split
  · exact sp_nx_lt h
  · exact h
def sp_con (gos : Nat → Int32) (c : Nat → Nat) (rd : Nat → Bool) (a' i : Nat) : Bool := decide (gos i = nI a') && (decide (i = c a') || rd i)
theorem me_cascade {p1 ct gos : Nat → Int32} (t M Z P : Nat → Int32) {N G a : Nat} {c : Nat → Nat} {x : Int32} (hq : p1 0 = nI N) (hN : N ≤ 16) (hg : p1 5 = nI G) (hG : G ≤ 16) (ha : a < G) (hta : t 1 = nI a) (hc : ∀ g, g < G → ct g = nI (c g) ∧ c g < N) :
    mX0_decideCascade (sp_cir t 0 0 0) p1 ct gos M Z P x = some (sp_onc (upd t 1 (nI (sp_ca G a c (bt x)))) P M Z (sp_con gos c (bt x) (sp_ca G a c (bt x))) N) := by
  have h1 : sp_cir t 0 0 0 1 = nI a := hta
  have hn := sp_nx_lt ha
  have e1 : (if p1 5 ≤ sp_cir t 0 0 0 1 + 1 then (0 : Int32) else sp_cir t 0 0 0 1 + 1) = nI (sp_nx G a) := by
    rw [h1, hg, nI_1]
    unfold sp_nx
    by_cases h : G ≤ a + 1
    · rw [if_pos ((mq_le (by omega) (by omega)).mpr h), if_pos h]; rfl
    · rw [if_neg (fun h9 => h ((mq_le (by omega) (by omega)).mp h9)), if_neg h]
  unfold mX0_decideCascade
  rw [me_let, e1, me_first hg hG hn, me_bd, (hc _ hn).1, me_holds _ (by have := (hc _ hn).2; omega), me_bd]
  have e2 : (if (if bt x (c (sp_nx G a)) = true then (1 : Int32) else 0) = 0 then some (sp_cir t 0 0 0) else bq_let (upd (sp_cir t 0 0 0) 1 (nI (sp_nx G a))) (fun t_5 => some t_5)) = some (sp_cir (upd t 1 (nI (sp_ca G a c (bt x)))) 0 0 0) := by
    unfold sp_ca
    cases hb : bt x (c (sp_nx G a))
    · have : upd t 1 (nI a) = t := by
        funext k
        unfold upd
        by_cases h : k = 1
        · rw [if_pos h, h, hta]
        · rw [if_neg h]
      simp only [Bool.false_eq_true, if_false, if_true, this]
    · simp only [if_true]
      rw [if_neg (by decide), me_let, sp_cir_1]
  rw [e2, me_bd]
  have ha' := sp_ca_lt (c := c) (rd := bt x) ha
  generalize sp_ca G a c (bt x) = a' at ha' ⊢
  have h2 : sp_cir (upd t 1 (nI a')) 0 0 0 1 = nI a' := rfl
  rw [h2, me_first hg hG ha', me_bd, (hc _ ha').1]
  have h : bq_loop (bq_u2 (bX0_decideCascade_54 p1 gos M Z P x (nI (c a')))) (0, sp_cir (upd t 1 (nI a')) 0 0 0) = some (sp_onc (upd t 1 (nI a')) P M Z (sp_con gos c (bt x) a') N) := by
    refine ml_run (fun j => (nI j, sp_onc (upd t 1 (nI a')) P M Z (sp_con gos c (bt x) a') j)) N (fun j hj => ?_) ?_
    · rw [me_u2]
      unfold bX0_decideCascade_54
      have h3 : sp_onc (upd t 1 (nI a')) P M Z (sp_con gos c (bt x) a') j 1 = nI a' := rfl
      rw [hq, if_neg (mq_nle (by omega) (by omega)), me_ci _ (by omega) (by omega), nI_clamp (by omega), h3]
      have hcl := (hc _ ha').2
      have ej : (nI j = nI (c a')) ↔ j = c a' := nI_eq (by omega) (by omega)
      have key : (if gos j = nI a' then (if nI j = nI (c a') then bq_bd (mX0_switchOn (sp_onc (upd t 1 (nI a')) P M Z (sp_con gos c (bt x) a') j) M Z P (nI j)) (fun t_11 => some t_11) else bq_bd (mX7_holds x (nI j)) (fun v12 => if v12 = 0 then some (sp_onc (upd t 1 (nI a')) P M Z (sp_con gos c (bt x) a') j) else bq_bd (mX0_switchOn (sp_onc (upd t 1 (nI a')) P M Z (sp_con gos c (bt x) a') j) M Z P (nI j)) (fun t_13 => some t_13))) else some (sp_onc (upd t 1 (nI a')) P M Z (sp_con gos c (bt x) a') j)) = some (sp_onc (upd t 1 (nI a')) P M Z (sp_con gos c (bt x) a') (j + 1)) := by
        by_cases c1 : gos j = nI a'
        · by_cases c2 : j = c a'
          · have ho : sp_con gos c (bt x) a' j = true := by unfold sp_con; rw [decide_eq_true c1, decide_eq_true c2]; rfl
            rw [if_pos c1, if_pos (ej.mpr c2), sp_onc_s _ _ _ _ ho (by omega), me_bd]
          · rw [if_pos c1, if_neg (fun h9 => c2 (ej.mp h9)), me_holds _ (by omega), me_bd]
            cases hb : bt x j
            · have ho : sp_con gos c (bt x) a' j = false := by unfold sp_con; rw [decide_eq_false c2, hb]; simp
              rw [if_pos (by decide), sp_onc_n _ _ _ _ ho]
            · have ho : sp_con gos c (bt x) a' j = true := by unfold sp_con; rw [decide_eq_true c1, hb]; simp
              rw [if_neg (by decide), sp_onc_s _ _ _ _ ho (by omega), me_bd]
        · have ho : sp_con gos c (bt x) a' j = false := by unfold sp_con; rw [decide_eq_false c1]; rfl
          rw [if_neg c1, sp_onc_n _ _ _ _ ho]
      rw [key, me_bd, me_let, nI_1]
    · rw [me_u2]
      unfold bX0_decideCascade_54
      rw [hq, if_pos (mq_rfl _)]
  rw [h]
  rfl
