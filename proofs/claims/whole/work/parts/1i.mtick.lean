theorem sp_all_congr {p q : Nat → Bool} : ∀ (n : Nat), (∀ i, i < n → p i = q i) → sp_all p n = sp_all q n := by
  intro n
  induction n with
  | zero => intro _; rfl
  | succ n ih =>
    intro h
    rw [sp_all, sp_all, ih (fun i hi => h i (by omega)), h n (by omega)]
theorem sp_any_congr {p q : Nat → Bool} : ∀ (n : Nat), (∀ i, i < n → p i = q i) → sp_any p n = sp_any q n := by
  intro n
  induction n with
  | zero => intro _; rfl
  | succ n ih =>
    intro h
    rw [sp_any, sp_any, ih (fun i hi => h i (by omega)), h n (by omega)]
theorem cm_congr {P M Z P' M' Z' ti ti' : Nat → Int32} {se sr se' sr' : Nat → Bool} {i : Nat} (hP : P i = P' i) (hM : M i = M' i) (hZ : Z i = Z' i) (ht : ti i = ti' i) (he : ∀ c, c < 6 → se c = se' c) (hr : ∀ c, c < 6 → sr c = sr' c) : sp_cm P M Z ti se sr i = sp_cm P' M' Z' ti' se' sr' i := by
  unfold sp_cm
  rw [hP, hM, hZ, ht, sp_all_congr 6 (fun c hc => by rw [he c hc]), sp_all_congr (p := fun c => !bt (M' i) c || sr c) 6 (fun c hc => by rw [hr c hc])]
theorem sn_rs {fa po st str r : Nat → Int32} {c : Nat} (hp : r (20 + c) = po c) (hs : st c = str c) (hf : ∀ k, k < 5 → bt (r (38 + c)) k = bt (fa k) c) (s : Bool) : sp_sn fa po st c s = sp_rs str r c s := by
  unfold sp_sn sp_rs
  rw [hp, hs]
  cases s
  · simp only [Bool.false_eq_true, if_false]
    rw [hf 1 (by omega), hf 2 (by omega)]
  · simp only [if_true]
    rw [hf 3 (by omega), hf 4 (by omega)]
theorem sn_congr {fa po po' st : Nat → Int32} {c : Nat} (hp : po c = po' c) (s : Bool) : sp_sn fa po st c s = sp_sn fa po' st c s := by
  unfold sp_sn
  rw [hp]
/-- the parts of a tick of the class -/
def tk_cm (fa po st P M Z ti : Nat → Int32) : Nat → Bool := sp_cm P M Z ti (fun c => sp_sn fa po st c true) (fun c => sp_sn fa po st c false)
def tk_po (fa po st : Nat → Int32) (out : Int32) : Nat → Int32 := sp_put po (fun c => po c + sp_by (po c) (if bt out c then st c else 0) (bt (fa 0) c)) 0 6
def tk_mv (fa po st : Nat → Int32) (out : Int32) : Bool := sp_any (fun c => sp_mv (po c) (if bt out c then st c else 0) (bt (fa 0) c)) 6
def tk_ti (N : Nat) (ti : Nat → Int32) (x : Int32) : Nat → Int32 := sp_put ti (fun i => if bt x i then (if 60 < ti i + 1 then 60 else ti i + 1) else 0) 0 N
def tk_ct (N : Nat) (ti : Nat → Int32) (x : Int32) : Bool := sp_any (fun i => decide (¬ (if bt x i then (if 60 < ti i + 1 then 60 else ti i + 1) else 0) = ti i)) N
def tk_t (t : Nat → Int32) (out : Int32) (b1 b2 b3 b4 : Bool) : Nat → Int32 := upd (if (b1 || b2) = true then upd (upd (upd t 9 out) 10 (t 10 + 1)) 11 (t 10 + 1) else upd (upd t 9 out) 10 (t 10 + 1)) 12 (if (!b1 && !b2 && !b3 && !b4) = true then 1 else 0)
def tk_x (on : Nat → Bool) (Z : Nat → Int32) (N : Nat) : Int32 := sp_bits (fun i => on i && decide (¬ Z i ≤ 0)) N
def tk_c (cir P M Z : Nat → Int32) (on : Nat → Bool) (N : Nat) (ac ac' : Option Nat) : Nat → Int32 := upd (sp_onc (upd cir 1 (sp_ai ac')) P M Z on N) 5 (if sp_ai ac' = sp_ai ac then 0 else 1)
theorem me_tick {sq cu gos cir t fa lg mv tm po sc M Z P st ti lg' mv' tm' sc' : Nat → Int32} {me N G : Nat} {cf : Nat → Nat} {start : Bool} {ac : Option Nat} (hq : sq 0 = nI N) (h0 : 0 < N) (hN : N ≤ 16) (hg : sq 5 = nI G) (hG : G ≤ 16) (hc : ∀ g, g < G → cu g = nI (cf g) ∧ cf g < N) (hb : ∀ i, i < N → ∀ c, c < 32 → (bt (P i) c = true ∨ bt (M i) c = true) → c < 6) (hA : AV me N G ac) (hm : cir 0 = nI me) (ha : cir 1 = sp_ai ac) (h8 : t 8 = if start then 1 else 0) {on : Nat → Bool} {ac' : Option Nat} (hon : sp_on me N G gos cf (tk_cm fa po st P M Z ti) start ac = on) (hac : sp_nac me N G cf (tk_cm fa po st P M Z ti) start ac = ac')
    (hs : bq_loop (bq_u5 (bX3_shiftValves_55 t sq M P (sp_tp (sp_or on P N) (sp_or on M N) (t 9)) (sp_sh (sp_or on P N) (sp_or on M N) (t 9)))) (0, lg, mv, tm, sc) = some (lg', mv', tm', sc')) :
    mX3_makeTick t cir fa lg mv tm po sc sq cu gos M Z P st ti = some (tk_t t (sp_out (sp_or on P N) (sp_or on M N) (t 9)) (decide (¬ sp_sh (sp_or on P N) (sp_or on M N) (t 9) = 0)) (tk_mv fa po st (sp_out (sp_or on P N) (sp_or on M N) (t 9))) (tk_ct N ti (tk_x on Z N)) (decide (¬ sp_ai ac' = sp_ai ac)), tk_c cir P M Z on N ac ac', lg', mv', tm', tk_po fa po st (sp_out (sp_or on P N) (sp_or on M N) (t 9)), sc', tk_ti N ti (tk_x on Z N)) := by
  have hdec := me_decide (gos := gos) (cm := tk_cm fa po st P M Z ti) (start := start) M Z P hq h0 hN hg hG hc hA hm ha
  rw [hon, hac] at hdec
  have hcs : mX3_completeSteps fa po sq M Z P st ti = some (sp_bits (tk_cm fa po st P M Z ti) N) := me_complete hq hN (fun i hi c hc h => hb i hi c hc (Or.inl h)) (fun i hi c hc h => hb i hi c hc (Or.inr h))
  unfold mX3_makeTick
  rw [hcs, me_bd, h8, hdec, me_bd]
  have c2 : tk_c cir P M Z on N ac ac' 2 = sp_or on P N := rfl
  have c3 : tk_c cir P M Z on N ac ac' 3 = sp_or on M N := rfl
  have c4 : tk_c cir P M Z on N ac ac' 4 = tk_x on Z N := rfl
  have c5 : tk_c cir P M Z on N ac ac' 5 = if sp_ai ac' = sp_ai ac then 0 else 1 := rfl
  have hsv : mX3_shiftValves t (tk_c cir P M Z on N ac ac') lg mv tm sc sq M P = some ((if sp_sh (sp_or on P N) (sp_or on M N) (t 9) = 0 then 0 else 1), upd t 9 (sp_out (sp_or on P N) (sp_or on M N) (t 9)), lg', mv', tm', sc') := by
    unfold mX3_shiftValves
    rw [c2, c3, me_let, me_let, me_let]
    show bq_b4 (bq_loop (bq_u5 (bX3_shiftValves_55 t sq M P (sp_tp (sp_or on P N) (sp_or on M N) (t 9)) (sp_sh (sp_or on P N) (sp_or on M N) (t 9)))) (0, lg, mv, tm, sc)) _ = _
    rw [hs, me_b4, me_let, me_let, me_cb]
    · rfl
    · by_cases h : sp_sh (sp_or on P N) (sp_or on M N) (t 9) = 0
      · left
        exact if_pos h
      · right
        exact if_neg h
  show bq_b6 (mX3_shiftValves t (tk_c cir P M Z on N ac ac') lg mv tm sc sq M P) _ = _
  rw [hsv, me_b6, me_pistons, me_b2]
  have e9 : upd t 9 (sp_out (sp_or on P N) (sp_or on M N) (t 9)) 9 = sp_out (sp_or on P N) (sp_or on M N) (t 9) := rfl
  rw [e9]
  have hti := me_timers (cir := tk_c cir P M Z on N ac ac') (ti := ti) hq hN
  rw [c4] at hti
  show bq_b2 (mX3_advanceTimers (tk_c cir P M Z on N ac ac') sq ti) _ = _
  rw [hti, me_b2]
  have e10 : upd t 9 (sp_out (sp_or on P N) (sp_or on M N) (t 9)) 10 = t 10 := rfl
  rw [e10, me_let]
  have e10b : upd (upd t 9 (sp_out (sp_or on P N) (sp_or on M N) (t 9))) 10 (t 10 + 1) 10 = t 10 + 1 := rfl
  rw [e10b]
  show bq_bd (if (if sp_sh (sp_or on P N) (sp_or on M N) (t 9) = 0 then (0 : Int32) else 1) = 0 then (if (if tk_mv fa po st (sp_out (sp_or on P N) (sp_or on M N) (t 9)) = true then (1 : Int32) else 0) = 0 then some (upd (upd t 9 (sp_out (sp_or on P N) (sp_or on M N) (t 9))) 10 (t 10 + 1)) else some (upd (upd (upd t 9 (sp_out (sp_or on P N) (sp_or on M N) (t 9))) 10 (t 10 + 1)) 11 (t 10 + 1))) else some (upd (upd (upd t 9 (sp_out (sp_or on P N) (sp_or on M N) (t 9))) 10 (t 10 + 1)) 11 (t 10 + 1))) (fun t_14 => bq_let (if (if sp_sh (sp_or on P N) (sp_or on M N) (t 9) = 0 then (0 : Int32) else 1) = 0 then (if (if tk_mv fa po st (sp_out (sp_or on P N) (sp_or on M N) (t 9)) = true then (1 : Int32) else 0) = 0 then (if (if tk_ct N ti (tk_x on Z N) = true then (1 : Int32) else 0) = 0 then (if (if sp_ai ac' = sp_ai ac then (0 : Int32) else 1) = 0 then (1 : Int32) else 0) else 0) else 0) else 0) (fun v17 => bq_cb v17 (some (upd t_14 12 v17, tk_c cir P M Z on N ac ac', lg', mv', tm', tk_po fa po st (sp_out (sp_or on P N) (sp_or on M N) (t 9)), sc', tk_ti N ti (tk_x on Z N))))) = _
  unfold tk_t
  generalize tk_mv fa po st (sp_out (sp_or on P N) (sp_or on M N) (t 9)) = b2
  generalize tk_ct N ti (tk_x on Z N) = b3
  by_cases h1 : sp_sh (sp_or on P N) (sp_or on M N) (t 9) = 0
  · by_cases h4 : sp_ai ac' = sp_ai ac
    · cases b2 <;> cases b3 <;> simp [h1, h4, bq_bd, bq_let, bq_cb]
    · cases b2 <;> cases b3 <;> simp [h1, h4, bq_bd, bq_let, bq_cb]
  · by_cases h4 : sp_ai ac' = sp_ai ac
    · cases b2 <;> cases b3 <;> simp [h1, h4, bq_bd, bq_let, bq_cb]
    · cases b2 <;> cases b3 <;> simp [h1, h4, bq_bd, bq_let, bq_cb]
