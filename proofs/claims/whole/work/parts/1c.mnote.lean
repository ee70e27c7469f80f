theorem me_note {lg mv tm : Nat → Int32} {n : Nat} (h2 : lg 2 = nI n) (h3 : lg 3 = nI (min n 40)) (h4 : lg 4 = nI (n % 40)) (x y : Int32) : mX1_note lg mv tm x y = some (upd (upd (upd lg 4 (nI ((n + 1) % 40))) 3 (nI (min (n + 1) 40))) 2 (nI (n + 1)), upd mv ((n + 1) % 40) y, upd tm ((n + 1) % 40) x) := by
  have hm : n % 40 < 40 := Nat.mod_lt _ (by omega)
  have h40 : (40 : Int32) = nI 40 := rfl
  have e1 : (if 40 ≤ lg 4 + 1 then (0 : Int32) else lg 4 + 1) = nI ((n + 1) % 40) := by
    rw [h4, nI_1, h40]
    by_cases h : 40 ≤ n % 40 + 1
    · rw [if_pos ((mq_le (a := 40) (by omega) (by omega)).mpr h), show (n + 1) % 40 = 0 by omega]; rfl
    · rw [if_neg (fun h9 => h ((mq_le (a := 40) (by omega) (by omega)).mp h9)), show (n + 1) % 40 = n % 40 + 1 by omega]
  have hm1 : (n + 1) % 40 < 40 := Nat.mod_lt _ (by omega)
  have hc : (nI ((n + 1) % 40)).toNatClampNeg = (n + 1) % 40 := nI_clamp (by omega)
  have e2 : (if 40 < nI (min n 40) + 1 then (40 : Int32) else nI (min n 40) + 1) = nI (min (n + 1) 40) := by
    rw [nI_1, h40]
    by_cases h : 40 < min n 40 + 1
    · rw [if_pos ((nI_ltI (a := 40) (by omega) (by omega)).mpr h), show min (n + 1) 40 = 40 by omega]
    · rw [if_neg (fun h9 => h ((nI_ltI (a := 40) (by omega) (by omega)).mp h9)), show min (n + 1) 40 = min n 40 + 1 by omega]
  unfold mX1_note
  rw [me_let, e1, me_let, mu_s, me_ci _ hm1 (by omega), me_let, me_ci _ hm1 (by omega), me_let, me_let, me_let, hc, mu_n _ _ (by omega : 3 ≠ 4), h3, e2, mu_n _ _ (by omega : 2 ≠ 3), mu_n _ _ (by omega : 2 ≠ 4), h2, nI_1]
/-- a score's due moves at a step -/
def sp_due (t : Nat → Int32) (d a b : Int32) : Nat → Int32 := upd (upd (upd t 3 d) 4 a) 5 b
theorem me_makeDue {t sq M P : Nat → Int32} {N m : Nat} (hq : sq 0 = nI N) (hN : N ≤ 16) (hm : m < N) : mX4_makeDue t sq M P (nI m) = some (sp_due t (nI m) (P m) (M m)) := by
  unfold mX4_makeDue sp_due
  rw [hq, if_neg (mq_nle hm (by omega)), me_let, me_let, if_neg (by decide), if_neg (by decide), me_ci _ (by omega) (by omega), me_ci _ (by omega) (by omega), nI_clamp (by omega), me_bd, me_let, me_bd, me_let]
theorem me_makeDue0 {t sq M P : Nat → Int32} {N : Nat} (hq : sq 0 = nI N) : mX4_makeDue t sq M P (nI N) = some (sp_due t (nI N) 0 0) := by
  unfold mX4_makeDue sp_due
  rw [hq, if_pos (mq_rfl _)]
  rfl
/-- a score after a right event -/
def sp_right (sc : Nat → Int32) (c : Nat) : Nat → Int32 := upd (upd (upd sc 0 (sc 0 + 1)) 4 (sc 4 &&& (((1 : Int32) <<< (nI c &&& 31)) ^^^ (-1)))) 5 (sc 5 &&& (((1 : Int32) <<< (nI c &&& 31)) ^^^ (-1)))
def sp_dueOf (sc : Nat → Int32) (o : Bool) : Int32 := if o then sc 4 else sc 5
theorem me_judge_a {sc sq M P : Nat → Int32} {c : Nat} (hc : c < 6) (o : Bool) (h : ¬ sc 2 = 0 ∨ bt (sp_dueOf sc o) c = false) : mX4_judge sc sq M P (nI c) (if o then 1 else 0) = some (upd sc 2 1) := by
  unfold mX4_judge
  by_cases h2 : sc 2 = 0
  · have hb : bt (sp_dueOf sc o) c = false := by
      rcases h with h | h
      · exact absurd h2 h
      · exact h
    have e : (if (if o = true then (1 : Int32) else 0) = 0 then sc 5 else sc 4) = sp_dueOf sc o := by cases o <;> rfl
    rw [if_pos h2, e, me_let, me_holds _ (by omega), hb, me_bd, if_pos (by decide), me_let]
  · rw [if_neg h2, me_let]
theorem me_judge_r {sc sq M P : Nat → Int32} {c : Nat} (hc : c < 6) (o : Bool) (h2 : sc 2 = 0) (hb : bt (sp_dueOf sc o) c = true) : mX4_judge sc sq M P (nI c) (if o then 1 else 0) = (if (sp_right sc c) 4 = 0 then (if (sp_right sc c) 5 = 0 then (bq_bd (mX5_movingStepFrom sq M P ((sp_right sc c) 3 + 1)) (fun v7 => bq_b2 (if v7 < (sq 0) then (some (v7, sp_right sc c)) else (bq_bd (mX5_movingStepFrom sq M P 0) (fun v10 => bq_let (upd (sp_right sc c) 1 ((sp_right sc c 1) + 1)) (fun t_11 => some (v10, t_11)))) : Option (Int32 × (Nat → Int32))) (fun v8 t_9 => bq_bd (mX4_makeDue t_9 sq M P v8) (fun t_12 => some t_12)))) else (some (sp_right sc c))) else (some (sp_right sc c))) := by
  unfold mX4_judge
  have e : (if (if o = true then (1 : Int32) else 0) = 0 then sc 5 else sc 4) = sp_dueOf sc o := by cases o <;> rfl
  rw [if_pos h2, e, me_let, me_holds _ (by omega), hb, me_bd, if_neg (by decide)]
  rfl
theorem sp_right_3 (sc : Nat → Int32) (c : Nat) : sp_right sc c 3 = sc 3 := rfl
theorem me_judge_b {sc sq M P : Nat → Int32} {c : Nat} (hc : c < 6) (o : Bool) (h2 : sc 2 = 0) (hb : bt (sp_dueOf sc o) c = true) (hn : ¬ ((sp_right sc c) 4 = 0 ∧ (sp_right sc c) 5 = 0)) : mX4_judge sc sq M P (nI c) (if o then 1 else 0) = some (sp_right sc c) := by
  rw [me_judge_r hc o h2 hb]
  by_cases h4 : sp_right sc c 4 = 0
  · rw [if_pos h4, if_neg (fun h5 => hn ⟨h4, h5⟩)]
  · rw [if_neg h4]
theorem me_judge_c {sc sq M P : Nat → Int32} {N c d m : Nat} (hq : sq 0 = nI N) (hN : N ≤ 16) (hc : c < 6) (o : Bool) (h2 : sc 2 = 0) (hb : bt (sp_dueOf sc o) c = true) (h4 : (sp_right sc c) 4 = 0) (h5 : (sp_right sc c) 5 = 0) (h3 : sc 3 = nI d) (hm1 : d < m) (hm2 : m < N) (hm3 : ¬ P m ||| M m = 0) (hm4 : ∀ i, d + 1 ≤ i → i < m → P i ||| M i = 0) : mX4_judge sc sq M P (nI c) (if o then 1 else 0) = some (sp_due (sp_right sc c) (nI m) (P m) (M m)) := by
  rw [me_judge_r hc o h2 hb, if_pos h4, if_pos h5, sp_right_3, h3, nI_1, me_msf_some hq hN (by omega) hm2 hm3 hm4, me_bd, hq, if_pos (nI_lt hm2 (by omega)), me_b2, me_makeDue hq hN hm2, me_bd]
theorem me_judge_d {sc sq M P : Nat → Int32} {N c d F : Nat} (hq : sq 0 = nI N) (hN : N ≤ 16) (hc : c < 6) (o : Bool) (h2 : sc 2 = 0) (hb : bt (sp_dueOf sc o) c = true) (h4 : (sp_right sc c) 4 = 0) (h5 : (sp_right sc c) 5 = 0) (h3 : sc 3 = nI d) (hd : d < N) (hm4 : ∀ i, d + 1 ≤ i → i < N → P i ||| M i = 0) (hF2 : F < N) (hF3 : ¬ P F ||| M F = 0) (hF4 : ∀ i, 0 ≤ i → i < F → P i ||| M i = 0) : mX4_judge sc sq M P (nI c) (if o then 1 else 0) = some (sp_due (upd (sp_right sc c) 1 (sc 1 + 1)) (nI F) (P F) (M F)) := by
  have e0 := me_msf_some (a := 0) hq hN (Nat.zero_le F) hF2 hF3 hF4
  rw [nI_0] at e0
  rw [me_judge_r hc o h2 hb, if_pos h4, if_pos h5, sp_right_3, h3, nI_1, me_msf_none hq hN (by omega) hm4, me_bd, hq, if_neg (nI_nlt (Nat.le_refl _) (by omega)), e0, me_bd, me_let, me_b2, me_makeDue hq hN hF2, me_bd]
  rfl
/-- the reference's row after an event is noted, before it is judged -/
def sp_rev (r : Nat → Int32) (n c : Nat) (o : Bool) : Nat → Int32 := upd (upd (upd r (60 + n % 40) (r 0)) (100 + n % 40) (2 * nI c + if o then 1 else 0)) 4 (nI (n + 1))
theorem sp_rev_lo (r : Nat → Int32) (n c : Nat) (o : Bool) {k : Nat} (h : k < 60) (h4 : k ≠ 4) : sp_rev r n c o k = r k := by
  unfold sp_rev
  rw [mu_n _ _ h4, mu_n _ _ (by omega), mu_n _ _ (by omega)]
def sp_ebit (c : Nat) (o : Bool) : Nat := if o then c else 6 + c
theorem sp_ebit_lt {c : Nat} (h : c < 6) (o : Bool) : sp_ebit c o < 12 := by unfold sp_ebit; split <;> omega
theorem mq_andbit (x : Int32) {k : Nat} (hk : k < 32) : (x &&& ((1 : Int32) <<< (nI k &&& 31)) = 0) ↔ bt x k = false := by
  rw [mb_zero]
  constructor
  · intro h
    have := h k hk
    rw [b_and, mb_bit hk hk, decide_eq_true rfl, Bool.and_true] at this
    exact this
  · intro h i hi
    rw [b_and, mb_bit hk hi]
    by_cases h1 : i = k
    · subst h1; rw [h, Bool.false_and]
    · rw [decide_eq_false h1, Bool.and_false]
theorem mr_note_0 {t Mr Pr Zr r : Nat → Int32} {n c : Nat} (hc : c < 6) (o : Bool) (h4 : r 4 = nI n) (hn : n + 1 < 2 ^ 31) : mX8_notesEvent t Mr Pr Zr r (nI c) (if o then 1 else 0) = (if (r 6) = 1 then (some (upd (sp_rev r n c o) 6 1)) else (if bt (r 8) (sp_ebit c o) = false then (some (upd (sp_rev r n c o) 6 1)) else (bq_let (upd (sp_rev r n c o) 5 (r 5 + 1)) (fun p1_9 => bq_let (upd p1_9 8 (r 8 &&& (((1 : Int32) <<< (nI (sp_ebit c o) &&& 31)) ^^^ (-1)))) (fun p1_10 => if (p1_10 8) = 0 then (bq_let (p1_10 7) (fun v11 => bq_let (if (t 4) ≤ (v11 + 1) then 0 else ((v11 + 1)) : Int32) (fun v12 => bq_bd (bq_loop (bq_u1 (bX8_notesEvent_138 t Zr)) v12) (fun v14 => bq_let (upd p1_10 7 v14) (fun p1_15 => bq_bd (mX8_movesOf t Mr Pr v14) (fun v16 => bq_let (upd p1_15 8 v16) (fun p1_17 => bq_bd (mX8_firstWithMoves t Zr) (fun v18 => bq_bd (if v14 = v18 then (bq_let (upd p1_17 9 ((p1_17 9) + 1)) (fun p1_20 => bq_let (if (p1_20 9) = 1 then ((p1_20 0)) else ((p1_20 11)) : Int32) (fun v21 => bq_let (upd p1_20 11 v21) (fun p1_22 => bq_let (if (p1_22 9) = 2 then ((p1_22 0)) else ((p1_22 12)) : Int32) (fun v23 => bq_let (upd p1_22 12 v23) (fun p1_24 => some p1_24)))))) else (some p1_17) : Option ((Nat → Int32))) (fun p1_19 => some p1_19))))))))) else (some p1_10)))))) := by
  have hm : n % 40 < 40 := Nat.mod_lt _ (by omega)
  have e1 : nI n - nI n / 40 * 40 = nI (n % 40) := pk_rem (d := 40) (by omega) (by omega) (by omega)
  have e60 : (60 : Int32) + nI (n % 40) = nI (60 + n % 40) := nI_add 60 _
  have e100 : (100 : Int32) + nI (n % 40) = nI (100 + n % 40) := nI_add 100 _
  have c60 : (nI (60 + n % 40)).toNatClampNeg = 60 + n % 40 := nI_clamp (by omega)
  have c100 : (nI (100 + n % 40)).toNatClampNeg = 100 + n % 40 := nI_clamp (by omega)
  have e6 : (6 : Int32) + nI c = nI (6 + c) := nI_add 6 c
  have eo : (if (if o = true then (1 : Int32) else 0) = 0 then (0 : Int32) else 1) = if o then 1 else 0 := by cases o <;> rfl
  have ev : (if (if o = true then (1 : Int32) else 0) = 0 then nI (6 + c) else nI c) = nI (sp_ebit c o) := by unfold sp_ebit; cases o <;> rfl
  have hr4 : upd (upd r (60 + n % 40) (r 0)) (100 + n % 40) (2 * nI c + if o then 1 else 0) 4 = nI n := by rw [mu_n _ _ (by omega), mu_n _ _ (by omega), h4]
  have er : upd (upd (upd r (60 + n % 40) (r 0)) (100 + n % 40) (2 * nI c + if o then 1 else 0)) 4 (nI n + 1) = sp_rev r n c o := by rw [nI_1]; rfl
  unfold mX8_notesEvent
  rw [h4, e1, me_let, e60, me_ci _ (by omega) (by omega), c60, me_let, eo, me_let, e100, me_ci _ (by omega) (by omega), c100, me_let, hr4, er, me_let, e6, ev, me_let, me_let, sp_rev_lo _ _ _ _ (by omega) (by omega), sp_rev_lo _ _ _ _ (by omega) (by omega), sp_rev_lo _ _ _ _ (by omega) (by omega)]
  have e8 : upd (sp_rev r n c o) 5 (r 5 + 1) 8 = r 8 := by rw [mu_n _ _ (by omega), sp_rev_lo _ _ _ _ (by omega) (by omega)]
  by_cases h6 : r 6 = 1
  · rw [if_pos h6, if_pos h6]
    rfl
  · rw [if_neg h6, if_neg h6]
    have hb := mq_andbit (r 8) (k := sp_ebit c o) (by have := sp_ebit_lt hc o; omega)
    by_cases h8 : bt (r 8) (sp_ebit c o) = false
    · rw [if_pos (hb.mpr h8), if_pos h8]
      rfl
    · rw [if_neg (fun h9 => h8 (hb.mp h9)), if_neg h8]
      have key : ∀ (y : Int32) (g : (Nat → Int32) → Option (Nat → Int32)), bq_let (upd (sp_rev r n c o) 5 (r 5 + 1)) (fun p => bq_let (upd p 8 (p 8 &&& y)) g) = bq_let (upd (sp_rev r n c o) 5 (r 5 + 1)) (fun p => bq_let (upd p 8 (r 8 &&& y)) g) := by
        intro y g
        show g (upd (upd (sp_rev r n c o) 5 (r 5 + 1)) 8 ((upd (sp_rev r n c o) 5 (r 5 + 1)) 8 &&& y)) = g (upd (upd (sp_rev r n c o) 5 (r 5 + 1)) 8 (r 8 &&& y))
        rw [e8]
      exact key _ _
theorem mr_note_a {t Mr Pr Zr r : Nat → Int32} {n c : Nat} (hc : c < 6) (o : Bool) (h4 : r 4 = nI n) (hn : n + 1 < 2 ^ 31) (h : r 6 = 1 ∨ bt (r 8) (sp_ebit c o) = false) : mX8_notesEvent t Mr Pr Zr r (nI c) (if o then 1 else 0) = some (upd (sp_rev r n c o) 6 1) := by
  rw [mr_note_0 hc o h4 hn]
  by_cases h6 : r 6 = 1
  · rw [if_pos h6]
  · rw [if_neg h6, if_pos (by rcases h with h | h; exact absurd h h6; exact h)]
/-- the reference's row after a right event -/
def sp_rr (r : Nat → Int32) (n c : Nat) (o : Bool) : Nat → Int32 := upd (upd (sp_rev r n c o) 5 (r 5 + 1)) 8 (r 8 &&& (((1 : Int32) <<< (nI (sp_ebit c o) &&& 31)) ^^^ (-1)))
theorem sp_rr_lo (r : Nat → Int32) (n c : Nat) (o : Bool) {k : Nat} (h : k < 60) (h4 : k ≠ 4) (h5 : k ≠ 5) (h8 : k ≠ 8) : sp_rr r n c o k = r k := by
  unfold sp_rr
  rw [mu_n _ _ h8, mu_n _ _ h5, sp_rev_lo _ _ _ _ h h4]
theorem mr_note_b {t Mr Pr Zr r : Nat → Int32} {n c : Nat} (hc : c < 6) (o : Bool) (h4 : r 4 = nI n) (hn : n + 1 < 2 ^ 31) (h6 : ¬ r 6 = 1) (hb : bt (r 8) (sp_ebit c o) = true) (h8 : ¬ sp_rr r n c o 8 = 0) : mX8_notesEvent t Mr Pr Zr r (nI c) (if o then 1 else 0) = some (sp_rr r n c o) := by
  rw [mr_note_0 hc o h4 hn, if_neg h6, if_neg (by rw [hb]; decide)]
  show (if sp_rr r n c o 8 = 0 then _ else some (sp_rr r n c o)) = _
  rw [if_neg h8]
def sp_mo (P M : Nat → Int32) (m : Nat) : Int32 := P m ||| (M m <<< (6 &&& 31))
theorem mr_movesOf {t Mr Pr : Nat → Int32} {N m : Nat} (ht : t 4 = nI N) (hN : N ≤ 16) (hm : m < N) : mX8_movesOf t Mr Pr (nI m) = some (sp_mo Pr Mr m) := by
  unfold mX8_movesOf sp_mo
  rw [ht, if_neg (nI_ne0 (by omega) (by omega)), me_ci _ (by omega) (by omega), me_ci _ (by omega) (by omega), nI_clamp (by omega), me_bd]
theorem mr_note_c {t Mr Pr Zr r : Nat → Int32} {N n c d m F : Nat} (ht : t 4 = nI N) (hN : N ≤ 16) (hc : c < 6) (o : Bool) (h4 : r 4 = nI n) (hn : n + 1 < 2 ^ 31) (h6 : ¬ r 6 = 1) (hb : bt (r 8) (sp_ebit c o) = true) (h8 : sp_rr r n c o 8 = 0) (h7 : r 7 = nI d) (hm1 : d < m) (hm2 : m < N) (hm3 : Zr m ≤ 0) (hm4 : ∀ i, d + 1 ≤ i → i < m → ¬ Zr i ≤ 0) (hF : F ≤ d) (hF3 : Zr F ≤ 0) (hF4 : ∀ i, i < F → ¬ Zr i ≤ 0) : mX8_notesEvent t Mr Pr Zr r (nI c) (if o then 1 else 0) = some (upd (upd (sp_rr r n c o) 7 (nI m)) 8 (sp_mo Pr Mr m)) := by
  rw [mr_note_0 hc o h4 hn, if_neg h6, if_neg (by rw [hb]; decide)]
  show (if sp_rr r n c o 8 = 0 then bq_let (sp_rr r n c o 7) _ else some (sp_rr r n c o)) = _
  rw [if_pos h8, sp_rr_lo _ _ _ _ (by omega) (by omega) (by omega) (by omega), h7, me_let, nI_1, ht, if_neg (mq_nle (by omega) (by omega)), me_let, mr_next_some ht hN (by omega) hm2 hm3 hm4, me_bd, me_let, mr_movesOf ht hN hm2, me_bd, me_let, mr_fwm ht hN (by omega : F ≤ N) (fun _ => hF3) hF4, me_bd, if_neg (fun h9 => absurd ((nI_eq (by omega) (by omega)).mp h9) (by omega)), me_bd]
  rfl
/-- the row after a cycle is counted -/
def sp_cyc (r : Nat → Int32) : Nat → Int32 := upd (upd (upd r 9 (r 9 + 1)) 11 (if r 9 + 1 = 1 then r 0 else r 11)) 12 (if r 9 + 1 = 2 then r 0 else r 12)
theorem mr_note_d {t Mr Pr Zr r : Nat → Int32} {N n c d F : Nat} (ht : t 4 = nI N) (hN : N ≤ 16) (hc : c < 6) (o : Bool) (h4 : r 4 = nI n) (hn : n + 1 < 2 ^ 31) (h6 : ¬ r 6 = 1) (hb : bt (r 8) (sp_ebit c o) = true) (h8 : sp_rr r n c o 8 = 0) (h7 : r 7 = nI d) (hd : d < N) (hm4 : ∀ i, d + 1 ≤ i → i < N → ¬ Zr i ≤ 0) (hF : F < N) (hF3 : Zr F ≤ 0) (hF4 : ∀ i, i < F → ¬ Zr i ≤ 0) : mX8_notesEvent t Mr Pr Zr r (nI c) (if o then 1 else 0) = some (sp_cyc (upd (upd (sp_rr r n c o) 7 (nI F)) 8 (sp_mo Pr Mr F))) := by
  rw [mr_note_0 hc o h4 hn, if_neg h6, if_neg (by rw [hb]; decide)]
  show (if sp_rr r n c o 8 = 0 then bq_let (sp_rr r n c o 7) _ else some (sp_rr r n c o)) = _
  have hl : bq_loop (bq_u1 (bX8_notesEvent_138 t Zr)) (if nI N ≤ nI (d + 1) then (0 : Int32) else nI (d + 1)) = some (nI F) := by
    by_cases h : N ≤ d + 1
    · rw [if_pos (nI_le h (by omega))]
      exact mr_next_some (a := 0) ht hN (Nat.zero_le F) hF hF3 (fun i _ h => hF4 i h)
    · rw [if_neg (mq_nle (by omega) (by omega))]
      exact mr_next_wrap ht hN (by omega) hm4 hF hF3 hF4
  rw [if_pos h8, sp_rr_lo _ _ _ _ (by omega) (by omega) (by omega) (by omega), h7, me_let, nI_1, ht, me_let, hl, me_bd, me_let, mr_movesOf ht hN hF, me_bd, me_let, mr_fwm ht hN (by omega : F ≤ N) (fun _ => hF3) hF4, me_bd, if_pos rfl]
  rfl
