theorem ml_step {S R : Type} {b : S → Option (S ⊕ R)} {s s' : S} (h : b s = some (.inl s')) : ∀ {r}, bq_loop b s' = some r → bq_loop b s = some r := by
  intro r hr
  obtain ⟨n, hn⟩ := bq_loop_el hr
  refine bq_loop_of (n := n + 1) ?_
  unfold bq_lp
  rw [h]
  exact hn
theorem ml_done {S R : Type} {b : S → Option (S ⊕ R)} {s : S} {r : R} (h : b s = some (.inr r)) : bq_loop b s = some r := by
  refine bq_loop_of (n := 1) ?_
  unfold bq_lp
  rw [h]
theorem mr_zero (r : Nat → Int32) : bq_loop (bq_u2 bX8_tries_3) (0, r) = some (sp_put r (fun _ => 0) 0 140) := by
  have h0 : ((0 : Int32), r) = (nI 0, sp_put r (fun _ => 0) 0 0) := by rw [sp_put_0]; rfl
  rw [h0]
  refine ml_run (fun j => (nI j, sp_put r (fun _ => 0) 0 j)) 140 (fun j hj => ?_) ?_
  · rw [me_u2]
    unfold bX8_tries_3
    have es := sp_put_s r (fun _ => 0) 0 j
    rw [Nat.zero_add] at es
    have h140 : ¬ (140 : Int32) ≤ nI j := mq_nle (a := 140) hj (by omega)
    rw [if_neg h140, me_ci _ hj (by omega), nI_clamp (by omega), me_let, es, me_let, nI_1]
  · rw [me_u2]
    unfold bX8_tries_3
    rw [if_pos (by decide)]
/-- the reference's trial row before it rests: without a fault, with one -/
def sp_tz (r : Nat → Int32) (me : Nat) : Nat → Int32 := upd (upd (sp_put r (fun _ => 0) 0 140) 1 (nI me)) 2 1
def sp_tf (r : Nat → Int32) (me : Nat) : Option (Nat × Nat) → Nat → Int32
  | none => sp_tz r me
  | some (c, k) => upd (sp_tz r me) (38 + c) ((1 : Int32) <<< (nI k &&& 31))
def sp_fx : Option (Nat × Nat) → Int32
  | none => -1
  | some (c, _) => nI c
def sp_fk : Option (Nat × Nat) → Int32
  | none => 0
  | some (_, k) => nI k
def sp_fOK (q : Option (Nat × Nat)) : Prop := ∀ c k, q = some (c, k) → c < 6 ∧ k < 5
theorem sp_tz_k (r : Nat → Int32) (me : Nat) {k : Nat} (h : k < 140) (h1 : k ≠ 1) (h2 : k ≠ 2) : sp_tz r me k = 0 := by
  unfold sp_tz
  rw [mu_n _ _ h2, mu_n _ _ h1]
  have := sp_put_in r (fun _ => 0) (a := 0) h
  rw [Nat.zero_add] at this
  exact this
/-- the class's faults of a trial -/
def sp_ff (fa : Nat → Int32) : Option (Nat × Nat) → Nat → Int32
  | none => sp_put fa (fun _ => 0) 0 5
  | some (c, k) => upd (sp_put fa (fun _ => 0) 0 5) k ((sp_put fa (fun _ => 0) 0 5) k ||| ((1 : Int32) <<< (nI c &&& 31)))
theorem sp_ff_eq (fa r : Nat → Int32) (me : Nat) {q : Option (Nat × Nat)} (hq : sp_fOK q) : ∀ c, c < 6 → ∀ k, k < 5 → bt (sp_tf r me q (38 + c)) k = bt (sp_ff fa q k) c := by
  intro c hc k hk
  have hz : ∀ k, k < 5 → sp_put fa (fun _ => 0) 0 5 k = 0 := fun k hk => by
    have := sp_put_in fa (fun _ => 0) (a := 0) hk
    rw [Nat.zero_add] at this
    exact this
  cases q with
  | none =>
    show bt (sp_tz r me (38 + c)) k = bt (sp_put fa (fun _ => 0) 0 5 k) c
    rw [sp_tz_k _ _ (by omega) (by omega) (by omega), hz k hk, b_0, b_0]
  | some p =>
    obtain ⟨c', k'⟩ := p
    obtain ⟨hc', hk'⟩ := hq c' k' rfl
    show bt (upd (sp_tz r me) (38 + c') ((1 : Int32) <<< (nI k' &&& 31)) (38 + c)) k = bt (upd (sp_put fa (fun _ => 0) 0 5) k' ((sp_put fa (fun _ => 0) 0 5) k' ||| ((1 : Int32) <<< (nI c' &&& 31))) k) c
    by_cases h1 : c = c'
    · rw [h1, mu_s, mb_bit (by omega) (by omega)]
      by_cases h2 : k = k'
      · rw [h2, mu_s, mb_set _ (by omega) (by omega), decide_eq_true rfl, decide_eq_true rfl, Bool.or_true]
      · rw [mu_n _ _ h2, hz k hk, b_0, decide_eq_false h2]
    · rw [mu_n _ _ (by omega), sp_tz_k _ _ (by omega) (by omega) (by omega), b_0]
      by_cases h2 : k = k'
      · rw [h2, mu_s, hz k' hk', mb_set _ (by omega) (by omega), b_0, decide_eq_false h1]
        rfl
      · rw [mu_n _ _ h2, hz k hk, b_0]
/-- the reference's trial as far as its first tick -/
theorem mr_tries0 {N F G me : Nat} {cf : Nat → Nat} {sq cu gos M Z P tr ct Mr Pr Zr str rt : Nat → Int32} (hS : SQ N F G cf sq cu gos M Z P tr ct Mr Pr Zr) (hme : me < 3) {q : Option (Nat × Nat)} (hq : sp_fOK q) (x4 x5 : Int32) : mX8_tries tr Mr ct Pr Zr str rt (nI me) (sp_fx q) (sp_fk q) x4 x5 = bq_bd (bq_loop (bq_u2 (bX8_tries_66 tr Mr ct Pr Zr str x4 x5)) (0, sp_rest (sp_tf rt me q) (sp_ai (sp_ac0 me N G)) (nI F) (sp_mo P M F))) (fun x => some x) := by
  have e1 : (if sp_fx q < 0 then some (upd (upd (sp_put rt (fun _ => 0) 0 140) 1 (nI me)) 2 1) else (bq_ci (38 + sp_fx q) 140 (bq_let (upd (upd (upd (sp_put rt (fun _ => 0) 0 140) 1 (nI me)) 2 1) ((38 + sp_fx q).toNatClampNeg) ((1 : Int32) <<< (sp_fk q &&& 31))) (fun t_trial_7 => some t_trial_7)))) = some (sp_tf rt me q) := by
    cases q with
    | none => rw [if_pos (by decide)]; rfl
    | some p =>
      obtain ⟨c', k'⟩ := p
      obtain ⟨hc', hk'⟩ := hq c' k' rfl
      have ex : sp_fx (some (c', k')) = nI c' := rfl
      have e38 : (38 : Int32) + nI c' = nI (38 + c') := nI_add 38 c'
      rw [ex, if_neg (nI_pos (by omega)), e38, me_ci _ (by omega) (by omega), nI_clamp (by omega)]
      rfl
  have h1 : sp_tf rt me q 1 = nI me := by
    cases q with
    | none => rfl
    | some p =>
      obtain ⟨c', k'⟩ := p
      show upd (sp_tz rt me) (38 + c') _ 1 = _
      rw [mu_n _ _ (by omega)]
      rfl
  unfold mX8_tries
  rw [mr_zero, me_bd, me_let, me_let, e1, me_bd, mr_rests hS h1 hme, me_bd]
theorem me_copy {N F G me : Nat} {cf : Nat → Nat} {sq cu gos M Z P tr ct Mr Pr Zr : Nat → Int32} (t cir fa lg po sc st ti st0 : Nat → Int32) (hS : SQ N F G cf sq cu gos M Z P tr ct Mr Pr Zr) (hme : me < 3) : mX3_becomeCopyOf t cir fa lg po sc st ti sq M P st0 (nI me) = some (sp_trest t, sp_cir (upd (upd cir 0 (nI me)) 1 (sp_ai (sp_ac0 me N G))) 0 0 0, sp_ff fa none, sp_lrest lg, sp_put po (fun _ => 0) 0 6, sp_srest sc (nI F) (P F) (M F), va_cpy st0 st 0 0 6, sp_put ti (fun _ => 0) 0 16) := by
  unfold mX3_becomeCopyOf
  rw [me_let, me_fill 5 (by omega), me_bd, me_let, me_rest _ _ _ _ _ _ hS (mu_s _ _ _) hme, me_b6]
  rfl
theorem va_cpy6 (f g : Nat → Int32) {n c : Nat} (h : c < n) : va_cpy f g 0 0 n c = f c := by
  unfold va_cpy
  rw [if_pos (by omega)]
  congr 1
  omega
theorem me_putFault (fa : Nat → Int32) {c k : Nat} (hc : c < 6) (hk : k < 5) : mX3_putFault (sp_ff fa none) (nI c) (nI k) 1 = some (sp_ff fa (some (c, k))) := by
  unfold mX3_putFault
  rw [if_neg (by decide), me_ci _ hk (by omega), me_ci _ hk (by omega), nI_clamp (by omega), me_let, me_bd]
  rfl
/-- a trial's start, both sides -/
theorem trial_rs {N F G me : Nat} {cf : Nat → Nat} {sq cu gos M Z P tr ct Mr Pr Zr : Nat → Int32} (t cir fa lg mv tm po sc ti rt : Nat → Int32) (hS : SQ N F G cf sq cu gos M Z P tr ct Mr Pr Zr) (hme : me < 3) (h8 : t 8 = 1) {q : Option (Nat × Nat)} (hq : sp_fOK q) : RS N F G me true (sp_ac0 me N G) 0 Z (sp_ff fa q) (sp_trest t, sp_cir (upd (upd cir 0 (nI me)) 1 (sp_ai (sp_ac0 me N G))) 0 0 0, sp_lrest lg, mv, tm, sp_put po (fun _ => 0) 0 6, sp_srest sc (nI F) (P F) (M F), sp_put ti (fun _ => 0) 0 16) (sp_rest (sp_tf rt me q) (sp_ai (sp_ac0 me N G)) (nI F) (sp_mo P M F)) := by
  have hk : ∀ k, k < 3 → 0 < k → sp_tf rt me q k = sp_tz rt me k := fun k h1 h2 => by
    cases q with
    | none => rfl
    | some p =>
      obtain ⟨c', k'⟩ := p
      show upd (sp_tz rt me) (38 + c') _ k = _
      rw [mu_n _ _ (by omega)]
  refine rr_rest t (upd cir 0 (nI me)) lg mv tm po sc (sp_ff fa q) ti (sp_tf rt me q) hS hme h8 ?_ (mu_s _ _ _) ?_ (sp_ff_eq fa rt me hq)
  · rw [hk 2 (by omega) (by omega)]; rfl
  · rw [hk 1 (by omega) (by omega)]; rfl
/-- the reference's trial for so many ticks -/
theorem mr_tries_n {tr Mr ct Pr Zr str r0 rf : Nat → Int32} {m : Nat} (hm : m < 2 ^ 31) (h : itr (mX8_ticksOnce tr Mr ct Pr Zr str) m r0 = some rf) : bq_loop (bq_u2 (bX8_tries_66 tr Mr ct Pr Zr str (nI m) 0)) (0, r0) = some rf := by
  have key : ∀ j rj, j ≤ m → itr (mX8_ticksOnce tr Mr ct Pr Zr str) j r0 = some rj → bq_loop (bq_u2 (bX8_tries_66 tr Mr ct Pr Zr str (nI m) 0)) (nI j, rj) = some rf → bq_loop (bq_u2 (bX8_tries_66 tr Mr ct Pr Zr str (nI m) 0)) (0, r0) = some rf := by
    intro j
    induction j with
    | zero =>
      intro rj _ h1 h2
      cases h1
      exact h2
    | succ j ih =>
      intro rj hj h1 h2
      have h1' : bq_bd (itr (mX8_ticksOnce tr Mr ct Pr Zr str) j r0) (mX8_ticksOnce tr Mr ct Pr Zr str) = some rj := h1
      obtain ⟨ri, g1, g2⟩ := bq_bd_el h1'
      refine ih ri (by omega) g1 (ml_step (s' := (nI (j + 1), rj)) ?_ h2)
      rw [me_u2]
      unfold bX8_tries_66
      rw [if_neg (mq_nle (by omega) hm), me_let, if_pos rfl, g2, me_bd, me_let, nI_1]
  refine key m rf (Nat.le_refl m) h (ml_done ?_)
  rw [me_u2]
  unfold bX8_tries_66
  rw [if_pos (mq_rfl _)]
theorem mr_ticks_n {Mr ct Pr Zr str t1 r0 rf : Nat → Int32} {m : Nat} (hm : m < 2 ^ 31) (h : itr (mX8_ticksOnce t1 Mr ct Pr Zr str) m r0 = some rf) : bq_loop (bq_u2 (bX8_ticks_44 Mr ct Pr Zr str (nI m) t1)) (0, r0) = some rf := by
  have key : ∀ j rj, j ≤ m → itr (mX8_ticksOnce t1 Mr ct Pr Zr str) j r0 = some rj → bq_loop (bq_u2 (bX8_ticks_44 Mr ct Pr Zr str (nI m) t1)) (nI j, rj) = some rf → bq_loop (bq_u2 (bX8_ticks_44 Mr ct Pr Zr str (nI m) t1)) (0, r0) = some rf := by
    intro j
    induction j with
    | zero =>
      intro rj _ h1 h2
      cases h1
      exact h2
    | succ j ih =>
      intro rj hj h1 h2
      have h1' : bq_bd (itr (mX8_ticksOnce t1 Mr ct Pr Zr str) j r0) (mX8_ticksOnce t1 Mr ct Pr Zr str) = some rj := h1
      obtain ⟨ri, g1, g2⟩ := bq_bd_el h1'
      refine ih ri (by omega) g1 (ml_step (s' := (nI (j + 1), rj)) ?_ h2)
      rw [me_u2]
      unfold bX8_ticks_44
      rw [if_neg (mq_nle (by omega) hm), g2, me_bd, me_let, nI_1]
  refine key m rf (Nat.le_refl m) h (ml_done ?_)
  rw [me_u2]
  unfold bX8_ticks_44
  rw [if_pos (mq_rfl _)]
