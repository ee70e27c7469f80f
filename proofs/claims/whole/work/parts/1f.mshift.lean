def sp_cmd (a b : Bool) : Int32 := (if a then 1 else 0) + (if b then 2 else 0)
theorem sp_cmd_1 : ∀ a b : Bool, (sp_cmd a b = 1) ↔ (a = true ∧ b = false) := by decide
theorem sp_cmd_2 : ∀ a b : Bool, (sp_cmd a b = 2) ↔ (a = false ∧ b = true) := by decide
theorem sp_cmd_s : ∀ on p m a b : Bool, ¬ (p = true ∧ m = true) → sp_cmd a b ||| (if (if on then ((if p then (1 : Int32) else 0) - (if m then 1 else 0)) else 0) ≤ 0 then (if 0 ≤ (if on then ((if p then (1 : Int32) else 0) - (if m then 1 else 0)) else 0) then (0 : Int32) else 2) else 1) = sp_cmd (a || (on && p)) (b || (on && m)) := by decide
theorem sp_or_s (on : Nat → Bool) (P : Nat → Int32) (c n : Nat) : bt (sp_or on P (n + 1)) c = (bt (sp_or on P n) c || (on n && bt (P n) c)) := by
  rw [sp_or]
  cases on n
  · simp
  · simp [b_or]
theorem mr_command {t Mr Pr : Nat → Int32} {N c : Nat} (ht : t 4 = nI N) (hN : N ≤ 16) (hc : c < 6) (hd : ∀ i, i < N → ∀ c, c < 6 → ¬ (bt (Pr i) c = true ∧ bt (Mr i) c = true)) {on : Nat → Bool} {x : Int32} (hx : ∀ i, i < N → bt x i = on i) :
    bq_loop (bq_u2 (bX8_ticksOnce_24 t Mr Pr x (nI c))) (0, 0) = some (sp_cmd (bt (sp_or on Pr N) c) (bt (sp_or on Mr N) c)) := by
  have h0 : ((0 : Int32), (0 : Int32)) = (nI 0, sp_cmd (bt (sp_or on Pr 0) c) (bt (sp_or on Mr 0) c)) := by rw [sp_or, sp_or, b_0]; rfl
  rw [h0]
  refine ml_run (fun j => (nI j, sp_cmd (bt (sp_or on Pr j) c) (bt (sp_or on Mr j) c))) N (fun j hj => ?_) ?_
  · rw [me_u2]
    unfold bX8_ticksOnce_24
    rw [ht, if_neg (mq_nle hj (by omega)), mb_shr _ (by omega), hx j hj, me_dirOf _ _ (by omega) (by omega), me_bd]
    have e1 : (if (if on j = true then (1 : Int32) else 0) = 1 then some ((if bt (Pr j) c = true then (1 : Int32) else 0) - (if bt (Mr j) c = true then 1 else 0)) else some 0) = some (if on j = true then ((if bt (Pr j) c = true then (1 : Int32) else 0) - (if bt (Mr j) c = true then 1 else 0)) else 0) := by
      cases on j <;> rfl
    rw [e1, me_bd, me_let, me_let, me_let, nI_1, sp_or_s, sp_or_s, sp_cmd_s _ _ _ _ _ (hd j hj c hc)]
  · rw [me_u2]
    unfold bX8_ticksOnce_24
    rw [ht, if_pos (mq_rfl _)]
theorem er_frame {N F n : Nat} {Z lg mv tm sc r r' : Nat → Int32} (h : ER N F n Z lg mv tm sc r) (hf : ∀ k, ((4 ≤ k ∧ k < 10) ∨ 60 ≤ k) → r' k = r k) : ER N F n Z lg mv tm sc r' := by
  obtain ⟨⟨l2, r4, l3, l4⟩, hlog, ⟨s0, s1, s2, r6⟩, ⟨d, s3, r7, hd⟩, h8, h8b, h8d⟩ := h
  refine ⟨⟨l2, ?_, l3, l4⟩, ?_, ⟨?_, ?_, ?_, ?_⟩, ⟨d, s3, ?_, hd⟩, ?_, h8b, h8d⟩
  · rw [hf 4 (by omega)]; exact r4
  · intro k h1 h2
    rw [hf _ (by omega), hf _ (by omega)]
    exact hlog k h1 h2
  · rw [hf 5 (by omega)]; exact s0
  · rw [hf 9 (by omega)]; exact s1
  · rw [hf 6 (by omega)]; exact s2
  · rw [hf 6 (by omega)]; exact r6
  · rw [hf 7 (by omega)]; exact r7
  · rw [hf 8 (by omega)]; exact h8
/-- which valves go over: to +, to - -/
def sp_tp (pl mi out : Int32) : Int32 := (pl &&& (mi ^^^ (-1))) &&& (out ^^^ (-1))
def sp_tm (pl mi out : Int32) : Int32 := (mi &&& (pl ^^^ (-1))) &&& out
def sp_out (pl mi out : Int32) : Int32 := (out ||| sp_tp pl mi out) &&& (sp_tm pl mi out ^^^ (-1))
theorem sp_tp_bt (pl mi out : Int32) {i : Nat} (hi : i < 32) : bt (sp_tp pl mi out) i = (bt pl i && !bt mi i && !bt out i) := by
  unfold sp_tp
  rw [b_and, b_and, mb_not _ hi, mb_not _ hi]
theorem sp_tm_bt (pl mi out : Int32) {i : Nat} (hi : i < 32) : bt (sp_tm pl mi out) i = (bt mi i && !bt pl i && bt out i) := by
  unfold sp_tm
  rw [b_and, b_and, mb_not _ hi]
theorem sp_out_bt (pl mi out : Int32) {i : Nat} (hi : i < 32) : bt (sp_out pl mi out) i = ((bt out i || (bt pl i && !bt mi i && !bt out i)) && !(bt mi i && !bt pl i && bt out i)) := by
  unfold sp_out
  rw [b_and, b_or, mb_not _ hi, sp_tp_bt _ _ _ hi, sp_tm_bt _ _ _ hi]
def sp_sh (pl mi out : Int32) : Int32 := sp_tp pl mi out ||| sp_tm pl mi out
theorem sp_sh_bt (pl mi out : Int32) {i : Nat} (hi : i < 32) : bt (sp_sh pl mi out) i = ((bt pl i && !bt mi i && !bt out i) || (bt mi i && !bt pl i && bt out i)) := by
  unfold sp_sh
  rw [b_or, sp_tp_bt _ _ _ hi, sp_tm_bt _ _ _ hi]
/-- the cycles of a tick so far -/
def CT (F J x j : Nat) (r0 r : Nat → Int32) : Prop := ((r 9 = r0 9 ∧ r 11 = r0 11 ∧ r 12 = r0 12) ∨ (r 9 = r0 9 + 1 ∧ r 11 = (if r0 9 + 1 = 1 then r0 0 else r0 11) ∧ r 12 = (if r0 9 + 1 = 2 then r0 0 else r0 12) ∧ WC F J x j r ∧ r0 6 = 0)) ∧ (r0 6 = 1 → r 6 = 1)
def VI (N F J x n j : Nat) (pl mi out : Int32) (Z r0 lg mv tm sc r : Nat → Int32) : Prop := (∃ m, m ≤ n + j ∧ ER N F m Z lg mv tm sc r) ∧ (∀ k, (k < 4 ∨ k = 10 ∨ (13 ≤ k ∧ k < 26) ∨ (38 ≤ k ∧ k < 60)) → r k = r0 k) ∧ (∀ c, c < 6 → r (26 + c) = if (if c < j then bt (sp_out pl mi out) c else bt out c) = true then 1 else 0) ∧ (∀ c, c < j → r (32 + c) = sp_cmd (bt pl c) (bt mi c)) ∧ CT F J x j r0 r
theorem wc_mono {F J x j : Nat} {r : Nat → Int32} (h : WC F J x j r) : WC F J x (j + 1) r := by
  rcases h with h | ⟨h1, h2⟩
  · exact Or.inl h
  · exact Or.inr ⟨by omega, h2⟩
theorem wc_frame {F J x j : Nat} {r r' : Nat → Int32} (h : WC F J x j r) (h7 : r' 7 = r 7) (h8 : r' 8 = r 8) : WC F J x j r' := by
  unfold WC
  rw [h7, h8]
  exact h
/-- the reference's turn for a cylinder without an event -/
theorem mr_turn_n {t Mr Pr Zr r : Nat → Int32} {N j : Nat} {on : Nat → Bool} {x : Int32} (ht : t 4 = nI N) (hN : N ≤ 16) (hj : j < 6) (hd : ∀ i, i < N → ∀ c, c < 6 → ¬ (bt (Pr i) c = true ∧ bt (Mr i) c = true)) (hx : ∀ i, i < N → bt x i = on i) (v : Int32) (w : Bool) (hr : r (26 + j) = if w then 1 else 0) (hb : ((bt (sp_or on Pr N) j && !bt (sp_or on Mr N) j && !w) || (bt (sp_or on Mr N) j && !bt (sp_or on Pr N) j && w)) = false) :
    bX8_ticksOnce_11 t Mr Pr Zr x (nI j) v r = some (.inl (nI (j + 1), v, upd r (32 + j) (sp_cmd (bt (sp_or on Pr N) j) (bt (sp_or on Mr N) j)))) := by
  have e26 : (26 : Int32) + nI j = nI (26 + j) := nI_add 26 j
  have e32 : (32 : Int32) + nI j = nI (32 + j) := nI_add 32 j
  have c26 : (nI (26 + j)).toNatClampNeg = 26 + j := nI_clamp (by omega)
  have c32 : (nI (32 + j)).toNatClampNeg = 32 + j := nI_clamp (by omega)
  unfold bX8_ticksOnce_11
  rw [if_neg (mq_6 hj), mr_command ht hN hj hd hx, me_bd, e32, me_ci _ (by omega) (by omega), c32, me_let, e26, c26, mu_n _ _ (by omega), hr]
  generalize bt (sp_or on Pr N) j = A at hb ⊢
  generalize bt (sp_or on Mr N) j = B at hb ⊢
  have key : (if sp_cmd A B = 1 then some (1 : Int32) else (if sp_cmd A B = 2 then some 0 else bq_ci (nI (26 + j)) 140 (some (if w = true then (1 : Int32) else 0)))) = some (if w = true then (1 : Int32) else 0) := by
    rw [me_ci _ (by omega) (by omega)]
    clear hr
    revert hb
    revert A B w
    decide
  rw [key, me_bd, me_ci _ (by omega) (by omega), if_pos rfl, me_b2, me_let, nI_1]
/-- the reference's turn for a cylinder with an event -/
theorem mr_turn_e {t Mr Pr Zr r r' : Nat → Int32} {N j : Nat} {on : Nat → Bool} {x : Int32} (ht : t 4 = nI N) (hN : N ≤ 16) (hj : j < 6) (hd : ∀ i, i < N → ∀ c, c < 6 → ¬ (bt (Pr i) c = true ∧ bt (Mr i) c = true)) (hx : ∀ i, i < N → bt x i = on i) (v : Int32) (w : Bool) (hr : r (26 + j) = if w then 1 else 0) (hb : ((bt (sp_or on Pr N) j && !bt (sp_or on Mr N) j && !w) || (bt (sp_or on Mr N) j && !bt (sp_or on Pr N) j && w)) = true) (hn : mX8_notesEvent t Mr Pr Zr (upd (upd r (32 + j) (sp_cmd (bt (sp_or on Pr N) j) (bt (sp_or on Mr N) j))) (26 + j) (if (!w) = true then 1 else 0)) (nI j) (if (!w) = true then 1 else 0) = some r') :
    bX8_ticksOnce_11 t Mr Pr Zr x (nI j) v r = some (.inl (nI (j + 1), 1, r')) := by
  have e26 : (26 : Int32) + nI j = nI (26 + j) := nI_add 26 j
  have e32 : (32 : Int32) + nI j = nI (32 + j) := nI_add 32 j
  have c26 : (nI (26 + j)).toNatClampNeg = 26 + j := nI_clamp (by omega)
  have c32 : (nI (32 + j)).toNatClampNeg = 32 + j := nI_clamp (by omega)
  unfold bX8_ticksOnce_11
  rw [if_neg (mq_6 hj), mr_command ht hN hj hd hx, me_bd, e32, me_ci _ (by omega) (by omega), c32, me_let, e26, c26, mu_n _ _ (by omega : 26 + j ≠ 32 + j), hr]
  generalize bt (sp_or on Pr N) j = A at hb hn ⊢
  generalize bt (sp_or on Mr N) j = B at hb hn ⊢
  have key : (if sp_cmd A B = 1 then some (1 : Int32) else (if sp_cmd A B = 2 then some 0 else bq_ci (nI (26 + j)) 140 (some (if w = true then (1 : Int32) else 0)))) = some (if (!w) = true then (1 : Int32) else 0) := by
    rw [me_ci _ (by omega) (by omega)]
    clear hn hr
    revert hb
    revert A B w
    decide
  have kn : ¬ (if (!w) = true then (1 : Int32) else 0) = (if w = true then 1 else 0) := by
    clear hn hr hb key
    revert w
    decide
  have kv : (if (if (!w) = true then (1 : Int32) else 0) = 1 then (1 : Int32) else 0) = (if (!w) = true then 1 else 0) := by
    clear hn hr hb key kn
    revert w
    decide
  rw [key, me_bd, me_ci _ (by omega) (by omega), if_neg kn, me_ci _ (by omega) (by omega), me_let, kv, me_let, hn, me_bd, me_b2, me_let, nI_1]
