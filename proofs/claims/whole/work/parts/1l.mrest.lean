theorem me_fill (n : Nat) (hn : n < 2 ^ 31) (t : Nat → Int32) (x : Int32) : mJ7_fill_53178 n t x = some (sp_put t (fun _ => x) 0 n) := by
  have h : bq_loop (bq_u2 (bJ7_fill_53178_5 n x (nI n))) (0, t) = some (sp_put t (fun _ => x) 0 n) := by
    have h0 : ((0 : Int32), t) = (nI 0, sp_put t (fun _ => x) 0 0) := by rw [sp_put_0]; rfl
    rw [h0]
    refine ml_run (fun j => (nI j, sp_put t (fun _ => x) 0 j)) n (fun j hj => ?_) ?_
    · rw [me_u2]
      unfold bJ7_fill_53178_5
      have es := sp_put_s t (fun _ => x) 0 j
      rw [Nat.zero_add] at es
      rw [if_neg (mq_nle hj hn), me_ci _ hj hn, nI_clamp (by omega), me_let, es, me_let, nI_1]
    · rw [me_u2]
      unfold bJ7_fill_53178_5
      rw [if_pos (mq_rfl _)]
  unfold mJ7_fill_53178
  show bq_bd (bq_loop (bq_u2 (bJ7_fill_53178_5 n x (nI n))) (0, t)) _ = _
  rw [h, me_bd]
/-- what stays in a row at rest -/
def sp_stay (r : Nat → Int32) (k : Nat) : Int32 := if k = 1 ∨ k = 2 ∨ (38 ≤ k ∧ k ≤ 43) then r k else 0
theorem mr_rests_loop (r : Nat → Int32) : bq_loop (bq_u2 bX8_rests_2) (0, r) = some (sp_put r (sp_stay r) 0 140) := by
  have h0 : ((0 : Int32), r) = (nI 0, sp_put r (sp_stay r) 0 0) := by rw [sp_put_0]; rfl
  rw [h0]
  refine ml_run (fun j => (nI j, sp_put r (sp_stay r) 0 j)) 140 (fun j hj => ?_) ?_
  · rw [me_u2]
    unfold bX8_rests_2
    have es := sp_put_s r (sp_stay r) 0 j
    have ea := sp_put_at r (sp_stay r) 0 j
    rw [Nat.zero_add] at es ea
    have h140 : ¬ (140 : Int32) ≤ nI j := mq_nle (a := 140) hj (by omega)
    have e1 : (nI j = 1) ↔ j = 1 := nI_eq (b := 1) (by omega) (by omega)
    have e2 : (nI j = 2) ↔ j = 2 := nI_eq (b := 2) (by omega) (by omega)
    have ein : mX8_in (nI j) 38 43 = some (if 38 ≤ j ∧ j ≤ 43 then 1 else 0) := by
      rw [me_in]
      have a1 : ((38 : Int32) ≤ nI j) ↔ 38 ≤ j := nI_leI (a := 38) (by omega) (by omega)
      have a2 : (nI j ≤ (43 : Int32)) ↔ j ≤ 43 := nI_leI (b := 43) (by omega) (by omega)
      by_cases h : 38 ≤ j ∧ j ≤ 43
      · rw [if_pos h, if_pos ⟨a1.mpr h.1, a2.mpr h.2⟩]
      · rw [if_neg h, if_neg (fun h9 => h ⟨a1.mp h9.1, a2.mp h9.2⟩)]
    have ev : (if nI j = 1 then some (1 : Int32) else (if nI j = 2 then some 1 else bq_bd (mX8_in (nI j) 38 43) (fun v13 => if v13 = 0 then some 0 else some 1))) = some (if j = 1 ∨ j = 2 ∨ (38 ≤ j ∧ j ≤ 43) then 1 else 0) := by
      by_cases h1 : j = 1
      · rw [if_pos (e1.mpr h1), if_pos (Or.inl h1)]
      · rw [if_neg (fun h9 => h1 (e1.mp h9))]
        by_cases h2 : j = 2
        · rw [if_pos (e2.mpr h2), if_pos (Or.inr (Or.inl h2))]
        · rw [if_neg (fun h9 => h2 (e2.mp h9)), ein, me_bd]
          by_cases h3 : 38 ≤ j ∧ j ≤ 43
          · rw [if_pos h3, if_neg (by decide), if_pos (Or.inr (Or.inr h3))]
          · rw [if_neg h3, if_pos rfl, if_neg (by omega)]
    rw [if_neg h140, ev, me_bd, me_ci _ hj (by omega), nI_clamp (by omega), ea]
    have ef : (if (if j = 1 ∨ j = 2 ∨ (38 ≤ j ∧ j ≤ 43) then (1 : Int32) else 0) = 0 then some (0 : Int32) else some (r j)) = some (sp_stay r j) := by
      unfold sp_stay
      by_cases h : j = 1 ∨ j = 2 ∨ (38 ≤ j ∧ j ≤ 43)
      · rw [if_pos h, if_pos h, if_neg (by decide)]
      · rw [if_neg h, if_neg h, if_pos rfl]
    rw [ef, me_bd, me_ci _ hj (by omega), me_let, es, me_let, nI_1]
  · rw [me_u2]
    unfold bX8_rests_2
    rw [if_pos (by decide)]
/-- a row at rest -/
def sp_rest (r : Nat → Int32) (a f m : Int32) : Nat → Int32 := upd (upd (upd (upd (upd (sp_put r (sp_stay r) 0 140) 3 a) 7 f) 8 m) 11 (-1)) 12 (-1)
theorem sp_rest_k (r : Nat → Int32) (a f m : Int32) {k : Nat} (h : k < 140) (h3 : k ≠ 3) (h7 : k ≠ 7) (h8 : k ≠ 8) (h11 : k ≠ 11) (h12 : k ≠ 12) : sp_rest r a f m k = sp_stay r k := by
  unfold sp_rest
  rw [mu_n _ _ h12, mu_n _ _ h11, mu_n _ _ h8, mu_n _ _ h7, mu_n _ _ h3]
  have := sp_put_in r (sp_stay r) (a := 0) h
  rw [Nat.zero_add] at this
  exact this
/-- what is active at rest -/
def sp_ac0 (me N G : Nat) : Option Nat := if me = 1 ∧ 0 < N then some (G - 1) else none
theorem sp_put1 (r : Nat → Int32) : sp_put r (sp_stay r) 0 140 1 = r 1 := rfl
theorem mr_rests {N F G me : Nat} {cf : Nat → Nat} {sq cu gos M Z P tr ct Mr Pr Zr r : Nat → Int32} (hS : SQ N F G cf sq cu gos M Z P tr ct Mr Pr Zr) (hm : r 1 = nI me) (hme : me < 3) : mX8_rests tr Mr Pr Zr r = some (sp_rest r (sp_ai (sp_ac0 me N G)) (nI F) (sp_mo P M F)) := by
  obtain ⟨⟨⟨h0, hN⟩, hcp, hZ, hbits, hdis, hF, hF3, hF4⟩, ⟨hq, ht, hqg, htg⟩, ⟨hG0, hG⟩, _⟩ := hS
  have emo : sp_mo Pr Mr F = sp_mo P M F := by unfold sp_mo; rw [(hcp F hF).1, (hcp F hF).2.1]
  have ea : (if tr 4 ≤ 0 then (-1 : Int32) else (if sp_put r (sp_stay r) 0 140 1 = 1 then tr 8 - 1 else -1)) = sp_ai (sp_ac0 me N G) := by
    rw [ht, if_neg (nI_nle h0 (by omega)), sp_put1, hm, htg, mq_pred hG0]
    have e1 : (nI me = 1) ↔ me = 1 := nI_eq (b := 1) (by omega) (by omega)
    unfold sp_ac0
    by_cases h : me = 1
    · rw [if_pos (e1.mpr h), if_pos ⟨h, h0⟩]; rfl
    · rw [if_neg (fun h9 => h (e1.mp h9)), if_neg (fun h9 => h h9.1)]; rfl
  unfold mX8_rests
  rw [mr_rests_loop, me_bd, ea, me_let, me_let, mr_fwm ht hN (by omega : F ≤ N) (fun _ => by rw [(hcp F hF).2.2]; exact hF3) (fun i hi => by rw [(hcp i (by omega)).2.2]; exact hF4 i hi), me_bd, me_let, mu_s, mr_movesOf ht hN hF, me_bd, me_let, me_let, me_let, emo]
  rfl
theorem mr_rests0 {tr Mr Pr Zr r : Nat → Int32} (ht : tr 4 = 0) : mX8_rests tr Mr Pr Zr r = some (sp_rest r (-1) 0 0) := by
  unfold mX8_rests
  rw [mr_rests_loop, me_bd, if_pos (by rw [ht]; decide), me_let, me_let, mr_fwm (N := 0) (F := 0) ht (by omega) (by omega) (fun h => absurd h (by omega)) (fun i hi => absurd hi (by omega)), me_bd, me_let, mu_s]
  have : mX8_movesOf tr Mr Pr (nI 0) = some 0 := by
    unfold mX8_movesOf
    rw [if_pos ht, me_bd]
  rw [this, me_bd, me_let, me_let, me_let]
  rfl
/-- a rig of the class at rest -/
def sp_trest (t : Nat → Int32) : Nat → Int32 := upd (upd (upd (upd t 9 0) 10 0) 11 0) 12 0
def sp_lrest (lg : Nat → Int32) : Nat → Int32 := upd (upd (upd lg 2 0) 3 0) 4 0
def sp_srest (sc : Nat → Int32) (d a b : Int32) : Nat → Int32 := sp_due (upd (upd (upd sc 0 0) 1 0) 2 0) d a b
theorem me_reset_sc {N F G : Nat} {cf : Nat → Nat} {sq cu gos M Z P tr ct Mr Pr Zr : Nat → Int32} (sc : Nat → Int32) (hS : SQ N F G cf sq cu gos M Z P tr ct Mr Pr Zr) : mX4_reset sc sq M P = some (sp_srest sc (nI F) (P F) (M F)) := by
  obtain ⟨⟨⟨h0, hN⟩, hcp, hZ, hbits, hdis, hF, hF3, hF4⟩, ⟨hq, ht, hqg, htg⟩, ⟨hG0, hG⟩, _⟩ := hS
  have e0 := me_msf_some (sq := sq) (M := M) (P := P) (a := 0) (m := F) hq hN (Nat.zero_le F) hF ((hZ F hF).mp hF3) (fun i _ h => Classical.byContradiction (fun h9 => hF4 i h ((hZ i (by omega)).mpr h9)))
  rw [nI_0] at e0
  unfold mX4_reset
  rw [me_let, me_let, me_let, e0, me_bd, me_makeDue hq hN hF, me_bd]
  rfl
theorem me_rest {N F G me : Nat} {cf : Nat → Nat} {sq cu gos M Z P tr ct Mr Pr Zr : Nat → Int32} (t cir lg po sc ti : Nat → Int32) (hS : SQ N F G cf sq cu gos M Z P tr ct Mr Pr Zr) (hm : cir 0 = nI me) (hme : me < 3) : mX3_bringToRest t cir lg po sc sq M P ti = some (sp_trest t, sp_cir (upd cir 1 (sp_ai (sp_ac0 me N G))) 0 0 0, sp_lrest lg, sp_put po (fun _ => 0) 0 6, sp_srest sc (nI F) (P F) (M F), sp_put ti (fun _ => 0) 0 16) := by
  have hS0 := hS
  obtain ⟨⟨⟨h0, hN⟩, hcp, hZ, hbits, hdis, hF, hF3, hF4⟩, ⟨hq, ht, hqg, htg⟩, ⟨hG0, hG⟩, _⟩ := hS
  have ea : (if cir 0 = 1 then sq 5 - 1 else (-1 : Int32)) = sp_ai (sp_ac0 me N G) := by
    rw [hm, hqg, mq_pred hG0]
    have e1 : (nI me = 1) ↔ me = 1 := nI_eq (b := 1) (by omega) (by omega)
    unfold sp_ac0
    by_cases h : me = 1
    · rw [if_pos (e1.mpr h), if_pos ⟨h, h0⟩]; rfl
    · rw [if_neg (fun h9 => h (e1.mp h9)), if_neg (fun h9 => h h9.1)]; rfl
  have hr : mX0_reset cir sq = some (sp_cir (upd cir 1 (sp_ai (sp_ac0 me N G))) 0 0 0) := by
    unfold mX0_reset
    rw [ea, me_let, me_let, me_allOff, me_bd]
  have hl : mX1_reset lg = some (sp_lrest lg) := rfl
  unfold mX3_bringToRest
  rw [me_fill 6 (by omega), me_bd, me_fill 16 (by omega), me_bd, me_let, me_let, me_let, me_let, hr, me_bd, hl, me_bd, me_reset_sc sc hS0, me_bd]
  rfl
theorem me_rest0 {sq M P : Nat → Int32} (t cir lg po sc ti : Nat → Int32) (hq : sq 0 = 0) (hg : sq 5 = 0) : mX3_bringToRest t cir lg po sc sq M P ti = some (sp_trest t, sp_cir (upd cir 1 (-1)) 0 0 0, sp_lrest lg, sp_put po (fun _ => 0) 0 6, sp_srest sc 0 0 0, sp_put ti (fun _ => 0) 0 16) := by
  have hr : mX0_reset cir sq = some (sp_cir (upd cir 1 (-1)) 0 0 0) := by
    unfold mX0_reset
    have ea : (if cir 0 = 1 then sq 5 - 1 else (-1 : Int32)) = -1 := by
      rw [hg]
      by_cases h : cir 0 = 1
      · rw [if_pos h]; decide
      · rw [if_neg h]
    rw [ea, me_let, me_let, me_allOff, me_bd]
  have hl : mX1_reset lg = some (sp_lrest lg) := rfl
  have hs : mX4_reset sc sq M P = some (sp_srest sc 0 0 0) := by
    have e0 := me_msf_none (sq := sq) (M := M) (P := P) (N := 0) (a := 0) hq (by omega) (by omega) (fun i _ h => absurd h (by omega))
    rw [nI_0] at e0
    unfold mX4_reset
    rw [me_let, me_let, me_let, e0, me_bd]
    have := me_makeDue0 (t := upd (upd (upd sc 0 0) 1 0) 2 0) (M := M) (P := P) (N := 0) hq
    rw [nI_0] at this
    rw [this, me_bd]
    rfl
  unfold mX3_bringToRest
  rw [me_fill 6 (by omega), me_bd, me_fill 16 (by omega), me_bd, me_let, me_let, me_let, me_let, hr, me_bd, hl, me_bd, hs, me_bd]
  rfl
theorem ob_rest {N me : Nat} {start : Bool} {ac : Option Nat} (t cir lg mv tm po sc fa ti r : Nat → Int32) (d a b f m : Int32) (hN : N ≤ 16) (h8 : t 8 = if start then 1 else 0) (h2 : r 2 = if start then 1 else 0) (hc0 : cir 0 = nI me) (h1 : r 1 = nI me) (hf : ∀ c, c < 6 → ∀ k, k < 5 → bt (r (38 + c)) k = bt (fa k) c) : OB N me start ac 0 (sp_trest t) (sp_cir (upd cir 1 (sp_ai ac)) 0 0 0) (sp_lrest lg) mv tm (sp_put po (fun _ => 0) 0 6) (sp_srest sc d a b) fa (sp_put ti (fun _ => 0) 0 16) (sp_rest r (sp_ai ac) f m) := by
  have hk : ∀ k, k < 140 → k ≠ 3 → k ≠ 7 → k ≠ 8 → k ≠ 11 → k ≠ 12 → ¬ (k = 1 ∨ k = 2 ∨ (38 ≤ k ∧ k ≤ 43)) → sp_rest r (sp_ai ac) f m k = 0 := fun k h1 h2 h3 h4 h5 h6 h7 => by
    rw [sp_rest_k _ _ _ _ h1 h2 h3 h4 h5 h6]
    unfold sp_stay
    rw [if_neg h7]
  have hs : ∀ k, (k = 1 ∨ k = 2 ∨ (38 ≤ k ∧ k ≤ 43)) → sp_rest r (sp_ai ac) f m k = r k := fun k h7 => by
    rw [sp_rest_k _ _ _ _ (by omega) (by omega) (by omega) (by omega) (by omega) (by omega)]
    unfold sp_stay
    rw [if_pos h7]
  refine ⟨⟨h8, ?_⟩, ⟨?_, ?_⟩, ⟨hc0, ?_, rfl, rfl⟩, fun c hc => ⟨?_, ?_, ?_, fun k hk5 => ?_⟩, fun i hi => ⟨?_, 0, by omega, ?_⟩, ⟨⟨rfl, ?_, rfl, rfl⟩, fun k _ h => by omega⟩, ?_, ?_, ?_⟩
  · rw [hs 2 (by omega)]; exact h2
  · rw [hk 0 (by omega) (by omega) (by omega) (by omega) (by omega) (by omega) (by omega)]; rfl
  · rw [hk 10 (by omega) (by omega) (by omega) (by omega) (by omega) (by omega) (by omega)]
    show (0 : Int32) = 0 - 0
    decide
  · rw [hs 1 (by omega)]; exact h1
  · rw [hk _ (by omega) (by omega) (by omega) (by omega) (by omega) (by omega) (by omega)]
    have := sp_put_in po (fun _ => 0) (a := 0) hc
    rw [Nat.zero_add] at this
    rw [this]
  · rw [hk _ (by omega) (by omega) (by omega) (by omega) (by omega) (by omega) (by omega)]
    show (0 : Int32) = if bt 0 c = true then 1 else 0
    rw [b_0]
    rfl
  · rw [hk _ (by omega) (by omega) (by omega) (by omega) (by omega) (by omega) (by omega)]
    show (0 : Int32) = sp_cmd (bt 0 c) (bt 0 c)
    rw [b_0]
    rfl
  · rw [hs _ (by omega)]; exact hf c hc k hk5
  · rw [hk _ (by omega) (by omega) (by omega) (by omega) (by omega) (by omega) (by omega)]
    have := sp_put_in ti (fun _ => 0) (a := 0) (show i < 16 by omega)
    rw [Nat.zero_add] at this
    rw [this]
  · have := sp_put_in ti (fun _ => 0) (a := 0) (show i < 16 by omega)
    rw [Nat.zero_add] at this
    rw [this]
    rfl
  · rw [hk 4 (by omega) (by omega) (by omega) (by omega) (by omega) (by omega) (by omega)]; rfl
  · rw [hk 5 (by omega) (by omega) (by omega) (by omega) (by omega) (by omega) (by omega)]; rfl
  · rw [hk 9 (by omega) (by omega) (by omega) (by omega) (by omega) (by omega) (by omega)]; rfl
  · intro c hc hb
    have : bt (0 : Int32) c = true := hb
    rw [b_0] at this
    cases this
theorem rr_rest {N F G me : Nat} {cf : Nat → Nat} {start : Bool} {sq cu gos M Z P tr ct Mr Pr Zr : Nat → Int32} (t cir lg mv tm po sc fa ti r : Nat → Int32) (hS : SQ N F G cf sq cu gos M Z P tr ct Mr Pr Zr) (hme : me < 3) (h8 : t 8 = if start then 1 else 0) (h2 : r 2 = if start then 1 else 0) (hc0 : cir 0 = nI me) (h1 : r 1 = nI me) (hf : ∀ c, c < 6 → ∀ k, k < 5 → bt (r (38 + c)) k = bt (fa k) c) : RR N F G me start (sp_ac0 me N G) 0 Z (sp_trest t) (sp_cir (upd cir 1 (sp_ai (sp_ac0 me N G))) 0 0 0) (sp_lrest lg) mv tm (sp_put po (fun _ => 0) 0 6) (sp_srest sc (nI F) (P F) (M F)) fa (sp_put ti (fun _ => 0) 0 16) (sp_rest r (sp_ai (sp_ac0 me N G)) (nI F) (sp_mo P M F)) := by
  obtain ⟨⟨⟨h0, hN⟩, hcp, hZ, hbits, hdis, hF, hF3, hF4⟩, ⟨hq, ht, hqg, htg⟩, ⟨hG0, hG⟩, _⟩ := hS
  have hO := ob_rest (ac := sp_ac0 me N G) t cir lg mv tm po sc fa ti r (nI F) (P F) (M F) (nI F) (sp_mo P M F) hN h8 h2 hc0 h1 hf
  have r6 : sp_rest r (sp_ai (sp_ac0 me N G)) (nI F) (sp_mo P M F) 6 = 0 := by
    rw [sp_rest_k _ _ _ _ (by omega) (by omega) (by omega) (by omega) (by omega) (by omega)]
    rfl
  refine ⟨hO, ?_, hO.2.2.2.2.2.1.1, hO.2.2.2.2.2.1.2, ⟨hO.2.2.2.2.2.2.1, hO.2.2.2.2.2.2.2.1, ?_, Or.inl r6⟩, ⟨F, rfl, rfl, hF, Nat.le_refl F, hF3⟩, ?_, ?_, ?_⟩
  · unfold AV sp_ac0
    rcases (by omega : me = 0 ∨ me = 1 ∨ me = 2) with h | h | h
    · exact Or.inl h
    · rw [if_pos ⟨h, h0⟩]
      exact Or.inr (Or.inl ⟨h, G - 1, rfl, by omega⟩)
    · rw [if_neg (by omega)]
      exact Or.inr (Or.inr ⟨h, fun a ha => by cases ha⟩)
  · rw [r6]; rfl
  · exact sp_mo_bt (fun c h1 h2 => hbits F hF c h1 h2)
  · exact fun i hi h => hbits F hF i hi h
  · exact fun i hi h => hdis F hF i hi h
