abbrev S8 := (Nat → Int32) × (Nat → Int32) × (Nat → Int32) × (Nat → Int32) × (Nat → Int32) × (Nat → Int32) × (Nat → Int32) × (Nat → Int32)
noncomputable def mk8 (fa sq cu gos M Z P st : Nat → Int32) (s : S8) : Option S8 := mX3_makeTick s.1 s.2.1 fa s.2.2.1 s.2.2.2.1 s.2.2.2.2.1 s.2.2.2.2.2.1 s.2.2.2.2.2.2.1 sq cu gos M Z P st s.2.2.2.2.2.2.2
def RS (N F G me : Nat) (start : Bool) (ac : Option Nat) (n : Nat) (Z fa : Nat → Int32) (s : S8) (r : Nat → Int32) : Prop := RR N F G me start ac n Z s.1 s.2.1 s.2.2.1 s.2.2.2.1 s.2.2.2.2.1 s.2.2.2.2.2.1 s.2.2.2.2.2.2.1 fa s.2.2.2.2.2.2.2 r
/-- the steps on, by a rig's state -/
def onS (N G me : Nat) (cf : Nat → Nat) (start : Bool) (ac : Option Nat) (fa gos M Z P st : Nat → Int32) (s : S8) : Nat → Bool := sp_on me N G gos cf (tk_cm fa s.2.2.2.2.2.1 st P M Z s.2.2.2.2.2.2.2) start ac
def acS (N G me : Nat) (cf : Nat → Nat) (start : Bool) (ac : Option Nat) (fa M Z P st : Nat → Int32) (s : S8) : Option Nat := sp_nac me N G cf (tk_cm fa s.2.2.2.2.2.1 st P M Z s.2.2.2.2.2.2.2) start ac
def shS (N : Nat) (M P : Nat → Int32) (on : Nat → Bool) (s : S8) : Int32 := sp_sh (sp_or on P N) (sp_or on M N) (s.1 9)
def ouS (N : Nat) (M P : Nat → Int32) (on : Nat → Bool) (s : S8) : Int32 := sp_out (sp_or on P N) (sp_or on M N) (s.1 9)
/-- a state that the next tick leaves -/
def ID (N G me : Nat) (cf : Nat → Nat) (start : Bool) (ac : Option Nat) (fa gos M Z P st : Nat → Int32) (s : S8) : Prop := shS N M P (onS N G me cf start ac fa gos M Z P st s) s = 0 ∧ tk_mv fa s.2.2.2.2.2.1 st (s.1 9) = false ∧ tk_ct N s.2.2.2.2.2.2.2 (tk_x (onS N G me cf start ac fa gos M Z P st s) Z N) = false ∧ acS N G me cf start ac fa M Z P st s = ac ∧ tk_c s.2.1 P M Z (onS N G me cf start ac fa gos M Z P st s) N ac ac = s.2.1 ∧ s.1 12 = 1
theorem sp_put_id (f g : Nat → Int32) (n : Nat) (h : ∀ i, i < n → g i = f i) : sp_put f g 0 n = f := by
  funext k
  unfold sp_put
  by_cases hk : 0 ≤ k ∧ k < 0 + n
  · rw [if_pos hk, Nat.sub_zero, h k (by omega)]
  · rw [if_neg hk]
theorem sp_any_f {p : Nat → Bool} {n : Nat} (h : sp_any p n = false) : ∀ i, i < n → p i = false := by
  intro i hi
  cases hp : p i
  · rfl
  · rw [(sp_any_iff p n).mpr ⟨i, hi, hp⟩] at h
    cases h
theorem tk_po_id {fa po st : Nat → Int32} {out : Int32} (h : tk_mv fa po st out = false) : tk_po fa po st out = po := by
  unfold tk_po
  apply sp_put_id
  intro c hc
  have := sp_any_f h c hc
  rw [sp_by_0 this, mq_add0]
theorem tk_ti_id {N : Nat} {ti : Nat → Int32} {x : Int32} (h : tk_ct N ti x = false) : tk_ti N ti x = ti := by
  unfold tk_ti
  apply sp_put_id
  intro i hi
  have := sp_any_f h i hi
  exact Classical.byContradiction (fun h9 => by rw [decide_eq_true h9] at this; cases this)
theorem sp_out_id {pl mi out : Int32} (h : sp_sh pl mi out = 0) : sp_out pl mi out = out := by
  refine b_ext (fun i hi => ?_)
  have h1 : bt (sp_sh pl mi out) i = false := by rw [h, b_0]
  rw [sp_sh_bt _ _ _ hi] at h1
  rw [sp_out_bt _ _ _ hi]
  revert h1
  generalize bt pl i = a
  generalize bt mi i = b
  generalize bt out i = w
  revert a b w
  decide
theorem sp_ai_inj {a b : Option Nat} (ha : ∀ x, a = some x → x < 16) (hb : ∀ x, b = some x → x < 16) (h : sp_ai a = sp_ai b) : a = b := by
  have hm : ∀ x, x < 16 → ¬ (-1 : Int32) = nI x := by decide +kernel
  cases a with
  | none =>
    cases b with
    | none => rfl
    | some y => exact absurd h (hm y (hb y rfl))
  | some x =>
    cases b with
    | none => exact absurd h.symm (hm x (ha x rfl))
    | some y =>
      have : x = y := (nI_eq (by have := ha x rfl; omega) (by have := hb y rfl; omega)).mp h
      rw [this]
theorem av_16 {me N G : Nat} {ac ac' : Option Nat} (hN : N ≤ 16) (hG : G ≤ 16) (h : AV me N G ac) (h0 : ¬ me = 0) : ∀ x, ac = some x → x < 16 := by
  intro x hx
  rcases h with h | ⟨_, a, h1, h2⟩ | ⟨_, h1⟩
  · exact absurd h h0
  · rw [hx] at h1; cases h1; omega
  · have := h1 x hx; omega
theorem tk_c_idem (cir P M Z : Nat → Int32) (on : Nat → Bool) (N : Nat) (ac : Option Nat) : tk_c (tk_c cir P M Z on N ac ac) P M Z on N ac ac = tk_c cir P M Z on N ac ac := by
  funext k
  unfold tk_c sp_onc sp_cir upd
  dsimp only
  by_cases h5 : k = 5
  · rw [if_pos h5, if_pos h5]
  · rw [if_neg h5, if_neg h5]
    by_cases h2 : k = 2
    · rw [if_pos h2, if_pos h2]
    · rw [if_neg h2, if_neg h2]
      by_cases h3 : k = 3
      · rw [if_pos h3, if_pos h3]
      · rw [if_neg h3, if_neg h3]
        by_cases h4 : k = 4
        · rw [if_pos h4, if_pos h4]
        · rw [if_neg h4, if_neg h4]
          by_cases h1 : k = 1
          · rw [if_pos h1, if_pos h1]
          · rw [if_neg h1]
/-- the next state of a tick, but for log and score -/
def NX (N : Nat) (fa M Z P st : Nat → Int32) (on : Nat → Bool) (ac ac' : Option Nat) (s s' : S8) : Prop := s'.1 = tk_t s.1 (ouS N M P on s) (decide (¬ shS N M P on s = 0)) (tk_mv fa s.2.2.2.2.2.1 st (ouS N M P on s)) (tk_ct N s.2.2.2.2.2.2.2 (tk_x on Z N)) (decide (¬ sp_ai ac' = sp_ai ac)) ∧ s'.2.1 = tk_c s.2.1 P M Z on N ac ac' ∧ s'.2.2.2.2.2.1 = tk_po fa s.2.2.2.2.2.1 st (ouS N M P on s) ∧ s'.2.2.2.2.2.2.2 = tk_ti N s.2.2.2.2.2.2.2 (tk_x on Z N) ∧ (shS N M P on s = 0 → s'.2.2.1 = s.2.2.1 ∧ s'.2.2.2.1 = s.2.2.2.1 ∧ s'.2.2.2.2.1 = s.2.2.2.2.1 ∧ s'.2.2.2.2.2.2.1 = s.2.2.2.2.2.2.1)
/-- what a tick does to the reference's cycles -/
def CY (r r' : Nat → Int32) : Prop := ((r' 9 = r 9 ∧ r' 11 = r 11 ∧ r' 12 = r 12) ∨ (r' 9 = r 9 + 1 ∧ r' 11 = (if r 9 + 1 = 1 then r 0 else r 11) ∧ r' 12 = (if r 9 + 1 = 2 then r 0 else r 12) ∧ r 6 = 0)) ∧ (r 6 = 1 → r' 6 = 1)
theorem sim1 {N F G me n : Nat} {cf : Nat → Nat} {start : Bool} {ac : Option Nat} {sq cu gos M Z P tr ct Mr Pr Zr fa st str r : Nat → Int32} {s : S8} (hS : SQ N F G cf sq cu gos M Z P tr ct Mr Pr Zr) (hst : ∀ c, c < 6 → st c = str c) (hR : RS N F G me start ac n Z fa s r) (hn : n + 7 < 2 ^ 31) :
    ∃ s' r' n', mk8 fa sq cu gos M Z P st s = some s' ∧ mX8_ticksOnce tr Mr ct Pr Zr str r = some r' ∧ n' ≤ n + 6 ∧ RS N F G me start (acS N G me cf start ac fa M Z P st s) n' Z fa s' r' ∧ CY r r' ∧ NX N fa M Z P st (onS N G me cf start ac fa gos M Z P st s) ac (acS N G me cf start ac fa M Z P st s) s s' := by
  obtain ⟨t, cir, lg, mv, tm, po, sc, ti⟩ := s
  obtain ⟨lg', mv', tm', sc', r', n', h1, h2, h3, h4, h5, h6, h7⟩ := tick_sim (on := onS N G me cf start ac fa gos M Z P st (t, cir, lg, mv, tm, po, sc, ti)) (ac' := acS N G me cf start ac fa M Z P st (t, cir, lg, mv, tm, po, sc, ti)) hS hst hR hn rfl rfl
  refine ⟨_, r', n', h1, h2, h3, h4, ⟨h5, h6⟩, rfl, rfl, rfl, rfl, h7⟩
theorem id_of_still {N F G me n : Nat} {cf : Nat → Nat} {start : Bool} {ac : Option Nat} {sq cu gos M Z P tr ct Mr Pr Zr fa st r : Nat → Int32} {s s' : S8} (hS : SQ N F G cf sq cu gos M Z P tr ct Mr Pr Zr) (hR : RS N F G me start ac n Z fa s r) (hx : NX N fa M Z P st (onS N G me cf start ac fa gos M Z P st s) ac (acS N G me cf start ac fa M Z P st s) s s') (hst : ¬ s'.1 12 = 0) : acS N G me cf start ac fa M Z P st s = ac ∧ ID N G me cf start ac fa gos M Z P st s' := by
  obtain ⟨⟨⟨h0, hN⟩, _⟩, _, ⟨hG0, hG⟩, hcu, _⟩ := hS
  obtain ⟨x1, x2, x3, x4, x5⟩ := hx
  have hA : AV me N G ac := hR.2.1
  have hA' : AV me N G (acS N G me cf start ac fa M Z P st s) := av_nac h0 hA
  rw [x1, tk_t12] at hst
  generalize hon : onS N G me cf start ac fa gos M Z P st s = on at *
  generalize hac' : acS N G me cf start ac fa M Z P st s = ac' at *
  have hb : (!decide (¬ shS N M P on s = 0) && !tk_mv fa s.2.2.2.2.2.1 st (ouS N M P on s) && !tk_ct N s.2.2.2.2.2.2.2 (tk_x on Z N) && !decide (¬ sp_ai ac' = sp_ai ac)) = true := by
    apply Classical.byContradiction
    intro h
    exact hst (if_neg h)
  simp only [Bool.and_eq_true, Bool.not_eq_true', decide_eq_false_iff_not, Classical.not_not] at hb
  obtain ⟨⟨⟨b1, b2⟩, b3⟩, b4⟩ := hb
  have hout : ouS N M P on s = s.1 9 := sp_out_id b1
  rw [hout] at b2 x1 x3
  have hacac : ac' = ac := by
    by_cases h0 : me = 0
    · rw [← hac']
      unfold acS sp_nac
      rw [if_pos h0]
    · exact sp_ai_inj (av_16 (ac' := none) hN hG hA' h0) (av_16 (ac' := none) hN hG hA h0) b4
  have hpo : s'.2.2.2.2.2.1 = s.2.2.2.2.2.1 := by rw [x3, tk_po_id b2]
  have hti : s'.2.2.2.2.2.2.2 = s.2.2.2.2.2.2.2 := by rw [x4, tk_ti_id b3]
  have h9 : s'.1 9 = s.1 9 := by rw [x1, tk_t9]
  have hon' : onS N G me cf start ac fa gos M Z P st s' = on := by rw [← hon]; unfold onS; rw [hpo, hti]
  have hacs' : acS N G me cf start ac fa M Z P st s' = ac' := by rw [← hac']; unfold acS; rw [hpo, hti]
  refine ⟨hacac, ?_, ?_, ?_, ?_, ?_, ?_⟩
  · rw [hon']; unfold shS; rw [h9]; exact b1
  · rw [hpo, h9]; exact b2
  · rw [hon', hti]; exact b3
  · rw [hacs', hacac]
  · rw [hon', x2, hacac, tk_c_idem]
  · rw [x1, tk_t12]
    apply if_pos
    rw [b2, b3, hacac, decide_eq_false (fun h => h b1), decide_eq_false (fun h => h rfl)]
    rfl
theorem id_tick {N F G me n : Nat} {cf : Nat → Nat} {start : Bool} {ac : Option Nat} {sq cu gos M Z P tr ct Mr Pr Zr fa st str r : Nat → Int32} {s : S8} (hS : SQ N F G cf sq cu gos M Z P tr ct Mr Pr Zr) (hst : ∀ c, c < 6 → st c = str c) (hR : RS N F G me start ac n Z fa s r) (hn : n + 7 < 2 ^ 31) (hI : ID N G me cf start ac fa gos M Z P st s) : mk8 fa sq cu gos M Z P st s = some (upd s.1 10 (s.1 10 + 1), s.2) ∧ ID N G me cf start ac fa gos M Z P st (upd s.1 10 (s.1 10 + 1), s.2) := by
  obtain ⟨s', r', n', h1, h2, h3, h4, h5, x1, x2, x3, x4, x5⟩ := sim1 hS hst hR hn
  have hI0 := hI
  obtain ⟨b1, b2, b3, b4, b5, b6⟩ := hI
  generalize hon : onS N G me cf start ac fa gos M Z P st s = on at *
  rw [b4] at x1 x2
  have hout : ouS N M P on s = s.1 9 := sp_out_id b1
  rw [hout] at x1 x3
  refine ⟨?_, hI0⟩
  rw [h1]
  obtain ⟨t, cir, lg, mv, tm, po, sc, ti⟩ := s
  obtain ⟨t', cir', lg', mv', tm', po', sc', ti'⟩ := s'
  obtain ⟨y1, y2, y3, y4⟩ := x5 b1
  have e1 : t' = upd t 10 (t 10 + 1) := by
    have x1' : t' = tk_t t (t 9) (decide (¬ shS N M P on (t, cir, lg, mv, tm, po, sc, ti) = 0)) (tk_mv fa po st (t 9)) (tk_ct N ti (tk_x on Z N)) (decide (¬ sp_ai ac = sp_ai ac)) := x1
    have b2' : tk_mv fa po st (t 9) = false := b2
    have b3' : tk_ct N ti (tk_x on Z N) = false := b3
    rw [x1', b2', b3', decide_eq_false (fun h => h b1), decide_eq_false (fun h => h rfl)]
    funext k
    unfold tk_t upd
    have b6' : t 12 = 1 := b6
    by_cases h12 : k = 12
    · rw [if_pos h12, h12, if_pos (by decide), if_neg (by omega : ¬ 12 = 10), b6']
    · rw [if_neg h12]
      simp only [Bool.or_self, Bool.false_eq_true, if_false]
      by_cases h10 : k = 10
      · rw [if_pos h10, if_pos h10]
      · rw [if_neg h10, if_neg h10]
        by_cases h9 : k = 9
        · rw [if_pos h9, h9]
        · rw [if_neg h9]
  have e2 : cir' = cir := by
    have x2' : cir' = tk_c cir P M Z on N ac ac := x2
    rw [x2']; exact b5
  have e3 : po' = po := by
    have x3' : po' = tk_po fa po st (t 9) := x3
    rw [x3']; exact tk_po_id b2
  have e4 : ti' = ti := by
    have x4' : ti' = tk_ti N ti (tk_x on Z N) := x4
    rw [x4']; exact tk_ti_id b3
  have y1' : lg' = lg := y1
  have y2' : mv' = mv := y2
  have y3' : tm' = tm := y3
  have y4' : sc' = sc := y4
  rw [e1, e2, e3, e4, y1', y2', y3', y4']
/-- n ticks -/
def itr {α : Type} (f : α → Option α) : Nat → α → Option α
  | 0, a => some a
  | n + 1, a => bq_bd (itr f n a) f
theorem itr_s {α : Type} {f : α → Option α} {n : Nat} {a b : α} (h : itr f n a = some b) : itr f (n + 1) a = f b := by
  show bq_bd (itr f n a) f = f b
  rw [h, me_bd]
theorem itr_add {α : Type} {f : α → Option α} {a b : α} {n : Nat} (h : itr f n a = some b) : ∀ m, itr f (n + m) a = itr f m b := by
  intro m
  induction m with
  | zero => exact h
  | succ m ih =>
    show bq_bd (itr f (n + m) a) f = bq_bd (itr f m b) f
    rw [ih]
/-- so many ticks on both sides -/
theorem simN {N F G me n : Nat} {cf : Nat → Nat} {start : Bool} {sq cu gos M Z P tr ct Mr Pr Zr fa st str r : Nat → Int32} {s : S8} {ac : Option Nat} (hS : SQ N F G cf sq cu gos M Z P tr ct Mr Pr Zr) (hst : ∀ c, c < 6 → st c = str c) (hR : RS N F G me start ac n Z fa s r) : ∀ m, n + 6 * m + 7 < 2 ^ 31 → ∃ s' r' n' ac', itr (mk8 fa sq cu gos M Z P st) m s = some s' ∧ itr (mX8_ticksOnce tr Mr ct Pr Zr str) m r = some r' ∧ n' ≤ n + 6 * m ∧ RS N F G me start ac' n' Z fa s' r' := by
  intro m
  induction m with
  | zero => exact fun _ => ⟨s, r, n, ac, rfl, rfl, by omega, hR⟩
  | succ m ih =>
    intro hm
    obtain ⟨s1, r1, n1, ac1, h1, h2, h3, h4⟩ := ih (by omega)
    obtain ⟨s2, r2, n2, g1, g2, g3, g4, _⟩ := sim1 hS hst h4 (by omega)
    exact ⟨s2, r2, n2, _, by rw [itr_s h1, g1], by rw [itr_s h2, g2], by omega, g4⟩
/-- idle ticks only count the time -/
theorem idN {N F G me n : Nat} {cf : Nat → Nat} {start : Bool} {sq cu gos M Z P tr ct Mr Pr Zr fa st str r : Nat → Int32} {s : S8} {ac : Option Nat} (hS : SQ N F G cf sq cu gos M Z P tr ct Mr Pr Zr) (hst : ∀ c, c < 6 → st c = str c) (hR : RS N F G me start ac n Z fa s r) (hI : ID N G me cf start ac fa gos M Z P st s) : ∀ m, n + 6 * m + 7 < 2 ^ 31 → itr (mk8 fa sq cu gos M Z P st) m s = some (upd s.1 10 (s.1 10 + nI m), s.2) ∧ ID N G me cf start ac fa gos M Z P st (upd s.1 10 (s.1 10 + nI m), s.2) ∧ ∃ r' n', itr (mX8_ticksOnce tr Mr ct Pr Zr str) m r = some r' ∧ n' ≤ n + 6 * m ∧ RS N F G me start ac n' Z fa (upd s.1 10 (s.1 10 + nI m), s.2) r' ∧ r' 9 = r 9 ∧ r' 11 = r 11 ∧ r' 12 = r 12 := by
  intro m
  induction m with
  | zero =>
    intro _
    have e : upd s.1 10 (s.1 10 + nI 0) = s.1 := by
      funext k
      unfold upd
      by_cases h : k = 10
      · rw [if_pos h, h, nI_0, mq_add0]
      · rw [if_neg h]
    rw [e]
    exact ⟨rfl, hI, r, n, rfl, by omega, hR, rfl, rfl, rfl⟩
  | succ m ih =>
    intro hm
    obtain ⟨h1, h2, r1, n1, h3, h4, h5, h6, h7, h8⟩ := ih (by omega)
    obtain ⟨g1, g2⟩ := id_tick hS hst h5 (by omega) h2
    obtain ⟨s2, r2, n2, k1, k2, k3, k4, k5, k6⟩ := sim1 hS hst h5 (by omega)
    have e : upd (upd s.1 10 (s.1 10 + nI m)) 10 (upd s.1 10 (s.1 10 + nI m) 10 + 1) = upd s.1 10 (s.1 10 + nI (m + 1)) := by
      rw [mu_s]
      funext k
      unfold upd
      by_cases h : k = 10
      · rw [if_pos h, if_pos h, ← nI_1 m, Int32.add_assoc]
      · rw [if_neg h, if_neg h, if_neg h]
    have g1' : mk8 fa sq cu gos M Z P st (upd s.1 10 (s.1 10 + nI m), s.2) = some (upd s.1 10 (s.1 10 + nI (m + 1)), s.2) := by rw [g1]; show some (upd (upd s.1 10 (s.1 10 + nI m)) 10 (upd s.1 10 (s.1 10 + nI m) 10 + 1), s.2) = _; rw [e]
    have es2 : s2 = (upd s.1 10 (s.1 10 + nI (m + 1)), s.2) := by rw [g1'] at k1; cases k1; rfl
    have eac : acS N G me cf start ac fa M Z P st (upd s.1 10 (s.1 10 + nI m), s.2) = ac := h2.2.2.2.1
    rw [eac, es2] at k4
    have hsc : s2.2.2.2.2.2.2.1 = s.2.2.2.2.2.2.1 := by rw [es2]
    have hg2 : ID N G me cf start ac fa gos M Z P st (upd s.1 10 (s.1 10 + nI (m + 1)), s.2) := by
      have := g2
      have e2 : (upd (upd s.1 10 (s.1 10 + nI m), s.2).1 10 ((upd s.1 10 (s.1 10 + nI m), s.2).1 10 + 1), (upd s.1 10 (s.1 10 + nI m), s.2).2) = ((upd s.1 10 (s.1 10 + nI (m + 1)), s.2) : S8) := by
        show (upd (upd s.1 10 (s.1 10 + nI m)) 10 (upd s.1 10 (s.1 10 + nI m) 10 + 1), s.2) = _
        rw [e]
      rw [e2] at this
      exact this
    refine ⟨by rw [itr_s h1, g1'], hg2, r2, n2, by rw [itr_s h3, k2], by omega, k4, ?_⟩
    -- no cycle: the score has not changed
    have c1 : r1 9 = r 9 := h6
    have d1 : s.2.2.2.2.2.2.1 1 = r2 9 := (k4.2.2.2.2.1).2.1
    have d2 : s.2.2.2.2.2.2.1 1 = r1 9 := (h5.2.2.2.2.1).2.1
    rcases k5.1 with ⟨a1, a2, a3⟩ | ⟨a1, _⟩
    · exact ⟨by rw [a1, h6], by rw [a2, h7], by rw [a3, h8]⟩
    · exfalso
      rw [← d1, ← d2] at a1
      have : s.2.2.2.2.2.2.1 1 - s.2.2.2.2.2.2.1 1 = s.2.2.2.2.2.2.1 1 + 1 - s.2.2.2.2.2.2.1 1 := congrArg (fun y => y - s.2.2.2.2.2.2.1 1) a1
      rw [Int32.sub_self, Int32.add_comm, Int32.add_sub_cancel] at this
      cases this
/-- the class's run is so many ticks -/
theorem run_itr {N F G me n : Nat} {cf : Nat → Nat} {start : Bool} {sq cu gos M Z P tr ct Mr Pr Zr fa st str r : Nat → Int32} {s : S8} {ac : Option Nat} (hS : SQ N F G cf sq cu gos M Z P tr ct Mr Pr Zr) (hst : ∀ c, c < 6 → st c = str c) (hR : RS N F G me start ac n Z fa s r) {m : Nat} (hm : m ≤ 5000) (hn : n + 6 * m + 7 < 2 ^ 31) :
    mX3_run s.1 s.2.1 fa s.2.2.1 s.2.2.2.1 s.2.2.2.2.1 s.2.2.2.2.2.1 s.2.2.2.2.2.2.1 sq cu gos M Z P st s.2.2.2.2.2.2.2 (nI m) = itr (mk8 fa sq cu gos M Z P st) m s := by
  obtain ⟨sf, rf, nf, acf, hf, _⟩ := simN hS hst hR m hn
  have hloop : ∃ q, bq_loop (bq_u9 (bX3_run_2 fa sq cu gos M Z P st (nI m))) (nI 1, s) = some q ∧ (q = .inl sf ∨ q = .inr sf) := by
    refine ml_inv (b := bq_u9 (bX3_run_2 fa sq cu gos M Z P st (nI m))) (fun j x => x.1 = nI (j + 1) ∧ itr (mk8 fa sq cu gos M Z P st) j s = some x.2) (fun q => q = Sum.inl sf ∨ q = Sum.inr sf) m (fun j x hj hx => ?_) (fun x hx => ?_) m 0 (nI 1, s) (by omega) ⟨rfl, rfl⟩
    · obtain ⟨i, t, cir, lg, mv, tm, po, sc, ti⟩ := x
      obtain ⟨e1, e2⟩ := hx
      have e1' : i = nI (j + 1) := e1
      subst e1'
      obtain ⟨s1, r1, n1, ac1, h1, h2, h3, h4⟩ := simN hS hst hR j (by omega)
      have es : s1 = (t, cir, lg, mv, tm, po, sc, ti) := by
        have e2' : itr (mk8 fa sq cu gos M Z P st) j s = some (t, cir, lg, mv, tm, po, sc, ti) := e2
        rw [h1] at e2'
        cases e2'
        rfl
      subst es
      obtain ⟨s2, r2, n2, g1, g2, g3, g4, g5, g6⟩ := sim1 hS hst h4 (by omega)
      have g1' : mX3_makeTick t cir fa lg mv tm po sc sq cu gos M Z P st ti = some s2 := g1
      obtain ⟨t2, cir2, lg2, mv2, tm2, po2, sc2, ti2⟩ := s2
      by_cases h12 : t2 12 = 0
      · left
        refine ⟨(nI (j + 2), t2, cir2, lg2, mv2, tm2, po2, sc2, ti2), ?_, rfl, ?_⟩
        · show bX3_run_2 fa sq cu gos M Z P st (nI m) (nI (j + 1)) t cir lg mv tm po sc ti = _
          unfold bX3_run_2
          rw [if_neg (nI_nlt (by omega) (by omega)), g1', me_b8, if_pos h12, me_let, nI_1]
        · show itr (mk8 fa sq cu gos M Z P st) (j + 1) s = _
          rw [itr_s e2]
          exact g1
      · right
        obtain ⟨hac, hI⟩ := id_of_still hS h4 g6 h12
        rw [hac] at g4
        obtain ⟨k1, _⟩ := idN hS hst g4 hI (m - (j + 1)) (by omega)
        refine ⟨.inr (upd t2 10 (t2 10 + (nI m - nI (j + 1))), cir2, lg2, mv2, tm2, po2, sc2, ti2), ?_, ?_⟩
        · show bX3_run_2 fa sq cu gos M Z P st (nI m) (nI (j + 1)) t cir lg mv tm po sc ti = _
          unfold bX3_run_2
          rw [if_neg (nI_nlt (by omega) (by omega)), g1', me_b8, if_neg h12, me_let]
        · right
          have e3 : itr (mk8 fa sq cu gos M Z P st) (j + 1) s = some (t2, cir2, lg2, mv2, tm2, po2, sc2, ti2) := by rw [itr_s e2]; exact g1
          have e4 := itr_add e3 (m - (j + 1))
          rw [show j + 1 + (m - (j + 1)) = m by omega, hf, k1] at e4
          have e5 : nI m - nI (j + 1) = nI (m - (j + 1)) := by
            have : nI m = nI (m - (j + 1)) + nI (j + 1) := by rw [nI_add, show m - (j + 1) + (j + 1) = m by omega]
            rw [this, Int32.add_sub_cancel]
          rw [e5]
          cases e4
          rfl
    · obtain ⟨i, t, cir, lg, mv, tm, po, sc, ti⟩ := x
      obtain ⟨e1, e2⟩ := hx
      have e1' : i = nI (m + 1) := e1
      subst e1'
      refine ⟨.inl (t, cir, lg, mv, tm, po, sc, ti), ?_, ?_⟩
      · show bX3_run_2 fa sq cu gos M Z P st (nI m) (nI (m + 1)) t cir lg mv tm po sc ti = _
        unfold bX3_run_2
        rw [if_pos (nI_lt (by omega) (by omega))]
      · left
        rw [hf] at e2
        cases e2
        rfl
  obtain ⟨q, h1, h2⟩ := hloop
  rw [hf]
  unfold mX3_run
  have h1' : bq_loop (bq_u9 (bX3_run_2 fa sq cu gos M Z P st (nI m))) (1, s.1, s.2.1, s.2.2.1, s.2.2.2.1, s.2.2.2.2.1, s.2.2.2.2.2.1, s.2.2.2.2.2.2.1, s.2.2.2.2.2.2.2) = some q := h1
  rw [h1', me_bd]
  rcases h2 with h | h
  · rw [h]; rfl
  · rw [h]; rfl
