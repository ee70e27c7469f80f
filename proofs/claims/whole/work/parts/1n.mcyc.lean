/-- no cycle comes any more: a wrong event has been, or nothing goes on -/
def QQ (N F G me : Nat) (cf : Nat → Nat) (start : Bool) (fa gos M Z P st : Nat → Int32) (n : Nat) (s : S8) (r : Nat → Int32) : Prop := ∃ ac, RS N F G me start ac n Z fa s r ∧ (r 6 = 1 ∨ ID N G me cf start ac fa gos M Z P st s)
theorem qq_step {N F G me n : Nat} {cf : Nat → Nat} {start : Bool} {sq cu gos M Z P tr ct Mr Pr Zr fa st str r : Nat → Int32} {s : S8} (hS : SQ N F G cf sq cu gos M Z P tr ct Mr Pr Zr) (hst : ∀ c, c < 6 → st c = str c) (hn : n + 13 < 2 ^ 31) (h : QQ N F G me cf start fa gos M Z P st n s r) : ∃ s' r' n', mX8_ticksOnce tr Mr ct Pr Zr str r = some r' ∧ n' ≤ n + 6 ∧ QQ N F G me cf start fa gos M Z P st n' s' r' ∧ r' 9 = r 9 ∧ r' 12 = r 12 := by
  obtain ⟨ac, hR, hq⟩ := h
  rcases hq with h6 | hI
  · obtain ⟨s', r', n', h1, h2, h3, h4, h5, _⟩ := sim1 hS hst hR (by omega)
    refine ⟨s', r', n', h2, h3, ⟨_, h4, Or.inl (h5.2 h6)⟩, ?_⟩
    rcases h5.1 with ⟨a1, a2, a3⟩ | ⟨_, _, _, a4⟩
    · exact ⟨a1, a3⟩
    · rw [h6] at a4; cases a4
  · obtain ⟨h1, h2, r', n', h3, h4, h5, h6, h7, h8⟩ := idN hS hst hR hI 1 (by omega)
    have h3' : mX8_ticksOnce tr Mr ct Pr Zr str r = some r' := h3
    exact ⟨_, r', n', h3', by omega, ⟨ac, h5, Or.inr h2⟩, h6, h8⟩
theorem mr_cyc_go {tr Mr ct Pr Zr str r r' : Nat → Int32} {j : Nat} (hj : j < 4000) (h9 : ¬ (2 : Int32) ≤ r 9) (ht : mX8_ticksOnce tr Mr ct Pr Zr str r = some r') {q : Nat → Int32} (h : bq_loop (bq_u2 (bX8_tries_66 tr Mr ct Pr Zr str 4000 1)) (nI (j + 1), r') = some q) : bq_loop (bq_u2 (bX8_tries_66 tr Mr ct Pr Zr str 4000 1)) (nI j, r) = some q := by
  refine ml_step (s' := (nI (j + 1), r')) ?_ h
  rw [me_u2]
  unfold bX8_tries_66
  have h4 : ¬ (4000 : Int32) ≤ nI j := mq_nle (a := 4000) hj (by omega)
  rw [if_neg h4, me_let, if_neg (by decide), if_neg h9, ht, me_bd, me_let, nI_1]
theorem mr_cyc_end {tr Mr ct Pr Zr str r : Nat → Int32} {j : Nat} (hj : j ≤ 4000) (h : j = 4000 ∨ (2 : Int32) ≤ r 9) : bq_loop (bq_u2 (bX8_tries_66 tr Mr ct Pr Zr str 4000 1)) (nI j, r) = some r := by
  refine ml_done ?_
  rw [me_u2]
  unfold bX8_tries_66
  by_cases h4 : j = 4000
  · subst h4
    rw [if_pos (by decide)]
  · have h4' : ¬ (4000 : Int32) ≤ nI j := mq_nle (a := 4000) (by omega) (by omega)
    rw [if_neg h4', me_let, if_neg (by decide), if_pos (by rcases h with h | h; exact absurd h h4; exact h)]
theorem qq_end {N F G me : Nat} {cf : Nat → Nat} {start : Bool} {sq cu gos M Z P tr ct Mr Pr Zr fa st str : Nat → Int32} (hS : SQ N F G cf sq cu gos M Z P tr ct Mr Pr Zr) (hst : ∀ c, c < 6 → st c = str c) : ∀ (d j n : Nat) (s : S8) (r : Nat → Int32), j + d = 4000 → n ≤ 6 * j → ¬ (2 : Int32) ≤ r 9 → QQ N F G me cf start fa gos M Z P st n s r → ∃ q, bq_loop (bq_u2 (bX8_tries_66 tr Mr ct Pr Zr str 4000 1)) (nI j, r) = some q ∧ q 12 = r 12 := by
  intro d
  induction d with
  | zero =>
    intro j n s r hj hn h9 hQ
    exact ⟨r, mr_cyc_end (by omega) (Or.inl (by omega)), rfl⟩
  | succ d ih =>
    intro j n s r hj hn h9 hQ
    obtain ⟨s', r', n', h1, h2, h3, h4, h5⟩ := qq_step hS hst (by omega) hQ
    obtain ⟨q, g1, g2⟩ := ih (j + 1) n' s' r' (by omega) (by omega) (by rw [h4]; exact h9) h3
    exact ⟨q, mr_cyc_go (by omega) h9 h1 g1, by rw [g2, h5]⟩
/-- how far the cycles of a trial are: none, or one at tick a -/
def CI (j : Nat) (i10 : Int32) (r : Nat → Int32) : Prop := (r 9 = 0 ∧ i10 = -1 ∧ r 12 = -1) ∨ (r 9 = 1 ∧ r 12 = -1 ∧ ∃ a, a < j ∧ r 11 = nI a ∧ i10 = nI (a + 1))
/-- what cycleOf makes of the row -/
def sp_cv (q : Nat → Int32) : Int32 := if q 12 < 0 then -1 else q 12 - q 11
theorem cyc_loop {N F G me : Nat} {cf : Nat → Nat} {sq cu gos M Z P tr ct Mr Pr Zr fa st str : Nat → Int32} (hS : SQ N F G cf sq cu gos M Z P tr ct Mr Pr Zr) (hst : ∀ c, c < 6 → st c = str c) : ∀ (d j n : Nat) (ac : Option Nat) (i10 : Int32) (s : S8) (r : Nat → Int32), j + d = 4000 → n ≤ 6 * j → r 0 = nI j → CI j i10 r → RS N F G me true ac n Z fa s r →
    ∃ q v s', bq_loop (bq_u2 (bX8_tries_66 tr Mr ct Pr Zr str 4000 1)) (nI j, r) = some q ∧ sp_cv q = v ∧ s'.1 8 = 1 ∧ (bq_loop (bq_u10 (bX7_measureCycle_16 sq cu gos M Z P fa st)) (nI j, i10, s) = some (.inl s') ∧ v = -1 ∨ bq_loop (bq_u10 (bX7_measureCycle_16 sq cu gos M Z P fa st)) (nI j, i10, s) = some (.inr (v, s'.1, s'.2.1, fa, s'.2.2.1, s'.2.2.2.1, s'.2.2.2.2.1, s'.2.2.2.2.2.1, s'.2.2.2.2.2.2.1, st, s'.2.2.2.2.2.2.2))) := by
  intro d
  induction d with
  | zero =>
    intro j n ac i10 s r hj hn h0 hC hR
    have hj' : j = 4000 := by omega
    subst hj'
    have h12 : r 12 = -1 := by
      rcases hC with ⟨_, _, h⟩ | ⟨_, h, _⟩ <;> exact h
    refine ⟨r, -1, s, mr_cyc_end (by omega) (Or.inl rfl), ?_, ?_, Or.inl ⟨ml_done ?_, rfl⟩⟩
    · unfold sp_cv
      rw [h12, if_pos (by decide)]
    · exact hR.1.1.1
    · show bX7_measureCycle_16 sq cu gos M Z P fa st (nI 4000) i10 s.1 s.2.1 s.2.2.1 s.2.2.2.1 s.2.2.2.2.1 s.2.2.2.2.2.1 s.2.2.2.2.2.2.1 s.2.2.2.2.2.2.2 = _
      unfold bX7_measureCycle_16
      rw [if_pos (by decide)]
  | succ d ih =>
    intro j n ac i10 s r hj hn h0 hC hR
    have h9 : ¬ (2 : Int32) ≤ r 9 := by
      rcases hC with ⟨h, _⟩ | ⟨h, _⟩ <;> rw [h] <;> decide
    obtain ⟨s', r', n', h1, h2, h3, h4, h5, h6⟩ := sim1 hS hst hR (by omega)
    have hb : bX7_measureCycle_16 sq cu gos M Z P fa st (nI j) i10 s.1 s.2.1 s.2.2.1 s.2.2.2.1 s.2.2.2.2.1 s.2.2.2.2.2.1 s.2.2.2.2.2.2.1 s.2.2.2.2.2.2.2 = (if (s'.2.2.2.2.2.2.1 1) < 2 then (bq_let (if (s'.2.2.2.2.2.2.1 1) = 1 then (if 0 ≤ i10 then i10 else ((s'.1 10))) else i10 : Int32) (fun v35 => if (s'.1 12) = 0 then (if (s'.2.2.2.2.2.2.1 2) = 0 then (some (.inl (nI (j + 1), v35, s'))) else (some (.inr (.inr ((-1), s'.1, s'.2.1, fa, s'.2.2.1, s'.2.2.2.1, s'.2.2.2.2.1, s'.2.2.2.2.2.1, s'.2.2.2.2.2.2.1, st, s'.2.2.2.2.2.2.2))))) else (some (.inr (.inr ((-1), s'.1, s'.2.1, fa, s'.2.2.1, s'.2.2.2.1, s'.2.2.2.2.1, s'.2.2.2.2.2.1, s'.2.2.2.2.2.2.1, st, s'.2.2.2.2.2.2.2)))))) else (some (.inr (.inr (((s'.1 10) - i10), s'.1, s'.2.1, fa, s'.2.2.1, s'.2.2.2.1, s'.2.2.2.2.1, s'.2.2.2.2.2.1, s'.2.2.2.2.2.2.1, st, s'.2.2.2.2.2.2.2))))) := by
      unfold bX7_measureCycle_16
      have h4' : ¬ (4000 : Int32) ≤ nI j := mq_nle (a := 4000) (by omega) (by omega)
      have h1' : mX3_makeTick s.1 s.2.1 fa s.2.2.1 s.2.2.2.1 s.2.2.2.2.1 s.2.2.2.2.2.1 s.2.2.2.2.2.2.1 sq cu gos M Z P st s.2.2.2.2.2.2.2 = some (s'.1, s'.2.1, s'.2.2.1, s'.2.2.2.1, s'.2.2.2.2.1, s'.2.2.2.2.2.1, s'.2.2.2.2.2.2.1, s'.2.2.2.2.2.2.2) := h1
      rw [if_neg h4', h1', me_b8, nI_1]
      rfl
    have s8 : s'.1 8 = 1 := h4.1.1.1
    have s10 : s'.1 10 = r' 0 := h4.1.2.1.1
    have sc1 : s'.2.2.2.2.2.2.1 1 = r' 9 := h4.1.2.2.2.2.2.2.2.1
    have sc2 : s'.2.2.2.2.2.2.1 2 = r' 6 := h4.2.2.2.2.1.2.2.1
    have r6 : r' 6 = 0 ∨ r' 6 = 1 := h4.2.2.2.2.1.2.2.2
    have r0' : r' 0 = nI (j + 1) := by
      have e1 : s.1 10 = r 0 := hR.1.2.1.1
      rw [← s10, h6.1, tk_t10, e1, h0, nI_1]
    rw [s10, sc1, sc2] at hb
    by_cases hcy : (2 : Int32) ≤ r' 9
    · -- the second cycle
      rcases h5.1 with ⟨a1, _⟩ | ⟨a1, a2, a3, a4⟩
      · rw [a1] at hcy; exact absurd hcy h9
      · rcases hC with ⟨c1, c2, c3⟩ | ⟨c1, c2, a, ha, c3, c4⟩
        · rw [a1, c1] at hcy; exact absurd hcy (by decide)
        · rw [c1, if_neg (by decide)] at a2
          rw [c1, if_pos (by decide)] at a3
          refine ⟨r', nI j - nI a, s', mr_cyc_go (by omega) h9 h2 (mr_cyc_end (by omega) (Or.inr hcy)), ?_, s8, Or.inr (ml_done ?_)⟩
          · unfold sp_cv
            rw [a3, a2, c3, h0, if_neg (nI_pos (by omega))]
          · show bX7_measureCycle_16 sq cu gos M Z P fa st (nI j) i10 s.1 s.2.1 s.2.2.1 s.2.2.2.1 s.2.2.2.2.1 s.2.2.2.2.2.1 s.2.2.2.2.2.2.1 s.2.2.2.2.2.2.2 = _
            have e : r' 0 - i10 = nI j - nI a := by
              have t1 : nI (j + 1) - nI (a + 1) = nI (j - a) := by
                have : nI (j + 1) = nI (j - a) + nI (a + 1) := by rw [nI_add, show j - a + (a + 1) = j + 1 by omega]
                rw [this, Int32.add_sub_cancel]
              have t2 : nI j - nI a = nI (j - a) := by
                have : nI j = nI (j - a) + nI a := by rw [nI_add, show j - a + a = j by omega]
                rw [this, Int32.add_sub_cancel]
              rw [r0', c4, t1, t2]
            rw [hb, if_neg (Int32.not_lt.mpr hcy), e]
    · have hlt : r' 9 < 2 := Int32.not_le.mp hcy
      rw [if_pos hlt, me_let] at hb
      -- the first cycle, or none
      have hC' : CI (j + 1) (if r' 9 = 1 then (if 0 ≤ i10 then i10 else r' 0) else i10) r' := by
        rcases h5.1 with ⟨a1, a2, a3⟩ | ⟨a1, a2, a3, a4⟩
        · rcases hC with ⟨c1, c2, c3⟩ | ⟨c1, c2, a, ha, c3, c4⟩
          · left
            refine ⟨by rw [a1, c1], ?_, by rw [a3, c3]⟩
            rw [a1, c1, if_neg (by decide)]
            exact c2
          · right
            refine ⟨by rw [a1, c1], by rw [a3, c2], a, by omega, by rw [a2, c3], ?_⟩
            rw [a1, c1, if_pos rfl, c4, if_pos (nI_pos' (by omega))]
        · rcases hC with ⟨c1, c2, c3⟩ | ⟨c1, c2, a, ha, c3, c4⟩
          · right
            rw [c1, if_pos (by decide)] at a2
            rw [c1, if_neg (by decide)] at a3
            refine ⟨by rw [a1, c1]; decide, by rw [a3, c3], j, by omega, by rw [a2, h0], ?_⟩
            rw [a1, c1, if_pos (by decide), c2, if_neg (by decide), r0']
          · rw [a1, c1] at hcy
            exact absurd (by decide) hcy
      generalize (if r' 9 = 1 then (if 0 ≤ i10 then i10 else r' 0) else i10) = i10' at hb hC'
      have h12 : r' 12 = -1 := by
        rcases hC' with ⟨_, _, h⟩ | ⟨_, h, _⟩ <;> exact h
      by_cases hst12 : s'.1 12 = 0
      · rw [if_pos hst12] at hb
        by_cases hw : r' 6 = 0
        · rw [if_pos hw] at hb
          obtain ⟨q, v, s2, g1, g2, g3, g4⟩ := ih (j + 1) n' _ i10' s' r' (by omega) (by omega) r0' hC' h4
          refine ⟨q, v, s2, mr_cyc_go (by omega) h9 h2 g1, g2, g3, ?_⟩
          rcases g4 with ⟨g5, g6⟩ | g5
          · exact Or.inl ⟨ml_step hb g5, g6⟩
          · exact Or.inr (ml_step hb g5)
        · rw [if_neg hw] at hb
          have h61 : r' 6 = 1 := by rcases r6 with h | h; exact absurd h hw; exact h
          obtain ⟨q, g1, g2⟩ := qq_end (start := true) (str := str) (tr := tr) hS hst d (j + 1) n' s' r' (by omega) (by omega) hcy ⟨_, h4, Or.inl h61⟩
          refine ⟨q, -1, s', mr_cyc_go (by omega) h9 h2 g1, ?_, s8, Or.inr (ml_done hb)⟩
          unfold sp_cv
          rw [g2, h12, if_pos (by decide)]
      · rw [if_neg hst12] at hb
        obtain ⟨hac, hI⟩ := id_of_still hS hR h6 hst12
        obtain ⟨q, g1, g2⟩ := qq_end (start := true) (str := str) (tr := tr) hS hst d (j + 1) n' s' r' (by omega) (by omega) hcy ⟨ac, by rw [hac] at h4; exact h4, Or.inr hI⟩
        refine ⟨q, -1, s', mr_cyc_go (by omega) h9 h2 g1, ?_, s8, Or.inr (ml_done hb)⟩
        unfold sp_cv
        rw [g2, h12, if_pos (by decide)]
/-- the cycle time, both sides -/
theorem measure_sim {N F G me : Nat} {cf : Nat → Nat} {sq cu gos M Z P tr ct Mr Pr Zr str : Nat → Int32} (t cir fa lg mv tm po sc st ti st0 rt : Nat → Int32) (hS : SQ N F G cf sq cu gos M Z P tr ct Mr Pr Zr) (hst : ∀ c, c < 6 → st0 c = str c) (hme : me < 3) (h8 : t 8 = 1) :
    ∃ v rt' t' cir' fa' lg' mv' tm' po' sc' st' ti', mX8_cycleOf tr Mr ct Pr Zr str rt (nI me) = some (v, rt') ∧ mX7_measureCycle sq cu gos M Z P st0 t cir fa lg mv tm po sc st ti (nI me) = some (v, t', cir', fa', lg', mv', tm', po', sc', st', ti') ∧ t' 8 = 1 := by
  have hR := trial_rs t cir fa lg mv tm po sc ti rt hS hme h8 (q := none) (fun c k h => by cases h)
  have hst' : ∀ c, c < 6 → va_cpy st0 st 0 0 6 c = str c := fun c hc => by rw [va_cpy6 _ _ hc]; exact hst c hc
  have hz : sp_rest (sp_tf rt me none) (sp_ai (sp_ac0 me N G)) (nI F) (sp_mo P M F) 9 = 0 := by
    rw [sp_rest_k _ _ _ _ (by omega) (by omega) (by omega) (by omega) (by omega) (by omega)]; rfl
  have hz0 : sp_rest (sp_tf rt me none) (sp_ai (sp_ac0 me N G)) (nI F) (sp_mo P M F) 0 = nI 0 := by
    rw [sp_rest_k _ _ _ _ (by omega) (by omega) (by omega) (by omega) (by omega) (by omega)]; rfl
  obtain ⟨q, v, s', h1, h2, h3, h4⟩ := cyc_loop hS hst' 4000 0 0 _ (-1) _ _ (by omega) (by omega) hz0 (Or.inl ⟨hz, rfl, rfl⟩) hR
  have ht := mr_tries0 (str := str) (rt := rt) hS hme (q := none) (fun c k h => by cases h) 4000 1
  have h1' : bq_loop (bq_u2 (bX8_tries_66 tr Mr ct Pr Zr str 4000 1)) (0, sp_rest (sp_tf rt me none) (sp_ai (sp_ac0 me N G)) (nI F) (sp_mo P M F)) = some q := h1
  rw [h1', me_bd] at ht
  refine ⟨v, q, s'.1, s'.2.1, sp_ff fa none, s'.2.2.1, s'.2.2.2.1, s'.2.2.2.2.1, s'.2.2.2.2.2.1, s'.2.2.2.2.2.2.1, va_cpy st0 st 0 0 6, s'.2.2.2.2.2.2.2, ?_, ?_, h3⟩
  · unfold mX8_cycleOf
    have ht' : mX8_tries tr Mr ct Pr Zr str rt (nI me) (-1) 0 4000 1 = some q := ht
    rw [ht', me_bd, ← h2]
    rfl
  · unfold mX7_measureCycle
    rw [me_copy t cir fa lg po sc st ti st0 hS hme, me_b8]
    rcases h4 with ⟨h5, h6⟩ | h5
    · have h5' : bq_loop (bq_u10 (bX7_measureCycle_16 sq cu gos M Z P (sp_ff fa none) (va_cpy st0 st 0 0 6))) (0, -1, sp_trest t, sp_cir (upd (upd cir 0 (nI me)) 1 (sp_ai (sp_ac0 me N G))) 0 0 0, sp_lrest lg, mv, tm, sp_put po (fun _ => 0) 0 6, sp_srest sc (nI F) (P F) (M F), sp_put ti (fun _ => 0) 0 16) = some (.inl s') := h5
      rw [h5', me_bd, h6]
      rfl
    · have h5' : bq_loop (bq_u10 (bX7_measureCycle_16 sq cu gos M Z P (sp_ff fa none) (va_cpy st0 st 0 0 6))) (0, -1, sp_trest t, sp_cir (upd (upd cir 0 (nI me)) 1 (sp_ai (sp_ac0 me N G))) 0 0 0, sp_lrest lg, mv, tm, sp_put po (fun _ => 0) 0 6, sp_srest sc (nI F) (P F) (M F), sp_put ti (fun _ => 0) 0 16) = some (.inr (v, s'.1, s'.2.1, sp_ff fa none, s'.2.2.1, s'.2.2.2.1, s'.2.2.2.2.1, s'.2.2.2.2.2.1, s'.2.2.2.2.2.2.1, va_cpy st0 st 0 0 6, s'.2.2.2.2.2.2.2)) := h5
      rw [h5', me_bd]
      rfl
