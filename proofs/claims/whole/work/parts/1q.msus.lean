section
theorem me_b11 {α1 α2 α3 α4 α5 α6 α7 α8 α9 α10 α11 β : Type} (k : α1 → α2 → α3 → α4 → α5 → α6 → α7 → α8 → α9 → α10 → α11 → Option β) (x1 : α1) (x2 : α2) (x3 : α3) (x4 : α4) (x5 : α5) (x6 : α6) (x7 : α7) (x8 : α8) (x9 : α9) (x10 : α10) (x11 : α11) : bq_b11 (some (x1, x2, x3, x4, x5, x6, x7, x8, x9, x10, x11)) k = k x1 x2 x3 x4 x5 x6 x7 x8 x9 x10 x11 := rfl
theorem me_all2 {b : Int32 → Int32 → Option ((Int32 × Int32) ⊕ Int32)} {f g : Nat → Int32} {k n : Nat} (hn : k + n < 1000) (he : ∀ v, b (nI (k + n)) v = some (.inr v)) (h1 : ∀ j v, j < n → (v = 0 ∨ v = 1) → b (nI (k + j)) v = some (.inl (nI (k + j + 1), if v = 0 then 0 else if f (k + j) = g (k + j) then 1 else 0))) (v0 : Bool) :
    bq_loop (bq_u2 b) (nI k, if v0 then 1 else 0) = some (if (v0 && sp_all (fun j => decide (f (k + j) = g (k + j))) n) then 1 else 0) := by
  have h0 : ((nI k, if v0 then (1 : Int32) else 0) : Int32 × Int32) = (nI (k + 0), if (v0 && sp_all (fun j => decide (f (k + j) = g (k + j))) 0) then 1 else 0) := by
    show _ = (nI (k + 0), if (v0 && true) = true then 1 else 0)
    rw [Bool.and_true, Nat.add_zero]
  rw [h0]
  refine ml_run (fun j => (nI (k + j), if (v0 && sp_all (fun j => decide (f (k + j) = g (k + j))) j) then (1 : Int32) else 0)) n (fun j hj => ?_) ?_
  · rw [me_u2, h1 j _ hj (by cases (v0 && sp_all (fun j => decide (f (k + j) = g (k + j))) j); exact Or.inl rfl; exact Or.inr rfl), sp_all, ← Bool.and_assoc]
    cases (v0 && sp_all (fun j => decide (f (k + j) = g (k + j))) j)
    · rfl
    · by_cases h : f (k + j) = g (k + j)
      · simp [h]; rfl
      · simp [h]; rfl
  · rw [me_u2]
    exact he _
/-- the class's rig and the reference's row, compared with a trial's -/
theorem out_eq {a b : Int32} (ha : ∀ c, c < 32 → bt a c = true → c < 6) (hb : ∀ c, c < 32 → bt b c = true → c < 6) (h : ∀ c, c < 6 → bt a c = bt b c) : a = b := by
  refine b_ext (fun i hi => ?_)
  rcases Nat.lt_or_ge i 6 with h6 | h6
  · exact h i h6
  · have h1 : bt a i = false := Bool.eq_false_iff.mpr (fun h9 => by have := ha i hi h9; omega)
    have h2 : bt b i = false := Bool.eq_false_iff.mpr (fun h9 => by have := hb i hi h9; omega)
    rw [h1, h2]
theorem mq_01 (a b : Bool) : ((if a then (1 : Int32) else 0) = if b then 1 else 0) ↔ a = b := by
  cases a <;> cases b <;> decide
abbrev T13 := (Nat → Int32) × (Nat → Int32) × (Nat → Int32) × (Nat → Int32) × (Nat → Int32) × (Nat → Int32) × (Nat → Int32) × (Nat → Int32) × (Nat → Int32) × (Nat → Int32) × (Nat → Int32) × (Nat → Int32) × (Nat → Int32)
noncomputable def ex13 (t cir po sq cu gos M Z P st : Nat → Int32) (y : T13) (c k : Int32) := mX7_explains t cir po sq cu gos M Z P st y.1 y.2.1 y.2.2.1 y.2.2.2.1 y.2.2.2.2.1 y.2.2.2.2.2.1 y.2.2.2.2.2.2.1 y.2.2.2.2.2.2.2.1 y.2.2.2.2.2.2.2.2.1 y.2.2.2.2.2.2.2.2.2.1 y.2.2.2.2.2.2.2.2.2.2.1 y.2.2.2.2.2.2.2.2.2.2.2.1 y.2.2.2.2.2.2.2.2.2.2.2.2 c k
theorem explains_sim {N F G me n T : Nat} {cf : Nat → Nat} {start : Bool} {ac : Option Nat} {sq cu gos M Z P tr ct Mr Pr Zr st str fa r : Nat → Int32} {s : S8} (hS : SQ N F G cf sq cu gos M Z P tr ct Mr Pr Zr) (hst : ∀ c, c < 6 → st c = str c) (hme : me < 3) (hR : RS N F G me start ac n Z fa s r) (hT : r 0 = nI T) (hT31 : T < 2 ^ 31) (rt : Nat → Int32) (y : T13) (h8 : y.2.2.2.1 8 = 1) {c k : Nat} (hc : c < 6) (hk : k < 5) :
    ∃ (v : Bool) (rt' : Nat → Int32) (y' : T13), mX8_explains tr Mr ct Pr Zr r str rt (nI c) (nI k) = some (if v then 1 else 0, rt') ∧ ex13 s.1 s.2.1 (poS s) sq cu gos M Z P st y (nI c) (nI k) = some (if v then 1 else 0, y') ∧ y'.2.2.2.1 8 = 1 := by
  obtain ⟨sn, sp, sm, tt, tc, tf, tl, tv, tm, tp, ts, tst, tti⟩ := y
  have h8' : tt 8 = 1 := h8
  have hq : sp_fOK (some (c, k)) := fun c' k' h => by cases h; exact ⟨hc, hk⟩
  have hTS := trial_rs tt tc tf tl tv tm tp ts tti rt hS hme h8' hq
  have hst' : ∀ c, c < 6 → va_cpy st tst 0 0 6 c = str c := fun c hc => by rw [va_cpy6 _ _ hc]; exact hst c hc
  have hTS0 : TS N F G me Z (sp_ff tf (some (c, k))) 0 _ _ := ⟨sp_ac0 me N G, 0, hTS, by omega, fun h0 => by unfold sp_ac0; rw [if_neg (by omega)]⟩
  generalize hs0 : ((sp_trest tt, sp_cir (upd (upd tc 0 (nI me)) 1 (sp_ai (sp_ac0 me N G))) 0 0 0, sp_lrest tl, tv, tm, sp_put tp (fun _ => 0) 0 6, sp_srest ts (nI F) (P F) (M F), sp_put tti (fun _ => 0) 0 16) : S8) = s0 at hTS hTS0
  -- how many ticks
  obtain ⟨m, hm, em, em2⟩ : ∃ m, m ≤ 5000 ∧ (if 5000 < s.1 10 then 5000 else s.1 10) = nI m ∧ (if 5000 ≤ r 0 then 5000 else r 0) = nI m := by
    have e1 : s.1 10 = r 0 := hR.1.2.1.1
    have h5 : (5000 : Int32) = nI 5000 := rfl
    rw [e1, hT, h5]
    by_cases h : 5000 < T
    · exact ⟨5000, by omega, by rw [if_pos ((nI_ltI (by omega) hT31).mpr h)], by rw [if_pos ((nI_leI (by omega) hT31).mpr (by omega))]⟩
    · refine ⟨T, by omega, by rw [if_neg (fun h9 => h ((nI_ltI (by omega) hT31).mp h9))], ?_⟩
      by_cases h2 : 5000 ≤ T
      · rw [if_pos ((nI_leI (by omega) hT31).mpr h2), show T = 5000 by omega]
      · rw [if_neg (fun h9 => h2 ((nI_leI (by omega) hT31).mp h9))]
  obtain ⟨y', g1, i, hi, g2, g3⟩ := far_end hS hst' hTS0 hm sn sp sm
  obtain ⟨_, rn, k2, acn, nn, k3, _, _⟩ := sts_all hS hst' hTS0 m (by omega)
  obtain ⟨_, ri, _, aci, ni, k4, _, _⟩ := sts_all hS hst' hTS0 i (by omega)
  have htr := mr_tries0 (str := str) (rt := rt) hS hme hq (nI m) 0
  rw [mr_tries_n (by omega) k2, me_bd] at htr
  -- the comparison
  have hr1 : r 1 = nI me := hR.1.2.2.1.2.1
  have hc0 : s.2.1 0 = nI me := hR.1.2.2.1.1
  have hcy := hR.1.2.2.2.1
  have hcyn := k3.1.2.2.2.1
  have ho6 : ∀ c, c < 32 → bt (s.1 9) c = true → c < 6 := hR.1.2.2.2.2.2.2.2.2
  have ho6n : ∀ c', c' < 32 → bt ((sts (sp_ff tf (some (c, k))) sq cu gos M Z P (va_cpy st tst 0 0 6) s0 m).1 9) c' = true → c' < 6 := k3.1.2.2.2.2.2.2.2.2
  obtain ⟨c1, c2, c3, c4⟩ := g3
  have s8 : (sts (sp_ff tf (some (c, k))) sq cu gos M Z P (va_cpy st tst 0 0 6) s0 i).1 8 = 1 := k4.1.1.1
  rw [← g2] at c1 c3 s8
  generalize hsm : sts (sp_ff tf (some (c, k))) sq cu gos M Z P (va_cpy st tst 0 0 6) s0 m = sf at *
  obtain ⟨sn', sp', sm', t', cir', lg', mv', tm', po', sc', ti'⟩ := y'
  have c1' : t' 9 = sf.1 9 := c1
  have c3' : ∀ c, c < 6 → po' c = poS sf c := c3
  have s8' : t' 8 = 1 := s8
  refine ⟨sp_all (fun j => decide (rn (20 + j) = r (20 + j))) 12, rn, (sn', sp', sm', t', cir', sp_ff tf (some (c, k)), lg', mv', tm', po', sc', va_cpy st tst 0 0 6, ti'), ?_, ?_, s8'⟩
  · unfold mX8_explains
    have htr' : mX8_tries tr Mr ct Pr Zr str rt (nI me) (nI c) (nI k) (nI m) 0 = some rn := htr
    rw [em2, me_let, hr1, htr', me_bd]
    have hl := me_all2 (b := bX8_explains_43 r rn) (f := rn) (g := r) (k := 20) (n := 12) (by omega) (fun v => by unfold bX8_explains_43; rw [if_pos (by decide)]) (fun j v hj hv => by
      unfold bX8_explains_43
      have h32 : ¬ (32 : Int32) ≤ nI (20 + j) := mq_nle (a := 32) (by omega) (by omega)
      rw [if_neg h32, me_ci _ (by omega) (by omega), me_ci _ (by omega) (by omega), nI_clamp (by omega), nI_1]
      rcases hv with rfl | rfl
      · rfl
      · by_cases h : rn (20 + j) = r (20 + j)
        · simp [h, bq_bd, bq_let]
        · simp [h, bq_bd, bq_let]) true
    have hl' : bq_loop (bq_u2 (bX8_explains_43 r rn)) (20, 1) = some (if sp_all (fun j => decide (rn (20 + j) = r (20 + j))) 12 = true then 1 else 0) := by
      rw [Bool.true_and] at hl
      exact hl
    rw [hl', me_bd, me_cbi]
  · show mX7_explains s.1 s.2.1 (poS s) sq cu gos M Z P st sn sp sm tt tc tf tl tv tm tp ts tst tti (nI c) (nI k) = _
    unfold mX7_explains
    rw [hc0, me_copy tt tc tf tl tp ts tst tti st hS hme, me_b8, me_putFault tf hc hk, me_bd, em]
    have g1' : mX7_runTrialFar sn sp sm (sp_trest tt) (sp_cir (upd (upd tc 0 (nI me)) 1 (sp_ai (sp_ac0 me N G))) 0 0 0) (sp_ff tf (some (c, k))) (sp_lrest tl) tv tm (sp_put tp (fun _ => 0) 0 6) (sp_srest ts (nI F) (P F) (M F)) sq cu gos M Z P (va_cpy st tst 0 0 6) (sp_put tti (fun _ => 0) 0 16) (nI m) = some (sn', sp', sm', t', cir', lg', mv', tm', po', sc', ti') := by
      rw [← hs0] at g1
      exact g1
    rw [g1', me_b11, me_let]
    have e0 : (if t' 9 = s.1 9 then (1 : Int32) else 0) = if decide (t' 9 = s.1 9) then 1 else 0 := by
      by_cases h : t' 9 = s.1 9
      · simp [h]
      · simp [h]
    have hl := me_all2 (b := bX7_explains_74 (poS s) po') (f := po') (g := poS s) (k := 0) (n := 6) (by omega) (fun v => by unfold bX7_explains_74; rw [if_pos (by decide)]) (fun j v hj hv => by
      unfold bX7_explains_74
      rw [Nat.zero_add, if_neg (mq_6 hj), me_ci _ (by omega) (by omega), me_ci _ (by omega) (by omega), nI_clamp (by omega), nI_1]
      rcases hv with rfl | rfl
      · rfl
      · by_cases h : po' j = poS s j
        · simp [h, bq_bd, bq_let]
        · simp [h, bq_bd, bq_let]) (decide (t' 9 = s.1 9))
    have hl' : bq_loop (bq_u2 (bX7_explains_74 (poS s) po')) (0, if t' 9 = s.1 9 then (1 : Int32) else 0) = some (if (decide (t' 9 = s.1 9) && sp_all (fun j => decide (po' (0 + j) = poS s (0 + j))) 6) = true then 1 else 0) := by
      rw [e0]
      exact hl
    rw [hl', me_bd, me_cbi]
    have ev : (decide (t' 9 = s.1 9) && sp_all (fun j => decide (po' (0 + j) = poS s (0 + j))) 6) = sp_all (fun j => decide (rn (20 + j) = r (20 + j))) 12 := by
      rw [Bool.eq_iff_iff, Bool.and_eq_true, sp_all_iff, sp_all_iff, decide_eq_true_eq]
      constructor
      · rintro ⟨h1, h2⟩ j hj
        rw [decide_eq_true_eq]
        rcases Nat.lt_or_ge j 6 with h6 | h6
        · have := of_decide_eq_true (h2 j h6)
          rw [Nat.zero_add, c3' j h6] at this
          rw [(hcyn j h6).1, (hcy j h6).1]
          exact this
        · have e9 : sf.1 9 = s.1 9 := by rw [← c1', h1]
          have a1 := (hcyn (j - 6) (by omega)).2.1
          have a2 := (hcy (j - 6) (by omega)).2.1
          rw [show 26 + (j - 6) = 20 + j by omega] at a1 a2
          rw [a1, a2, e9]
      · intro h
        refine ⟨?_, fun j hj => ?_⟩
        · rw [c1']
          refine out_eq ho6n ho6 (fun c hc => ?_)
          have := of_decide_eq_true (h (6 + c) (by omega))
          rw [show 20 + (6 + c) = 26 + c by omega, (hcyn c hc).2.1, (hcy c hc).2.1] at this
          exact (mq_01 _ _).mp this
        · have := of_decide_eq_true (h j (by omega))
          rw [(hcyn j hj).1, (hcy j hj).1] at this
          rw [decide_eq_true_eq, Nat.zero_add, c3' j hj]
          exact this
    rw [ev]
theorem me_b14 {α1 α2 α3 α4 α5 α6 α7 α8 α9 α10 α11 α12 α13 α14 β : Type} (k : α1 → α2 → α3 → α4 → α5 → α6 → α7 → α8 → α9 → α10 → α11 → α12 → α13 → α14 → Option β) (x1 : α1) (x2 : α2) (x3 : α3) (x4 : α4) (x5 : α5) (x6 : α6) (x7 : α7) (x8 : α8) (x9 : α9) (x10 : α10) (x11 : α11) (x12 : α12) (x13 : α13) (x14 : α14) : bq_b14 (some (x1, x2, x3, x4, x5, x6, x7, x8, x9, x10, x11, x12, x13, x14)) k = k x1 x2 x3 x4 x5 x6 x7 x8 x9 x10 x11 x12 x13 x14 := rfl
abbrev fl13 (y : T13) (q : Nat) := (y.1, y.2.1, y.2.2.1, y.2.2.2.1, y.2.2.2.2.1, y.2.2.2.2.2.1, y.2.2.2.2.2.2.1, y.2.2.2.2.2.2.2.1, y.2.2.2.2.2.2.2.2.1, y.2.2.2.2.2.2.2.2.2.1, y.2.2.2.2.2.2.2.2.2.2.1, y.2.2.2.2.2.2.2.2.2.2.2.1, y.2.2.2.2.2.2.2.2.2.2.2.2, q)
theorem sq_tr {N F G : Nat} {cf : Nat → Nat} {sq cu gos M Z P tr ct Mr Pr Zr tr' : Nat → Int32} (hS : SQ N F G cf sq cu gos M Z P tr ct Mr Pr Zr) (h4 : tr' 4 = tr 4) (h8 : tr' 8 = tr 8) : SQ N F G cf sq cu gos M Z P tr' ct Mr Pr Zr := by
  obtain ⟨a, ⟨b1, b2, b3, b4⟩, c⟩ := hS
  exact ⟨a, ⟨b1, by rw [h4]; exact b2, b3, by rw [h8]; exact b4⟩, c⟩
theorem sus_in {N F G me n T i : Nat} {cf : Nat → Nat} {start : Bool} {ac : Option Nat} {sq cu gos M Z P tr ct Mr Pr Zr st str fa r : Nat → Int32} {s : S8} (hS : SQ N F G cf sq cu gos M Z P tr ct Mr Pr Zr) (hst : ∀ c, c < 6 → st c = str c) (hme : me < 3) (hR : RS N F G me start ac n Z fa s r) (hT : r 0 = nI T) (hT31 : T < 2 ^ 31) (hi : i < 2 ^ 31) (a : Nat) {c : Nat} (hc : c < 6) : ∀ (d k : Nat), k + d = 5 → ∀ (f : Nat) (rt : Nat → Int32) (y : T13) (q : Nat), f ≤ i → y.2.2.2.1 8 = 1 →
    (∃ (f' : Nat) (rt' : Nat → Int32) (y' : T13) (q' : Nat), f' ≤ i ∧ y'.2.2.2.1 8 = 1 ∧ bq_loop (bq_u16 (bX7_suspect_31 s.1 s.2.1 (poS s) sq cu gos M Z P st a (nI i) (nI c))) (nI k, nI f, fl13 y q) = some (.inl (nI f', fl13 y' q')) ∧ ∀ R, bq_loop (bq_u3 (bX8_suspect_32 Mr ct Pr Zr r str tr)) (nI (5 * (c + 1)), nI (i - f'), rt') = some R → bq_loop (bq_u3 (bX8_suspect_32 Mr ct Pr Zr r str tr)) (nI (5 * c + k), nI (i - f), rt) = some R) ∨
    (∃ (v : Int32) (rt' : Nat → Int32) (y' : T13), y'.2.2.2.1 8 = 1 ∧ bq_loop (bq_u16 (bX7_suspect_31 s.1 s.2.1 (poS s) sq cu gos M Z P st a (nI i) (nI c))) (nI k, nI f, fl13 y q) = some (.inr (v, fl13 y' a)) ∧ bq_loop (bq_u3 (bX8_suspect_32 Mr ct Pr Zr r str tr)) (nI (5 * c + k), nI (i - f), rt) = some (.inr (v, tr, rt'))) := by
  intro d
  induction d with
  | zero =>
    intro k hk f rt y q hf hy
    have : k = 5 := by omega
    subst this
    left
    refine ⟨f, rt, y, q, hf, hy, ml_done ?_, fun R h => ?_⟩
    · show bX7_suspect_31 s.1 s.2.1 (poS s) sq cu gos M Z P st a (nI i) (nI c) (nI 5) (nI f) y.1 y.2.1 y.2.2.1 y.2.2.2.1 y.2.2.2.2.1 y.2.2.2.2.2.1 y.2.2.2.2.2.2.1 y.2.2.2.2.2.2.2.1 y.2.2.2.2.2.2.2.2.1 y.2.2.2.2.2.2.2.2.2.1 y.2.2.2.2.2.2.2.2.2.2.1 y.2.2.2.2.2.2.2.2.2.2.2.1 y.2.2.2.2.2.2.2.2.2.2.2.2 q = _
      unfold bX7_suspect_31
      rw [if_pos (by decide)]
    · rw [show 5 * (c + 1) = 5 * c + 5 by omega] at h
      exact h
  | succ d ih =>
    intro k hk f rt y q hf hy
    obtain ⟨v, rt', y', h1, h2, h3⟩ := explains_sim hS hst hme hR hT hT31 rt y hy hc (by omega : k < 5)
    have h5 : (5 : Int32) = nI 5 := rfl
    have e1 : nI (5 * c + k) / 5 = nI c := by rw [h5, pk_div (by omega) (by omega) (by omega), show (5 * c + k) / 5 = c by omega]
    have e2 : nI (5 * c + k) - nI c * 5 = nI k := by
      rw [h5, pk_mul, pk_sub (by omega), show 5 * c + k - c * 5 = k by omega]
    have hcl : bX7_suspect_31 s.1 s.2.1 (poS s) sq cu gos M Z P st a (nI i) (nI c) (nI k) (nI f) y.1 y.2.1 y.2.2.1 y.2.2.2.1 y.2.2.2.2.1 y.2.2.2.2.2.1 y.2.2.2.2.2.2.1 y.2.2.2.2.2.2.2.1 y.2.2.2.2.2.2.2.2.1 y.2.2.2.2.2.2.2.2.2.1 y.2.2.2.2.2.2.2.2.2.2.1 y.2.2.2.2.2.2.2.2.2.2.2.1 y.2.2.2.2.2.2.2.2.2.2.2.2 q = (if (if v = true then (1 : Int32) else 0) = 0 then some (.inl (nI (k + 1), nI f, fl13 y' a)) else (if nI f = nI i then some (.inr (.inr (10 * nI c + nI k, fl13 y' a))) else some (.inl (nI (k + 1), nI (f + 1), fl13 y' a)))) := by
      unfold bX7_suspect_31
      have h5' : ¬ (5 : Int32) ≤ nI k := mq_nle (a := 5) (by omega) (by omega)
      have h2' : mX7_explains s.1 s.2.1 (poS s) sq cu gos M Z P st y.1 y.2.1 y.2.2.1 y.2.2.2.1 y.2.2.2.2.1 y.2.2.2.2.2.1 y.2.2.2.2.2.2.1 y.2.2.2.2.2.2.2.1 y.2.2.2.2.2.2.2.2.1 y.2.2.2.2.2.2.2.2.2.1 y.2.2.2.2.2.2.2.2.2.2.1 y.2.2.2.2.2.2.2.2.2.2.2.1 y.2.2.2.2.2.2.2.2.2.2.2.2 (nI c) (nI k) = some (if v then 1 else 0, y'.1, y'.2.1, y'.2.2.1, y'.2.2.2.1, y'.2.2.2.2.1, y'.2.2.2.2.2.1, y'.2.2.2.2.2.2.1, y'.2.2.2.2.2.2.2.1, y'.2.2.2.2.2.2.2.2.1, y'.2.2.2.2.2.2.2.2.2.1, y'.2.2.2.2.2.2.2.2.2.2.1, y'.2.2.2.2.2.2.2.2.2.2.2.1, y'.2.2.2.2.2.2.2.2.2.2.2.2) := h2
      rw [if_neg h5', h2', me_b14, nI_1, nI_1]
      rfl
    have hrf : bX8_suspect_32 Mr ct Pr Zr r str tr (nI (5 * c + k)) (nI (i - f)) rt = (if (if v = true then (1 : Int32) else 0) = 0 then some (.inl (nI (5 * c + (k + 1)), nI (i - f), rt')) else (if nI (i - f) = 0 then some (.inr (.inr (10 * nI c + nI k, tr, rt'))) else some (.inl (nI (5 * c + (k + 1)), nI (i - f) + (-1), rt')))) := by
      unfold bX8_suspect_32
      have h30 : ¬ (30 : Int32) ≤ nI (5 * c + k) := mq_nle (a := 30) (by omega) (by omega)
      rw [if_neg h30, if_neg (nI_pos (by omega)), e1, e2, h1, me_b2, me_let, me_let, nI_1]
      rfl
    cases v with
    | false =>
      rw [if_pos (by decide)] at hcl hrf
      rcases ih (k + 1) (by omega) f rt' y' a hf h3 with ⟨f', rt'', y'', q', g1, g2, g3, g4⟩ | ⟨w, rt'', y'', g2, g3, g4⟩
      · exact Or.inl ⟨f', rt'', y'', q', g1, g2, ml_step hcl g3, fun R h => ml_step hrf (g4 R h)⟩
      · exact Or.inr ⟨w, rt'', y'', g2, ml_step hcl g3, ml_step hrf g4⟩
    | true =>
      rw [if_neg (by decide)] at hcl hrf
      by_cases hfi : f = i
      · subst hfi
        rw [if_pos rfl] at hcl
        rw [if_pos (by rw [Nat.sub_self]; rfl)] at hrf
        exact Or.inr ⟨_, rt', y', h3, ml_done hcl, ml_done hrf⟩
      · rw [if_neg (fun h9 => hfi ((nI_eq (by omega) hi).mp h9))] at hcl
        have em : nI (i - f) + (-1) = nI (i - (f + 1)) := by
          have := pk_m1 (i - (f + 1))
          rw [show i - (f + 1) + 1 = i - f by omega] at this
          exact this
        rw [if_neg (nI_ne0 (by omega) (by omega)), em] at hrf
        rcases ih (k + 1) (by omega) (f + 1) rt' y' a (by omega) h3 with ⟨f', rt'', y'', q', g1, g2, g3, g4⟩ | ⟨w, rt'', y'', g2, g3, g4⟩
        · exact Or.inl ⟨f', rt'', y'', q', g1, g2, ml_step hcl g3, fun R h => ml_step hrf (g4 R h)⟩
        · exact Or.inr ⟨w, rt'', y'', g2, ml_step hcl g3, ml_step hrf g4⟩
theorem sus_out {N F G me n T i : Nat} {cf : Nat → Nat} {start : Bool} {ac : Option Nat} {sq cu gos M Z P tr ct Mr Pr Zr st str fa r : Nat → Int32} {s : S8} (hS : SQ N F G cf sq cu gos M Z P tr ct Mr Pr Zr) (hst : ∀ c, c < 6 → st c = str c) (hme : me < 3) (hR : RS N F G me start ac n Z fa s r) (hT : r 0 = nI T) (hT31 : T < 2 ^ 31) (hi : i < 2 ^ 31) (a : Nat) : ∀ (d c : Nat), c + d = 6 → ∀ (f : Nat) (rt : Nat → Int32) (y : T13) (q : Nat), f ≤ i → y.2.2.2.1 8 = 1 →
    (∃ (rt' : Nat → Int32) (y' : T13) (q' : Nat), y'.2.2.2.1 8 = 1 ∧ bq_loop (bq_u16 (bX7_suspect_22 s.1 s.2.1 (poS s) sq cu gos M Z P st a (nI i))) (nI c, nI f, fl13 y q) = some (.inl (fl13 y' q')) ∧ bq_loop (bq_u3 (bX8_suspect_32 Mr ct Pr Zr r str tr)) (nI (5 * c), nI (i - f), rt) = some (.inl rt')) ∨
    (∃ (v : Int32) (rt' : Nat → Int32) (y' : T13), y'.2.2.2.1 8 = 1 ∧ bq_loop (bq_u16 (bX7_suspect_22 s.1 s.2.1 (poS s) sq cu gos M Z P st a (nI i))) (nI c, nI f, fl13 y q) = some (.inr (v, fl13 y' a)) ∧ bq_loop (bq_u3 (bX8_suspect_32 Mr ct Pr Zr r str tr)) (nI (5 * c), nI (i - f), rt) = some (.inr (v, tr, rt'))) := by
  intro d
  induction d with
  | zero =>
    intro c hc f rt y q hf hy
    have : c = 6 := by omega
    subst this
    left
    refine ⟨rt, y, q, hy, ml_done ?_, ml_done ?_⟩
    · show bX7_suspect_22 s.1 s.2.1 (poS s) sq cu gos M Z P st a (nI i) (nI 6) (nI f) y.1 y.2.1 y.2.2.1 y.2.2.2.1 y.2.2.2.2.1 y.2.2.2.2.2.1 y.2.2.2.2.2.2.1 y.2.2.2.2.2.2.2.1 y.2.2.2.2.2.2.2.2.1 y.2.2.2.2.2.2.2.2.2.1 y.2.2.2.2.2.2.2.2.2.2.1 y.2.2.2.2.2.2.2.2.2.2.2.1 y.2.2.2.2.2.2.2.2.2.2.2.2 q = _
      unfold bX7_suspect_22
      rw [if_pos (by decide)]
    · rw [me_u3]
      unfold bX8_suspect_32
      rw [if_pos (by decide)]
  | succ d ih =>
    intro c hc f rt y q hf hy
    have hb : ∀ o, bq_loop (bq_u16 (bX7_suspect_31 s.1 s.2.1 (poS s) sq cu gos M Z P st a (nI i) (nI c))) (nI 0, nI f, fl13 y q) = some o → bX7_suspect_22 s.1 s.2.1 (poS s) sq cu gos M Z P st a (nI i) (nI c) (nI f) y.1 y.2.1 y.2.2.1 y.2.2.2.1 y.2.2.2.2.1 y.2.2.2.2.2.1 y.2.2.2.2.2.2.1 y.2.2.2.2.2.2.2.1 y.2.2.2.2.2.2.2.2.1 y.2.2.2.2.2.2.2.2.2.1 y.2.2.2.2.2.2.2.2.2.2.1 y.2.2.2.2.2.2.2.2.2.2.2.1 y.2.2.2.2.2.2.2.2.2.2.2.2 q = (match o with | .inl x => some (.inl (nI (c + 1), x)) | .inr x => some (.inr (.inr x))) := by
      intro o ho
      unfold bX7_suspect_22
      have ho' : bq_loop (bq_u16 (bX7_suspect_31 s.1 s.2.1 (poS s) sq cu gos M Z P st a (nI i) (nI c))) (0, nI f, fl13 y q) = some o := ho
      rw [if_neg (mq_6 (by omega)), ho', me_bd, nI_1]
      cases o <;> rfl
    rcases sus_in hS hst hme hR hT hT31 hi a (by omega : c < 6) 5 0 (by omega) f rt y q hf hy with ⟨f', rt', y', q', g1, g2, g3, g4⟩ | ⟨v, rt', y', g2, g3, g4⟩
    · have hb' := hb _ g3
      rcases ih (c + 1) (by omega) f' rt' y' q' g1 g2 with ⟨rt'', y'', q'', k1, k2, k3⟩ | ⟨w, rt'', y'', k1, k2, k3⟩
      · exact Or.inl ⟨rt'', y'', q'', k1, ml_step hb' k2, g4 _ k3⟩
      · exact Or.inr ⟨w, rt'', y'', k1, ml_step hb' k2, g4 _ k3⟩
    · exact Or.inr ⟨v, rt', y', g2, ml_done (hb _ g3), g4⟩
end
