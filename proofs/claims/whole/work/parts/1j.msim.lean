/-- a sequence with steps in the class (sq cu gos M Z P) and in the reference (tr ct Mr Pr Zr) -/
def SQ (N F G : Nat) (cf : Nat → Nat) (sq cu gos M Z P tr ct Mr Pr Zr : Nat → Int32) : Prop := VS N F P M Z Pr Mr Zr ∧ (sq 0 = nI N ∧ tr 4 = nI N ∧ sq 5 = nI G ∧ tr 8 = nI G) ∧ (0 < G ∧ G ≤ 16) ∧ (∀ g, g < G → cu g = nI (cf g) ∧ ct g = nI (cf g) ∧ cf g < N) ∧ (∀ t', t' 8 = nI G → ∀ i, i < N → mX8_groupFor t' ct (nI i) = some (gos i)) ∧ (∃ J x, x < 6 ∧ bt (P F) x = true ∧ F < J ∧ J < N ∧ bt (M J) x = true)
def EL (n : Nat) (lg mv tm r : Nat → Int32) : Prop := (lg 2 = nI n ∧ r 4 = nI n ∧ lg 3 = nI (min n 40) ∧ lg 4 = nI (n % 40)) ∧ (∀ k, k < 40 → k < n → tm ((k + 1) % 40) = r (60 + k) ∧ mv ((k + 1) % 40) = r (100 + k))
/-- what calls show of a rig -/
def OB (N me : Nat) (start : Bool) (ac : Option Nat) (n : Nat) (t cir lg mv tm po sc fa ti r : Nat → Int32) : Prop := (t 8 = (if start then 1 else 0) ∧ r 2 = (if start then 1 else 0)) ∧ (t 10 = r 0 ∧ r 10 = t 10 - t 11) ∧ (cir 0 = nI me ∧ r 1 = nI me ∧ cir 1 = sp_ai ac ∧ r 3 = sp_ai ac) ∧ (∀ c, c < 6 → r (20 + c) = po c ∧ r (26 + c) = (if bt (t 9) c then 1 else 0) ∧ r (32 + c) = sp_cmd (bt (cir 2) c) (bt (cir 3) c) ∧ ∀ k, k < 5 → bt (r (38 + c)) k = bt (fa k) c) ∧ (∀ i, i < N → r (44 + i) = ti i ∧ ∃ z, z ≤ 60 ∧ ti i = nI z) ∧ EL n lg mv tm r ∧ (sc 0 = r 5 ∧ sc 1 = r 9 ∧ ∀ c, c < 32 → bt (t 9) c = true → c < 6)
/-- a rig with a sequence against the reference's row -/
def RR (N F G me : Nat) (start : Bool) (ac : Option Nat) (n : Nat) (Z t cir lg mv tm po sc fa ti r : Nat → Int32) : Prop := OB N me start ac n t cir lg mv tm po sc fa ti r ∧ AV me N G ac ∧ ER N F n Z lg mv tm sc r
theorem tk_t8 (t : Nat → Int32) (out : Int32) (b1 b2 b3 b4 : Bool) : tk_t t out b1 b2 b3 b4 8 = t 8 := by
  unfold tk_t
  cases (b1 || b2) <;> rfl
theorem tk_t9 (t : Nat → Int32) (out : Int32) (b1 b2 b3 b4 : Bool) : tk_t t out b1 b2 b3 b4 9 = out := by
  unfold tk_t
  cases (b1 || b2) <;> rfl
theorem tk_t10 (t : Nat → Int32) (out : Int32) (b1 b2 b3 b4 : Bool) : tk_t t out b1 b2 b3 b4 10 = t 10 + 1 := by
  unfold tk_t
  cases (b1 || b2) <;> rfl
theorem tk_t11 (t : Nat → Int32) (out : Int32) (b1 b2 b3 b4 : Bool) : tk_t t out b1 b2 b3 b4 11 = if (b1 || b2) = true then t 10 + 1 else t 11 := by
  unfold tk_t
  cases (b1 || b2) <;> rfl
theorem tk_t12 (t : Nat → Int32) (out : Int32) (b1 b2 b3 b4 : Bool) : tk_t t out b1 b2 b3 b4 12 = if (!b1 && !b2 && !b3 && !b4) = true then 1 else 0 := rfl
theorem mq_timer {z : Nat} (hz : z ≤ 60) (b : Bool) : (if b then (if (60 : Int32) < nI z + 1 then 60 else nI z + 1) else 0) = (if b then (if (60 : Int32) ≤ nI z then 60 else nI z + 1) else 0) ∧ ∃ y, y ≤ 60 ∧ (if b then (if (60 : Int32) < nI z + 1 then 60 else nI z + 1) else 0) = nI y := by
  have h60 : (60 : Int32) = nI 60 := rfl
  cases b
  · simp only [Bool.false_eq_true, if_false]
    exact ⟨trivial, 0, by omega, nI_0.symm⟩
  · simp only [if_true]
    rw [nI_1, h60]
    by_cases h : 60 < z + 1
    · rw [if_pos ((nI_ltI (by omega) (by omega)).mpr h), if_pos ((nI_leI (by omega) (by omega)).mpr (by omega))]
      exact ⟨rfl, 60, Nat.le_refl _, rfl⟩
    · rw [if_neg (fun h9 => h ((nI_ltI (by omega) (by omega)).mp h9)), if_neg (fun h9 => absurd ((nI_leI (by omega) (by omega)).mp h9) (by omega))]
      exact ⟨rfl, z + 1, by omega, rfl⟩
theorem tick_sim {N F G me n : Nat} {cf : Nat → Nat} {start : Bool} {ac : Option Nat} {sq cu gos M Z P tr ct Mr Pr Zr t cir lg mv tm po sc fa st ti str r : Nat → Int32} (hS : SQ N F G cf sq cu gos M Z P tr ct Mr Pr Zr) (hst : ∀ c, c < 6 → st c = str c) (hR : RR N F G me start ac n Z t cir lg mv tm po sc fa ti r) (hn : n + 7 < 2 ^ 31) {on : Nat → Bool} {ac' : Option Nat} (hon : sp_on me N G gos cf (tk_cm fa po st P M Z ti) start ac = on) (hac : sp_nac me N G cf (tk_cm fa po st P M Z ti) start ac = ac') :
    ∃ lg' mv' tm' sc' r' n', mX3_makeTick t cir fa lg mv tm po sc sq cu gos M Z P st ti = some (tk_t t (sp_out (sp_or on P N) (sp_or on M N) (t 9)) (decide (¬ sp_sh (sp_or on P N) (sp_or on M N) (t 9) = 0)) (tk_mv fa po st (sp_out (sp_or on P N) (sp_or on M N) (t 9))) (tk_ct N ti (tk_x on Z N)) (decide (¬ sp_ai ac' = sp_ai ac)), tk_c cir P M Z on N ac ac', lg', mv', tm', tk_po fa po st (sp_out (sp_or on P N) (sp_or on M N) (t 9)), sc', tk_ti N ti (tk_x on Z N)) ∧ mX8_ticksOnce tr Mr ct Pr Zr str r = some r' ∧ n' ≤ n + 6 ∧ RR N F G me start ac' n' Z (tk_t t (sp_out (sp_or on P N) (sp_or on M N) (t 9)) (decide (¬ sp_sh (sp_or on P N) (sp_or on M N) (t 9) = 0)) (tk_mv fa po st (sp_out (sp_or on P N) (sp_or on M N) (t 9))) (tk_ct N ti (tk_x on Z N)) (decide (¬ sp_ai ac' = sp_ai ac))) (tk_c cir P M Z on N ac ac') lg' mv' tm' (tk_po fa po st (sp_out (sp_or on P N) (sp_or on M N) (t 9))) sc' fa (tk_ti N ti (tk_x on Z N)) r' ∧ ((r' 9 = r 9 ∧ r' 11 = r 11 ∧ r' 12 = r 12) ∨ (r' 9 = r 9 + 1 ∧ r' 11 = (if r 9 + 1 = 1 then r 0 else r 11) ∧ r' 12 = (if r 9 + 1 = 2 then r 0 else r 12) ∧ r 6 = 0)) ∧ (r 6 = 1 → r' 6 = 1) ∧ (sp_sh (sp_or on P N) (sp_or on M N) (t 9) = 0 → lg' = lg ∧ mv' = mv ∧ tm' = tm ∧ sc' = sc) := by
  obtain ⟨hV, ⟨hq, ht, hqg, htg⟩, ⟨hG0, hG⟩, hcu, hgf, J, x, hx, hxP, hFJ, hJN, hxM⟩ := hS
  have hV0 := hV
  obtain ⟨⟨h0, hN⟩, hcp, hZ, hbits, hdis, hF, hF3, hF4⟩ := hV
  obtain ⟨⟨⟨t8, r2⟩, ⟨t10, r10⟩, ⟨c0, r1, c1, r3⟩, hcy, hti, _, _, _, ho6⟩, hA, hE⟩ := hR
  have hdr : ∀ i, i < N → ∀ c, c < 6 → ¬ (bt (Pr i) c = true ∧ bt (Mr i) c = true) := fun i hi c hc => by rw [(hcp i hi).1, (hcp i hi).2.1]; exact hdis i hi c hc
  -- completion is read alike
  have hcm : ∀ i, i < N → tk_cm fa po st P M Z ti i = sp_rcm Pr Mr Zr str r i := fun i hi => by
    unfold tk_cm sp_rcm
    refine cm_congr (hcp i hi).1.symm (hcp i hi).2.1.symm (hcp i hi).2.2.symm (hti i hi).1.symm (fun c hc => ?_) (fun c hc => ?_)
    · exact sn_rs (hcy c hc).1 (hst c hc) (hcy c hc).2.2.2 true
    · exact sn_rs (hcy c hc).1 (hst c hc) (hcy c hc).2.2.2 false
  obtain ⟨hon2, hac2⟩ := on_congr (gos := gos) (gos' := gos) (start := start) h0 hA (fun g hg => (hcu g hg).2.2) (fun i _ => rfl) hcm
  rw [hon] at hon2
  rw [hac] at hac2
  have hdec := mr_decides (st := str) (Zr := Zr) (gos := gos) ht h0 hN htg hG hdr r2 hA r1 r3 (fun g hg => ⟨(hcu g hg).2.1, (hcu g hg).2.2⟩) (hgf tr htg)
  rw [← hac2] at hdec
  have hX : ∀ i, i < N → bt (sp_bits (sp_on me N G gos cf (sp_rcm Pr Mr Zr str r) start ac) N) i = on i := fun i hi => by
    rw [sp_bits_bt _ _ (by omega) _ (by omega), decide_eq_true hi, Bool.true_and, hon2 i hi]
  generalize sp_bits (sp_on me N G gos cf (sp_rcm Pr Mr Zr str r) start ac) N = X at hdec hX
  -- the valves
  have hE2 : ER N F n Z lg mv tm sc (upd r 3 (sp_ai ac')) := er_frame hE (fun k hk => mu_n _ _ (by omega))
  obtain ⟨lg', mv', tm', sc', r', g1, g2, ⟨⟨n', hn', gE⟩, gfr, gv, gc, gct, gct6⟩, g4⟩ := mv_shift (J := J) (x := x) (tt := t) (t := tr) (out := t 9) (on := on) (X := X) hV0 hx hxP hFJ hJN hxM hq ht hE2 hn hX (by rw [mu_n _ _ (by omega)]; exact t10) (fun c hc => by rw [mu_n _ _ (by omega)]; exact (hcy c hc).2.1)
  have hmk := me_tick (t := t) (fa := fa) (po := po) (st := st) (ti := ti) (cu := cu) (cf := cf) (gos := gos) (start := start) (ac := ac) hq h0 hN hqg hG (fun g hg => ⟨(hcu g hg).1, (hcu g hg).2.2⟩) hbits hA c0 c1 t8 hon hac g1
  generalize hpl : sp_or on P N = pl at *
  generalize hmi : sp_or on M N = mi at *
  have gk : ∀ k, (k < 4 ∨ k = 10 ∨ (13 ≤ k ∧ k < 26) ∨ (38 ≤ k ∧ k < 60)) → k ≠ 3 → r' k = r k := fun k hk h3 => by rw [gfr k hk, mu_n _ _ h3]
  -- pistons
  have hgoal : ∀ c, c < 6 → (if r' (26 + c) = 1 then str c else 0) = (if bt (sp_out pl mi (t 9)) c then st c else 0) := fun c hc => by
    rw [gv c hc, if_pos hc, hst c hc]
    cases bt (sp_out pl mi (t 9)) c <;> rfl
  have hfa0 : ∀ c, c < 6 → bt (r' (38 + c)) 0 = bt (fa 0) c := fun c hc => by rw [gk _ (by omega) (by omega)]; exact (hcy c hc).2.2.2 0 (by omega)
  have hpo : ∀ c, c < 6 → r' (20 + c) = po c := fun c hc => by rw [gk _ (by omega) (by omega)]; exact (hcy c hc).1
  have hpis := mr_pistons str r' (decide (¬ sp_sh pl mi (t 9) = 0))
  have hmv : sp_any (fun c => sp_mv (r' (20 + c)) (if r' (26 + c) = 1 then str c else 0) (bt (r' (38 + c)) 0)) 6 = tk_mv fa po st (sp_out pl mi (t 9)) := by
    unfold tk_mv
    exact sp_any_congr 6 (fun c hc => by rw [hpo c hc, hgoal c hc, hfa0 c hc])
  rw [hmv] at hpis
  generalize hr1 : sp_put r' (fun c => r' (20 + c) + sp_by (r' (20 + c)) (if r' (26 + c) = 1 then str c else 0) (bt (r' (38 + c)) 0)) 20 6 = r1' at hpis
  have r1in : ∀ c, c < 6 → r1' (20 + c) = tk_po fa po st (sp_out pl mi (t 9)) c := fun c hc => by
    rw [← hr1, sp_put_in _ _ hc]
    have := sp_put_in po (fun c => po c + sp_by (po c) (if bt (sp_out pl mi (t 9)) c then st c else 0) (bt (fa 0) c)) (a := 0) hc
    rw [Nat.zero_add] at this
    unfold tk_po
    rw [this, hpo c hc, hgoal c hc, hfa0 c hc]
  have r1out : ∀ k, (k < 20 ∨ 26 ≤ k) → r1' k = r' k := fun k hk => by rw [← hr1, sp_put_out _ _ (by omega)]
  -- timers
  have htim := mr_timers (Z := Zr) (r := r1') ht hN X
  generalize hr2 : sp_put r1' (fun i => if (decide (¬ Zr i ≤ 0) && bt X i) = true then (if 60 ≤ r1' (44 + i) then 60 else r1' (44 + i) + 1) else 0) 44 N = r2' at htim
  have r2out : ∀ k, (k < 44 ∨ 60 ≤ k) → r2' k = r1' k := fun k hk => by rw [← hr2, sp_put_out _ _ (by omega)]
  have hxb : ∀ i, i < N → bt (tk_x on Z N) i = (decide (¬ Zr i ≤ 0) && bt X i) := fun i hi => by
    unfold tk_x
    rw [sp_bits_bt _ _ (by omega) _ (by omega), decide_eq_true hi, Bool.true_and, hX i hi, (hcp i hi).2.2, Bool.and_comm]
  have r2in : ∀ i, i < N → r2' (44 + i) = tk_ti N ti (tk_x on Z N) i ∧ ∃ z, z ≤ 60 ∧ tk_ti N ti (tk_x on Z N) i = nI z := fun i hi => by
    obtain ⟨hte, z, hz, htz⟩ := hti i hi
    have e1 : r1' (44 + i) = nI z := by rw [r1out _ (by omega), gk _ (by omega) (by omega), hte, htz]
    have := sp_put_in ti (fun i => if bt (tk_x on Z N) i then (if 60 < ti i + 1 then 60 else ti i + 1) else 0) (a := 0) hi
    rw [Nat.zero_add] at this
    obtain ⟨f1, y, f2, f3⟩ := mq_timer hz (bt (tk_x on Z N) i)
    refine ⟨?_, y, f2, ?_⟩
    · rw [← hr2, sp_put_in _ _ hi]
      unfold tk_ti
      rw [this, e1, htz, ← hxb i hi, f1]
    · unfold tk_ti
      rw [this, htz]
      exact f3
  -- the tick of the reference
  have htick : mX8_ticksOnce tr Mr ct Pr Zr str r = some (upd (upd r2' 0 (r2' 0 + 1)) 10 (if (if (decide (¬ sp_sh pl mi (t 9) = 0) || tk_mv fa po st (sp_out pl mi (t 9))) = true then (1 : Int32) else 0) = 0 then r2' 10 + 1 else 0)) := by
    unfold mX8_ticksOnce
    have ev : (if sp_sh pl mi (t 9) = 0 then (0 : Int32) else 1) = if decide (¬ sp_sh pl mi (t 9) = 0) = true then 1 else 0 := by
      by_cases h : sp_sh pl mi (t 9) = 0
      · rw [if_pos h, if_neg (by simpa using h)]
      · rw [if_neg h, if_pos (by simpa using h)]
    rw [hdec, me_b2, g2, me_b2, ev, hpis, me_b2, htim, me_bd, me_let, me_let, me_let, mu_n _ _ (by omega : 10 ≠ 0)]
  have q0 : r2' 0 = r 0 := by rw [r2out _ (by omega), r1out _ (by omega), gk _ (by omega) (by omega)]
  have q10 : r2' 10 = r 10 := by rw [r2out _ (by omega), r1out _ (by omega), gk _ (by omega) (by omega)]
  rw [q0, q10] at htick
  generalize hb12 : (decide (¬ sp_sh pl mi (t 9) = 0) || tk_mv fa po st (sp_out pl mi (t 9))) = b12 at htick
  have q10' : (upd (upd r2' 0 (r 0 + 1)) 10 (if (if b12 = true then (1 : Int32) else 0) = 0 then r 10 + 1 else 0)) 10 = if b12 = true then 0 else r 10 + 1 := by
    rw [mu_s]
    cases b12 <;> rfl
  have q0' : (upd (upd r2' 0 (r 0 + 1)) 10 (if (if b12 = true then (1 : Int32) else 0) = 0 then r 10 + 1 else 0)) 0 = r 0 + 1 := by rw [mu_n _ _ (by omega), mu_s]
  have qk : ∀ k, k ≠ 0 → k ≠ 10 → (upd (upd r2' 0 (r 0 + 1)) 10 (if (if b12 = true then (1 : Int32) else 0) = 0 then r 10 + 1 else 0)) k = r2' k := fun k h1 h2 => by rw [mu_n _ _ h2, mu_n _ _ h1]
  generalize (upd (upd r2' 0 (r 0 + 1)) 10 (if (if b12 = true then (1 : Int32) else 0) = 0 then r 10 + 1 else 0)) = rf at htick q10' q0' qk
  have qlo : ∀ k, (k < 20 ∨ 60 ≤ k) → k ≠ 0 → k ≠ 10 → rf k = r' k := fun k h h1 h2 => by rw [qk k h1 h2, r2out k (by omega), r1out k (by omega)]
  have hEf : ER N F n' Z lg' mv' tm' sc' rf := er_frame gE (fun k hk => qlo k (by omega) (by omega) (by omega))
  refine ⟨lg', mv', tm', sc', rf, n', hmk, htick, by omega, ⟨⟨⟨?_, ?_⟩, ⟨?_, ?_⟩, ⟨?_, ?_, ?_, ?_⟩, fun c hc => ⟨?_, ?_, ?_, fun k hk => ?_⟩, fun i hi => ?_, ⟨hEf.1, hEf.2.1⟩, hEf.2.2.1.1, hEf.2.2.1.2.1, ?_⟩, by rw [← hac]; exact av_nac h0 hA, hEf⟩, ?_, ?_, g4⟩
  · rw [tk_t8]; exact t8
  · rw [qlo 2 (by omega) (by omega) (by omega), gk _ (by omega) (by omega)]; exact r2
  · rw [tk_t10, q0', t10]
  · rw [tk_t10, tk_t11, hb12, q10']
    cases b12
    · simp only [Bool.false_eq_true, if_false]
      rw [r10]
      apply Int32.toBitVec_inj.mp
      simp only [Int32.toBitVec_add, Int32.toBitVec_sub]
      bv_omega
    · simp only [if_true]
      rw [Int32.sub_self]
  · exact c0
  · rw [qlo 1 (by omega) (by omega) (by omega), gk _ (by omega) (by omega)]; exact r1
  · rfl
  · rw [qlo 3 (by omega) (by omega) (by omega), gfr 3 (by omega), mu_s]
  · rw [qk _ (by omega) (by omega), r2out _ (by omega)]; exact r1in c hc
  · rw [qk _ (by omega) (by omega), r2out _ (by omega), r1out _ (by omega), gv c hc, if_pos hc, tk_t9]
  · rw [qk _ (by omega) (by omega), r2out _ (by omega), r1out _ (by omega), gc c hc]
    show _ = sp_cmd (bt (sp_or on P N) c) (bt (sp_or on M N) c)
    rw [hpl, hmi]
  · rw [qk _ (by omega) (by omega), r2out _ (by omega), r1out _ (by omega), gk _ (by omega) (by omega)]
    exact (hcy c hc).2.2.2 k hk
  · rw [qk _ (by omega) (by omega)]
    exact r2in i hi
  · intro c hc hb
    rw [tk_t9, sp_out_bt _ _ _ hc] at hb
    cases hp : bt pl c
    · rw [hp] at hb
      cases ho : bt (t 9) c
      · rw [ho] at hb
        simp at hb
      · exact ho6 c hc ho
    · rw [← hpl] at hp
      exact sp_or_6 (on := on) (fun i hi c hc h => hbits i hi c hc (Or.inl h)) c hc hp
  · have u9 : upd r 3 (sp_ai ac') 9 = r 9 := rfl
    have u11 : upd r 3 (sp_ai ac') 11 = r 11 := rfl
    have u12 : upd r 3 (sp_ai ac') 12 = r 12 := rfl
    have u0 : upd r 3 (sp_ai ac') 0 = r 0 := rfl
    have u6 : upd r 3 (sp_ai ac') 6 = r 6 := rfl
    rw [u9, u11, u12, u0, u6] at gct
    rw [qlo 9 (by omega) (by omega) (by omega), qlo 11 (by omega) (by omega) (by omega), qlo 12 (by omega) (by omega) (by omega)]
    rcases gct with h | ⟨h1, h2, h3, _, h5⟩
    · exact Or.inl h
    · exact Or.inr ⟨h1, h2, h3, h5⟩
  · intro h
    rw [qlo 6 (by omega) (by omega) (by omega)]
    exact gct6 h
