section
theorem me_b12 {α1 α2 α3 α4 α5 α6 α7 α8 α9 α10 α11 α12 β : Type} (k : α1 → α2 → α3 → α4 → α5 → α6 → α7 → α8 → α9 → α10 → α11 → α12 → Option β) (x1 : α1) (x2 : α2) (x3 : α3) (x4 : α4) (x5 : α5) (x6 : α6) (x7 : α7) (x8 : α8) (x9 : α9) (x10 : α10) (x11 : α11) (x12 : α12) : bq_b12 (some (x1, x2, x3, x4, x5, x6, x7, x8, x9, x10, x11, x12)) k = k x1 x2 x3 x4 x5 x6 x7 x8 x9 x10 x11 x12 := rfl
theorem me_b13 {α1 α2 α3 α4 α5 α6 α7 α8 α9 α10 α11 α12 α13 β : Type} (k : α1 → α2 → α3 → α4 → α5 → α6 → α7 → α8 → α9 → α10 → α11 → α12 → α13 → Option β) (x1 : α1) (x2 : α2) (x3 : α3) (x4 : α4) (x5 : α5) (x6 : α6) (x7 : α7) (x8 : α8) (x9 : α9) (x10 : α10) (x11 : α11) (x12 : α12) (x13 : α13) : bq_b13 (some (x1, x2, x3, x4, x5, x6, x7, x8, x9, x10, x11, x12, x13)) k = k x1 x2 x3 x4 x5 x6 x7 x8 x9 x10 x11 x12 x13 := rfl
theorem me_b15 {α1 α2 α3 α4 α5 α6 α7 α8 α9 α10 α11 α12 α13 α14 α15 β : Type} (k : α1 → α2 → α3 → α4 → α5 → α6 → α7 → α8 → α9 → α10 → α11 → α12 → α13 → α14 → α15 → Option β) (x1 : α1) (x2 : α2) (x3 : α3) (x4 : α4) (x5 : α5) (x6 : α6) (x7 : α7) (x8 : α8) (x9 : α9) (x10 : α10) (x11 : α11) (x12 : α12) (x13 : α13) (x14 : α14) (x15 : α15) : bq_b15 (some (x1, x2, x3, x4, x5, x6, x7, x8, x9, x10, x11, x12, x13, x14, x15)) k = k x1 x2 x3 x4 x5 x6 x7 x8 x9 x10 x11 x12 x13 x14 x15 := rfl
/-- the cells behind a trial -/
def sgT (σ : Nat → Nat → Int32) (t1 t2 t3 t4 t5 t6 t7 t8 t9 t10 tr rt : Nat → Int32) : Nat → Nat → Int32 := su (su (su (su (su (su (su (su (su (su (su (su σ 30 t1) 31 t2) 32 t3) 33 t4) 34 t5) 35 t6) 36 t7) 37 t8) 38 t9) 39 t10) 40 tr) 51 rt
theorem inv_trial {T n : Nat} {σ : Nat → Nat → Int32} (h : INV T n σ) (t1 t2 t3 t4 t5 t6 t7 t8 t9 t10 rt : Nat → Int32) (k : Int32) (h8 : t1 8 = 1) : INV T n (sgT σ t1 t2 t3 t4 t5 t6 t7 t8 t9 t10 (upd (σ 40) 3 k) rt) := by
  obtain ⟨L, me, start, h1, h2, h3, h4, h5, h6, h7, h9⟩ := h
  refine ⟨L, me, start, h1, h2, h3, h4, h5, h6, h8, ?_⟩
  rcases h9 with h | ⟨N, F, G, cf, ac, m, a, b, c, d⟩
  · exact Or.inl h
  · exact Or.inr ⟨N, F, G, cf, ac, m, a, sq_tr b rfl rfl, c, d⟩
theorem inv_str {T n : Nat} {σ : Nat → Nat → Int32} (h : INV T n σ) : (∀ c, c < 6 → σ 18 c = σ 49 c) ∧ σ 30 8 = 1 := by
  obtain ⟨L, me, start, h1, h2, h3, h4, h5, h6, h7, h9⟩ := h
  exact ⟨h5, h7⟩
theorem c_works {T n : Nat} {σ : Nat → Nat → Int32} (h : INV T n σ) (o : Nat → Int64) (x : Int32) :
    (∃ k b, tL_works (σ 11) (σ 12) (σ 13) (σ 14) (σ 16) (σ 17) (σ 18) (σ 30) (σ 31) (σ 32) (σ 33) (σ 34) (σ 35) (σ 36) (σ 37) (σ 38) (σ 39) o x = some k ∧ ¬ k = 0 ∧ mX8_works (σ 40) (σ 41) (σ 42) (σ 43) (σ 44) (σ 49) (σ 51) x = some (b, upd (σ 40) 3 k, σ 51)) ∨
    (∃ b t1 t2 t3 t4 t5 t6 t7 t8 t9 t10 o' tr' rt', mL_works (σ 11) (σ 12) (σ 13) (σ 14) (σ 16) (σ 17) (σ 18) (σ 30) (σ 31) (σ 32) (σ 33) (σ 34) (σ 35) (σ 36) (σ 37) (σ 38) (σ 39) o x = some (0, t1, t2, t3, t4, t5, t6, t7, t8, t9, t10, o') ∧ mX8_works (σ 40) (σ 41) (σ 42) (σ 43) (σ 44) (σ 49) (σ 51) x = some (b, tr', rt') ∧ tr' 3 = 0 ∧ o' 0 = (if b = 0 then 0 else 1) ∧ INV T n (sgT σ t1 t2 t3 t4 t5 t6 t7 t8 t9 t10 tr' rt')) := by
  obtain ⟨N, me, start, ac, n', hN, hn', hq, ht, hO⟩ := inv_ob h
  obtain ⟨hst, h8⟩ := inv_str h
  have hl := mr_lacks ht hN x
  rcases meth_cases x with ⟨g1, g2⟩ | ⟨c, hc, rfl, g1, g2, g3⟩
  · left
    refine ⟨1, 0, ?_, by decide, ?_⟩
    · unfold tL_works tX7_works; rw [g1]; rfl
    · unfold mX8_works
      rw [hl.1 g2, me_b2, if_neg (by decide), me_b2]; rfl
  · rcases seq_cases hq hN with ⟨h0, k1⟩ | ⟨h0, k1, k2⟩
    · left
      refine ⟨2, 0, ?_, by decide, ?_⟩
      · unfold tL_works tX7_works; rw [g1, tc_none, g2, me_bd, k1]; rfl
      · unfold mX8_works
        rw [(hl.2 g3).1 h0, me_b2, if_neg (by decide), me_b2]; rfl
    · right
      obtain ⟨F, G, cf, hS, hX⟩ := inv_step h hq hN h0
      have hS' : SQ N F G cf (σ 11) (σ 12) (σ 13) (σ 14) (σ 16) (σ 17) (upd (σ 40) 3 0) (σ 42) (σ 41) (σ 43) (σ 44) := sq_tr hS rfl rfl
      obtain ⟨v, rt', t1, t2, t3, t4, t5, t6, t7, t8, t9, t10, m1, m2, m3⟩ := measure_sim (me := c) (σ 30) (σ 31) (σ 32) (σ 33) (σ 34) (σ 35) (σ 36) (σ 37) (σ 38) (σ 39) (σ 18) (σ 51) hS' hst hc h8
      refine ⟨if v < 0 then 0 else 1, t1, t2, t3, t4, t5, t6, t7, t8, t9, t10, vp_updL o 0 (if (if v < 0 then (0 : Int32) else 1) = 0 then 0 else 1), upd (σ 40) 3 0, rt', ?_, ?_, rfl, rfl, inv_trial h t1 t2 t3 t4 t5 t6 t7 t8 t9 t10 rt' 0 m3⟩
      · unfold mL_works mX7_works
        have hcb : ∀ {β : Type} (K : Option β), bq_cb (if v < 0 then (0 : Int32) else 1) K = K := fun K => me_cb K (by by_cases hv : v < 0; exact Or.inl (if_pos hv); exact Or.inr (if_neg hv))
        rw [g2, me_bd, k2, me_bd, m2, me_b11, me_let, hcb, me_b11, me_let, me_let]
      · unfold mX8_works
        rw [(hl.2 g3).2 h0, me_b2, if_pos rfl, m1, me_b2]
        by_cases hv : v < 0
        · rw [if_pos hv, if_pos hv]; rfl
        · rw [if_neg hv, if_neg hv]; rfl
theorem c_cycleTime {T n : Nat} {σ : Nat → Nat → Int32} (h : INV T n σ) (o : Nat → Int64) (x : Int32) :
    (∃ k b, tL_cycleTime (σ 11) (σ 12) (σ 13) (σ 14) (σ 16) (σ 17) (σ 18) (σ 30) (σ 31) (σ 32) (σ 33) (σ 34) (σ 35) (σ 36) (σ 37) (σ 38) (σ 39) o x = some k ∧ ¬ k = 0 ∧ mX8_cycleTime (σ 40) (σ 41) (σ 42) (σ 43) (σ 44) (σ 49) (σ 51) x = some (b, upd (σ 40) 3 k, σ 51)) ∨
    (∃ b t1 t2 t3 t4 t5 t6 t7 t8 t9 t10 o' tr' rt', mL_cycleTime (σ 11) (σ 12) (σ 13) (σ 14) (σ 16) (σ 17) (σ 18) (σ 30) (σ 31) (σ 32) (σ 33) (σ 34) (σ 35) (σ 36) (σ 37) (σ 38) (σ 39) o x = some (0, t1, t2, t3, t4, t5, t6, t7, t8, t9, t10, o') ∧ mX8_cycleTime (σ 40) (σ 41) (σ 42) (σ 43) (σ 44) (σ 49) (σ 51) x = some (b, tr', rt') ∧ tr' 3 = 0 ∧ o' 0 = Int32.toInt64 b ∧ INV T n (sgT σ t1 t2 t3 t4 t5 t6 t7 t8 t9 t10 tr' rt')) := by
  obtain ⟨N, me, start, ac, n', hN, hn', hq, ht, hO⟩ := inv_ob h
  obtain ⟨hst, h8⟩ := inv_str h
  have hl := mr_lacks ht hN x
  rcases meth_cases x with ⟨g1, g2⟩ | ⟨c, hc, rfl, g1, g2, g3⟩
  · left
    refine ⟨1, 0, ?_, by decide, ?_⟩
    · unfold tL_cycleTime tX7_cycleTime; rw [g1]; rfl
    · unfold mX8_cycleTime
      rw [hl.1 g2, me_b2, if_neg (by decide), me_b2]
  · rcases seq_cases hq hN with ⟨h0, k1⟩ | ⟨h0, k1, k2⟩
    · left
      refine ⟨2, 0, ?_, by decide, ?_⟩
      · unfold tL_cycleTime tX7_cycleTime; rw [g1, tc_none, g2, me_bd, k1]; rfl
      · unfold mX8_cycleTime
        rw [(hl.2 g3).1 h0, me_b2, if_neg (by decide), me_b2]
    · right
      obtain ⟨F, G, cf, hS, hX⟩ := inv_step h hq hN h0
      have hS' : SQ N F G cf (σ 11) (σ 12) (σ 13) (σ 14) (σ 16) (σ 17) (upd (σ 40) 3 0) (σ 42) (σ 41) (σ 43) (σ 44) := sq_tr hS rfl rfl
      obtain ⟨v, rt', t1, t2, t3, t4, t5, t6, t7, t8, t9, t10, m1, m2, m3⟩ := measure_sim (me := c) (σ 30) (σ 31) (σ 32) (σ 33) (σ 34) (σ 35) (σ 36) (σ 37) (σ 38) (σ 39) (σ 18) (σ 51) hS' hst hc h8
      refine ⟨v, t1, t2, t3, t4, t5, t6, t7, t8, t9, t10, vp_updL o 0 (Int32.toInt64 v), upd (σ 40) 3 0, rt', ?_, ?_, rfl, rfl, inv_trial h t1 t2 t3 t4 t5 t6 t7 t8 t9 t10 rt' 0 m3⟩
      · unfold mL_cycleTime mX7_cycleTime
        rw [g2, me_bd, k2, me_bd, m2, me_b11, me_b11, me_let]
      · unfold mX8_cycleTime
        rw [(hl.2 g3).2 h0, me_b2, if_pos rfl, m1, me_b2, me_b2]
abbrev T10 := (Nat → Int32) × (Nat → Int32) × (Nat → Int32) × (Nat → Int32) × (Nat → Int32) × (Nat → Int32) × (Nat → Int32) × (Nat → Int32) × (Nat → Int32) × (Nat → Int32)
abbrev fl10 (y : T10) (q : Nat) := (y.1, y.2.1, y.2.2.1, y.2.2.2.1, y.2.2.2.2.1, y.2.2.2.2.2.1, y.2.2.2.2.2.2.1, y.2.2.2.2.2.2.2.1, y.2.2.2.2.2.2.2.2.1, y.2.2.2.2.2.2.2.2.2, q)
theorem cheap_loop {N F G : Nat} {cf : Nat → Nat} {sq cu gos M Z P tr ct Mr Pr Zr st str : Nat → Int32} (hS : SQ N F G cf sq cu gos M Z P tr ct Mr Pr Zr) (hM : ∀ i, i < N → ∀ c, c < 6 → bt (M i) c = true → ∃ j, j < N ∧ bt (P j) c = true) (hst : ∀ c, c < 6 → st c = str c) (a : Nat) : ∀ (d m : Nat) (best : Option Nat) (fw : Int32) (rt : Nat → Int32) (y : T10) (q : Nat), m + d = 3 → (∀ x, best = some x → x < 3 ∧ fw = sp_vs P N G x) → y.1 8 = 1 →
    ∃ v rt' y' q', bq_loop (bq_u14 (bX7_cheapest_10 sq cu gos M Z P st a)) (nI m, fw, sp_ai best, fl10 y q) = some (v, fl10 y' q') ∧ bq_loop (bq_u3 (bX8_cheapest_22 Mr ct Pr Zr str tr)) (nI m, sp_ai best, rt) = some (v, rt') ∧ y'.1 8 = 1 := by
  have hN := hS.1.1.2
  have h0 := hS.1.1.1
  have hcp := hS.1.2.1
  have hvs : ∀ x, sp_vs Pr N G x = sp_vs P N G x := fun x => by
    unfold sp_vs
    rw [sp_or_congr (on := fun _ => true) (on' := fun _ => true) (P := Pr) (P' := P) N (fun i hi => ⟨rfl, (hcp i hi).1⟩)]
  intro d
  induction d with
  | zero =>
    intro m best fw rt y q hm hb hy
    have h3 : m = 3 := by omega
    subst h3
    refine ⟨sp_ai best, rt, y, q, ml_done ?_, ml_done ?_, hy⟩
    · show bX7_cheapest_10 sq cu gos M Z P st a (nI 3) fw (sp_ai best) y.1 y.2.1 y.2.2.1 y.2.2.2.1 y.2.2.2.2.1 y.2.2.2.2.2.1 y.2.2.2.2.2.2.1 y.2.2.2.2.2.2.2.1 y.2.2.2.2.2.2.2.2.1 y.2.2.2.2.2.2.2.2.2 q = _
      unfold bX7_cheapest_10
      rw [if_pos (by decide)]
    · rw [me_u3]
      unfold bX8_cheapest_22
      rw [if_pos (by decide)]
  | succ d ih =>
    intro m best fw rt y q hm hb hy
    obtain ⟨v, rt', t1, t2, t3, t4, t5, t6, t7, t8, t9, t10, m1, m2, m3⟩ := measure_sim (me := m) (y.1) (y.2.1) (y.2.2.1) (y.2.2.2.1) (y.2.2.2.2.1) (y.2.2.2.2.2.1) (y.2.2.2.2.2.2.1) (y.2.2.2.2.2.2.2.1) (y.2.2.2.2.2.2.2.2.1) (y.2.2.2.2.2.2.2.2.2) st rt hS hst (by omega) hy
    have h3 : ¬ (3 : Int32) ≤ nI m := mq_nle (a := 3) (by omega) (by omega)
    have hv1 := me_valves (me := m) hS.2.1.1 hS.2.1.2.2.1 hN (by omega) hS.1.2.2.2.1 hM
    have hv2 := mr_valves (P := Pr) (me := m) hS.2.1.2.1 hS.2.1.2.2.2 hN (by omega)
    rw [hvs m] at hv2
    have hrf : bX8_cheapest_22 Mr ct Pr Zr str tr (nI m) (sp_ai best) rt = bq_bd (if v < 0 then (some (sp_ai best)) else (if sp_ai best < 0 then (some (nI m)) else (bq_bd (mX8_valvesOf tr Pr (nI m)) (fun v10 => bq_bd (mX8_valvesOf tr Pr (sp_ai best)) (fun v11 => if v11 ≤ v10 then (some (sp_ai best)) else (some (nI m)))))) : Option (Int32)) (fun v9 => some (.inl (nI (m + 1), v9, rt'))) := by
      unfold bX8_cheapest_22
      rw [if_neg h3, m1, me_b2, nI_1]
      rfl
    have hnone : sp_ai none < 0 := by decide
    cases best with
    | none =>
      have hcl : bX7_cheapest_10 sq cu gos M Z P st a (nI m) fw (sp_ai none) y.1 y.2.1 y.2.2.1 y.2.2.2.1 y.2.2.2.2.1 y.2.2.2.2.2.1 y.2.2.2.2.2.2.1 y.2.2.2.2.2.2.2.1 y.2.2.2.2.2.2.2.2.1 y.2.2.2.2.2.2.2.2.2 q = (if v < 0 then some (.inl (nI (m + 1), fw, sp_ai none, fl10 (t1, t2, t3, t4, t5, t6, t7, t8, t9, t10) a)) else some (.inl (nI (m + 1), sp_vs P N G m, nI m, fl10 (t1, t2, t3, t4, t5, t6, t7, t8, t9, t10) a))) := by
        unfold bX7_cheapest_10
        rw [if_neg h3, hv1, me_bd, if_pos hnone, m2, me_b11, nI_1]
        by_cases hv : v < 0
        · rw [if_pos hv, if_pos hv, me_b13]; rfl
        · rw [if_neg hv, if_neg hv, me_b13]; rfl
      by_cases hv : v < 0
      · rw [if_pos hv] at hcl
        rw [if_pos hv, me_bd] at hrf
        obtain ⟨w, rt2, y2, q2, g1, g2, g3⟩ := ih (m + 1) none fw rt' (t1, t2, t3, t4, t5, t6, t7, t8, t9, t10) a (by omega) hb m3
        exact ⟨w, rt2, y2, q2, ml_step hcl g1, ml_step hrf g2, g3⟩
      · rw [if_neg hv] at hcl
        rw [if_neg hv, if_pos hnone, me_bd] at hrf
        obtain ⟨w, rt2, y2, q2, g1, g2, g3⟩ := ih (m + 1) (some m) (sp_vs P N G m) rt' (t1, t2, t3, t4, t5, t6, t7, t8, t9, t10) a (by omega) (fun x hx => by cases hx; exact ⟨by omega, rfl⟩) m3
        exact ⟨w, rt2, y2, q2, ml_step hcl g1, ml_step hrf g2, g3⟩
    | some x =>
      obtain ⟨x1, x2⟩ := hb x rfl
      have hsx : sp_ai (some x) = nI x := rfl
      have hnn : ¬ sp_ai (some x) < 0 := by rw [hsx]; exact nI_pos (by omega)
      have hvx := mr_valves (P := Pr) (me := x) hS.2.1.2.1 hS.2.1.2.2.2 hN x1
      rw [hvs x] at hvx
      rw [if_neg hnn, hv2, me_bd, hsx, hvx, me_bd, ← x2] at hrf
      have hcl : bX7_cheapest_10 sq cu gos M Z P st a (nI m) fw (nI x) y.1 y.2.1 y.2.2.1 y.2.2.2.1 y.2.2.2.2.1 y.2.2.2.2.2.1 y.2.2.2.2.2.2.1 y.2.2.2.2.2.2.2.1 y.2.2.2.2.2.2.2.2.1 y.2.2.2.2.2.2.2.2.2 q = (if fw ≤ sp_vs P N G m then some (.inl (nI (m + 1), fw, nI x, fl10 y q)) else (if v < 0 then some (.inl (nI (m + 1), fw, nI x, fl10 (t1, t2, t3, t4, t5, t6, t7, t8, t9, t10) a)) else some (.inl (nI (m + 1), sp_vs P N G m, nI m, fl10 (t1, t2, t3, t4, t5, t6, t7, t8, t9, t10) a)))) := by
        unfold bX7_cheapest_10
        rw [if_neg h3, hv1, me_bd, if_neg (nI_pos (by omega)), m2, me_b11, nI_1]
        by_cases hf : fw ≤ sp_vs P N G m
        · rw [if_pos hf, if_pos hf, me_b13]; rfl
        · rw [if_neg hf, if_neg hf]
          by_cases hv : v < 0
          · rw [if_pos hv, if_pos hv, me_b13]; rfl
          · rw [if_neg hv, if_neg hv, me_b13]; rfl
      by_cases hf : fw ≤ sp_vs P N G m
      · rw [if_pos hf] at hcl
        rw [if_pos hf, ite_self, me_bd] at hrf
        obtain ⟨w, rt2, y2, q2, g1, g2, g3⟩ := ih (m + 1) (some x) fw rt' y q (by omega) hb hy
        exact ⟨w, rt2, y2, q2, ml_step hcl g1, ml_step hrf g2, g3⟩
      · rw [if_neg hf] at hcl hrf
        by_cases hv : v < 0
        · rw [if_pos hv] at hcl
          rw [if_pos hv, me_bd] at hrf
          obtain ⟨w, rt2, y2, q2, g1, g2, g3⟩ := ih (m + 1) (some x) fw rt' (t1, t2, t3, t4, t5, t6, t7, t8, t9, t10) a (by omega) hb m3
          exact ⟨w, rt2, y2, q2, ml_step hcl g1, ml_step hrf g2, g3⟩
        · rw [if_neg hv] at hcl
          rw [if_neg hv, me_bd] at hrf
          obtain ⟨w, rt2, y2, q2, g1, g2, g3⟩ := ih (m + 1) (some m) (sp_vs P N G m) rt' (t1, t2, t3, t4, t5, t6, t7, t8, t9, t10) a (by omega) (fun x hx => by cases hx; exact ⟨by omega, rfl⟩) m3
          exact ⟨w, rt2, y2, q2, ml_step hcl g1, ml_step hrf g2, g3⟩
theorem c_cheapest {T n : Nat} {σ : Nat → Nat → Int32} (h : INV T n σ) (o : Nat → Int64) (q a : Nat) :
    (∃ k b, tL_cheapest q a (σ 11) (σ 12) (σ 13) (σ 14) (σ 16) (σ 17) (σ 18) (σ 30) (σ 31) (σ 32) (σ 33) (σ 34) (σ 35) (σ 36) (σ 37) (σ 38) (σ 39) o = some k ∧ ¬ k = 0 ∧ mX8_cheapest (σ 40) (σ 41) (σ 42) (σ 43) (σ 44) (σ 49) (σ 51) = some (b, upd (σ 40) 3 k, σ 51)) ∨
    (∃ b t1 t2 t3 t4 t5 t6 t7 t8 t9 t10 o' q' tr' rt', mL_cheapest q a (σ 11) (σ 12) (σ 13) (σ 14) (σ 16) (σ 17) (σ 18) (σ 30) (σ 31) (σ 32) (σ 33) (σ 34) (σ 35) (σ 36) (σ 37) (σ 38) (σ 39) o = some (0, t1, t2, t3, t4, t5, t6, t7, t8, t9, t10, o', q') ∧ mX8_cheapest (σ 40) (σ 41) (σ 42) (σ 43) (σ 44) (σ 49) (σ 51) = some (b, tr', rt') ∧ tr' 3 = 0 ∧ o' 0 = Int32.toInt64 b ∧ INV T n (sgT σ t1 t2 t3 t4 t5 t6 t7 t8 t9 t10 tr' rt')) := by
  obtain ⟨N, me, start, ac, n', hN, hn', hq, ht, hO⟩ := inv_ob h
  obtain ⟨hst, h8⟩ := inv_str h
  rcases seq_cases hq hN with ⟨h0, k1⟩ | ⟨h0, k1, k2⟩
  · left
    subst h0
    refine ⟨1, 0, ?_, by decide, ?_⟩
    · unfold tL_cheapest tX7_cheapest; rw [k1]; rfl
    · unfold mX8_cheapest
      have ht' : upd (σ 40) 3 0 4 = 0 := ht
      rw [me_let, if_pos ht', mr_fails]; rfl
  · right
    obtain ⟨F, G, cf, hS, hX⟩ := inv_step h hq hN h0
    have hS' : SQ N F G cf (σ 11) (σ 12) (σ 13) (σ 14) (σ 16) (σ 17) (upd (σ 40) 3 0) (σ 42) (σ 41) (σ 43) (σ 44) := sq_tr hS rfl rfl
    obtain ⟨v, rt', y, q', g1, g2, g3⟩ := cheap_loop hS' hX.2 hst a 3 0 none 0 (σ 51) (σ 30, σ 31, σ 32, σ 33, σ 34, σ 35, σ 36, σ 37, σ 38, σ 39) q (by omega) (fun x hx => by cases hx) h8
    have g1' : bq_loop (bq_u14 (bX7_cheapest_10 (σ 11) (σ 12) (σ 13) (σ 14) (σ 16) (σ 17) (σ 18) a)) (0, 0, -1, σ 30, σ 31, σ 32, σ 33, σ 34, σ 35, σ 36, σ 37, σ 38, σ 39, q) = some (v, fl10 y q') := g1
    have g2' : bq_loop (bq_u3 (bX8_cheapest_22 (σ 41) (σ 42) (σ 43) (σ 44) (σ 49) (upd (σ 40) 3 0))) (0, -1, σ 51) = some (v, rt') := g2
    refine ⟨v, y.1, y.2.1, y.2.2.1, y.2.2.2.1, y.2.2.2.2.1, y.2.2.2.2.2.1, y.2.2.2.2.2.2.1, y.2.2.2.2.2.2.2.1, y.2.2.2.2.2.2.2.2.1, y.2.2.2.2.2.2.2.2.2, vp_updL o 0 (Int32.toInt64 v), q', upd (σ 40) 3 0, rt', ?_, ?_, rfl, rfl, inv_trial h _ _ _ _ _ _ _ _ _ _ rt' 0 g3⟩
    · unfold mL_cheapest mX7_cheapest
      rw [k2, me_bd, g1', me_b12, me_b12, me_let]
    · unfold mX8_cheapest
      have ht' : ¬ upd (σ 40) 3 0 4 = 0 := by rw [mu_n _ _ (by omega), ht]; exact nI_ne0 h0 (by omega)
      rw [me_let, if_neg ht', g2', me_b2]
theorem c_effect {T n : Nat} {σ : Nat → Nat → Int32} (h : INV T n σ) (o : Nat → Int64) (x y z : Int32) :
    (∃ k b, tL_effect (σ 4) (σ 11) (σ 12) (σ 13) (σ 14) (σ 16) (σ 17) (σ 18) (σ 30) (σ 31) (σ 32) (σ 33) (σ 34) (σ 35) (σ 36) (σ 37) (σ 38) (σ 39) o x y z = some k ∧ ¬ k = 0 ∧ mX8_effect (σ 40) (σ 41) (σ 42) (σ 43) (σ 44) (σ 48) (σ 49) (σ 51) x y z = some (b, upd (σ 40) 3 k, σ 51)) ∨
    (∃ b t1 t2 t3 t4 t5 t6 t7 t8 t9 t10 o' tr' rt', mL_effect (σ 4) (σ 11) (σ 12) (σ 13) (σ 14) (σ 16) (σ 17) (σ 18) (σ 30) (σ 31) (σ 32) (σ 33) (σ 34) (σ 35) (σ 36) (σ 37) (σ 38) (σ 39) o x y z = some (0, t1, t2, t3, t4, t5, t6, t7, t8, t9, t10, o') ∧ mX8_effect (σ 40) (σ 41) (σ 42) (σ 43) (σ 44) (σ 48) (σ 49) (σ 51) x y z = some (b, tr', rt') ∧ tr' 3 = 0 ∧ o' 0 = Int32.toInt64 b ∧ INV T n (sgT σ t1 t2 t3 t4 t5 t6 t7 t8 t9 t10 tr' rt')) := by
  obtain ⟨N, me9, start, ac, n', hN, hn', hq, ht, hO⟩ := inv_ob h
  obtain ⟨hst, h8⟩ := inv_str h
  obtain ⟨me, start0, k1, k2, k3, _⟩ := inv_me h
  rcases cyl_cases x with ⟨g1, g2⟩ | ⟨c, hc, rfl, g1, g2, g3⟩
  · left
    refine ⟨1, 0, ?_, by decide, ?_⟩
    · unfold tL_effect tX7_effect; rw [g1]; rfl
    · unfold mX8_effect
      rw [me_let, g2, me_bd, if_pos rfl, mr_fails]; rfl
  · rcases kind_cases y with ⟨i1, i2⟩ | ⟨k, hk, rfl, i1, i2, i3⟩
    · left
      refine ⟨2, 0, ?_, by decide, ?_⟩
      · unfold tL_effect tX7_effect; rw [g1, tc_none, g2, me_bd, i1]; rfl
      · unfold mX8_effect
        rw [me_let, g3, me_bd, if_neg (by decide), i2, me_bd, if_pos rfl, mr_fails]; rfl
    · rcases rng (x := z) (n := 2001) (by omega) (by omega) with ⟨h1, h2⟩ | ⟨m, hm, rfl, h2, h3, h4, h5⟩
      · left
        have hin : mX8_in z 0 2000 = some 0 := in_rng (n := 2001) h1
        refine ⟨2, 0, ?_, by decide, ?_⟩
        · unfold tL_effect tX7_effect
          rw [g1, tc_none, g2, me_bd, i1, tc_none, i2, me_bd]
          by_cases hx : z < 0
          · rw [if_pos hx]; rfl
          · have h9' : ¬ z ≤ (2000 : Int32) := fun h9 => h1 ⟨Int32.not_lt.mp hx, h9⟩
            rw [if_neg hx, if_neg h9']; rfl
        · unfold mX8_effect
          rw [me_let, g3, me_bd, if_neg (by decide), i3, me_bd, if_neg (by decide), hin, me_bd, if_pos rfl, mr_fails]; rfl
      · have hin : mX8_in (nI m) 0 2000 = some 1 := in_rng1 (n := 2001) h4 h5
        have h5' : nI m ≤ (2000 : Int32) := h5
        rcases seq_cases hq hN with ⟨h0, j1⟩ | ⟨h0, j1, j2⟩
        · left
          subst h0
          refine ⟨3, 0, ?_, by decide, ?_⟩
          · unfold tL_effect tX7_effect
            rw [g1, tc_none, g2, me_bd, i1, tc_none, i2, me_bd, if_neg h2, if_pos h5', j1]; rfl
          · unfold mX8_effect
            have ht' : upd (σ 40) 3 0 4 = 0 := ht
            rw [me_let, g3, me_bd, if_neg (by decide), i3, me_bd, if_neg (by decide), hin, me_bd, if_neg (by decide), if_pos ht', mr_fails]; rfl
        · right
          obtain ⟨F, G, cf, hS, hX⟩ := inv_step h hq hN h0
          have hS' : SQ N F G cf (σ 11) (σ 12) (σ 13) (σ 14) (σ 16) (σ 17) (upd (σ 40) 3 0) (σ 42) (σ 41) (σ 43) (σ 44) := sq_tr hS rfl rfl
          have hq9 : sp_fOK (some (c, k)) := fun c' k' h => by cases h; exact ⟨hc, hk⟩
          have hTS := trial_rs (σ 30) (σ 31) (σ 32) (σ 33) (σ 34) (σ 35) (σ 36) (σ 37) (σ 39) (σ 51) hS' k1 h8 hq9
          have hst' : ∀ c, c < 6 → va_cpy (σ 18) (σ 38) 0 0 6 c = σ 49 c := fun c hc => by rw [va_cpy6 _ _ hc]; exact hst c hc
          obtain ⟨s', r', n2, ac2, e1, e2, e3, e4, e5⟩ := simT hS' hst' hTS m (by omega)
          have hrun := run_itr hS' hst' hTS (m := m) (by omega) (by omega)
          rw [e1] at hrun
          have hrun' : mX3_run (sp_trest (σ 30)) (sp_cir (upd (upd (σ 31) 0 (nI me)) 1 (sp_ai (sp_ac0 me N G))) 0 0 0) (sp_ff (σ 32) (some (c, k))) (sp_lrest (σ 33)) (σ 34) (σ 35) (sp_put (σ 36) (fun _ => 0) 0 6) (sp_srest (σ 37) (nI F) (σ 17 F) (σ 14 F)) (σ 11) (σ 12) (σ 13) (σ 14) (σ 16) (σ 17) (va_cpy (σ 18) (σ 38) 0 0 6) (sp_put (σ 39) (fun _ => 0) 0 16) (nI m) = some (s'.1, s'.2.1, s'.2.2.1, s'.2.2.2.1, s'.2.2.2.2.1, s'.2.2.2.2.2.1, s'.2.2.2.2.2.2.1, s'.2.2.2.2.2.2.2) := hrun
          have htr := mr_tries0 (str := σ 49) (rt := σ 51) hS' k1 hq9 (nI m) 0
          rw [mr_tries_n (by omega) e2, me_bd] at htr
          have htr' : mX8_tries (upd (σ 40) 3 0) (σ 41) (σ 42) (σ 43) (σ 44) (σ 49) (σ 51) (nI me) (nI c) (nI k) (nI m) 0 = some r' := htr
          have s5 : s'.2.2.2.2.2.2.1 0 = r' 5 := e4.1.2.2.2.2.2.2.1
          have s8 : s'.1 8 = 1 := e4.1.1.1
          refine ⟨r' 5, s'.1, s'.2.1, sp_ff (σ 32) (some (c, k)), s'.2.2.1, s'.2.2.2.1, s'.2.2.2.2.1, s'.2.2.2.2.2.1, s'.2.2.2.2.2.2.1, va_cpy (σ 18) (σ 38) 0 0 6, s'.2.2.2.2.2.2.2, vp_updL o 0 (Int32.toInt64 (r' 5)), upd (σ 40) 3 0, r', ?_, ?_, rfl, rfl, inv_trial h _ _ _ _ _ _ _ _ _ _ r' 0 s8⟩
          · unfold mL_effect mX7_effect
            rw [g2, me_bd, i2, me_bd, if_neg h2, if_pos h5', j2, me_bd, k2, me_copy _ _ _ _ _ _ _ _ _ hS' k1, me_b8, me_putFault _ hc hk, me_bd, hrun', me_b8, me_b11, me_let, s5]
          · unfold mX8_effect
            have ht' : ¬ upd (σ 40) 3 0 4 = 0 := by rw [mu_n _ _ (by omega), ht]; exact nI_ne0 h0 (by omega)
            rw [me_let, g3, me_bd, if_neg (by decide), i3, me_bd, if_neg (by decide), hin, me_bd, if_neg (by decide), if_neg ht', k3, htr', me_bd]
/-- the cells behind a search for a fault -/
def sgS (σ : Nat → Nat → Int32) (s1 s2 s3 t1 t2 t3 t4 t5 t6 t7 t8 t9 t10 tr rt : Nat → Int32) : Nat → Nat → Int32 := sgT (su (su (su σ 20 s1) 21 s2) 22 s3) t1 t2 t3 t4 t5 t6 t7 t8 t9 t10 tr rt
theorem inv_snap {T n : Nat} {σ : Nat → Nat → Int32} (h : INV T n σ) (s1 s2 s3 : Nat → Int32) : INV T n (su (su (su σ 20 s1) 21 s2) 22 s3) := h
theorem c_suspect {T n : Nat} {σ : Nat → Nat → Int32} (h : INV T n σ) (hT31 : T < 2 ^ 31) (o : Nat → Int64) (q a : Nat) (x : Int32) :
    (∃ k b, tL_suspect q a (σ 3) (σ 4) (σ 9) (σ 11) (σ 12) (σ 13) (σ 14) (σ 16) (σ 17) (σ 18) (σ 20) (σ 21) (σ 22) (σ 30) (σ 31) (σ 32) (σ 33) (σ 34) (σ 35) (σ 36) (σ 37) (σ 38) (σ 39) o x = some k ∧ ¬ k = 0 ∧ mX8_suspect (σ 40) (σ 41) (σ 42) (σ 43) (σ 44) (σ 48) (σ 49) (σ 51) x = some (b, upd (σ 40) 3 k, σ 51)) ∨
    (∃ b s1 s2 s3 t1 t2 t3 t4 t5 t6 t7 t8 t9 t10 o' q' tr' rt', mL_suspect q a (σ 3) (σ 4) (σ 9) (σ 11) (σ 12) (σ 13) (σ 14) (σ 16) (σ 17) (σ 18) (σ 20) (σ 21) (σ 22) (σ 30) (σ 31) (σ 32) (σ 33) (σ 34) (σ 35) (σ 36) (σ 37) (σ 38) (σ 39) o x = some (0, s1, s2, s3, t1, t2, t3, t4, t5, t6, t7, t8, t9, t10, o', q') ∧ mX8_suspect (σ 40) (σ 41) (σ 42) (σ 43) (σ 44) (σ 48) (σ 49) (σ 51) x = some (b, tr', rt') ∧ tr' 3 = 0 ∧ o' 0 = Int32.toInt64 b ∧ INV T n (sgS σ s1 s2 s3 t1 t2 t3 t4 t5 t6 t7 t8 t9 t10 tr' rt')) := by
  obtain ⟨N0, me9, start9, ac9, n9, hN, hn9, hq, ht, hO⟩ := inv_ob h
  obtain ⟨hst, h8⟩ := inv_str h
  by_cases hx : 0 ≤ x
  · obtain ⟨i, hi, rfl⟩ := nI_of (Int32.not_lt.mpr hx)
    rcases seq_cases hq hN with ⟨h0, j1⟩ | ⟨h0, j1, j2⟩
    · left
      subst h0
      refine ⟨2, 0, ?_, by decide, ?_⟩
      · unfold tL_suspect tX7_suspect
        rw [if_pos hx, j1]; rfl
      · unfold mX8_suspect
        have ht' : upd (σ 40) 3 0 4 = 0 := ht
        rw [me_let, if_pos hx, if_pos ht', mr_fails]; rfl
    · right
      have h' := h
      obtain ⟨L, me, start, hT, k1, k3, k4, k5, ⟨T', k6, k6'⟩, k7, k8⟩ := h
      rcases k8 with ⟨z, _⟩ | ⟨N, F, G, cf, ac, n', z, b, c, d⟩
      · rw [hq] at z
        exact absurd z (nI_ne0 h0 (by omega))
      · have hS' : SQ N F G cf (σ 11) (σ 12) (σ 13) (σ 14) (σ 16) (σ 17) (upd (σ 40) 3 0) (σ 42) (σ 41) (σ 43) (σ 44) := sq_tr b rfl rfl
        have hRS : RS N F G me start ac n' (σ 16) (σ 5) (σ 3, σ 4, σ 6, σ 7, σ 8, σ 9, σ 10, σ 19) (σ 48) := d
        have ht' : ¬ upd (σ 40) 3 0 4 = 0 := by rw [mu_n _ _ (by omega), ht]; exact nI_ne0 h0 (by omega)
        have hso := sus_out hS' hst k4 hRS k6' (by omega) hi a 6 0 (by omega) 0 (σ 51) (σ 20, σ 21, σ 22, σ 30, σ 31, σ 32, σ 33, σ 34, σ 35, σ 36, σ 37, σ 38, σ 39) q (by omega) h8
        rcases hso with ⟨rt', y, q', g1, g2, g3⟩ | ⟨v, rt', y, g1, g2, g3⟩
        · have g2' : bq_loop (bq_u16 (bX7_suspect_22 (σ 3) (σ 4) (σ 9) (σ 11) (σ 12) (σ 13) (σ 14) (σ 16) (σ 17) (σ 18) a (nI i))) (0, 0, σ 20, σ 21, σ 22, σ 30, σ 31, σ 32, σ 33, σ 34, σ 35, σ 36, σ 37, σ 38, σ 39, q) = some (.inl (fl13 y q')) := g2
          have g3' : bq_loop (bq_u3 (bX8_suspect_32 (σ 41) (σ 42) (σ 43) (σ 44) (σ 48) (σ 49) (upd (σ 40) 3 0))) (0, nI i, σ 51) = some (.inl rt') := g3
          refine ⟨-1, y.1, y.2.1, y.2.2.1, y.2.2.2.1, y.2.2.2.2.1, y.2.2.2.2.2.1, y.2.2.2.2.2.2.1, y.2.2.2.2.2.2.2.1, y.2.2.2.2.2.2.2.2.1, y.2.2.2.2.2.2.2.2.2.1, y.2.2.2.2.2.2.2.2.2.2.1, y.2.2.2.2.2.2.2.2.2.2.2.1, y.2.2.2.2.2.2.2.2.2.2.2.2, vp_updL o 0 (Int32.toInt64 (-1)), q', upd (σ 40) 3 0, rt', ?_, ?_, rfl, rfl, inv_trial (inv_snap h' _ _ _) _ _ _ _ _ _ _ _ _ _ rt' 0 g1⟩
          · unfold mL_suspect mX7_suspect
            rw [if_pos hx, j2, me_bd, g2', me_bd]
            rfl
          · unfold mX8_suspect
            rw [me_let, if_pos hx, if_neg ht', g3', me_bd]
            rfl
        · have g2' : bq_loop (bq_u16 (bX7_suspect_22 (σ 3) (σ 4) (σ 9) (σ 11) (σ 12) (σ 13) (σ 14) (σ 16) (σ 17) (σ 18) a (nI i))) (0, 0, σ 20, σ 21, σ 22, σ 30, σ 31, σ 32, σ 33, σ 34, σ 35, σ 36, σ 37, σ 38, σ 39, q) = some (.inr (v, fl13 y a)) := g2
          have g3' : bq_loop (bq_u3 (bX8_suspect_32 (σ 41) (σ 42) (σ 43) (σ 44) (σ 48) (σ 49) (upd (σ 40) 3 0))) (0, nI i, σ 51) = some (.inr (v, upd (σ 40) 3 0, rt')) := g3
          refine ⟨v, y.1, y.2.1, y.2.2.1, y.2.2.2.1, y.2.2.2.2.1, y.2.2.2.2.2.1, y.2.2.2.2.2.2.1, y.2.2.2.2.2.2.2.1, y.2.2.2.2.2.2.2.2.1, y.2.2.2.2.2.2.2.2.2.1, y.2.2.2.2.2.2.2.2.2.2.1, y.2.2.2.2.2.2.2.2.2.2.2.1, y.2.2.2.2.2.2.2.2.2.2.2.2, vp_updL o 0 (Int32.toInt64 v), a, upd (σ 40) 3 0, rt', ?_, ?_, rfl, rfl, inv_trial (inv_snap h' _ _ _) _ _ _ _ _ _ _ _ _ _ rt' 0 g1⟩
          · unfold mL_suspect mX7_suspect
            rw [if_pos hx, j2, me_bd, g2', me_bd]
            rfl
          · unfold mX8_suspect
            rw [me_let, if_pos hx, if_neg ht', g3', me_bd]
            rfl
  · left
    refine ⟨1, 0, ?_, by decide, ?_⟩
    · unfold tL_suspect tX7_suspect
      rw [if_neg hx]; rfl
    · unfold mX8_suspect
      rw [me_let, if_neg hx, mr_fails]; rfl
end
