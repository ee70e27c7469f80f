section
abbrev poS (s : S8) : Nat → Int32 := s.2.2.2.2.2.1
abbrev tiS (s : S8) : Nat → Int32 := s.2.2.2.2.2.2.2
/-- two states whose next ticks are alike -/
def CE (N : Nat) (s s2 : S8) : Prop := s.1 9 = s2.1 9 ∧ s.2.1 1 = s2.2.1 1 ∧ (∀ c, c < 6 → poS s c = poS s2 c) ∧ ∀ i, i < N → tiS s i = tiS s2 i
/-- a trial's state -/
def TS (N F G me : Nat) (Z fa : Nat → Int32) (m : Nat) (s : S8) (r : Nat → Int32) : Prop := ∃ ac n, RS N F G me true ac n Z fa s r ∧ n ≤ 6 * m ∧ (me = 0 → ac = none)
theorem nac_0 {N G : Nat} {cf : Nat → Nat} {cm : Nat → Bool} {start : Bool} : sp_nac 0 N G cf cm start none = none := by
  unfold sp_nac
  rw [if_pos rfl]
theorem ts_step {N F G me m : Nat} {cf : Nat → Nat} {sq cu gos M Z P tr ct Mr Pr Zr fa st str r : Nat → Int32} {s : S8} (hS : SQ N F G cf sq cu gos M Z P tr ct Mr Pr Zr) (hst : ∀ c, c < 6 → st c = str c) (hm : m < 10000) (h : TS N F G me Z fa m s r) :
    ∃ s' r', mk8 fa sq cu gos M Z P st s = some s' ∧ mX8_ticksOnce tr Mr ct Pr Zr str r = some r' ∧ TS N F G me Z fa (m + 1) s' r' := by
  obtain ⟨ac, n, hR, hn, h0⟩ := h
  obtain ⟨s', r', n', h1, h2, h3, h4, _⟩ := sim1 hS hst hR (by omega)
  refine ⟨s', r', h1, h2, _, n', h4, by omega, ?_⟩
  intro hme
  subst hme
  unfold acS
  rw [h0 rfl, nac_0]
theorem ce_tick {N F G me m m2 : Nat} {cf : Nat → Nat} {sq cu gos M Z P tr ct Mr Pr Zr fa st str r r2 : Nat → Int32} {s s2 s' s2' : S8} (hS : SQ N F G cf sq cu gos M Z P tr ct Mr Pr Zr) (hst : ∀ c, c < 6 → st c = str c) (hm : m < 10000) (hm2 : m2 < 10000) (h : TS N F G me Z fa m s r) (h2 : TS N F G me Z fa m2 s2 r2) (he : CE N s s2) (hs : mk8 fa sq cu gos M Z P st s = some s') (hs2 : mk8 fa sq cu gos M Z P st s2 = some s2') : CE N s' s2' := by
  obtain ⟨ac, n, hR, hn, h0⟩ := h
  obtain ⟨ac2, n2, hR2, hn2, h02⟩ := h2
  obtain ⟨t', r', n', g1, g2, g3, g4, g5, g6⟩ := sim1 hS hst hR (by omega)
  obtain ⟨t2', r2', n2', k1, k2, k3, k4, k5, k6⟩ := sim1 hS hst hR2 (by omega)
  rw [hs] at g1
  rw [hs2] at k1
  obtain rfl := Option.some.inj g1
  obtain rfl := Option.some.inj k1
  have hS0 := hS
  obtain ⟨⟨⟨hN0, hN⟩, hcp, hZ, hbits, hdis, hF⟩, _, ⟨hG0, hG⟩, hcu, _⟩ := hS
  obtain ⟨e1, e2, e3, e4⟩ := he
  have hA := hR.2.1
  have hA2 := hR2.2.1
  have hacac : ac = ac2 := by
    by_cases hme : me = 0
    · rw [h0 hme, h02 hme]
    · have a1 : s.2.1 1 = sp_ai ac := hR.1.2.2.1.2.2.1
      have a2 : s2.2.1 1 = sp_ai ac2 := hR2.1.2.2.1.2.2.1
      exact sp_ai_inj (av_16 (ac' := none) hN hG hA hme) (av_16 (ac' := none) hN hG hA2 hme) (by rw [← a1, ← a2, e2])
  subst hacac
  have hcm : ∀ i, i < N → tk_cm fa (poS s) st P M Z (tiS s) i = tk_cm fa (poS s2) st P M Z (tiS s2) i := fun i hi => by
    unfold tk_cm
    exact cm_congr rfl rfl rfl (e4 i hi) (fun c hc => sn_congr (e3 c hc) true) (fun c hc => sn_congr (e3 c hc) false)
  obtain ⟨hon, hac'⟩ := on_congr (gos := gos) (gos' := gos) (start := true) hN0 hA (fun g hg => (hcu g hg).2.2) (fun i _ => rfl) hcm
  obtain ⟨x1, x2, x3, x4, x5⟩ := g6
  obtain ⟨y1, y2, y3, y4, y5⟩ := k6
  have hou : ouS N M P (onS N G me cf true ac fa gos M Z P st s) s = ouS N M P (onS N G me cf true ac fa gos M Z P st s2) s2 := by
    unfold ouS
    rw [e1, sp_or_congr (on := onS N G me cf true ac fa gos M Z P st s) (on' := onS N G me cf true ac fa gos M Z P st s2) (P := P) (P' := P) N (fun i hi => ⟨hon i hi, rfl⟩), sp_or_congr (on := onS N G me cf true ac fa gos M Z P st s) (on' := onS N G me cf true ac fa gos M Z P st s2) (P := M) (P' := M) N (fun i hi => ⟨hon i hi, rfl⟩)]
  have hx : tk_x (onS N G me cf true ac fa gos M Z P st s) Z N = tk_x (onS N G me cf true ac fa gos M Z P st s2) Z N := by
    unfold tk_x
    exact sp_bits_congr N (fun i hi => by show (sp_on _ _ _ _ _ _ _ _ i && _) = (sp_on _ _ _ _ _ _ _ _ i && _); rw [hon i hi])
  refine ⟨?_, ?_, fun c hc => ?_, fun i hi => ?_⟩
  · rw [x1, y1, tk_t9, tk_t9, hou]
  · have a1 : s'.2.1 1 = sp_ai (acS N G me cf true ac fa M Z P st s) := g4.1.2.2.1.2.2.1
    have a2 : s2'.2.1 1 = sp_ai (acS N G me cf true ac fa M Z P st s2) := k4.1.2.2.1.2.2.1
    rw [a1, a2]
    unfold acS
    rw [hac']
  · show s'.2.2.2.2.2.1 c = s2'.2.2.2.2.2.1 c
    rw [x3, y3, ← hou]
    unfold tk_po
    have p1 := sp_put_in (s.2.2.2.2.2.1) (fun c => s.2.2.2.2.2.1 c + sp_by (s.2.2.2.2.2.1 c) (if bt (ouS N M P (onS N G me cf true ac fa gos M Z P st s) s) c then st c else 0) (bt (fa 0) c)) (a := 0) hc
    have p2 := sp_put_in (s2.2.2.2.2.2.1) (fun c => s2.2.2.2.2.2.1 c + sp_by (s2.2.2.2.2.2.1 c) (if bt (ouS N M P (onS N G me cf true ac fa gos M Z P st s) s) c then st c else 0) (bt (fa 0) c)) (a := 0) hc
    rw [Nat.zero_add] at p1 p2
    have e := e3 c hc
    have e' : s.2.2.2.2.2.1 c = s2.2.2.2.2.2.1 c := e
    rw [p1, p2, e']
  · show s'.2.2.2.2.2.2.2 i = s2'.2.2.2.2.2.2.2 i
    rw [x4, y4, ← hx]
    unfold tk_ti
    have p1 := sp_put_in (s.2.2.2.2.2.2.2) (fun i => if bt (tk_x (onS N G me cf true ac fa gos M Z P st s) Z N) i then (if 60 < s.2.2.2.2.2.2.2 i + 1 then 60 else s.2.2.2.2.2.2.2 i + 1) else 0) (a := 0) hi
    have p2 := sp_put_in (s2.2.2.2.2.2.2.2) (fun i => if bt (tk_x (onS N G me cf true ac fa gos M Z P st s) Z N) i then (if 60 < s2.2.2.2.2.2.2.2 i + 1 then 60 else s2.2.2.2.2.2.2.2 i + 1) else 0) (a := 0) hi
    rw [Nat.zero_add] at p1 p2
    have e' : s.2.2.2.2.2.2.2 i = s2.2.2.2.2.2.2.2 i := e4 i hi
    rw [p1, p2, e']
/-- the states of a trial, by their number -/
noncomputable def sts (fa sq cu gos M Z P st : Nat → Int32) (s0 : S8) (m : Nat) : S8 := (itr (mk8 fa sq cu gos M Z P st) m s0).getD s0
theorem sts_all {N F G me : Nat} {cf : Nat → Nat} {sq cu gos M Z P tr ct Mr Pr Zr fa st str r0 : Nat → Int32} {s0 : S8} (hS : SQ N F G cf sq cu gos M Z P tr ct Mr Pr Zr) (hst : ∀ c, c < 6 → st c = str c) (h : TS N F G me Z fa 0 s0 r0) : ∀ m, m ≤ 10000 → itr (mk8 fa sq cu gos M Z P st) m s0 = some (sts fa sq cu gos M Z P st s0 m) ∧ ∃ r, itr (mX8_ticksOnce tr Mr ct Pr Zr str) m r0 = some r ∧ TS N F G me Z fa m (sts fa sq cu gos M Z P st s0 m) r := by
  intro m
  induction m with
  | zero => intro _; exact ⟨rfl, r0, rfl, h⟩
  | succ m ih =>
    intro hm
    obtain ⟨h1, r, h2, h3⟩ := ih (by omega)
    obtain ⟨s', r', g1, g2, g3⟩ := ts_step hS hst (by omega) h3
    have e : itr (mk8 fa sq cu gos M Z P st) (m + 1) s0 = some s' := by rw [itr_s h1, g1]
    have e2 : sts fa sq cu gos M Z P st s0 (m + 1) = s' := by unfold sts; rw [e]; rfl
    rw [e2]
    exact ⟨e, r', by rw [itr_s h2, g2], g3⟩
theorem sts_next {N F G me : Nat} {cf : Nat → Nat} {sq cu gos M Z P tr ct Mr Pr Zr fa st str r0 : Nat → Int32} {s0 : S8} (hS : SQ N F G cf sq cu gos M Z P tr ct Mr Pr Zr) (hst : ∀ c, c < 6 → st c = str c) (h : TS N F G me Z fa 0 s0 r0) {m : Nat} (hm : m < 10000) : mk8 fa sq cu gos M Z P st (sts fa sq cu gos M Z P st s0 m) = some (sts fa sq cu gos M Z P st s0 (m + 1)) := by
  obtain ⟨h1, _⟩ := sts_all hS hst h m (by omega)
  obtain ⟨h2, _⟩ := sts_all hS hst h (m + 1) (by omega)
  rw [itr_s h1] at h2
  exact h2
theorem ce_many {N F G me : Nat} {cf : Nat → Nat} {sq cu gos M Z P tr ct Mr Pr Zr fa st str r0 : Nat → Int32} {s0 : S8} (hS : SQ N F G cf sq cu gos M Z P tr ct Mr Pr Zr) (hst : ∀ c, c < 6 → st c = str c) (h : TS N F G me Z fa 0 s0 r0) {a b : Nat} (he : CE N (sts fa sq cu gos M Z P st s0 a) (sts fa sq cu gos M Z P st s0 b)) : ∀ m, a + m ≤ 10000 → b + m ≤ 10000 → CE N (sts fa sq cu gos M Z P st s0 (a + m)) (sts fa sq cu gos M Z P st s0 (b + m)) := by
  intro m
  induction m with
  | zero => intro _ _; exact he
  | succ m ih =>
    intro h1 h2
    obtain ⟨_, r, _, g1⟩ := sts_all hS hst h (a + m) (by omega)
    obtain ⟨_, r2, _, g2⟩ := sts_all hS hst h (b + m) (by omega)
    exact ce_tick hS hst (by omega) (by omega) g1 g2 (ih (by omega) (by omega)) (sts_next hS hst h (by omega)) (sts_next hS hst h (by omega))
theorem ce_refl (N : Nat) (s : S8) : CE N s s := ⟨rfl, rfl, fun _ _ => rfl, fun _ _ => rfl⟩
theorem ce_trans {N : Nat} {a b c : S8} (h1 : CE N a b) (h2 : CE N b c) : CE N a c := ⟨h1.1.trans h2.1, h1.2.1.trans h2.2.1, fun k hk => (h1.2.2.1 k hk).trans (h2.2.2.1 k hk), fun k hk => (h1.2.2.2 k hk).trans (h2.2.2.2 k hk)⟩
theorem ce_symm {N : Nat} {a b : S8} (h1 : CE N a b) : CE N b a := ⟨h1.1.symm, h1.2.1.symm, fun k hk => (h1.2.2.1 k hk).symm, fun k hk => (h1.2.2.2 k hk).symm⟩
/-- whole periods may be left out -/
theorem ce_period {N F G me : Nat} {cf : Nat → Nat} {sq cu gos M Z P tr ct Mr Pr Zr fa st str r0 : Nat → Int32} {s0 : S8} (hS : SQ N F G cf sq cu gos M Z P tr ct Mr Pr Zr) (hst : ∀ c, c < 6 → st c = str c) (h : TS N F G me Z fa 0 s0 r0) {a k : Nat} (he : CE N (sts fa sq cu gos M Z P st s0 a) (sts fa sq cu gos M Z P st s0 (a + k))) (r : Nat) : ∀ q, a + r + q * k ≤ 10000 → CE N (sts fa sq cu gos M Z P st s0 (a + r)) (sts fa sq cu gos M Z P st s0 (a + r + q * k)) := by
  intro q
  induction q with
  | zero => intro _; rw [Nat.zero_mul]; exact ce_refl _ _
  | succ q ih =>
    intro hq
    have e : (q + 1) * k = q * k + k := Nat.succ_mul q k
    rw [e] at hq ⊢
    have := ce_many hS hst h he (r + q * k) (by omega) (by omega)
    refine ce_trans (ih (by omega)) ?_
    have e1 : a + (r + q * k) = a + r + q * k := by omega
    have e2 : a + k + (r + q * k) = a + r + (q * k + k) := by omega
    rw [e1, e2] at this
    exact this
end
