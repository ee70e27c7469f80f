section
/-- a snapshot of a state -/
def SN (sn sp sm : Nat → Int32) (s : S8) : Prop := sn 2 = s.1 9 ∧ sn 3 = s.2.1 1 ∧ (∀ c, c < 6 → sp c = poS s c) ∧ ∀ i, i < 16 → sm i = tiS s i
theorem me_take (sn sp sm : Nat → Int32) (s : S8) : ∃ sn' sp' sm', mX6_take sn sp sm s.1 s.2.1 (poS s) (tiS s) = some (sn', sp', sm') ∧ SN sn' sp' sm' s := by
  refine ⟨_, _, _, rfl, ?_, ?_, fun c hc => ?_, fun i hi => ?_⟩
  · rw [mu_n _ _ (by omega), mu_s]
  · rw [mu_s]
  · exact va_cpy6 _ _ hc
  · exact va_cpy6 _ _ hi
theorem me_all_loop {b : Int32 → Int32 → Option ((Int32 × Int32) ⊕ Int32)} {f g : Nat → Int32} {n : Nat} (hn : n < 100) (he : ∀ v, b (nI n) v = some (.inr v)) (h0 : ∀ j, j < n → b (nI j) 0 = some (.inr 0)) (h1 : ∀ j, j < n → b (nI j) 1 = some (.inl (nI (j + 1), if f j = g j then 1 else 0))) :
    ∀ (d j : Nat) (v : Int32), j + d = n → (v = 0 ∨ v = 1) → ∃ w, bq_loop (bq_u2 b) (nI j, v) = some w ∧ (w = 0 ∨ w = 1) ∧ (¬ w = 0 → ¬ v = 0 ∧ ∀ i, j ≤ i → i < n → f i = g i) := by
  intro d
  induction d with
  | zero =>
    intro j v hj hv
    have : j = n := by omega
    subst this
    exact ⟨v, ml_done (he v), hv, fun h => ⟨h, fun i h1 h2 => by omega⟩⟩
  | succ d ih =>
    intro j v hj hv
    rcases hv with rfl | rfl
    · exact ⟨0, ml_done (h0 j (by omega)), Or.inl rfl, fun h => absurd rfl h⟩
    · obtain ⟨w, g1, g2, g3⟩ := ih (j + 1) (if f j = g j then 1 else 0) (by omega) (by by_cases h : f j = g j; exact Or.inr (if_pos h); exact Or.inl (if_neg h))
      refine ⟨w, ml_step (h1 j (by omega)) g1, g2, fun h => ⟨by decide, fun i hi1 hi2 => ?_⟩⟩
      obtain ⟨k1, k2⟩ := g3 h
      rcases Nat.lt_or_ge j i with hji | hji
      · exact k2 i hji hi2
      · have : i = j := by omega
        subst this
        exact Classical.byContradiction (fun h9 => k1 (if_neg h9))
theorem me_matches {sn sp sm : Nat → Int32} {s0 s : S8} (h : SN sn sp sm s0) : ∃ v, mX6_matches sn sp sm s.1 s.2.1 (poS s) (tiS s) = some v ∧ (v = 0 ∨ v = 1) ∧ (¬ v = 0 → ∀ N, N ≤ 16 → CE N s0 s) := by
  obtain ⟨h1, h2, h3, h4⟩ := h
  unfold mX6_matches
  rw [me_let]
  generalize hv1 : (if sn 2 = s.1 9 then (if sn 3 = s.2.1 1 then 1 else 0) else 0 : Int32) = v1
  have hb1 : v1 = 0 ∨ v1 = 1 := by
    rw [← hv1]
    by_cases a : sn 2 = s.1 9
    · rw [if_pos a]
      by_cases b : sn 3 = s.2.1 1
      · rw [if_pos b]; exact Or.inr rfl
      · rw [if_neg b]; exact Or.inl rfl
    · rw [if_neg a]; exact Or.inl rfl
  obtain ⟨w, g1, g2, g3⟩ := me_all_loop (b := bX6_matches_33 sp (poS s)) (f := sp) (g := poS s) (n := 6) (by omega) (fun v => by unfold bX6_matches_33; rw [if_pos (by decide)]) (fun j hj => by unfold bX6_matches_33; rw [if_neg (mq_6 hj), if_pos rfl]) (fun j hj => by unfold bX6_matches_33; rw [if_neg (mq_6 hj), if_neg (by decide), me_ci _ hj (by omega), me_ci _ hj (by omega), me_let, me_let, nI_clamp (by omega), nI_1]) 6 0 v1 (by omega) hb1
  obtain ⟨w2, k1, k2, k3⟩ := me_all_loop (b := bX6_matches_72 sm (tiS s)) (f := sm) (g := tiS s) (n := 16) (by omega) (fun v => by unfold bX6_matches_72; rw [if_pos (by decide)]) (fun j hj => by unfold bX6_matches_72; have h16 : ¬ (16 : Int32) ≤ nI j := mq_nle (a := 16) hj (by omega); rw [if_neg h16, if_pos rfl]) (fun j hj => by unfold bX6_matches_72; have h16 : ¬ (16 : Int32) ≤ nI j := mq_nle (a := 16) hj (by omega); rw [if_neg h16, if_neg (by decide), me_ci _ hj (by omega), me_ci _ hj (by omega), me_let, me_let, nI_clamp (by omega), nI_1]) 16 0 w (by omega) g2
  have g1' : bq_loop (bq_u2 (bX6_matches_33 sp (poS s))) (0, v1) = some w := g1
  have k1' : bq_loop (bq_u2 (bX6_matches_72 sm (tiS s))) (0, w) = some w2 := k1
  rw [g1', me_bd, k1', me_bd, me_cb _ k2]
  refine ⟨w2, rfl, k2, fun hw N hN => ?_⟩
  obtain ⟨a1, a2⟩ := k3 hw
  obtain ⟨b1, b2⟩ := g3 a1
  have c1 : sn 2 = s.1 9 := Classical.byContradiction (fun h9 => b1 (by rw [← hv1, if_neg h9]))
  have c2 : sn 3 = s.2.1 1 := Classical.byContradiction (fun h9 => b1 (by rw [← hv1, if_pos c1, if_neg h9]))
  exact ⟨by rw [← h1, c1], by rw [← h2, c2], fun c hc => by rw [← h3 c hc, b2 c (by omega) hc], fun i hi => by rw [← h4 i (by omega), a2 i (by omega) (by omega)]⟩
abbrev S11 := (Nat → Int32) × (Nat → Int32) × (Nat → Int32) × S8
/-- how a far trial stands after j ticks: not shortened yet, or shortened -/
def FI (N : Nat) (fa sq cu gos M Z P st : Nat → Int32) (s0 : S8) (n j : Nat) (x : Int32 × Int32 × Int32 × Int32 × Int32 × S11) : Prop := j ≤ n ∧ x.1 = nI j ∧ x.2.2.2.2.2.2.2.2 = sts fa sq cu gos M Z P st s0 j ∧
  ((x.2.1 = 0 ∧ x.2.2.2.2.1 = nI (n - j) ∧ ∃ a, a ≤ j ∧ x.2.2.2.1 = nI a ∧ SN x.2.2.2.2.2.1 x.2.2.2.2.2.2.1 x.2.2.2.2.2.2.2.1 (sts fa sq cu gos M Z P st s0 (j - a))) ∨ (x.2.1 = 1 ∧ ∃ b, b ≤ n - j ∧ x.2.2.2.2.1 = nI b ∧ (∃ k, x.2.2.2.1 = k) ∧ CE N (sts fa sq cu gos M Z P st s0 (j + b)) (sts fa sq cu gos M Z P st s0 n)))
theorem me_b7' {α1 α2 α3 α4 α5 α6 α7 β : Type} (k : α1 → α2 → α3 → α4 → α5 → α6 → α7 → Option β) (x1 : α1) (x2 : α2) (x3 : α3) (x4 : α4) (x5 : α5) (x6 : α6) (x7 : α7) : bq_b7 (some (x1, x2, x3, x4, x5, x6, x7)) k = k x1 x2 x3 x4 x5 x6 x7 := rfl
theorem far_step {N F G me : Nat} {cf : Nat → Nat} {sq cu gos M Z P tr ct Mr Pr Zr fa st str r0 : Nat → Int32} {s0 : S8} (hS : SQ N F G cf sq cu gos M Z P tr ct Mr Pr Zr) (hst : ∀ c, c < 6 → st c = str c) (h : TS N F G me Z fa 0 s0 r0) {n j : Nat} (hn : n ≤ 5000) (hj : j < n) (x : Int32 × Int32 × Int32 × Int32 × Int32 × S11) (hx : FI N fa sq cu gos M Z P st s0 n j x) :
    (∃ x', bq_u16 (bX7_runTrialFar_24 fa sq cu gos M Z P st (nI n)) x = some (.inl x') ∧ FI N fa sq cu gos M Z P st s0 n (j + 1) x') ∨ (∃ y : S11, bq_u16 (bX7_runTrialFar_24 fa sq cu gos M Z P st (nI n)) x = some (.inr y) ∧ ∃ i, i ≤ n ∧ y.2.2.2 = sts fa sq cu gos M Z P st s0 i ∧ CE N (sts fa sq cu gos M Z P st s0 i) (sts fa sq cu gos M Z P st s0 n)) := by
  have hN : N ≤ 16 := hS.1.1.2
  obtain ⟨i4, i5, i6, i7, i8, sn, sp, sm, t, cir, lg, mv, tm, po, sc, ti⟩ := x
  obtain ⟨_, e4, es, hc⟩ := hx
  have e4' : i4 = nI j := e4
  have es' : (t, cir, lg, mv, tm, po, sc, ti) = sts fa sq cu gos M Z P st s0 j := es
  subst e4'
  have hnx := sts_next hS hst h (m := j) (by omega)
  generalize hs1 : sts fa sq cu gos M Z P st s0 (j + 1) = s1 at hnx
  rw [← es'] at hnx
  have hmk : mX3_makeTick t cir fa lg mv tm po sc sq cu gos M Z P st ti = some (s1.1, s1.2.1, s1.2.2.1, s1.2.2.2.1, s1.2.2.2.2.1, s1.2.2.2.2.2.1, s1.2.2.2.2.2.2.1, s1.2.2.2.2.2.2.2) := hnx
  show (∃ x', bX7_runTrialFar_24 fa sq cu gos M Z P st (nI n) (nI j) i5 i6 i7 i8 sn sp sm t cir lg mv tm po sc ti = some (.inl x') ∧ _) ∨ (∃ y : S11, bX7_runTrialFar_24 fa sq cu gos M Z P st (nI n) (nI j) i5 i6 i7 i8 sn sp sm t cir lg mv tm po sc ti = some (.inr y) ∧ _)
  unfold bX7_runTrialFar_24
  rw [if_neg (mq_nle hj (by omega))]
  rcases hc with ⟨c5, c8, a, ha, c7, hsn⟩ | ⟨c5, b, hb, c8, _, hce⟩
  · have c5' : i5 = 0 := c5
    have c8' : i8 = nI (n - j) := c8
    have c7' : i7 = nI a := c7
    subst c5' c8' c7'
    left
    have hsn' : SN sn sp sm (sts fa sq cu gos M Z P st s0 (j - a)) := hsn
    rw [if_neg (nI_nle (by omega) (by omega)), hmk, me_b8]
    have e8 : nI (n - j) + (-1) = nI (n - (j + 1)) := by
      have := pk_m1 (n - (j + 1))
      rw [show n - (j + 1) + 1 = n - j by omega] at this
      exact this
    rw [me_let, e8, me_let, nI_1, if_pos rfl, me_let, if_neg (nI_nle (by omega) (by omega))]
    obtain ⟨v, hv, hvb, hv1⟩ := me_matches (s := s1) hsn'
    have hv' : mX6_matches sn sp sm s1.1 s1.2.1 s1.2.2.2.2.2.1 s1.2.2.2.2.2.2.2 = some v := hv
    rw [hv', me_bd]
    by_cases hv0 : v = 0
    · rw [if_pos hv0]
      by_cases hsp : nI (a + 1) < i6
      · rw [if_pos hsp, me_b7', me_let, nI_1]
        refine ⟨_, rfl, by omega, rfl, ?_, Or.inl ⟨rfl, rfl, a + 1, by omega, rfl, ?_⟩⟩
        · rw [hs1]
        · rw [show j + 1 - (a + 1) = j - a by omega]
          exact hsn'
      · rw [if_neg hsp]
        obtain ⟨sn', sp', sm', k1, k2⟩ := me_take sn sp sm s1
        have k1' : mX6_take sn sp sm s1.1 s1.2.1 s1.2.2.2.2.2.1 s1.2.2.2.2.2.2.2 = some (sn', sp', sm') := k1
        rw [k1', me_b3, me_let, me_b7', me_let, nI_1]
        refine ⟨_, rfl, by omega, rfl, ?_, Or.inl ⟨rfl, rfl, 0, by omega, rfl, ?_⟩⟩
        · rw [hs1]
        · rw [Nat.sub_zero, hs1]
          exact k2
    · rw [if_neg hv0]
      unfold bq_cz
      rw [if_neg (nI_ne0 (by omega) (by omega)), me_let, pk_rem (by omega) (by omega) (by omega), me_b7', me_let, nI_1]
      refine ⟨_, rfl, by omega, rfl, ?_, Or.inr ⟨rfl, (n - (j + 1)) % (a + 1), ?_, rfl, ⟨_, rfl⟩, ?_⟩⟩
      · rw [hs1]
      · exact Nat.mod_le _ _
      · have he := hv1 hv0 N hN
        rw [← hs1] at he
        have hd := Nat.mod_add_div (n - (j + 1)) (a + 1)
        have hml : (n - (j + 1)) % (a + 1) ≤ n - (j + 1) := Nat.mod_le _ _
        generalize (n - (j + 1)) % (a + 1) = r at *
        generalize (n - (j + 1)) / (a + 1) = q at *
        rw [Nat.mul_comm] at hd
        have h1 := ce_period hS hst h (a := j - a) (k := a + 1) (by rw [show j - a + (a + 1) = j + 1 by omega]; exact he) (a + 1 + r) q (by omega)
        rw [show j - a + (a + 1 + r) = j + 1 + r by omega, show j + 1 + r + q * (a + 1) = n by omega] at h1
        exact h1
  · have c5' : i5 = 1 := c5
    have c8' : i8 = nI b := c8
    subst c5' c8'
    by_cases hb0 : b = 0
    · subst hb0
      right
      rw [if_pos (by decide)]
      exact ⟨_, rfl, j, by omega, es', hce⟩
    · left
      rw [if_neg (nI_nle (by omega) (by omega)), hmk, me_b8, me_let]
      have e8 : nI b + (-1) = nI (b - 1) := by
        have := pk_m1 (b - 1)
        rw [show b - 1 + 1 = b by omega] at this
        exact this
      rw [e8, me_let, if_neg (by decide), me_b7', me_let, nI_1]
      refine ⟨_, rfl, by omega, rfl, ?_, Or.inr ⟨rfl, b - 1, by omega, rfl, ⟨_, rfl⟩, ?_⟩⟩
      · rw [hs1]
      · rw [show j + 1 + (b - 1) = j + b by omega]
        exact hce
theorem far_end {N F G me : Nat} {cf : Nat → Nat} {sq cu gos M Z P tr ct Mr Pr Zr fa st str r0 : Nat → Int32} {s0 : S8} (hS : SQ N F G cf sq cu gos M Z P tr ct Mr Pr Zr) (hst : ∀ c, c < 6 → st c = str c) (h : TS N F G me Z fa 0 s0 r0) {n : Nat} (hn : n ≤ 5000) (sn sp sm : Nat → Int32) :
    ∃ y : S11, mX7_runTrialFar sn sp sm s0.1 s0.2.1 fa s0.2.2.1 s0.2.2.2.1 s0.2.2.2.2.1 s0.2.2.2.2.2.1 s0.2.2.2.2.2.2.1 sq cu gos M Z P st s0.2.2.2.2.2.2.2 (nI n) = some y ∧ ∃ i, i ≤ n ∧ y.2.2.2 = sts fa sq cu gos M Z P st s0 i ∧ CE N (sts fa sq cu gos M Z P st s0 i) (sts fa sq cu gos M Z P st s0 n) := by
  obtain ⟨sn', sp', sm', k1, k2⟩ := me_take sn sp sm s0
  have h0 : sts fa sq cu gos M Z P st s0 0 = s0 := rfl
  have hl : ∃ y : S11, bq_loop (bq_u16 (bX7_runTrialFar_24 fa sq cu gos M Z P st (nI n))) (0, 0, 1, 0, nI n, sn', sp', sm', s0) = some y ∧ ∃ i, i ≤ n ∧ y.2.2.2 = sts fa sq cu gos M Z P st s0 i ∧ CE N (sts fa sq cu gos M Z P st s0 i) (sts fa sq cu gos M Z P st s0 n) := by
    refine ml_inv (b := bq_u16 (bX7_runTrialFar_24 fa sq cu gos M Z P st (nI n))) (FI N fa sq cu gos M Z P st s0 n) (fun y => ∃ i, i ≤ n ∧ y.2.2.2 = sts fa sq cu gos M Z P st s0 i ∧ CE N (sts fa sq cu gos M Z P st s0 i) (sts fa sq cu gos M Z P st s0 n)) n (fun j x hj hx => far_step hS hst h hn hj x hx) (fun x hx => ?_) n 0 (0, 0, 1, 0, nI n, sn', sp', sm', s0) (by omega) ⟨by omega, rfl, h0.symm, Or.inl ⟨rfl, by rw [Nat.sub_zero], 0, by omega, rfl, by rw [Nat.sub_zero, h0]; exact k2⟩⟩
    obtain ⟨i4, i5, i6, i7, i8, sn, sp, sm, t, cir, lg, mv, tm, po, sc, ti⟩ := x
    obtain ⟨_, e4, es, hc⟩ := hx
    have e4' : i4 = nI n := e4
    subst e4'
    refine ⟨(sn, sp, sm, t, cir, lg, mv, tm, po, sc, ti), ?_, n, by omega, es, ce_refl _ _⟩
    show bX7_runTrialFar_24 fa sq cu gos M Z P st (nI n) (nI n) i5 i6 i7 i8 sn sp sm t cir lg mv tm po sc ti = _
    unfold bX7_runTrialFar_24
    rw [if_pos (mq_rfl _)]
  obtain ⟨y, g1, g2⟩ := hl
  refine ⟨y, ?_, g2⟩
  unfold mX7_runTrialFar
  have k1' : mX6_take sn sp sm s0.1 s0.2.1 s0.2.2.2.2.2.1 s0.2.2.2.2.2.2.2 = some (sn', sp', sm') := k1
  have g1' : bq_loop (bq_u16 (bX7_runTrialFar_24 fa sq cu gos M Z P st (nI n))) (0, 0, 1, 0, nI n, sn', sp', sm', s0.1, s0.2.1, s0.2.2.1, s0.2.2.2.1, s0.2.2.2.2.1, s0.2.2.2.2.2.1, s0.2.2.2.2.2.2.1, s0.2.2.2.2.2.2.2) = some y := g1
  rw [k1', me_b3, g1']
  rfl
end
