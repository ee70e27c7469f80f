section
/-- cell k is v now -/
def su (σ : Nat → Nat → Int32) (k : Nat) (v : Nat → Int32) : Nat → Nat → Int32 := fun j => if j = k then v else σ j
/-- what a read sequence has besides -/
def SX (N : Nat) (P M ob : Nat → Int32) : Prop := (∀ i, i < N → ob i = sp_ob P M i) ∧ ∀ i, i < N → ∀ c, c < 6 → bt (M i) c = true → ∃ j, j < N ∧ bt (P j) c = true
/-- the class's cells (0 to 39) against the reference's (40 to 51) -/
def INV (T n : Nat) (σ : Nat → Nat → Int32) : Prop := ∃ L me start, TXT L (σ 2) (σ 50) ∧ (σ 1 1 = nI L ∧ σ 40 11 = nI L) ∧ σ 0 5 = σ 40 12 ∧ me < 3 ∧ (∀ c, c < 6 → σ 18 c = σ 49 c) ∧ (∃ T', T' ≤ T ∧ σ 48 0 = nI T') ∧ σ 30 8 = 1 ∧
  ((σ 11 0 = 0 ∧ σ 11 5 = 0 ∧ σ 40 4 = 0 ∧ σ 40 8 = 0 ∧ OB 0 me start none 0 (σ 3) (σ 4) (σ 6) (σ 7) (σ 8) (σ 9) (σ 10) (σ 5) (σ 19) (σ 48)) ∨
   (∃ N F G cf ac n', n' ≤ n ∧ SQ N F G cf (σ 11) (σ 12) (σ 13) (σ 14) (σ 16) (σ 17) (σ 40) (σ 42) (σ 41) (σ 43) (σ 44) ∧ SX N (σ 17) (σ 14) (σ 15) ∧ RR N F G me start ac n' (σ 16) (σ 3) (σ 4) (σ 6) (σ 7) (σ 8) (σ 9) (σ 10) (σ 5) (σ 19) (σ 48)))
theorem inv_le {T n T' n' : Nat} {σ : Nat → Nat → Int32} (h : INV T n σ) (hT : T ≤ T') (hn : n ≤ n') : INV T' n' σ := by
  obtain ⟨L, me, start, h1, h2, h3, h4, h5, ⟨Tx, h6, h6'⟩, h7, h8⟩ := h
  refine ⟨L, me, start, h1, h2, h3, h4, h5, ⟨Tx, by omega, h6'⟩, h7, ?_⟩
  rcases h8 with h | ⟨N, F, G, cf, ac, m, a, b⟩
  · exact Or.inl h
  · exact Or.inr ⟨N, F, G, cf, ac, m, by omega, b⟩
/-- what calls show, with a sequence or without -/
theorem inv_ob {T n : Nat} {σ : Nat → Nat → Int32} (h : INV T n σ) : ∃ N me start ac n', N ≤ 16 ∧ n' ≤ n ∧ σ 11 0 = nI N ∧ σ 40 4 = nI N ∧ OB N me start ac n' (σ 3) (σ 4) (σ 6) (σ 7) (σ 8) (σ 9) (σ 10) (σ 5) (σ 19) (σ 48) := by
  obtain ⟨L, me, start, h1, h2, h3, h4, h5, h6, h7, h8⟩ := h
  rcases h8 with ⟨a, b, c, d, e⟩ | ⟨N, F, G, cf, ac, m, a, b, c, d⟩
  · exact ⟨0, me, start, none, 0, by omega, by omega, a, c, e⟩
  · exact ⟨N, me, start, ac, m, b.1.1.2, a, b.2.1.1, b.2.1.2.1, d.1⟩
/-- no sequence, or one -/
theorem inv_sq {T n : Nat} {σ : Nat → Nat → Int32} (h : INV T n σ) : (σ 11 0 = 0 ∧ σ 40 4 = 0 ∧ σ 11 5 = 0 ∧ σ 40 8 = 0) ∨ ∃ N F G cf, SQ N F G cf (σ 11) (σ 12) (σ 13) (σ 14) (σ 16) (σ 17) (σ 40) (σ 42) (σ 41) (σ 43) (σ 44) ∧ SX N (σ 17) (σ 14) (σ 15) := by
  obtain ⟨L, me, start, h1, h2, h3, h4, h5, h6, h7, h8⟩ := h
  rcases h8 with ⟨a, b, c, d, e⟩ | ⟨N, F, G, cf, ac, m, a, b, c, d⟩
  · exact Or.inl ⟨a, c, b, d⟩
  · exact Or.inr ⟨N, F, G, cf, b, c⟩
/-- only what was thrown has changed -/
theorem inv_thr {T n : Nat} {σ : Nat → Nat → Int32} {k : Int32} (h : INV T n σ) : INV T n (su σ 40 (upd (σ 40) 3 k)) := by
  obtain ⟨L, me, start, h1, h2, h3, h4, h5, h6, h7, h8⟩ := h
  refine ⟨L, me, start, h1, h2, h3, h4, h5, h6, h7, ?_⟩
  rcases h8 with h | ⟨N, F, G, cf, ac, m, a, b, c, d⟩
  · exact Or.inl h
  · exact Or.inr ⟨N, F, G, cf, ac, m, a, sq_tr b rfl rfl, c, d⟩
theorem sp_ob_false {P M : Nat → Int32} {c : Nat} (hc : c < 32) : ∀ (n : Nat), bt (sp_ob P M n) c = true → ∃ j, j < n ∧ bt (P j) c = true := by
  intro n
  induction n with
  | zero => intro h; rw [sp_ob, b_0] at h; cases h
  | succ n ih =>
    intro h
    rw [sp_ob, b_and, Bool.and_eq_true, b_or, Bool.or_eq_true] at h
    rcases h.1 with h1 | h1
    · obtain ⟨j, j1, j2⟩ := ih h1
      exact ⟨j, by omega, j2⟩
    · exact ⟨n, by omega, h1⟩
theorem sp_ob_back {P M : Nat → Int32} {c a : Nat} (hc : c < 32) : ∀ (d : Nat), bt (sp_ob P M a) c = true → bt (sp_ob P M (a + d)) c = false → ∃ j, a ≤ j ∧ j < a + d ∧ bt (M j) c = true := by
  intro d
  induction d with
  | zero => intro h1 h2; rw [Nat.add_zero, h1] at h2; cases h2
  | succ d ih =>
    intro h1 h2
    cases hb : bt (sp_ob P M (a + d)) c
    · obtain ⟨j, j1, j2, j3⟩ := ih h1 hb
      exact ⟨j, j1, by omega, j3⟩
    · refine ⟨a + d, by omega, by omega, ?_⟩
      rw [← Nat.add_assoc, sp_ob, b_and, b_or, hb, mb_not _ hc] at h2
      cases hm : bt (M (a + d)) c
      · rw [hm] at h2; simp at h2
      · rfl
theorem mr_congr {N : Nat} {P M P' M' : Nat → Int32} (h0 : 0 < N) (h : ∀ j, j < N → P' j = P j ∧ M' j = M j) : mr N P' M' = mr N P M := by
  funext i
  have := h (i % N) (Nat.mod_lt _ h0)
  unfold mr
  rw [this.1, this.2]
/-- a text that is a sequence gives one, on both sides -/
theorem seq_new {N : Nat} {q M ob Z P tr Mr Pr Zr : Nat → Int32} (cu gos ct : Nat → Int32) (h0 : 0 < N) (hN : N ≤ 16) (hq : q 0 = nI N) (ht : tr 4 = nI N) (hA : ∀ j, j < N → Pr j = P j ∧ Mr j = M j ∧ Zr j = Z j) (hZ : ∀ j, j < N → (Z j ≤ 0 ↔ ¬ P j ||| M j = 0) ∧ ∀ c, c < 32 → (bt (P j) c = true ∨ bt (M j) c = true) → c < 6) (hV : ∀ j, j < N → ob j = sp_ob P M j ∧ ∀ c, c < 6 → ¬ (bt (P j) c = true ∧ bt (M j) c = true) ∧ (bt (P j) c = true → bt (sp_ob P M j) c = false) ∧ (bt (M j) c = true → bt (sp_ob P M j) c = true)) (hend : sp_ob P M N = 0) (hmv : ∃ j, j < N ∧ ¬ P j ||| M j = 0) :
    ∃ F G cf cu' gos' ct', mX5_divide q cu gos M P = some (upd q 5 (nI G), cu', gos') ∧ mX8_divides tr Mr ct Pr = some (upd tr 8 (nI G), ct') ∧ SQ N F G cf (upd q 5 (nI G)) cu' gos' M Z P (upd tr 8 (nI G)) ct' Mr Pr Zr ∧ SX N P M ob := by
  obtain ⟨a, k, cu', gos', hm, hd, hA1, hg⟩ := me_divide (M := M) (P := P) cu gos hq h0 hN
  have hmr : mr N Pr Mr = mr N P M := mr_congr h0 (fun j hj => ⟨(hA j hj).1, (hA j hj).2.1⟩)
  have hm' := hm
  rw [← hmr] at hm'
  obtain ⟨ct', hd', hA2⟩ := mr_divides ct ht hN hm'
  rw [hmr] at hA2
  have hp := mr_per N P M
  have hall := cb_all hp hm
  have hk0 : 0 < k := by rw [← hm.2.1]; exact nd_pos _ _ _
  have hkN : k ≤ N := by rw [← hm.2.1]; exact nd_N h0
  -- the first step with moves
  obtain ⟨F, F1, F2, F3⟩ : ∃ F, F < N ∧ ¬ P F ||| M F = 0 ∧ ∀ i, i < F → P i ||| M i = 0 := by
    rcases ml_least (fun j => ¬ P j ||| M j = 0) 0 N with h | ⟨m, _, m2, m3, m4⟩
    · obtain ⟨j, j1, j2⟩ := hmv
      exact absurd j2 (h j (by omega) j1)
    · exact ⟨m, m2, m3, fun i hi => Classical.byContradiction (fun h9 => m4 i (by omega) hi h9)⟩
  -- nothing is out before it
  have hobF : sp_ob P M F = 0 := by
    have : ∀ n, n ≤ F → sp_ob P M n = 0 := by
      intro n
      induction n with
      | zero => intro _; rfl
      | succ n ih =>
        intro hn
        have hz := F3 n (by omega)
        refine mb_zero.mpr (fun c hc => ?_)
        have := mb_zero.mp hz c hc
        rw [b_or, Bool.or_eq_false_iff] at this
        rw [sp_ob, ih (by omega), b_and, b_or, b_0, this.1]
        rfl
    exact this F (Nat.le_refl F)
  -- a cylinder that goes out there comes back
  have hJ : ∃ J x, x < 6 ∧ bt (P F) x = true ∧ F < J ∧ J < N ∧ bt (M J) x = true := by
    obtain ⟨x, hx, hb⟩ : ∃ x, x < 32 ∧ bt (P F ||| M F) x = true := by
      apply Classical.byContradiction
      intro h9
      exact F2 (mb_zero.mpr (fun c hc => Bool.eq_false_iff.mpr (fun h8 => h9 ⟨c, hc, h8⟩)))
    rw [b_or, Bool.or_eq_true] at hb
    have hx6 := (hZ F F1).2 x hx hb
    have hPx : bt (P F) x = true := by
      rcases hb with h | h
      · exact h
      · have := ((hV F F1).2 x hx6).2.2 h
        rw [hobF, b_0] at this
        cases this
    have hMx : bt (M F) x = false := Bool.eq_false_iff.mpr (fun h9 => ((hV F F1).2 x hx6).1 ⟨hPx, h9⟩)
    have h1 : bt (sp_ob P M (F + 1)) x = true := by
      rw [sp_ob, b_and, b_or, hPx, mb_not _ hx, hMx, Bool.or_true]
      rfl
    obtain ⟨J, j1, j2, j3⟩ := sp_ob_back hx (N - (F + 1)) h1 (by rw [show F + 1 + (N - (F + 1)) = N by omega, hend, b_0])
    exact ⟨J, x, hx6, hPx, by omega, by omega, j3⟩
  have hcf : ∀ g, g < k → cu' g = nI ((cu' g).toNatClampNeg) ∧ ct' g = nI ((cu' g).toNatClampNeg) ∧ (cu' g).toNatClampNeg < N := fun g hg => by
    obtain ⟨s, s1, s2, s3⟩ := cnt_surj (Cb (mr N P M) N a) N g (by omega)
    have x1 := hA1 s s1 s2
    have x2 := hA2 s s1 s2
    rw [s3] at x1 x2
    rw [x1, x2, nI_clamp (by omega)]
    exact ⟨rfl, rfl, s1⟩
  refine ⟨F, k, fun g => (cu' g).toNatClampNeg, cu', gos', ct', hd, hd', ⟨⟨⟨h0, hN⟩, hA, fun i hi => (hZ i hi).1, fun i hi => (hZ i hi).2, fun i hi c hc => ((hV i hi).2 c hc).1, F1, (hZ F F1).1.mpr F2, fun i hi h9 => (hZ i (by omega)).1.mp h9 (F3 i hi)⟩, ⟨?_, ?_, mu_s _ _ _, mu_s _ _ _⟩, ⟨hk0, by omega⟩, hcf, fun t' ht' i hi => ?_, hJ⟩, fun i hi => (hV i hi).1, fun i hi c hc hb => ?_⟩
  · rw [mu_n _ _ (by omega)]; exact hq
  · rw [mu_n _ _ (by omega)]; exact ht
  · rw [mr_groupFor ht' hk0 hN hall hA2 hi, hg i hi]
  · have := ((hV i hi).2 c hc).2.2 hb
    obtain ⟨j, j1, j2⟩ := sp_ob_false (by omega) i this
    exact ⟨j, by omega, j2⟩
end
