theorem mu_s (f : Nat → Int32) (k : Nat) (x : Int32) : upd f k x k = x := by unfold upd; rw [if_pos rfl]
theorem mu_n (f : Nat → Int32) {k j : Nat} (x : Int32) (h : j ≠ k) : upd f k x j = f j := by unfold upd; rw [if_neg h]
theorem ml_par {S1 R1 S2 R2 : Type} {b1 : S1 → Option (S1 ⊕ R1)} {b2 : S2 → Option (S2 ⊕ R2)} (I : Nat → S1 → S2 → Prop) (Q : R1 → R2 → Prop) (N : Nat) (hs : ∀ j s1 s2, j < N → I j s1 s2 → ∃ s1' s2', b1 s1 = some (.inl s1') ∧ b2 s2 = some (.inl s2') ∧ I (j + 1) s1' s2') (he : ∀ s1 s2, I N s1 s2 → ∃ r1 r2, b1 s1 = some (.inr r1) ∧ b2 s2 = some (.inr r2) ∧ Q r1 r2) (s1 : S1) (s2 : S2) (h0 : I 0 s1 s2) : ∃ r1 r2, bq_loop b1 s1 = some r1 ∧ bq_loop b2 s2 = some r2 ∧ Q r1 r2 := by
  have key : ∀ (n j : Nat) (s1 : S1) (s2 : S2), j + n = N → I j s1 s2 → ∃ r1 r2, bq_lp b1 (n + 1) s1 = some r1 ∧ bq_lp b2 (n + 1) s2 = some r2 ∧ Q r1 r2 := by
    intro n
    induction n with
    | zero =>
      intro j s1 s2 hj hI
      have : j = N := by omega
      subst this
      obtain ⟨r1, r2, h1, h2, h3⟩ := he s1 s2 hI
      refine ⟨r1, r2, ?_, ?_, h3⟩
      · unfold bq_lp
        rw [h1]
      · unfold bq_lp
        rw [h2]
    | succ n ih =>
      intro j s1 s2 hj hI
      obtain ⟨s1', s2', h1, h2, h3⟩ := hs j s1 s2 (by omega) hI
      obtain ⟨r1, r2, h4, h5, h6⟩ := ih (j + 1) s1' s2' (by omega) h3
      refine ⟨r1, r2, ?_, ?_, h6⟩
      · unfold bq_lp
        rw [h1]
        exact h4
      · unfold bq_lp
        rw [h2]
        exact h5
  obtain ⟨r1, r2, h1, h2, h3⟩ := key N 0 s1 s2 (by omega) h0
  exact ⟨r1, r2, bq_loop_of h1, bq_loop_of h2, h3⟩
/-- the first place from a on with p -/
theorem ml_least (p : Nat → Prop) (a N : Nat) : (∀ i, a ≤ i → i < N → ¬ p i) ∨ ∃ m, a ≤ m ∧ m < N ∧ p m ∧ ∀ i, a ≤ i → i < m → ¬ p i := by
  have key : ∀ n, (∀ i, a ≤ i → i < a + n → i < N → ¬ p i) ∨ ∃ m, a ≤ m ∧ m < N ∧ p m ∧ ∀ i, a ≤ i → i < m → ¬ p i := by
    intro n
    induction n with
    | zero => exact Or.inl (fun i h1 h2 _ => by omega)
    | succ n ih =>
      rcases ih with h | h
      · by_cases hp : a + n < N ∧ p (a + n)
        · exact Or.inr ⟨a + n, by omega, hp.1, hp.2, fun i h1 h2 => h i h1 h2 (by omega)⟩
        · refine Or.inl (fun i h1 h2 h3 h4 => ?_)
          by_cases hi : i = a + n
          · subst hi; exact hp ⟨h3, h4⟩
          · exact h i h1 (by omega) h3 h4
      · exact Or.inr h
  rcases key N with h | h
  · exact Or.inl (fun i h1 h2 => h i h1 (by omega) h2)
  · exact Or.inr h
theorem me_msf_some {sq M P : Nat → Int32} {N a m : Nat} (hq : sq 0 = nI N) (hN : N ≤ 16) (h1 : a ≤ m) (h2 : m < N) (h3 : ¬ P m ||| M m = 0) (h4 : ∀ i, a ≤ i → i < m → P i ||| M i = 0) : mX5_movingStepFrom sq M P (nI a) = some (nI m) := by
  have h : bq_loop (bq_u1 (bX5_movingStepFrom_2 sq M P)) (nI a) = some (.inr (nI m)) := by
    have := ml_run (b := bq_u1 (bX5_movingStepFrom_2 sq M P)) (r := .inr (nI m)) (fun j => nI (a + j)) (m - a) (fun j hj => ?_) ?_
    · exact this
    · rw [me_u1]
      unfold bX5_movingStepFrom_2
      rw [hq, if_neg (mq_nle (by omega) (by omega)), me_ci _ (by omega) (by omega), me_ci _ (by omega) (by omega), nI_clamp (by omega), if_pos (h4 _ (by omega) (by omega)), me_let, nI_1]
      rfl
    · rw [me_u1]
      unfold bX5_movingStepFrom_2
      rw [show a + (m - a) = m by omega, hq, if_neg (mq_nle (by omega) (by omega)), me_ci _ (by omega) (by omega), me_ci _ (by omega) (by omega), nI_clamp (by omega), if_neg h3]
  unfold mX5_movingStepFrom
  rw [h, me_bd]
  rfl
theorem me_msf_none {sq M P : Nat → Int32} {N a : Nat} (hq : sq 0 = nI N) (hN : N ≤ 16) (h1 : a ≤ N) (h4 : ∀ i, a ≤ i → i < N → P i ||| M i = 0) : mX5_movingStepFrom sq M P (nI a) = some (nI N) := by
  have h : bq_loop (bq_u1 (bX5_movingStepFrom_2 sq M P)) (nI a) = some (.inl ()) := by
    have := ml_run (b := bq_u1 (bX5_movingStepFrom_2 sq M P)) (r := .inl ()) (fun j => nI (a + j)) (N - a) (fun j hj => ?_) ?_
    · exact this
    · rw [me_u1]
      unfold bX5_movingStepFrom_2
      rw [hq, if_neg (mq_nle (by omega) (by omega)), me_ci _ (by omega) (by omega), me_ci _ (by omega) (by omega), nI_clamp (by omega), if_pos (h4 _ (by omega) (by omega)), me_let, nI_1]
      rfl
    · rw [me_u1]
      unfold bX5_movingStepFrom_2
      rw [show a + (N - a) = N by omega, hq, if_pos (mq_rfl _)]
  unfold mX5_movingStepFrom
  rw [h, me_bd]
  show some (sq 0) = _
  rw [hq]
theorem mr_fwm {t Z : Nat → Int32} {N F : Nat} (ht : t 4 = nI N) (hN : N ≤ 16) (h2 : F ≤ N) (h3 : F < N → Z F ≤ 0) (h4 : ∀ i, i < F → ¬ Z i ≤ 0) : mX8_firstWithMoves t Z = some (nI F) := by
  have h : bq_loop (bq_u1 (bX8_firstWithMoves_2 t Z)) 0 = some (nI F) := by
    refine ml_run (fun j => nI j) F (fun j hj => ?_) ?_
    · rw [me_u1]
      unfold bX8_firstWithMoves_2
      rw [ht, if_neg (mq_nle (by omega) (by omega)), me_ci _ (by omega) (by omega), nI_clamp (by omega), if_neg (h4 _ hj), me_let, nI_1]
    · rw [me_u1]
      unfold bX8_firstWithMoves_2
      rcases Nat.lt_or_ge F N with hl | hl
      · rw [ht, if_neg (mq_nle (by omega) (by omega)), me_ci _ (by omega) (by omega), nI_clamp (by omega), if_pos (h3 hl)]
      · rw [show F = N by omega, ht, if_pos (mq_rfl _)]
  unfold mX8_firstWithMoves
  rw [h, me_bd]
/-- the reference's search of the next step with moves, from d + 1 on round the ring -/
theorem mr_next_some {t Z : Nat → Int32} {N a m : Nat} (ht : t 4 = nI N) (hN : N ≤ 16) (h1 : a ≤ m) (h2 : m < N) (h3 : Z m ≤ 0) (h4 : ∀ i, a ≤ i → i < m → ¬ Z i ≤ 0) : bq_loop (bq_u1 (bX8_notesEvent_138 t Z)) (nI a) = some (nI m) := by
  have := ml_run (b := bq_u1 (bX8_notesEvent_138 t Z)) (r := nI m) (fun j => nI (a + j)) (m - a) (fun j hj => ?_) ?_
  · exact this
  · rw [me_u1]
    unfold bX8_notesEvent_138
    rw [me_ci _ (by omega) (by omega), nI_clamp (by omega), if_neg (h4 _ (by omega) (by omega)), nI_1, ht, if_neg (mq_nle (by omega) (by omega)), me_let]
    rfl
  · rw [me_u1]
    unfold bX8_notesEvent_138
    rw [show a + (m - a) = m by omega, me_ci _ (by omega) (by omega), nI_clamp (by omega), if_pos h3]
theorem mr_next_wrap {t Z : Nat → Int32} {N a F : Nat} (ht : t 4 = nI N) (hN : N ≤ 16) (ha : a < N) (hl : ∀ i, a ≤ i → i < N → ¬ Z i ≤ 0) (h2 : F < N) (h3 : Z F ≤ 0) (h4 : ∀ i, i < F → ¬ Z i ≤ 0) : bq_loop (bq_u1 (bX8_notesEvent_138 t Z)) (nI a) = some (nI F) := by
  have := ml_run (b := bq_u1 (bX8_notesEvent_138 t Z)) (r := nI F) (fun j => nI (if a + j < N then a + j else a + j - N)) (N - a + F) (fun j hj => ?_) ?_
  · rw [Nat.add_zero, if_pos ha] at this
    exact this
  · rw [me_u1]
    unfold bX8_notesEvent_138
    by_cases hb : a + j < N
    · rw [if_pos hb, me_ci _ (by omega) (by omega), nI_clamp (by omega), if_neg (hl _ (by omega) hb), nI_1, ht]
      by_cases hb2 : a + j + 1 < N
      · rw [if_neg (mq_nle (by omega) (by omega)), if_pos (by omega), me_let]
        rfl
      · rw [if_pos (nI_le (by omega) (by omega)), if_neg (by omega), me_let, show a + (j + 1) - N = 0 by omega]
        rfl
    · have e9 : (if a + (j + 1) < N then a + (j + 1) else a + (j + 1) - N) = a + j - N + 1 := by rw [if_neg (by omega)]; omega
      rw [e9, if_neg hb, me_ci _ (by omega) (by omega), nI_clamp (by omega), if_neg (h4 _ (by omega)), nI_1, ht, if_neg (mq_nle (by omega) (by omega)), me_let]
  · rw [me_u1]
    unfold bX8_notesEvent_138
    rw [if_neg (by omega), show a + (N - a + F) - N = F by omega, me_ci _ (by omega) (by omega), nI_clamp (by omega), if_pos h3]
