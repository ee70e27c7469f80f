section
theorem me_u4 {α1 α2 α3 α4 β : Type} (k : α1 → α2 → α3 → α4 → β) (a : α1) (b : α2) (c : α3) (d : α4) : bq_u4 k (a, b, c, d) = k a b c d := rfl
theorem me_u5 {α1 α2 α3 α4 α5 β : Type} (k : α1 → α2 → α3 → α4 → α5 → β) (a : α1) (b : α2) (c : α3) (d : α4) (e : α5) : bq_u5 k (a, b, c, d, e) = k a b c d e := rfl
/-- inside of step n, at place i: as MS, and what does not change -/
def MSI (L n i : Nat) (before : Int32) (z : Prop) (tr0 M0 P0 t M P tr rb ro : Nat → Int32) : Prop := MS L n before t M P tr rb ro ∧ t 4 = nI i ∧ ¬ t 2 = 1 ∧ (∀ j, j ≠ n → P j = P0 j ∧ M j = M0 j) ∧ (∀ k, k ≠ 18 → k ≠ 19 → tr k = tr0 k) ∧ (t 2 = 0 → z)
theorem rdm_2 {t M P : Nat → Int32} {n c i : Nat} {e : Bool} (h : rdm t M P n c i e 2 = 0) : t 2 = 0 := by
  unfold rdm at h
  rw [mu_n _ _ (by omega), mu_n _ _ (by omega)] at h
  by_cases h9 : t 2 = 0 ∧ wr P M n c (t 5) e = true
  · exact h9.1
  · rw [if_neg h9] at h
    exact h
/-- moves in brackets, both sides; f of them are read -/
theorem par_sim {L n : Nat} {before : Int32} {z : Prop} {tr0 M0 P0 sg tx : Nat → Int32} (hT : TXT L sg tx) (hn : n < 16) : ∀ (d f i : Nat) (t M P tr rb ro : Nat → Int32), 84 ≤ i + d → 2 * f + 1 ≤ i → i ≤ L + 1 → MSI L n i before z tr0 M0 P0 t M P tr rb ro → (0 < f → ¬ P n ||| M n = 0) →
    ∃ i' f' tr' rb' ro', bq_loop (bq_u5 (bX8_readsStep_96 tx before)) (nI f, nI i, tr, rb, ro) = some (nI i', nI f', tr', rb', ro') ∧ (i ≤ i' ∧ i' < 90) ∧ f' < 50 ∧ tr' 11 = nI L ∧ (∀ k, k ≠ 18 → k ≠ 19 → tr' k = tr0 k) ∧
    ((∃ t' M' P', bq_loop (bq_u4 (bX2_readParallel_12 sg (nI n))) (nI f, t, M, P) = some (.inr (upd t' 4 (nI (i' + 1)), M', P')) ∧ 2 ≤ f' ∧ ch L sg i' = 41 ∧ MSI L n i' before z tr0 M0 P0 t' M' P' tr' rb' ro' ∧ ¬ P' n ||| M' n = 0) ∨
     (∃ t' M' P' p, bq_loop (bq_u4 (bX2_readParallel_12 sg (nI n))) (nI f, t, M, P) = some (.inl (rfs t' p, M', P')) ∧ p < 100 ∧ t' 1 = nI L ∧ mX8_failsAt tr' tx (nI i') = some (nI p) ∧ ¬ (2 ≤ f' ∧ ch L sg i' = 41))) := by
  have hL := hT.1
  intro d
  induction d with
  | zero => intro f i t M P tr rb ro hd hf hiL h; omega
  | succ d ih =>
    intro f i t M P tr rb ro hd hf hiL h hf0
    have h' := h
    obtain ⟨hM, h4, h2, hO, hF, hz⟩ := h
    have h1 := hM.1.1
    have h11 := hM.1.2.1
    rcases mv_cases (n := n) hT h1 h11 h4 hn (by omega) with ⟨c, hc, hch, hlt, hmv, hrd⟩ | ⟨p, hp, hmv, hfa, hrd⟩
    · -- a move
      obtain ⟨tr', rb', ro', hno, hMS, hn1, hn4, hbit, hfr⟩ := move_sim hT hM h4 hn (by omega) hc hch rfl
      have hr := hrd M P
      generalize decide (ch L sg (i + 1) = 43) = e at *
      generalize hM' : (if e = true then M else upd M n (M n ||| bit c)) = M' at *
      generalize hP' : (if e = true then upd P n (P n ||| bit c) else P) = P' at *
      have hO' : ∀ j, j ≠ n → P' j = P0 j ∧ M' j = M0 j := fun j hj => by
        rw [← hM', ← hP']
        cases e
        · rw [if_neg (by decide), if_neg (by decide), mu_n _ _ hj]; exact hO j hj
        · rw [if_pos rfl, if_pos rfl, mu_n _ _ hj]; exact hO j hj
      have hnz : ¬ P' n ||| M' n = 0 := fun h9 => by
        have := mb_zero.mp h9 c (by omega)
        rw [b_or] at this
        rcases hbit with h | h <;> rw [h] at this <;> simp at this
      have h41 : ¬ ch L sg i = 41 := by
        rw [hch]
        have : ∀ c, c < 6 → ¬ nI (65 + c) = 41 := by decide +kernel
        exact this c hc
      obtain ⟨i', f', tr2, rb2, ro2, g1, g2, g3, g4, g4', g5⟩ := ih (f + 1) (i + 2) _ M' P' tr' rb' ro' (by omega) (by omega) (by omega) ⟨hMS, hn4, hn1, hO', fun k k1 k2 => by rw [hfr k k1 k2]; exact hF k k1 k2, fun h9 => hz (rdm_2 h9)⟩ (fun _ => hnz)
      have hcl : bX2_readParallel_12 sg (nI n) (nI f) t M P = some (.inl (nI (f + 1), rdm t M P n c i e, M', P')) := by
        unfold bX2_readParallel_12
        have h80 : ¬ (80 : Int32) ≤ nI f := mq_nle (a := 80) (by omega) (by omega)
        rw [if_neg h80, if_neg h2, me_let, hr, me_b3, me_let, nI_1, h4, me_sign hL h1 (by omega), me_bd, if_neg h41]
        exact ite_self _
      have hrf : bX8_readsStep_96 tx before (nI f) (nI i) tr rb ro = some (.inl (nI (f + 1), nI (i + 2), tr', rb', ro')) := by
        unfold bX8_readsStep_96
        have e2 : (2 : Int32) = nI 2 := rfl
        rw [hmv, me_bd, if_neg (by decide), hno, me_b3, me_let, me_let, nI_1, e2, nI_add]
      refine ⟨i', f', tr2, rb2, ro2, ml_step hrf g1, ⟨by omega, g2.2⟩, g3, g4, g4', ?_⟩
      rcases g5 with ⟨t', M2, P2, k1, k2⟩ | ⟨t', M2, P2, p, k1, k2⟩
      · exact Or.inl ⟨t', M2, P2, ml_step hcl k1, k2⟩
      · exact Or.inr ⟨t', M2, P2, p, ml_step hcl k1, k2⟩
    · -- no move: the end, or an error
      have hrf : bX8_readsStep_96 tx before (nI f) (nI i) tr rb ro = some (.inr (nI i, nI f, tr, rb, ro)) := by
        unfold bX8_readsStep_96
        rw [hmv, me_bd, if_pos rfl]
      refine ⟨i, f, tr, rb, ro, ml_done hrf, ⟨by omega, by omega⟩, by omega, h11, hF, ?_⟩
      have h80 : ¬ (80 : Int32) ≤ nI f := mq_nle (a := 80) (by omega) (by omega)
      by_cases hend : 2 ≤ f ∧ ch L sg i = 41
      · left
        refine ⟨t, M, P, ml_done ?_, hend.1, hend.2, h', hf0 (by omega)⟩
        rw [me_u4]
        unfold bX2_readParallel_12
        have hf2 : ¬ nI f < (2 : Int32) := nI_nlt (b := 2) hend.1 (by omega)
        rw [if_neg h80, if_neg h2, me_let, if_neg hf2, h4, me_sign hL h1 (by omega), me_bd, if_pos hend.2, me_let, nI_1]
      · right
        have hcl : bX2_readParallel_12 sg (nI n) (nI f) t M P = some (.inl (nI (f + 1), rfs t p, M, P)) := by
          unfold bX2_readParallel_12
          rw [if_neg h80, if_neg h2, me_let, hrd M P, me_b3, me_let, nI_1, h4, me_sign hL h1 (by omega), me_bd]
          by_cases hf2 : nI f < 2
          · rw [if_pos hf2]
          · rw [if_neg hf2, if_neg (fun h9 => hend ⟨by
              rcases Nat.lt_or_ge f 2 with h8 | h8
              · exact absurd ((nI_ltI (b := 2) (by omega) (by omega)).mpr h8) hf2
              · exact h8, h9⟩)]
        refine ⟨t, M, P, p, ml_step hcl (ml_done ?_), by omega, h1, hfa, hend⟩
        rw [me_u4]
        unfold bX2_readParallel_12
        by_cases h80' : (80 : Int32) ≤ nI (f + 1)
        · rw [if_pos h80']
        · have hr2 : rfs t p 2 = 1 := rfl
          rw [if_neg h80', if_pos hr2]
/-- between the steps: n are read, the next begins at place i -/
def RD (L n i : Nat) (t M ob Z P tr rb ro rp : Nat → Int32) : Prop := (t 1 = nI L ∧ tr 11 = nI L ∧ tr 14 = nI n ∧ tr 18 = t 5 ∧ t 4 = nI i) ∧ EW t tr ∧ (∀ j, j < n → ro j = P j ∧ rb j = M j ∧ rp j = Z j) ∧ (∀ j, n ≤ j → j < 16 → P j = 0 ∧ M j = 0 ∧ Z j = 0) ∧ (∀ j, j < n → (Z j ≤ 0 ↔ ¬ P j ||| M j = 0) ∧ (Z j = 0 ∨ ¬ Z j ≤ 0) ∧ ∀ c, c < 32 → (bt (P j) c = true ∨ bt (M j) c = true) → c < 6) ∧ (t 2 = 0 → (∀ j, j < n → ob j = sp_ob P M j ∧ ∀ c, c < 6 → ¬ (bt (P j) c = true ∧ bt (M j) c = true) ∧ (bt (P j) c = true → bt (sp_ob P M j) c = false) ∧ (bt (M j) c = true → bt (sp_ob P M j) c = true)) ∧ t 5 = sp_ob P M n)
theorem sp_ob_s {P M : Nat → Int32} {n : Nat} {o : Int32} (h : ∀ c, c < 32 → bt o c = ((bt (sp_ob P M n) c || bt (P n) c) && !bt (M n) c)) : o = sp_ob P M (n + 1) := by
  refine b_ext (fun i hi => ?_)
  rw [h i hi, sp_ob, b_and, b_or, mb_not _ hi]
/-- what is said of the steps behind step n, once it is read -/
theorem rd_next {L n i i' : Nat} {t t' M M' ob Z Z' P P' tr tr' rb rb' ro ro' rp rp' : Nat → Int32} (hn : n < 16) (h : RD L n i t M ob Z P tr rb ro rp) (hb : (t' 1 = nI L ∧ tr' 11 = nI L ∧ tr' 14 = nI n ∧ tr' 18 = t' 5 ∧ t' 4 = nI i')) (hE : EW t' tr') (hA : ∀ j, j ≤ n → ro' j = P' j ∧ rb' j = M' j ∧ rp' j = Z' j) (hP : ∀ j, j ≠ n → P' j = P j ∧ M' j = M j ∧ Z' j = Z j) (hZ : (Z' n ≤ 0 ↔ ¬ P' n ||| M' n = 0) ∧ (Z' n = 0 ∨ ¬ Z' n ≤ 0)) (h6 : ∀ c, c < 32 → (bt (P' n) c = true ∨ bt (M' n) c = true) → c < 6) (hV : t' 2 = 0 → t 2 = 0 ∧ (∀ c, c < 6 → ¬ (bt (P' n) c = true ∧ bt (M' n) c = true)) ∧ (∀ c, c < 6 → bt (P' n) c = true → bt (t 5) c = false) ∧ (∀ c, c < 6 → bt (M' n) c = true → bt (t 5) c = true) ∧ ∀ c, c < 32 → bt (t' 5) c = ((bt (t 5) c || bt (P' n) c) && !bt (M' n) c)) : RD L (n + 1) i' t' M' (upd ob n (t 5)) Z' P' (upd tr' 14 (nI (n + 1))) rb' ro' rp' := by
  obtain ⟨⟨a1, a2, a3, a4, a5⟩, b, c1, c2, c3, c4⟩ := h
  obtain ⟨q1, q2, q3, q4, q5⟩ := hb
  have hob : ∀ j, j ≤ n → sp_ob P' M' j = sp_ob P M j := fun j hj => sp_ob_congr j (fun k hk => ⟨(hP k (by omega)).1, (hP k (by omega)).2.1⟩)
  refine ⟨⟨q1, ?_, mu_s _ _ _, ?_, q5⟩, ?_, fun j hj => hA j (by omega), fun j h1 h2 => ?_, fun j hj => ?_, fun h0 => ?_⟩
  · rw [mu_n _ _ (by omega)]; exact q2
  · rw [mu_n _ _ (by omega)]; exact q4
  · unfold EW
    rw [mu_n _ _ (by omega)]
    exact hE
  · obtain ⟨p1, p2, p3⟩ := hP j (by omega)
    rw [p1, p2, p3]
    exact c2 j (by omega) h2
  · rcases Nat.lt_or_ge j n with h9 | h9
    · obtain ⟨p1, p2, p3⟩ := hP j (by omega)
      rw [p1, p2, p3]
      exact c3 j h9
    · rw [show j = n by omega]
      exact ⟨hZ.1, hZ.2, h6⟩
  · obtain ⟨v0, v1, v2, v3, v4⟩ := hV h0
    obtain ⟨w1, w2⟩ := c4 v0
    rw [w2] at v2 v3 v4
    refine ⟨fun j hj => ?_, ?_⟩
    · rcases Nat.lt_or_ge j n with h9 | h9
      · obtain ⟨p1, p2, p3⟩ := hP j (by omega)
        rw [mu_n _ _ (by omega), hob j (by omega), p1, p2]
        exact w1 j h9
      · rw [show j = n by omega, mu_s, hob n (Nat.le_refl n)]
        exact ⟨w2, fun c hc => ⟨v1 c hc, v2 c hc, v3 c hc⟩⟩
    · refine sp_ob_s (fun c hc => ?_)
      rw [hob n (Nat.le_refl n)]
      exact v4 c hc
end
