section
theorem me_u6 {α1 α2 α3 α4 α5 α6 β : Type} (k : α1 → α2 → α3 → α4 → α5 → α6 → β) (a : α1) (b : α2) (c : α3) (d : α4) (e : α5) (f : α6) : bq_u6 k (a, b, c, d, e, f) = k a b c d e f := rfl
theorem me_u7 {α1 α2 α3 α4 α5 α6 α7 β : Type} (k : α1 → α2 → α3 → α4 → α5 → α6 → α7 → β) (a : α1) (b : α2) (c : α3) (d : α4) (e : α5) (f : α6) (g : α7) : bq_u7 k (a, b, c, d, e, f, g) = k a b c d e f g := rfl
/-- what reading leaves of the reference's own fields -/
def FRT (tr0 tr : Nat → Int32) : Prop := ∀ k, k ≠ 14 → k ≠ 18 → k ≠ 19 → tr k = tr0 k
/-- kind and place of what is wrong, when all is read -/
def rKd (tr : Nat → Int32) (hm : Bool) : Int32 := if tr 19 < 0 then (if tr 18 = 0 then (if (if hm then (1 : Int32) else 0) = 0 then 3 else 0) else 3) else 2
def rPl (tr : Nat → Int32) : Int32 := if tr 19 < 0 then tr 11 else tr 19
theorem read_loop {L : Nat} {sg tx tr0 q0 : Nat → Int32} (hT : TXT L sg tx) (hL0 : 0 < L) : ∀ (d n i : Nat) (hm : Bool) (t q M ob Z P tr rb ro rp : Nat → Int32), n + d = 16 → i ≤ L → RD L n i t M ob Z P tr rb ro rp → ¬ t 2 = 1 → (hm = true ↔ ∃ j, j < n ∧ Z j = 0) → FRT tr0 tr → q 0 = nI n → (∀ k, k ≠ 0 → q k = q0 k) → (n = 0 → i = 0) →
    ∃ t' q' M' ob' Z' P' rr, bq_loop (bq_u7 (bX2_readInto_26 sg)) (nI n, t, q, M, ob, Z, P) = some (t', q', M', ob', Z', P') ∧ bq_loop (bq_u6 (bX8_reads_19 tx)) ((if hm then 1 else 0), nI i, tr, rb, ro, rp) = some rr ∧ t' 1 = nI L ∧ (∀ k, k ≠ 0 → q' k = q0 k) ∧
    ((∃ p tr' rb' ro' rp', p < 200 ∧ rr = .inl (-1 - nI p, tr', rb', ro', rp') ∧ FRT tr0 tr' ∧ ((t' 2 = 1 ∧ t' 3 = nI p) ∨ (¬ t' 2 = 1 ∧ t' 4 = nI p ∧ p < L))) ∨
     (∃ N tr' rb' ro' rp' hm', 0 < N ∧ N ≤ 16 ∧ RD L N L t' M' ob' Z' P' tr' rb' ro' rp' ∧ ¬ t' 2 = 1 ∧ q' 0 = nI N ∧ FRT tr0 tr' ∧ (hm' = true ↔ ∃ j, j < N ∧ Z' j = 0) ∧ rr = .inr ((if rKd tr' hm' = 0 then 1 else 0), upd (upd tr' 12 (rKd tr' hm')) 13 (rPl tr'), rb', ro', rp'))) := by
  have hL := hT.1
  intro d
  induction d with
  | zero =>
    intro n i hm t q M ob Z P tr rb ro rp hn hi hR h2 hhm hF hq hq2 hn0
    have h16 : n = 16 := by omega
    subst h16
    have hR0 := hR
    obtain ⟨⟨a1, a2, a3, a4, a5⟩, b, _⟩ := hR
    have hcl : bq_loop (bq_u7 (bX2_readInto_26 sg)) (nI 16, t, q, M, ob, Z, P) = some (t, q, M, ob, Z, P) := by
      refine ml_done ?_
      rw [me_u7]
      unfold bX2_readInto_26
      rw [if_pos (by decide)]
    rcases Nat.lt_or_ge i L with hlt | hge
    · refine ⟨t, q, M, ob, Z, P, _, hcl, ml_done (r := .inl (-1 - nI i, tr, rb, ro, rp)) ?_, a1, hq2, Or.inl ⟨i, tr, rb, ro, rp, by omega, rfl, hF, Or.inr ⟨h2, a5, hlt⟩⟩⟩
      rw [me_u6]
      unfold bX8_reads_19
      rw [me_let, a2, if_pos (nI_lt hlt (by omega)), a3, if_pos (by decide), me_b5, if_neg (mq_m1 i (by omega)).1]
    · have hiL : i = L := by omega
      subst hiL
      refine ⟨t, q, M, ob, Z, P, _, hcl, ml_done (r := .inr ((if rKd tr hm = 0 then 1 else 0), upd (upd tr 12 (rKd tr hm)) 13 (rPl tr), rb, ro, rp)) ?_, a1, hq2, Or.inr ⟨16, tr, rb, ro, rp, hm, by omega, by omega, hR0, h2, hq, hF, hhm, rfl⟩⟩
      rw [me_u6]
      unfold bX8_reads_19
      rw [me_let, if_neg (by rw [a2]; exact nI_nlt (Nat.le_refl _) (by omega)), if_neg (by rw [a3]; exact nI_ne0 (by omega) (by omega)), me_let, me_let, me_let, me_let, me_let]
      show bq_cb (if rKd tr hm = 0 then (1 : Int32) else 0) _ = _
      rw [me_cbi]
      rfl
  | succ d ih =>
    intro n i hm t q M ob Z P tr rb ro rp hn hi hR h2 hhm hF hq hq2 hn0
    have hR0 := hR
    obtain ⟨⟨a1, a2, a3, a4, a5⟩, b, _⟩ := hR
    have h16 : ¬ (16 : Int32) ≤ nI n := mq_nle (a := 16) (by omega) (by omega)
    rcases Nat.lt_or_ge i L with hlt | hge
    · obtain ⟨t', M', Z', P', v, tr', rb', ro', rp', g1, g2, g3, g4⟩ := step_sim hT hR0 h2 (by omega) hlt
      have hcl : bX2_readInto_26 sg (nI n) t q M ob Z P = some (.inl (nI (n + 1), t', upd q 0 (nI (n + 1)), M', upd ob n (t 5), Z', P')) := by
        unfold bX2_readInto_26
        rw [if_neg h16, a1, a5, if_neg (mq_nle hlt (by omega)), if_neg h2, me_ci _ (by omega) (by omega), nI_clamp (by omega), me_let, g1, me_b4, nI_1]
        rfl
      have hF' : FRT tr0 tr' := fun k k1 k2 k3 => by rw [g3 k k2 k3]; exact hF k k1 k2 k3
      have hrf : bX8_reads_19 tx (if hm then 1 else 0) (nI i) tr rb ro rp = (if 0 ≤ v then (bq_bd (if (if hm then (1 : Int32) else 0) = 0 then (bq_ci (tr' 14) 17 (if (rp' ((tr' 14) : Int32).toNatClampNeg) = 0 then (some 1) else (some 0))) else (some 1) : Option (Int32)) (fun v27 => bq_let (upd tr' 14 ((tr' 14) + 1)) (fun t_28 => some (.inl (v27, v, t_28, rb', ro', rp'))))) else (some (.inr (.inl (v, tr', rb', ro', rp'))))) := by
        unfold bX8_reads_19
        have hn16 : ¬ nI n = (16 : Int32) := fun h9 => absurd ((nI_eq (b := 16) (by omega) (by omega)).mp h9) (by omega)
        rw [me_let, a2, if_pos (nI_lt hlt (by omega)), a3, if_neg hn16, g2, me_b5, me_b5]
      rcases g4 with ⟨e, e1, e2, e3, e4, e6, e5⟩ | ⟨p, p1, p2, p3, p4, p5⟩
      · rw [e3, if_pos (nI_pos' (by omega))] at hrf
        have t14 : tr' 14 = nI n := by rw [g3 14 (by omega) (by omega)]; exact a3
        have hrpn : rp' n = Z' n := (e5.2.2.1 n (by omega)).2.2
        have hhm' : ∃ hm' : Bool, (if (if hm then (1 : Int32) else 0) = 0 then (bq_ci (tr' 14) 17 (if (rp' ((tr' 14) : Int32).toNatClampNeg) = 0 then (some 1) else (some 0))) else (some 1) : Option (Int32)) = some (if hm' then 1 else 0) ∧ (hm' = true ↔ ∃ j, j < n + 1 ∧ Z' j = 0) := by
          have hZo : ∀ j, j < n → Z' j = Z j := fun j hj => e6 j (by omega)
          rw [t14, me_ci _ (by omega) (by omega), nI_clamp (by omega), hrpn]
          cases hm with
          | true =>
            refine ⟨true, by rw [if_neg (by decide)]; rfl, fun _ => ?_, fun _ => rfl⟩
            obtain ⟨j, j1, j2⟩ := hhm.mp rfl
            exact ⟨j, by omega, by rw [hZo j j1]; exact j2⟩
          | false =>
            by_cases hz : Z' n = 0
            · exact ⟨true, by rw [if_pos (by decide), if_pos hz]; rfl, fun _ => ⟨n, by omega, hz⟩, fun _ => rfl⟩
            · refine ⟨false, by rw [if_pos (by decide), if_neg hz]; rfl, fun h9 => (by cases h9), fun ⟨j, j1, j2⟩ => ?_⟩
              rcases Nat.lt_or_ge j n with h9 | h9
              · exact hhm.mpr ⟨j, h9, by rw [← hZo j h9]; exact j2⟩
              · rw [show j = n by omega] at j2
                exact absurd j2 hz
        obtain ⟨hm', m1, m2⟩ := hhm'
        rw [m1, me_bd, t14, nI_1, me_let] at hrf
        obtain ⟨t2, q2, M2, ob2, Z2, P2, rr, k1, k2, k3, k4, k5⟩ := ih (n + 1) e hm' t' (upd q 0 (nI (n + 1))) M' (upd ob n (t 5)) Z' P' (upd tr' 14 (nI (n + 1))) rb' ro' rp' (by omega) e2 e5 e4 m2 (fun k x1 x2 x3 => by rw [mu_n _ _ x1]; exact hF' k x1 x2 x3) (mu_s _ _ _) (fun k hk => by rw [mu_n _ _ hk]; exact hq2 k hk) (fun h9 => by omega)
        exact ⟨t2, q2, M2, ob2, Z2, P2, rr, ml_step hcl k1, ml_step hrf k2, k3, k4, k5⟩
      · rw [p2, if_neg (mq_m1 p (by omega)).1] at hrf
        refine ⟨t', upd q 0 (nI (n + 1)), M', upd ob n (t 5), Z', P', _, ml_step hcl (ml_done ?_), ml_done hrf, p5, fun k hk => by rw [mu_n _ _ hk]; exact hq2 k hk, Or.inl ⟨p, tr', rb', ro', rp', p1, rfl, hF', Or.inl ⟨p3, p4⟩⟩⟩
        rw [me_u7]
        unfold bX2_readInto_26
        by_cases h9 : (16 : Int32) ≤ nI (n + 1)
        · rw [if_pos h9]
        · rw [if_neg h9, if_pos p3]
          exact ite_self _
    · have hiL : i = L := by omega
      have hn1 : n ≠ 0 := fun h9 => by have := hn0 h9; omega
      subst hiL
      refine ⟨t, q, M, ob, Z, P, _, ml_done ?_, ml_done (r := .inr ((if rKd tr hm = 0 then 1 else 0), upd (upd tr 12 (rKd tr hm)) 13 (rPl tr), rb, ro, rp)) ?_, a1, hq2, Or.inr ⟨n, tr, rb, ro, rp, hm, by omega, by omega, hR0, h2, hq, hF, hhm, rfl⟩⟩
      · rw [me_u7]
        unfold bX2_readInto_26
        rw [if_neg h16, a1, a5, if_pos (mq_rfl _)]
      · rw [me_u6]
        unfold bX8_reads_19
        rw [me_let, if_neg (by rw [a2]; exact nI_nlt (Nat.le_refl _) (by omega)), if_neg (by rw [a3]; exact nI_ne0 (by omega) (by omega)), me_let, me_let, me_let, me_let, me_let]
        show bq_cb (if rKd tr hm = 0 then (1 : Int32) else 0) _ = _
        rw [me_cbi]
        rfl
theorem rfs_2 (t : Nat → Int32) (p : Nat) : ¬ rfs t p 2 = 0 := by
  show ¬ (1 : Int32) = 0
  decide
theorem or_zero {X : Nat → Int32} {N : Nat} : sp_or (fun _ => true) X N = 0 ↔ ∀ j, j < N → X j = 0 := by
  rw [mb_zero]
  constructor
  · intro h j hj
    refine mb_zero.mpr (fun c hc => Bool.eq_false_iff.mpr (fun h9 => ?_))
    have := (sp_or_bt (fun _ => true) X c N).mpr ⟨j, hj, rfl, h9⟩
    rw [h c hc] at this
    cases this
  · intro h c hc
    refine Bool.eq_false_iff.mpr (fun h9 => ?_)
    obtain ⟨j, j1, _, j2⟩ := (sp_or_bt (fun _ => true) X c N).mp h9
    rw [h j j1, b_0] at j2
    cases j2
/-- a whole text, both sides -/
theorem reads_sim {L : Nat} {sg tx : Nat → Int32} (t q M ob Z P tr rb ro rp : Nat → Int32) (hT : TXT L sg tx) (h1 : t 1 = nI L) (h11 : tr 11 = nI L) :
    ∃ t' q' M' ob' Z' P' tr' rb' ro' rp', mX2_readInto t sg q M ob Z P = some (t', q', M', ob', Z', P') ∧ mX8_reads tr rb ro rp tx = some ((if t' 2 = 0 then 1 else 0), tr', rb', ro', rp') ∧ t' 1 = nI L ∧ (∀ k, k ≠ 0 → q' k = q k) ∧ tr' 12 = t' 2 ∧ (∀ k, k ≠ 12 → k ≠ 13 → k ≠ 14 → k ≠ 18 → k ≠ 19 → tr' k = tr k) ∧ (¬ t' 2 = 0 → tr' 13 = t' 3) ∧ (t' 2 = 0 → ∃ N, 0 < N ∧ N ≤ 16 ∧ q' 0 = nI N ∧ tr' 14 = nI N ∧ (∀ j, j < N → ro' j = P' j ∧ rb' j = M' j ∧ rp' j = Z' j) ∧ (∀ j, j < N → (Z' j ≤ 0 ↔ ¬ P' j ||| M' j = 0) ∧ ∀ c, c < 32 → (bt (P' j) c = true ∨ bt (M' j) c = true) → c < 6) ∧ (∀ j, j < N → ob' j = sp_ob P' M' j ∧ ∀ c, c < 6 → ¬ (bt (P' j) c = true ∧ bt (M' j) c = true) ∧ (bt (P' j) c = true → bt (sp_ob P' M' j) c = false) ∧ (bt (M' j) c = true → bt (sp_ob P' M' j) c = true)) ∧ sp_ob P' M' N = 0 ∧ ∃ j, j < N ∧ ¬ P' j ||| M' j = 0) := by
  have hL := hT.1
  generalize ht8 : upd (upd (upd (upd t 2 0) 3 0) 4 0) 5 0 = t8
  generalize htr3 : upd (upd (upd tr 14 0) 18 0) 19 (-1) = tr3
  have hcl : mX5_clear q M Z P = some (upd q 0 0, sp_put M (fun _ => 0) 0 16, sp_put Z (fun _ => 0) 0 16, sp_put P (fun _ => 0) 0 16) := by
    unfold mX5_clear
    rw [me_let, me_fill 16 (by omega), me_bd, me_fill 16 (by omega), me_bd, me_fill 16 (by omega), me_bd]
  have hz : ∀ (X : Nat → Int32) j, j < 16 → sp_put X (fun _ => 0) 0 16 j = 0 := fun X j hj => by
    have := sp_put_in X (fun _ => 0) (a := 0) hj
    rw [Nat.zero_add] at this
    exact this
  have hF3 : FRT tr tr3 := fun k k1 k2 k3 => by rw [← htr3, mu_n _ _ k3, mu_n _ _ k2, mu_n _ _ k1]
  have e81 : t8 1 = nI L := by rw [← ht8]; exact h1
  have e82 : t8 2 = 0 := by rw [← ht8]; rfl
  have e84 : t8 4 = 0 := by rw [← ht8]; rfl
  have e85 : t8 5 = 0 := by rw [← ht8]; rfl
  have r11 : tr3 11 = nI L := by rw [hF3 11 (by omega) (by omega) (by omega)]; exact h11
  have r14 : tr3 14 = nI 0 := by rw [← htr3]; rfl
  have r18 : tr3 18 = 0 := by rw [← htr3]; rfl
  have r19 : tr3 19 = -1 := by rw [← htr3]; rfl
  -- the class, out of what its loop gives
  have hinto : ∀ t16 q17 M18 ob19 Z20 P21 t22 t25, bq_loop (bq_u7 (bX2_readInto_26 sg)) (nI 0, t8, upd q 0 0, sp_put M (fun _ => 0) 0 16, ob, sp_put Z (fun _ => 0) 0 16, sp_put P (fun _ => 0) 0 16) = some (t16, q17, M18, ob19, Z20, P21) → (if (t16 2) = 1 then (some t16) else (if (t16 4) < (t16 1) then (bq_bd (mX2_refuseSign t16 (t16 4)) (fun t_23 => some t_23)) else (if (t16 1) = 0 then (bq_bd (mX2_refuseSign t16 (t16 4)) (fun t_24 => some t_24)) else (some t16))) : Option ((Nat → Int32))) = some t22 → (if (t22 2) = 0 then (if (t22 5) = 0 then (bq_bd (mX5_movingCylinders q17 M18 P21) (fun v28 => if v28 = 0 then (some (upd (upd t22 2 3) 3 (upd t22 2 3 1))) else (some t22))) else (some (upd (upd t22 2 3) 3 (upd t22 2 3 1)))) else (some t22) : Option ((Nat → Int32))) = some t25 → mX2_readInto t sg q M ob Z P = some (t25, q17, M18, ob19, Z20, P21) := by
    intro t16 q17 M18 ob19 Z20 P21 t22 t25 g1 g2 g3
    unfold mX2_readInto
    have g1' : bq_loop (bq_u7 (bX2_readInto_26 sg)) (0, t8, upd q 0 0, sp_put M (fun _ => 0) 0 16, ob, sp_put Z (fun _ => 0) 0 16, sp_put P (fun _ => 0) 0 16) = some (t16, q17, M18, ob19, Z20, P21) := g1
    rw [hcl, me_b4, me_let, me_let, me_let, me_let, ht8, g1', me_b6, g2, me_bd]
    show bq_bd (if (t22 2) = 0 then (if (t22 5) = 0 then (bq_bd (mX5_movingCylinders q17 M18 P21) (fun v28 => if v28 = 0 then (some (upd (upd t22 2 3) 3 (upd t22 2 3 1))) else (some t22))) else (some (upd (upd t22 2 3) 3 (upd t22 2 3 1)))) else (some t22) : Option ((Nat → Int32))) _ = _
    rw [g3, me_bd]
  have hreads : ∀ rr, bq_loop (bq_u6 (bX8_reads_19 tx)) (0, 0, tr3, rb, ro, rp) = some rr → mX8_reads tr rb ro rp tx = (match rr with | .inl (v, a, b, c, d) => some (0, upd (upd a 12 1) 13 (-1 - v), b, c, d) | .inr r => some r) := by
    intro rr hr
    unfold mX8_reads
    rw [me_let, me_let, me_let, htr3, hr, me_bd]
    rcases rr with ⟨v, a, b, c, d⟩ | r <;> rfl
  rcases Nat.eq_zero_or_pos L with hL0 | hL0
  · -- no text
    subst hL0
    have h80 : t8 1 = 0 := e81
    have hcl2 : bq_loop (bq_u7 (bX2_readInto_26 sg)) (nI 0, t8, upd q 0 0, sp_put M (fun _ => 0) 0 16, ob, sp_put Z (fun _ => 0) 0 16, sp_put P (fun _ => 0) 0 16) = some (t8, upd q 0 0, sp_put M (fun _ => 0) 0 16, ob, sp_put Z (fun _ => 0) 0 16, sp_put P (fun _ => 0) 0 16) := by
      refine ml_done ?_
      rw [me_u7]
      unfold bX2_readInto_26
      rw [if_neg (by decide), h80, e84, if_pos (mq_rfl _)]
    have hc0 : ch 0 sg 0 = -1 := rfl
    have hl0 := mr_letter (tr := tr3) hT r11 (i := 0) (by omega)
    rw [hc0] at hl0
    have hst : mX8_readsStep tr3 rb ro rp tx 0 = some (-1 - nI 0, tr3, upd rb 0 0, upd ro 0 0, upd rp 0 0) := by
      have hl0' : mX8_letter tr3 tx 0 = some (-1) := hl0
      have hin : mX8_in (-1) 65 70 = some 0 := by rw [me_in, if_neg (by decide)]
      have hmv : mX8_isMove tr3 tx 0 = some 0 := by
        unfold mX8_isMove
        rw [hl0', me_bd, hin, me_bd, if_pos rfl]; rfl
      have hfa : mX8_failsAt tr3 tx 0 = some 0 := by
        unfold mX8_failsAt
        rw [hl0', me_bd, hin, me_bd, if_pos rfl, me_let]
      unfold mX8_readsStep
      rw [me_let, r14, me_ci _ (by omega) (by omega), nI_clamp (by omega), me_let, me_ci _ (by omega) (by omega), me_let, me_ci _ (by omega) (by omega), me_let, hl0', me_bd, if_neg (by decide), me_bd, if_neg (by decide), hmv, me_bd, if_pos rfl, hfa, me_bd]
      rfl
    have hrl : bq_loop (bq_u6 (bX8_reads_19 tx)) (0, 0, tr3, rb, ro, rp) = some (.inl (-1 - nI 0, tr3, upd rb 0 0, upd ro 0 0, upd rp 0 0)) := by
      refine ml_done ?_
      rw [me_u6]
      unfold bX8_reads_19
      have q1 : tr3 14 = 0 := r14
      have q2 : ¬ tr3 14 = 16 := by rw [r14]; decide
      rw [me_let, r11, if_neg (by decide), if_pos q1, if_neg q2, hst, me_b5, me_b5, if_neg (mq_m1 0 (by omega)).1]
    have hrd := hreads _ hrl
    refine ⟨rfs t8 0, upd q 0 0, _, _, _, _, upd (upd tr3 12 1) 13 (-1 - (-1 - nI 0)), _, _, _, hinto _ _ _ _ _ _ (rfs t8 0) (rfs t8 0) hcl2 ?_ ?_, hrd, ?_, fun k hk => mu_n _ _ hk, rfl, fun k k1 k2 k3 k4 k5 => ?_, fun _ => (by rw [mu_s]; exact (mq_m1 0 (by omega)).2), fun h9 => absurd h9 (rfs_2 _ _)⟩
    · rw [e82, if_neg (by decide), h80, e84, if_neg (by decide), if_pos rfl]
      rfl
    · exact if_neg (rfs_2 _ _)
    · exact e81
    · rw [mu_n _ _ k2, mu_n _ _ k1]; exact hF3 k k3 k4 k5
  · -- some text
    have hRD : RD L 0 0 t8 (sp_put M (fun _ => 0) 0 16) ob (sp_put Z (fun _ => 0) 0 16) (sp_put P (fun _ => 0) 0 16) tr3 rb ro rp := by
      refine ⟨⟨e81, r11, r14, by rw [r18, e85], e84⟩, Or.inl ⟨e82, r19⟩, fun j hj => by omega, fun j _ hj => ⟨hz P j hj, hz M j hj, hz Z j hj⟩, fun j hj => by omega, fun _ => ⟨fun j hj => by omega, e85⟩⟩
    obtain ⟨t', q', M', ob', Z', P', rr, k1, k2, k3, k4, k5⟩ := read_loop (tr0 := tr) (q0 := q) hT hL0 16 0 0 false t8 (upd q 0 0) _ ob _ _ tr3 rb ro rp (by omega) (by omega) hRD (by rw [e82]; decide) ⟨fun h9 => (by cases h9), fun ⟨j, j1, _⟩ => (by omega)⟩ hF3 (mu_s _ _ _) (fun k hk => mu_n _ _ hk) (fun _ => rfl)
    have hrd := hreads rr k2
    rcases k5 with ⟨p, tr', rb', ro', rp', p1, rfl, p3, p4⟩ | ⟨N, tr', rb', ro', rp', hm, n1, n2, n3, n4, n5, n6, n7, rfl⟩
    · -- a sign that is wrong
      have hrd' : mX8_reads tr rb ro rp tx = some (0, upd (upd tr' 12 1) 13 (-1 - (-1 - nI p)), rb', ro', rp') := hrd
      rw [(mq_m1 p (by omega)).2] at hrd'
      have hfr : ∀ k, k ≠ 12 → k ≠ 13 → k ≠ 14 → k ≠ 18 → k ≠ 19 → upd (upd tr' 12 1) 13 (nI p) k = tr k := fun k x1 x2 x3 x4 x5 => by rw [mu_n _ _ x2, mu_n _ _ x1]; exact p3 k x3 x4 x5
      rcases p4 with ⟨p4, p5⟩ | ⟨p4, p5, p6⟩
      · refine ⟨t', q', M', ob', Z', P', _, rb', ro', rp', hinto _ _ _ _ _ _ t' t' k1 ?_ ?_, by rw [p4]; exact hrd', k3, k4, ?_, hfr, fun _ => (by rw [mu_s, p5]), fun h9 => by rw [p4] at h9; exact absurd h9 (by decide)⟩
        · rw [if_pos p4]
        · rw [p4, if_neg (by decide)]
        · rw [mu_n _ _ (by omega), mu_s, p4]
      · refine ⟨rfs t' p, q', M', ob', Z', P', _, rb', ro', rp', hinto _ _ _ _ _ _ (rfs t' p) (rfs t' p) k1 ?_ ?_, hrd', k3, k4, ?_, hfr, fun _ => (by rw [mu_s]; rfl), fun h9 => absurd h9 (rfs_2 _ _)⟩
        · rw [if_neg p4, p5, k3, if_pos (nI_lt p6 (by omega))]
          rfl
        · exact if_neg (rfs_2 _ _)
        · rw [mu_n _ _ (by omega), mu_s]; rfl
    · -- all is read
      obtain ⟨⟨a1, a2, a3, a4, a5⟩, b, c1, c2, c3, c4⟩ := n3
      have ht22 : (if (t' 2) = 1 then (some t') else (if (t' 4) < (t' 1) then (bq_bd (mX2_refuseSign t' (t' 4)) (fun t_23 => some t_23)) else (if (t' 1) = 0 then (bq_bd (mX2_refuseSign t' (t' 4)) (fun t_24 => some t_24)) else (some t'))) : Option ((Nat → Int32))) = some t' := by
        rw [if_neg n4, a5, a1, if_neg (nI_nlt (Nat.le_refl _) (by omega)), if_neg (nI_ne0 hL0 (by omega))]
      have hrd' : mX8_reads tr rb ro rp tx = some ((if rKd tr' hm = 0 then 1 else 0), upd (upd tr' 12 (rKd tr' hm)) 13 (rPl tr'), rb', ro', rp') := hrd
      have hfr : ∀ k, k ≠ 12 → k ≠ 13 → k ≠ 14 → k ≠ 18 → k ≠ 19 → upd (upd tr' 12 (rKd tr' hm)) 13 (rPl tr') k = tr k := fun k x1 x2 x3 x4 x5 => by rw [mu_n _ _ x2, mu_n _ _ x1]; exact n6 k x3 x4 x5
      -- whether there is a move
      have hmv := me_movingC (M := M') (P := P') n5 n2
      have hmv0 : sp_or (fun _ => true) (fun i => P' i ||| M' i) N = 0 ↔ hm = false := by
        rw [or_zero]
        constructor
        · intro h
          refine Bool.eq_false_iff.mpr (fun h9 => ?_)
          obtain ⟨j, j1, j2⟩ := n7.mp h9
          exact ((c3 j j1).1.mp (by rw [j2]; decide)) (h j j1)
        · intro h j j1
          apply Classical.byContradiction
          intro h9
          have hle := (c3 j j1).1.mpr h9
          have h0 : Z' j = 0 := by
            rcases (c3 j j1).2.1 with h | h
            · exact h
            · exact absurd hle h
          have := n7.mpr ⟨j, j1, h0⟩
          rw [h] at this
          cases this
      generalize sp_or (fun _ => true) (fun i => P' i ||| M' i) N = mo at hmv hmv0
      rcases b with ⟨b1, b2⟩ | ⟨b1, p, b2, b3, b4⟩
      · -- no wrong move
        have hlt : tr' 19 < 0 := by rw [b2]; decide
        have hKd : rKd tr' hm = if t' 5 = 0 then (if hm then 0 else 3) else 3 := by
          unfold rKd
          rw [if_pos hlt, a4]
          cases hm <;> rfl
        have hPl : rPl tr' = nI L := by unfold rPl; rw [if_pos hlt, a2]
        by_cases hgood : t' 5 = 0 ∧ hm = true
        · obtain ⟨g5, gm⟩ := hgood
          replace hKd : rKd tr' hm = 0 := by rw [hKd, if_pos g5, if_pos gm]
          obtain ⟨w1, w2⟩ := c4 b1
          refine ⟨t', q', M', ob', Z', P', _, rb', ro', rp', hinto _ _ _ _ _ _ t' t' k1 ht22 ?_, by rw [b1, if_pos rfl, hrd', hKd, if_pos rfl], k3, k4, ?_, hfr, fun h9 => absurd b1 h9, fun _ => ⟨N, n1, n2, n5, ?_, c1, fun j hj => ⟨(c3 j hj).1, (c3 j hj).2.2⟩, w1, by rw [← w2]; exact g5, ?_⟩⟩
          · rw [b1, if_pos rfl, g5, if_pos rfl, hmv, me_bd, if_neg (fun h9 => by rw [hmv0.mp h9] at gm; cases gm)]
          · rw [mu_n _ _ (by omega), mu_s, hKd, b1]
          · rw [mu_n _ _ (by omega), mu_n _ _ (by omega)]; exact a3
          · obtain ⟨j, j1, j2⟩ := n7.mp gm
            exact ⟨j, j1, (c3 j j1).1.mp (by rw [j2]; decide)⟩
        · have hKd3 : rKd tr' hm = 3 := by
            rw [hKd]
            by_cases g5 : t' 5 = 0
            · rw [if_pos g5]
              cases hm
              · rfl
              · exact absurd ⟨g5, rfl⟩ hgood
            · rw [if_neg g5]
          refine ⟨upd (upd t' 2 3) 3 (upd t' 2 3 1), q', M', ob', Z', P', _, rb', ro', rp', hinto _ _ _ _ _ _ t' _ k1 ht22 ?_, by rw [hrd', hKd3]; rfl, k3, k4, ?_, hfr, fun _ => ?_, fun h9 => absurd (show (3 : Int32) = 0 from h9) (by decide)⟩
          · rw [b1, if_pos rfl]
            by_cases g5 : t' 5 = 0
            · rw [if_pos g5, hmv, me_bd, if_pos (hmv0.mpr (by
                cases hm
                · rfl
                · exact absurd ⟨g5, rfl⟩ hgood))]
            · rw [if_neg g5]
          · rw [mu_n _ _ (by omega), mu_s, hKd3]; rfl
          · rw [mu_s, hPl, mu_s]
            exact a1.symm
      · -- a wrong move
        have hlt : ¬ tr' 19 < 0 := by rw [b4]; exact nI_pos (by omega)
        have hKd : rKd tr' hm = 2 := by unfold rKd; rw [if_neg hlt]
        have hPl : rPl tr' = nI p := by unfold rPl; rw [if_neg hlt, b4]
        refine ⟨t', q', M', ob', Z', P', _, rb', ro', rp', hinto _ _ _ _ _ _ t' t' k1 ht22 ?_, by rw [b1, hrd', hKd], k3, k4, ?_, hfr, fun _ => ?_, fun h9 => by rw [b1] at h9; exact absurd h9 (by decide)⟩
        · rw [b1, if_neg (by decide)]
        · rw [mu_n _ _ (by omega), mu_s, hKd, b1]
        · rw [mu_s, hPl, b3]
end
