section
theorem mr_copy {N : Nat} {rb ro rp t7 : Nat → Int32} (bk os ps : Nat → Int32) (ht : t7 4 = nI N) (hN : N ≤ 16) : bq_loop (bq_u4 (bX8_readSequence_29 rb ro rp t7)) (0, bk, os, ps) = some (sp_put bk rb 0 N, sp_put os ro 0 N, sp_put ps rp 0 N) := by
  have h0 : ((0 : Int32), bk, os, ps) = (nI 0, sp_put bk rb 0 0, sp_put os ro 0 0, sp_put ps rp 0 0) := by rw [sp_put_0, sp_put_0, sp_put_0]; rfl
  rw [h0]
  refine ml_run (fun j => (nI j, sp_put bk rb 0 j, sp_put os ro 0 j, sp_put ps rp 0 j)) N (fun j hj => ?_) ?_
  · rw [me_u4]
    unfold bX8_readSequence_29
    have e1 := sp_put_s bk rb 0 j
    have e2 := sp_put_s os ro 0 j
    have e3 := sp_put_s ps rp 0 j
    rw [Nat.zero_add] at e1 e2 e3
    rw [ht, if_neg (mq_nle hj (by omega)), me_ci _ (by omega) (by omega), me_ci _ (by omega) (by omega), nI_clamp (by omega), me_let, me_ci _ (by omega) (by omega), me_ci _ (by omega) (by omega), me_let, me_ci _ (by omega) (by omega), me_ci _ (by omega) (by omega), me_let, me_let, nI_1, e1, e2, e3]
  · rw [me_u4]
    unfold bX8_readSequence_29
    rw [ht, if_pos (mq_rfl _)]
/-- the cells behind a reading that failed -/
def sgF (σ : Nat → Nat → Int32) (t rd q M ob Z P tr rb ro rp : Nat → Int32) : Nat → Nat → Int32 := su (su (su (su (su (su (su (su (su (su (su σ 0 t) 1 rd) 23 q) 26 M) 27 ob) 28 Z) 29 P) 40 tr) 45 rb) 46 ro) 47 rp
/-- the cells behind a reading that went well: the two sequences have changed their places -/
def sgO (σ : Nat → Nat → Int32) (t rd rg cir lg po sc ti q cu gos M ob Z P tr Mr ct Pr Zr rb ro rp r : Nat → Int32) : Nat → Nat → Int32 := su (su (su (su (su (su (su (su (su (su (su (su (su (su (su (su (su (su (su (su (su (su (su (su (su (su (su (su (su (su (su σ 0 t) 1 rd) 3 rg) 4 cir) 6 lg) 9 po) 10 sc) 19 ti) 11 q) 12 cu) 13 gos) 14 M) 15 ob) 16 Z) 17 P) 23 (σ 11)) 24 (σ 12)) 25 (σ 13)) 26 (σ 14)) 27 (σ 15)) 28 (σ 16)) 29 (σ 17)) 40 tr) 41 Mr) 42 ct) 43 Pr) 44 Zr) 45 rb) 46 ro) 47 rp) 48 r
theorem c_read {T n : Nat} {σ : Nat → Nat → Int32} (h : INV T n σ) (a q : Nat) :
    (∃ r t' rd' q' M' ob' Z' P' tr' rb' ro' rp', mX7_readSequence a q (σ 0) (σ 1) (σ 2) (σ 3) (σ 4) (σ 6) (σ 9) (σ 10) (σ 19) (σ 23) (σ 24) (σ 25) (σ 26) (σ 27) (σ 28) (σ 29) = some (r, t', rd', σ 3, σ 4, σ 6, σ 9, σ 10, σ 19, q', σ 24, σ 25, M', ob', Z', P', a, q) ∧ mX8_readSequence (σ 40) (σ 41) (σ 42) (σ 43) (σ 44) (σ 45) (σ 46) (σ 47) (σ 48) (σ 50) = some (r, tr', σ 41, σ 42, σ 43, σ 44, rb', ro', rp', σ 48) ∧ INV T n (sgF σ t' rd' q' M' ob' Z' P' tr' rb' ro' rp')) ∨
    (∃ r t' rd' rg' cir' lg' po' sc' ti' q' cu' gos' M' ob' Z' P' tr' Mr' ct' Pr' Zr' rb' ro' rp' r', mX7_readSequence a q (σ 0) (σ 1) (σ 2) (σ 3) (σ 4) (σ 6) (σ 9) (σ 10) (σ 19) (σ 23) (σ 24) (σ 25) (σ 26) (σ 27) (σ 28) (σ 29) = some (r, t', rd', rg', cir', lg', po', sc', ti', q', cu', gos', M', ob', Z', P', q, a) ∧ mX8_readSequence (σ 40) (σ 41) (σ 42) (σ 43) (σ 44) (σ 45) (σ 46) (σ 47) (σ 48) (σ 50) = some (r, tr', Mr', ct', Pr', Zr', rb', ro', rp', r') ∧ INV T n (sgO σ t' rd' rg' cir' lg' po' sc' ti' q' cu' gos' M' ob' Z' P' tr' Mr' ct' Pr' Zr' rb' ro' rp' r')) := by
  obtain ⟨N0, me0, start0, ac0, n0, _, _, _, _, hOB⟩ := inv_ob h
  obtain ⟨L, me, start, hT, ⟨h1, h11⟩, h3, h4, h5, h6, h7, h8⟩ := h
  have h11' : upd (σ 40) 3 0 11 = nI L := h11
  obtain ⟨t', q', M', ob', Z', P', tr', rb', ro', rp', g1, g2, g3, g4, g5, g6, g7, g8⟩ := reads_sim (σ 1) (σ 23) (σ 26) (σ 27) (σ 28) (σ 29) (upd (σ 40) 3 0) (σ 45) (σ 46) (σ 47) hT h1 h11'
  by_cases h0 : t' 2 = 0
  · -- it is a sequence
    right
    obtain ⟨N, n1, n2, n3, n4, n5, n6, n7, n8, n9⟩ := g8 h0
    have hin : ∀ (X Y : Nat → Int32) j, j < N → sp_put X Y 0 N j = Y j := fun X Y j hj => by
      have := sp_put_in X Y (a := 0) hj
      rw [Nat.zero_add] at this
      exact this
    obtain ⟨F, G, cf, cu', gos', ct', d1, d2, d3, d4⟩ := seq_new (q := q') (ob := ob') (tr := upd tr' 4 (tr' 14)) (Mr := sp_put (σ 41) rb' 0 N) (Pr := sp_put (σ 43) ro' 0 N) (Zr := sp_put (σ 44) rp' 0 N) (σ 24) (σ 25) (σ 42) n1 n2 n3 (by rw [mu_s]; exact n4) (fun j hj => by rw [hin _ _ j hj, hin _ _ j hj, hin _ _ j hj]; exact n5 j hj) n6 n7 n8 n9
    have hme : ∃ me start, me < 3 ∧ σ 3 8 = (if start = true then 1 else 0) ∧ σ 48 2 = (if start = true then 1 else 0) ∧ σ 4 0 = nI me ∧ σ 48 1 = nI me ∧ (∀ c, c < 6 → ∀ k, k < 5 → bt (σ 48 (38 + c)) k = bt (σ 5 k) c) := by
      rcases h8 with ⟨_, _, _, _, e⟩ | ⟨N, F, G, cf, ac, m, _, _, _, d⟩
      · exact ⟨me, start, h4, e.1.1, e.1.2, e.2.2.1.1, e.2.2.1.2.1, fun c hc k hk => (e.2.2.2.1 c hc).2.2.2 k hk⟩
      · exact ⟨me, start, h4, d.1.1.1, d.1.1.2, d.1.2.2.1.1, d.1.2.2.1.2.1, fun c hc k hk => (d.1.2.2.2.1 c hc).2.2.2 k hk⟩
    obtain ⟨me, start, k4, k8, k2, kc, k1, kf⟩ := hme
    have d3' : SQ N F G cf (upd q' 5 (nI G)) cu' gos' M' Z' P' (upd (upd (upd tr' 4 (tr' 14)) 8 (nI G)) 11 0) ct' (sp_put (σ 41) rb' 0 N) (sp_put (σ 43) ro' 0 N) (sp_put (σ 44) rp' 0 N) := sq_tr d3 rfl rfl
    have hrc := me_rest (me := me) (σ 3) (σ 4) (σ 6) (σ 9) (σ 10) (σ 19) d3' kc k4
    have hrr := mr_rests (me := me) d3' k1 k4
    have hRR := rr_rest (σ 3) (σ 4) (σ 6) (σ 7) (σ 8) (σ 9) (σ 10) (σ 5) (σ 19) (σ 48) d3' k4 k8 k2 kc k1 kf
    refine ⟨upd q' 5 (nI G) 0, upd (σ 0) 5 (t' 2), upd t' 1 0, sp_trest (σ 3), sp_cir (upd (σ 4) 1 (sp_ai (sp_ac0 me N G))) 0 0 0, sp_lrest (σ 6), sp_put (σ 9) (fun _ => 0) 0 6, sp_srest (σ 10) (nI F) (P' F) (M' F), sp_put (σ 19) (fun _ => 0) 0 16, upd q' 5 (nI G), cu', gos', M', ob', Z', P', upd (upd (upd tr' 4 (tr' 14)) 8 (nI G)) 11 0, sp_put (σ 41) rb' 0 N, ct', sp_put (σ 43) ro' 0 N, sp_put (σ 44) rp' 0 N, rb', ro', rp', sp_rest (σ 48) (sp_ai (sp_ac0 me N G)) (nI F) (sp_mo P' M' F), ?_, ?_, ?_⟩
    · unfold mX7_readSequence
      rw [g1, me_b6, me_let, if_pos h0, me_let, d1, me_b3, hrc, me_b6]
    · unfold mX8_readSequence
      rw [me_let, g2, me_b5, if_pos h0, if_neg (by decide), me_let, mr_copy _ _ _ (by rw [mu_s]; exact n4) n2, me_b3, d2, me_b2, me_let, hrr, me_bd]
      have e0 : upd (upd (upd tr' 4 (tr' 14)) 8 (nI G)) 11 0 4 = upd q' 5 (nI G) 0 := by
        rw [mu_n _ _ (by omega), mu_n _ _ (by omega), mu_s, mu_n _ _ (by omega), n4, n3]
      rw [e0]
    · refine ⟨0, me, start, ⟨by omega, fun i hi => by omega⟩, ⟨rfl, rfl⟩, ?_, k4, h5, ⟨0, by omega, ?_⟩, h7, Or.inr ⟨N, F, G, cf, sp_ac0 me N G, 0, by omega, d3', d4, hRR⟩⟩
      · show t' 2 = upd (upd (upd tr' 4 (tr' 14)) 8 (nI G)) 11 0 12
        rw [mu_n _ _ (by omega), mu_n _ _ (by omega), mu_n _ _ (by omega)]
        exact g5.symm
      · show sp_rest (σ 48) (sp_ai (sp_ac0 me N G)) (nI F) (sp_mo P' M' F) 0 = nI 0
        rw [sp_rest_k _ _ _ _ (by omega) (by omega) (by omega) (by omega) (by omega) (by omega)]
        rfl
  · -- it is none
    left
    refine ⟨-1 - t' 3, upd (σ 0) 5 (t' 2), t', q', M', ob', Z', P', tr', rb', ro', rp', ?_, ?_, ?_⟩
    · unfold mX7_readSequence
      rw [g1, me_b6, me_let, if_neg h0]
    · unfold mX8_readSequence
      rw [me_let, g2, me_b5, if_neg h0, if_pos rfl, g7 h0]
    · refine ⟨L, me, start, hT, ⟨g3, ?_⟩, g5.symm, h4, h5, h6, h7, ?_⟩
      · show tr' 11 = nI L
        rw [g6 11 (by omega) (by omega) (by omega) (by omega) (by omega)]
        exact h11'
      · have e4 : tr' 4 = σ 40 4 := g6 4 (by omega) (by omega) (by omega) (by omega) (by omega)
        have e8 : tr' 8 = σ 40 8 := g6 8 (by omega) (by omega) (by omega) (by omega) (by omega)
        rcases h8 with ⟨x1, x2, x3, x4, x5⟩ | ⟨N, F, G, cf, ac, m, x1, x2, x3, x4⟩
        · exact Or.inl ⟨x1, x2, by show tr' 4 = 0; rw [e4]; exact x3, by show tr' 8 = 0; rw [e8]; exact x4, x5⟩
        · exact Or.inr ⟨N, F, G, cf, ac, m, x1, sq_tr x2 e4 e8, x3, x4⟩
end
