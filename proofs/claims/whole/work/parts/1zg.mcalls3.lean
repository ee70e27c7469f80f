section
theorem me_append {rd sg : Nat → Int32} {L : Nat} (h : rd 1 = nI L) (hL : L < 80) (x : Int32) : mX2_append rd sg x = some (upd rd 1 (nI (L + 1)), upd sg L x) := by
  unfold mX2_append
  have h80 : ¬ (80 : Int32) ≤ nI L := mq_nle (a := 80) hL (by omega)
  rw [h, if_neg h80, me_ci _ hL (by omega), nI_clamp (by omega), me_let, me_let, me_b2, nI_1]
theorem c_type {T n : Nat} {σ : Nat → Nat → Int32} (h : INV T n σ) (o : Nat → Int64) (x : Int32) :
    (∃ k b, tL_type (σ 1) (σ 2) o x = some k ∧ ¬ k = 0 ∧ mX8_type (σ 40) (σ 50) x = some (b, upd (σ 40) 3 k, σ 50)) ∨
    (∃ b rd' sg' o' tr' tx', mL_type (σ 1) (σ 2) o x = some (0, rd', sg', o') ∧ mX8_type (σ 40) (σ 50) x = some (b, tr', tx') ∧ tr' 3 = 0 ∧ o' 0 = Int32.toInt64 b ∧ INV T n (su (su (su (su σ 1 rd') 2 sg') 40 tr') 50 tx')) := by
  obtain ⟨L, me, start, hT, ⟨h1, h11⟩, h3, h4, h5, h6, h7, h8⟩ := h
  have hL := hT.1
  by_cases hx1 : x < 32
  · left
    refine ⟨1, 0, ?_, by decide, ?_⟩
    · unfold tL_type tX7_type; rw [if_pos hx1]; rfl
    · unfold mX8_type
      rw [me_let, me_in, if_neg (fun h9 => absurd h9.1 (Int32.not_le.mpr hx1)), me_bd, if_pos rfl, mr_fails]; rfl
  · by_cases hx2 : x ≤ 126
    · have hin : mX8_in x 32 126 = some 1 := by rw [me_in, if_pos ⟨Int32.not_lt.mp hx1, hx2⟩]
      obtain ⟨c, hc, rfl⟩ := nI_of2 (M := 126) (n := 126) rfl (fun h9 => hx1 (Int32.lt_of_lt_of_le h9 (by decide))) hx2
      have hc32 : 32 ≤ c := by
        rcases Nat.lt_or_ge c 32 with h9 | h9
        · exact absurd (nI_lt (b := 32) h9 (by omega)) hx1
        · exact h9
      rcases Nat.lt_or_ge L 80 with hlt | hge
      · right
        have hl80 : σ 1 1 < (80 : Int32) := by rw [h1]; exact nI_lt (b := 80) hlt (by omega)
        have hne : ¬ upd (σ 40) 3 0 11 = 80 := by
          rw [mu_n _ _ (by omega), h11]
          exact fun h9 => absurd ((nI_eq (b := 80) (by omega) (by omega)).mp h9) (by omega)
        have e11 : upd (σ 40) 3 0 11 = nI L := h11
        refine ⟨nI (L + 1), upd (σ 1) 1 (nI (L + 1)), upd (σ 2) L (nI c), vp_updL o 0 (Int32.toInt64 (nI (L + 1))), upd (upd (σ 40) 3 0) 11 (nI (L + 1)), upd (σ 50) L (nI c), ?_, ?_, rfl, rfl, ?_⟩
        · unfold mL_type mX7_type
          rw [if_neg hx1, if_pos hx2, if_pos hl80, me_append h1 hlt, me_b2, me_b3, me_let, mu_s]
        · unfold mX8_type
          rw [me_let, hin, me_bd, if_neg (by decide), if_neg hne, e11, me_ci _ hlt (by omega), nI_clamp (by omega), me_let, me_let, nI_1, mu_s]
        · refine ⟨L + 1, me, start, ⟨by omega, fun i hi => ?_⟩, ⟨rfl, rfl⟩, ?_, h4, h5, h6, h7, ?_⟩
          · show upd (σ 50) L (nI c) i = upd (σ 2) L (nI c) i ∧ ∃ c', 32 ≤ c' ∧ c' < 127 ∧ upd (σ 2) L (nI c) i = nI c'
            rcases Nat.lt_or_ge i L with h9 | h9
            · rw [mu_n _ _ (by omega), mu_n _ _ (by omega)]
              exact hT.2 i h9
            · rw [show i = L by omega, mu_s, mu_s]
              exact ⟨rfl, c, hc32, by omega, rfl⟩
          · exact h3
          · rcases h8 with h | ⟨N, F, G, cf, ac, m, a, b, c, d⟩
            · exact Or.inl h
            · exact Or.inr ⟨N, F, G, cf, ac, m, a, sq_tr b rfl rfl, c, d⟩
      · left
        have hL80 : L = 80 := by omega
        subst hL80
        refine ⟨2, 0, ?_, by decide, ?_⟩
        · unfold tL_type tX7_type
          rw [if_neg hx1, if_pos hx2, if_neg (by rw [h1]; decide)]; rfl
        · unfold mX8_type
          have e11 : upd (σ 40) 3 0 11 = 80 := h11
          rw [me_let, hin, me_bd, if_neg (by decide), if_pos e11, mr_fails]; rfl
    · left
      refine ⟨1, 0, ?_, by decide, ?_⟩
      · unfold tL_type tX7_type; rw [if_neg hx1, if_neg hx2]; rfl
      · unfold mX8_type
        rw [me_let, me_in, if_neg (fun h9 => hx2 h9.2), me_bd, if_pos rfl, mr_fails]; rfl
theorem c_clearText {T n : Nat} {σ : Nat → Nat → Int32} (h : INV T n σ) : ∃ v rd' tr', mX7_clearText (σ 1) = some (v, rd') ∧ mX8_clearText (σ 40) = some (v, tr') ∧ INV T n (su (su σ 1 rd') 40 tr') := by
  obtain ⟨L, me, start, hT, ⟨h1, h11⟩, h3, h4, h5, h6, h7, h8⟩ := h
  refine ⟨nI L, upd (σ 1) 1 0, upd (upd (σ 40) 3 0) 11 0, ?_, ?_, 0, me, start, ⟨by omega, fun i hi => by omega⟩, ⟨rfl, rfl⟩, h3, h4, h5, h6, h7, ?_⟩
  · unfold mX7_clearText
    rw [me_let, me_let, h1]
  · unfold mX8_clearText
    rw [me_let, me_let, me_let, mu_n _ _ (by omega), h11]
  · rcases h8 with h | ⟨N, F, G, cf, ac, m, a, b, c, d⟩
    · exact Or.inl h
    · exact Or.inr ⟨N, F, G, cf, ac, m, a, sq_tr b rfl rfl, c, d⟩
/-- both sides come to rest -/
theorem rest_both {T n me : Nat} {σ : Nat → Nat → Int32} (h : INV T n σ) (cir0 r0 tr1 : Nat → Int32) (hme : me < 3) (hc : cir0 0 = nI me) (hr1 : r0 1 = nI me) (hr2 : r0 2 = σ 48 2) (hf : ∀ c, c < 6 → r0 (38 + c) = σ 48 (38 + c)) (ht4 : tr1 4 = σ 40 4) (ht8 : tr1 8 = σ 40 8) :
    ∃ rg' cir' lg' po' sc' ti' r' start, mX3_bringToRest (σ 3) cir0 (σ 6) (σ 9) (σ 10) (σ 11) (σ 14) (σ 17) (σ 19) = some (rg', cir', lg', po', sc', ti') ∧ mX8_rests tr1 (σ 41) (σ 43) (σ 44) r0 = some r' ∧ r' 0 = nI 0 ∧ ((σ 11 0 = 0 ∧ σ 11 5 = 0 ∧ tr1 4 = 0 ∧ tr1 8 = 0 ∧ OB 0 me start none 0 rg' cir' lg' (σ 7) (σ 8) po' sc' (σ 5) ti' r') ∨ (∃ N F G cf ac n', n' ≤ n ∧ SQ N F G cf (σ 11) (σ 12) (σ 13) (σ 14) (σ 16) (σ 17) tr1 (σ 42) (σ 41) (σ 43) (σ 44) ∧ SX N (σ 17) (σ 14) (σ 15) ∧ RR N F G me start ac n' (σ 16) rg' cir' lg' (σ 7) (σ 8) po' sc' (σ 5) ti' r')) := by
  obtain ⟨L, me0, start, hT, h1, h3, h4, h5, h6, h7, h8⟩ := h
  rcases h8 with ⟨a, b, c, d, e⟩ | ⟨N, F, G, cf, ac, m, a, b, c, d⟩
  · refine ⟨_, _, _, _, _, _, _, start, me_rest0 (σ 3) cir0 (σ 6) (σ 9) (σ 10) (σ 19) a b, mr_rests0 (by rw [ht4]; exact c), rfl, Or.inl ⟨a, b, by rw [ht4]; exact c, by rw [ht8]; exact d, ?_⟩⟩
    exact ob_rest (ac := none) (σ 3) cir0 (σ 6) (σ 7) (σ 8) (σ 9) (σ 10) (σ 5) (σ 19) r0 0 0 0 0 0 (by omega) e.1.1 (by rw [hr2]; exact e.1.2) hc hr1 (fun c hc k hk => by rw [hf c hc]; exact (e.2.2.2.1 c hc).2.2.2 k hk)
  · have b' := sq_tr b ht4 ht8
    refine ⟨_, _, _, _, _, _, _, start, me_rest (σ 3) cir0 (σ 6) (σ 9) (σ 10) (σ 19) b' hc hme, mr_rests b' hr1 hme, rfl, Or.inr ⟨N, F, G, cf, sp_ac0 me N G, 0, by omega, b', c, ?_⟩⟩
    exact rr_rest (σ 3) cir0 (σ 6) (σ 7) (σ 8) (σ 9) (σ 10) (σ 5) (σ 19) r0 b' hme d.1.1.1 (by rw [hr2]; exact d.1.1.2) hc hr1 (fun c hc k hk => by rw [hf c hc]; exact (d.1.2.2.2.1 c hc).2.2.2 k hk)
theorem inv_me {T n : Nat} {σ : Nat → Nat → Int32} (h : INV T n σ) : ∃ me start, me < 3 ∧ σ 4 0 = nI me ∧ σ 48 1 = nI me ∧ σ 3 8 = (if start = true then 1 else 0) ∧ σ 48 2 = (if start = true then 1 else 0) ∧ ∀ c, c < 6 → ∀ k, k < 5 → bt (σ 48 (38 + c)) k = bt (σ 5 k) c := by
  obtain ⟨L, me, start, hT, h1, h3, h4, h5, h6, h7, h8⟩ := h
  rcases h8 with ⟨_, _, _, _, e⟩ | ⟨N, F, G, cf, ac, m, _, _, _, d⟩
  · exact ⟨me, start, h4, e.2.2.1.1, e.2.2.1.2.1, e.1.1, e.1.2, fun c hc k hk => (e.2.2.2.1 c hc).2.2.2 k hk⟩
  · exact ⟨me, start, h4, d.1.2.2.1.1, d.1.2.2.1.2.1, d.1.1.1, d.1.1.2, fun c hc k hk => (d.1.2.2.2.1 c hc).2.2.2 k hk⟩
theorem c_setMethod {T n : Nat} {σ : Nat → Nat → Int32} (h : INV T n σ) (o : Nat → Int64) (x : Int32) :
    (∃ k b, tL_setMethod (σ 3) (σ 4) (σ 6) (σ 9) (σ 10) (σ 11) (σ 14) (σ 17) (σ 19) o x = some k ∧ ¬ k = 0 ∧ mX8_setMethod (σ 40) (σ 41) (σ 43) (σ 44) (σ 48) x = some (b, upd (σ 40) 3 k, σ 48)) ∨
    (∃ b rg' cir' lg' po' sc' ti' o' tr' r', mL_setMethod (σ 3) (σ 4) (σ 6) (σ 9) (σ 10) (σ 11) (σ 14) (σ 17) (σ 19) o x = some (0, rg', cir', lg', po', sc', ti', o') ∧ mX8_setMethod (σ 40) (σ 41) (σ 43) (σ 44) (σ 48) x = some (b, tr', r') ∧ tr' 3 = 0 ∧ o' 0 = Int32.toInt64 b ∧ INV T n (su (su (su (su (su (su (su (su σ 3 rg') 4 cir') 6 lg') 9 po') 10 sc') 19 ti') 40 tr') 48 r')) := by
  rcases meth_cases x with ⟨g1, g2⟩ | ⟨c, hc, rfl, g1, g2, g3⟩
  · left
    refine ⟨1, 0, ?_, by decide, ?_⟩
    · unfold tL_setMethod tX7_setMethod; rw [g1]; rfl
    · unfold mX8_setMethod
      rw [me_let, g2, me_bd, if_pos rfl, mr_fails]; rfl
  · right
    obtain ⟨me0, start0, k1, k2, k3, _⟩ := inv_me h
    obtain ⟨rg', cir', lg', po', sc', ti', r', start, e1, e2, e3, e4⟩ := rest_both (me := c) h (upd (σ 4) 0 (nI c)) (upd (σ 48) 1 (nI c)) (upd (σ 40) 3 0) hc (mu_s _ _ _) (mu_s _ _ _) (mu_n _ _ (by omega)) (fun c _ => mu_n _ _ (by omega)) rfl rfl
    obtain ⟨L, me, start', hT, h1, h3, h4, h5, h6, h7, h8⟩ := h
    refine ⟨nI me0, rg', cir', lg', po', sc', ti', vp_updL o 0 (Int32.toInt64 (nI me0)), upd (σ 40) 3 0, r', ?_, ?_, rfl, rfl, L, c, start, hT, h1, h3, hc, h5, ⟨0, by omega, e3⟩, h7, e4⟩
    · unfold mL_setMethod mX7_setMethod
      rw [g2, me_bd, me_let, me_let, e1, me_b6, me_b7', me_let, k2]
    · unfold mX8_setMethod
      rw [me_let, g3, me_bd, if_neg (by decide), me_let, me_let, e2, me_bd, k3]
theorem c_setStroke {T n : Nat} {σ : Nat → Nat → Int32} (h : INV T n σ) (o : Nat → Int64) (x y : Int32) :
    (∃ k b, tL_setStroke (σ 3) (σ 4) (σ 6) (σ 9) (σ 10) (σ 11) (σ 14) (σ 17) (σ 18) (σ 19) o x y = some k ∧ ¬ k = 0 ∧ mX8_setStroke (σ 40) (σ 41) (σ 43) (σ 44) (σ 48) (σ 49) x y = some (b, upd (σ 40) 3 k, σ 48, σ 49)) ∨
    (∃ b rg' cir' lg' po' sc' st' ti' o' tr' r' str', mL_setStroke (σ 3) (σ 4) (σ 6) (σ 9) (σ 10) (σ 11) (σ 14) (σ 17) (σ 18) (σ 19) o x y = some (0, rg', cir', lg', po', sc', st', ti', o') ∧ mX8_setStroke (σ 40) (σ 41) (σ 43) (σ 44) (σ 48) (σ 49) x y = some (b, tr', r', str') ∧ tr' 3 = 0 ∧ o' 0 = Int32.toInt64 b ∧ INV T n (su (su (su (su (su (su (su (su (su (su σ 3 rg') 4 cir') 6 lg') 9 po') 10 sc') 18 st') 19 ti') 40 tr') 48 r') 49 str')) := by
  rcases cyl_cases x with ⟨g1, g2⟩ | ⟨c, hc, rfl, g1, g2, g3⟩
  · left
    refine ⟨1, 0, ?_, by decide, ?_⟩
    · unfold tL_setStroke tX7_setStroke; rw [g1]; rfl
    · unfold mX8_setStroke
      rw [me_let, g2, me_bd, if_pos rfl, mr_fails]; rfl
  · by_cases hy : 1 ≤ y ∧ y ≤ 20
    · right
      have hin : mX8_in y 1 20 = some 1 := by rw [me_in, if_pos hy]
      obtain ⟨me0, start0, k1, k2, k3, _⟩ := inv_me h
      obtain ⟨rg', cir', lg', po', sc', ti', r', start, e1, e2, e3, e4⟩ := rest_both (me := me0) h (σ 4) (σ 48) (upd (σ 40) 3 0) k1 k2 k3 rfl (fun c _ => rfl) rfl rfl
      obtain ⟨L, me, start', hT, h1, h3, h4, h5, h6, h7, h8⟩ := h
      refine ⟨σ 18 c, rg', cir', lg', po', sc', upd (σ 18) c y, ti', vp_updL o 0 (Int32.toInt64 (σ 18 c)), upd (σ 40) 3 0, r', upd (σ 49) c y, ?_, ?_, rfl, rfl, L, me0, start, hT, h1, h3, k1, fun i hi => ?_, ⟨0, by omega, e3⟩, h7, e4⟩
      · unfold mL_setStroke mX7_setStroke
        rw [g2, me_bd, if_neg (Int32.not_lt.mpr hy.1), if_pos hy.2, me_ci _ hc (by omega), me_let, me_ci _ hc (by omega), nI_clamp (by omega), me_let, e1, me_b6, me_b8, me_let]
      · unfold mX8_setStroke
        rw [me_let, g3, me_bd, if_neg (by decide), hin, me_bd, if_neg (by decide), me_ci _ hc (by omega), me_let, me_ci _ hc (by omega), nI_clamp (by omega), me_let, e2, me_bd, h5 c hc]
      · show upd (σ 18) c y i = upd (σ 49) c y i
        by_cases hic : i = c
        · rw [hic, mu_s, mu_s]
        · rw [mu_n _ _ hic, mu_n _ _ hic]; exact h5 i hi
    · left
      have hin : mX8_in y 1 20 = some 0 := by rw [me_in, if_neg hy]
      refine ⟨2, 0, ?_, by decide, ?_⟩
      · unfold tL_setStroke tX7_setStroke
        rw [g1, tc_none, g2, me_bd]
        by_cases h1 : y < 1
        · rw [if_pos h1]; rfl
        · rw [if_neg h1, if_neg (fun h9 => hy ⟨Int32.not_lt.mp h1, h9⟩)]; rfl
      · unfold mX8_setStroke
        rw [me_let, g3, me_bd, if_neg (by decide), hin, me_bd, if_pos rfl, mr_fails]; rfl
theorem c_rest {T n : Nat} {σ : Nat → Nat → Int32} (h : INV T n σ) : ∃ v rg' cir' lg' po' sc' ti' tr' r', mX7_rest (σ 3) (σ 4) (σ 6) (σ 9) (σ 10) (σ 11) (σ 14) (σ 17) (σ 19) = some (v, rg', cir', lg', po', sc', ti') ∧ mX8_rest (σ 40) (σ 41) (σ 43) (σ 44) (σ 48) = some (v, tr', r') ∧ INV T n (su (su (su (su (su (su (su (su σ 3 rg') 4 cir') 6 lg') 9 po') 10 sc') 19 ti') 40 tr') 48 r') := by
  obtain ⟨N, me9, start9, ac, n', hN, hn', hq, ht, hO⟩ := inv_ob h
  obtain ⟨me0, start0, k1, k2, k3, _⟩ := inv_me h
  obtain ⟨rg', cir', lg', po', sc', ti', r', start, e1, e2, e3, e4⟩ := rest_both (me := me0) h (σ 4) (σ 48) (upd (σ 40) 3 0) k1 k2 k3 rfl (fun c _ => rfl) rfl rfl
  obtain ⟨L, me, start', hT, h1, h3, h4, h5, h6, h7, h8⟩ := h
  refine ⟨σ 3 10, rg', cir', lg', po', sc', ti', upd (σ 40) 3 0, r', ?_, ?_, L, me0, start, hT, h1, h3, k1, h5, ⟨0, by omega, e3⟩, h7, e4⟩
  · unfold mX7_rest
    rw [me_let, e1, me_b6]
  · unfold mX8_rest
    rw [me_let, me_let, e2, me_bd, hO.2.1.1]
end
