section
theorem ob_start {N me n : Nat} {start start' : Bool} {ac : Option Nat} {t cir lg mv tm po sc fa ti r : Nat → Int32} (h : OB N me start ac n t cir lg mv tm po sc fa ti r) (hN : N ≤ 16) : OB N me start' ac n (upd t 8 (if start' then 1 else 0)) cir lg mv tm po sc fa ti (upd r 2 (if start' then 1 else 0)) := by
  obtain ⟨_, ⟨a1, a2⟩, ⟨b1, b2, b3, b4⟩, c, d, ⟨⟨e1, e2, e3, e4⟩, e5⟩, f1, f2, f3⟩ := h
  refine ⟨⟨mu_s _ _ _, mu_s _ _ _⟩, ⟨?_, ?_⟩, ⟨b1, ?_, b3, ?_⟩, fun k hk => ?_, fun i hi => ?_, ⟨⟨e1, ?_, e3, e4⟩, fun k k1 k2 => ?_⟩, ?_, ?_, ?_⟩
  · rw [mu_n _ _ (by omega), mu_n _ _ (by omega)]; exact a1
  · rw [mu_n _ _ (by omega), mu_n _ _ (by omega), mu_n _ _ (by omega)]; exact a2
  · rw [mu_n _ _ (by omega)]; exact b2
  · rw [mu_n _ _ (by omega)]; exact b4
  · rw [mu_n _ _ (by omega), mu_n _ _ (by omega), mu_n _ _ (by omega), mu_n _ _ (by omega), mu_n _ _ (by omega)]; exact c k hk
  · rw [mu_n _ _ (by omega)]; exact d i hi
  · rw [mu_n _ _ (by omega)]; exact e2
  · rw [mu_n _ _ (by omega), mu_n _ _ (by omega)]; exact e5 k k1 k2
  · rw [mu_n _ _ (by omega)]; exact f1
  · rw [mu_n _ _ (by omega)]; exact f2
  · rw [mu_n _ _ (by omega)]; exact f3
theorem c_setStart {T n : Nat} {σ : Nat → Nat → Int32} (h : INV T n σ) (b : Bool) : ∃ v rg' tr' r', mX7_setStart (σ 3) (if b then 1 else 0) = some (v, rg') ∧ mX8_setStart (σ 40) (σ 48) (if b then 1 else 0) = some (v, tr', r') ∧ INV T n (su (su (su σ 3 rg') 40 tr') 48 r') := by
  obtain ⟨me0, start0, k1, k2, k3, k4, k5, _⟩ := inv_me h
  obtain ⟨L, me, start, hT, h1, h3, h4, h5, ⟨T', h6, h6'⟩, h7, h8⟩ := h
  refine ⟨if start0 then 1 else 0, upd (σ 3) 8 (if b then 1 else 0), upd (σ 40) 3 0, upd (σ 48) 2 (if b then 1 else 0), ?_, ?_, L, me, b, hT, h1, h3, h4, h5, ⟨T', h6, ?_⟩, h7, ?_⟩
  · unfold mX7_setStart
    rw [me_let, me_cbi, me_let, k4, me_cbi]
  · unfold mX8_setStart
    rw [me_let, k5, me_let, me_let, me_let]
    have e1 : (if (if start0 = true then (1 : Int32) else 0) = 1 then (1 : Int32) else 0) = if start0 = true then 1 else 0 := by cases start0 <;> rfl
    have e2 : (if (if b = true then (1 : Int32) else 0) = 0 then (0 : Int32) else 1) = if b = true then 1 else 0 := by cases b <;> rfl
    rw [e1, e2, me_cbi]
  · show upd (σ 48) 2 (if b then 1 else 0) 0 = nI T'
    rw [mu_n _ _ (by omega)]; exact h6'
  · rcases h8 with ⟨a, b1, c, d, e⟩ | ⟨N, F, G, cf, ac, m, a, b1, c, d1, d2, d3⟩
    · exact Or.inl ⟨a, b1, c, d, ob_start e (by omega)⟩
    · refine Or.inr ⟨N, F, G, cf, ac, m, a, sq_tr b1 rfl rfl, c, ob_start d1 b1.1.1.2, d2, ?_⟩
      exact er_frame d3 (fun k hk => mu_n _ _ (by omega))
theorem me_putFault' (fa : Nat → Int32) {c k : Nat} (hc : c < 6) (hk : k < 5) (b : Bool) : mX3_putFault fa (nI c) (nI k) (if b then 1 else 0) = some (upd fa k (mvO (fa k) c b)) := by
  unfold mX3_putFault mvO bit
  cases b
  · rw [if_pos (by decide), me_ci _ hk (by omega), me_ci _ hk (by omega), nI_clamp (by omega)]; rfl
  · rw [if_neg (by decide), me_ci _ hk (by omega), me_ci _ hk (by omega), nI_clamp (by omega)]; rfl
theorem mvO_bt5 (o : Int32) {c i : Nat} (hc : c < 6) (hi : i < 32) (e : Bool) : bt (mvO o c e) i = if i = c then e else bt o i := mvO_bt o hc hi e
theorem ob_fault {N me n : Nat} {start : Bool} {ac : Option Nat} {t cir lg mv tm po sc fa ti r : Nat → Int32} (h : OB N me start ac n t cir lg mv tm po sc fa ti r) (hN : N ≤ 16) {c k : Nat} (hc : c < 6) (hk : k < 5) (b : Bool) : OB N me start ac n t cir lg mv tm po sc (upd fa k (mvO (fa k) c b)) ti (upd r (38 + c) (mvO (r (38 + c)) k b)) := by
  obtain ⟨⟨z1, z2⟩, ⟨a1, a2⟩, ⟨b1, b2, b3, b4⟩, hcy, d, ⟨⟨e1, e2, e3, e4⟩, e5⟩, f1, f2, f3⟩ := h
  refine ⟨⟨z1, ?_⟩, ⟨?_, ?_⟩, ⟨b1, ?_, b3, ?_⟩, fun c' hc' => ⟨?_, ?_, ?_, fun k' hk' => ?_⟩, fun i hi => ?_, ⟨⟨e1, ?_, e3, e4⟩, fun k k1 k2 => ?_⟩, ?_, ?_, f3⟩
  · rw [mu_n _ _ (by omega)]; exact z2
  · rw [mu_n _ _ (by omega)]; exact a1
  · rw [mu_n _ _ (by omega)]; exact a2
  · rw [mu_n _ _ (by omega)]; exact b2
  · rw [mu_n _ _ (by omega)]; exact b4
  · rw [mu_n _ _ (by omega)]; exact (hcy c' hc').1
  · rw [mu_n _ _ (by omega)]; exact (hcy c' hc').2.1
  · rw [mu_n _ _ (by omega)]; exact (hcy c' hc').2.2.1
  · have h0 := (hcy c' hc').2.2.2 k' hk'
    by_cases x : c' = c
    · subst x
      rw [mu_s, mvO_bt _ (by omega) (by omega)]
      by_cases y : k' = k
      · subst y
        rw [if_pos rfl, mu_s, mvO_bt _ (by omega) (by omega), if_pos rfl]
      · rw [if_neg y, mu_n _ _ y]; exact h0
    · rw [mu_n _ _ (by omega)]
      by_cases y : k' = k
      · subst y
        rw [mu_s, mvO_bt _ (by omega) (by omega), if_neg x]; exact h0
      · rw [mu_n _ _ y]; exact h0
  · rw [mu_n _ _ (by omega)]; exact d i hi
  · rw [mu_n _ _ (by omega)]; exact e2
  · rw [mu_n _ _ (by omega), mu_n _ _ (by omega)]; exact e5 k k1 k2
  · rw [mu_n _ _ (by omega)]; exact f1
  · rw [mu_n _ _ (by omega)]; exact f2
theorem c_setFault {T n : Nat} {σ : Nat → Nat → Int32} (h : INV T n σ) (o : Nat → Int64) (x y : Int32) (b : Bool) :
    (∃ k v, tL_setFault (σ 5) o x y (if b then 1 else 0) = some k ∧ ¬ k = 0 ∧ mX8_setFault (σ 40) (σ 48) x y (if b then 1 else 0) = some (v, upd (σ 40) 3 k, σ 48)) ∨
    (∃ v fa' o' tr' r', mL_setFault (σ 5) o x y (if b then 1 else 0) = some (0, fa', o') ∧ mX8_setFault (σ 40) (σ 48) x y (if b then 1 else 0) = some (v, tr', r') ∧ tr' 3 = 0 ∧ o' 0 = (if v = 0 then 0 else 1) ∧ INV T n (su (su (su σ 5 fa') 40 tr') 48 r')) := by
  rcases cyl_cases x with ⟨g1, g2⟩ | ⟨c, hc, rfl, g1, g2, g3⟩
  · left
    refine ⟨1, 0, ?_, by decide, ?_⟩
    · unfold tL_setFault tX7_setFault; rw [g1]; rfl
    · unfold mX8_setFault
      rw [g2, me_bd, if_pos rfl, me_bd, me_let, mu_s, if_neg (by decide)]
  · rcases kind_cases y with ⟨k1, k2⟩ | ⟨k, hk, rfl, k1, k2, k3⟩
    · left
      refine ⟨2, 0, ?_, by decide, ?_⟩
      · unfold tL_setFault tX7_setFault; rw [g1, tc_none, g2, me_bd, k1]; rfl
      · unfold mX8_setFault
        rw [g3, me_bd, if_neg (by decide), k2, me_bd, if_pos rfl, me_bd, me_let, mu_s, if_neg (by decide)]
    · right
      obtain ⟨me0, start0, q1, q2, q3, q4, q5, q6⟩ := inv_me h
      obtain ⟨L, me, start, hT, h1, h3, h4, h5, ⟨T', h6, h6'⟩, h7, h8⟩ := h
      have e38 : (38 : Int32) + nI c = nI (38 + c) := nI_add 38 c
      refine ⟨if bt (σ 5 k) c then 1 else 0, upd (σ 5) k (mvO (σ 5 k) c b), vp_updL o 0 (if (if bt (σ 5 k) c then (1 : Int32) else 0) = 0 then 0 else 1), upd (σ 40) 3 0, upd (σ 48) (38 + c) (mvO (σ 48 (38 + c)) k b), ?_, ?_, rfl, rfl, L, me, start, hT, h1, h3, h4, h5, ⟨T', h6, ?_⟩, h7, ?_⟩
      · unfold mL_setFault mX7_setFault
        rw [g2, me_bd, k2, me_bd, me_ci _ hk (by omega), nI_clamp (by omega), me_holds _ (by omega), me_bd, me_putFault' _ hc hk, me_bd, me_cbi, me_b2, me_let, me_let]
      · unfold mX8_setFault
        rw [g3, me_bd, if_neg (by decide), k3, me_bd, if_neg (by decide), me_bd, me_let, mu_s, if_pos rfl, e38, me_ci _ (by omega) (by omega), nI_clamp (by omega), mb_shr _ (by omega), q6 c hc k hk, me_let, me_ci _ (by omega) (by omega)]
        have eb : (if (if bt (σ 5 k) c = true then (1 : Int32) else 0) = 1 then (1 : Int32) else 0) = if bt (σ 5 k) c = true then 1 else 0 := by cases bt (σ 5 k) c <;> rfl
        rw [eb]
        have e9 : (if (if b = true then (1 : Int32) else 0) = 0 then some (σ 48 (38 + c) &&& ((1 : Int32) <<< (nI k &&& 31) ^^^ (-1))) else bq_ci (nI (38 + c)) 140 (some (σ 48 (38 + c) ||| (1 : Int32) <<< (nI k &&& 31)))) = some (mvO (σ 48 (38 + c)) k b) := by
          unfold mvO bit
          cases b
          · rfl
          · rw [me_ci _ (by omega) (by omega)]; rfl
        have e9' : (if (if b = true then (1 : Int32) else 0) = 0 then some (σ 48 (38 + c) &&& ((1 : Int32) <<< (nI k &&& 31) ^^^ (-1))) else (some (σ 48 (38 + c) ||| (1 : Int32) <<< (nI k &&& 31)))) = some (mvO (σ 48 (38 + c)) k b) := by
          unfold mvO bit
          cases b <;> rfl
        first
        | rw [e9, me_bd, me_ci _ (by omega) (by omega), me_let, me_cbi]
        | rw [me_ci _ (by omega) (by omega), e9', me_bd, me_ci _ (by omega) (by omega), me_let, me_cbi]
        | rw [e9', me_bd, me_let, me_cbi]
      · show upd (σ 48) (38 + c) _ 0 = nI T'
        rw [mu_n _ _ (by omega)]; exact h6'
      · rcases h8 with ⟨a, b1, c1, d, e⟩ | ⟨N, F, G, cf, ac, m, a, b1, c1, d1, d2, d3⟩
        · exact Or.inl ⟨a, b1, c1, d, ob_fault e (by omega) hc hk b⟩
        · refine Or.inr ⟨N, F, G, cf, ac, m, a, sq_tr b1 rfl rfl, c1, ob_fault d1 b1.1.1.2 hc hk b, d2, ?_⟩
          exact er_frame d3 (fun k hk => mu_n _ _ (by omega))
/-- so many ticks on both sides, with the time -/
theorem simT {N F G me n : Nat} {cf : Nat → Nat} {start : Bool} {sq cu gos M Z P tr ct Mr Pr Zr fa st str r : Nat → Int32} {s : S8} {ac : Option Nat} (hS : SQ N F G cf sq cu gos M Z P tr ct Mr Pr Zr) (hst : ∀ c, c < 6 → st c = str c) (hR : RS N F G me start ac n Z fa s r) : ∀ m, n + 6 * m + 7 < 2 ^ 31 → ∃ s' r' n' ac', itr (mk8 fa sq cu gos M Z P st) m s = some s' ∧ itr (mX8_ticksOnce tr Mr ct Pr Zr str) m r = some r' ∧ n' ≤ n + 6 * m ∧ RS N F G me start ac' n' Z fa s' r' ∧ r' 0 = r 0 + nI m := by
  intro m
  induction m with
  | zero => exact fun _ => ⟨s, r, n, ac, rfl, rfl, by omega, hR, by rw [nI_0, mq_add0]⟩
  | succ m ih =>
    intro hm
    obtain ⟨s1, r1, n1, ac1, h1, h2, h3, h4, h5⟩ := ih (by omega)
    obtain ⟨s2, r2, n2, g1, g2, g3, g4, g5, g6⟩ := sim1 hS hst h4 (by omega)
    refine ⟨s2, r2, n2, _, by rw [itr_s h1, g1], by rw [itr_s h2, g2], by omega, g4, ?_⟩
    have a1 : s2.1 10 = r2 0 := g4.1.2.1.1
    have a2 : s1.1 10 = r1 0 := h4.1.2.1.1
    rw [← a1, g6.1, tk_t10, a2, h5, Int32.add_assoc, nI_1]
theorem c_ticks {T n : Nat} {σ : Nat → Nat → Int32} (h : INV T n σ) (hn : n + 30100 < 2 ^ 31) (o : Nat → Int64) (x : Int32) :
    (∃ k b, tL_ticks (σ 3) (σ 4) (σ 5) (σ 6) (σ 7) (σ 8) (σ 9) (σ 10) (σ 11) (σ 12) (σ 13) (σ 14) (σ 16) (σ 17) (σ 18) (σ 19) o x = some k ∧ ¬ k = 0 ∧ mX8_ticks (σ 40) (σ 41) (σ 42) (σ 43) (σ 44) (σ 48) (σ 49) x = some (b, upd (σ 40) 3 k, σ 48)) ∨
    (∃ b rg' cir' lg' mv' tm' po' sc' ti' o' tr' r', mL_ticks (σ 3) (σ 4) (σ 5) (σ 6) (σ 7) (σ 8) (σ 9) (σ 10) (σ 11) (σ 12) (σ 13) (σ 14) (σ 16) (σ 17) (σ 18) (σ 19) o x = some (0, rg', cir', lg', mv', tm', po', sc', ti', o') ∧ mX8_ticks (σ 40) (σ 41) (σ 42) (σ 43) (σ 44) (σ 48) (σ 49) x = some (b, tr', r') ∧ tr' 3 = 0 ∧ o' 0 = Int32.toInt64 b ∧ INV (T + 5000) (n + 30000) (su (su (su (su (su (su (su (su (su (su σ 3 rg') 4 cir') 6 lg') 7 mv') 8 tm') 9 po') 10 sc') 19 ti') 40 tr') 48 r')) := by
  obtain ⟨N0, me9, start9, ac9, n9, hN, hn9, hq, ht, hO⟩ := inv_ob h
  rcases rng (x := x) (n := 5001) (by omega) (by omega) with ⟨h1, h2⟩ | ⟨m, hm, rfl, h2, h3, h4, h5⟩
  · left
    have hin : mX8_in x 0 5000 = some 0 := in_rng (n := 5001) h1
    refine ⟨1, 0, ?_, by decide, ?_⟩
    · unfold tL_ticks tX7_ticks
      by_cases hx : x < 0
      · rw [if_pos hx]; rfl
      · have h9' : ¬ x ≤ (5000 : Int32) := fun h9 => h1 ⟨Int32.not_lt.mp hx, h9⟩
        rw [if_neg hx, if_neg h9']; rfl
    · unfold mX8_ticks
      rw [me_let, hin, me_bd, if_pos rfl, mr_fails]; rfl
  · have hin : mX8_in (nI m) 0 5000 = some 1 := in_rng1 (n := 5001) h4 h5
    have h5' : nI m ≤ (5000 : Int32) := h5
    rcases seq_cases hq hN with ⟨h0, g1⟩ | ⟨h0, g1, g2⟩
    · left
      subst h0
      refine ⟨2, 0, ?_, by decide, ?_⟩
      · unfold tL_ticks tX7_ticks
        rw [if_neg h2, if_pos h5', g1]; rfl
      · unfold mX8_ticks
        have ht' : upd (σ 40) 3 0 4 = 0 := ht
        rw [me_let, hin, me_bd, if_neg (by decide), if_pos ht', mr_fails]; rfl
    · right
      obtain ⟨L, me, start, hT, k1, k3, k4, k5, ⟨T', k6, k6'⟩, k7, k8⟩ := h
      rcases k8 with ⟨a, _⟩ | ⟨N, F, G, cf, ac, n', a, b, c, d⟩
      · rw [hq] at a
        exact absurd a (nI_ne0 h0 (by omega))
      · have b' : SQ N F G cf (σ 11) (σ 12) (σ 13) (σ 14) (σ 16) (σ 17) (upd (σ 40) 3 0) (σ 42) (σ 41) (σ 43) (σ 44) := sq_tr b rfl rfl
        have hRS : RS N F G me start ac n' (σ 16) (σ 5) (σ 3, σ 4, σ 6, σ 7, σ 8, σ 9, σ 10, σ 19) (σ 48) := d
        obtain ⟨s', r', n2, ac2, e1, e2, e3, e4, e5⟩ := simT b' k5 hRS m (by omega)
        have hrun := run_itr b' k5 hRS (m := m) (by omega) (by omega)
        rw [e1] at hrun
        have hrun' : mX3_run (σ 3) (σ 4) (σ 5) (σ 6) (σ 7) (σ 8) (σ 9) (σ 10) (σ 11) (σ 12) (σ 13) (σ 14) (σ 16) (σ 17) (σ 18) (σ 19) (nI m) = some (s'.1, s'.2.1, s'.2.2.1, s'.2.2.2.1, s'.2.2.2.2.1, s'.2.2.2.2.2.1, s'.2.2.2.2.2.2.1, s'.2.2.2.2.2.2.2) := hrun
        have l2 : σ 6 2 = σ 48 4 := by
          obtain ⟨⟨l2, r4, _⟩, _⟩ := hO.2.2.2.2.2.1
          rw [l2, r4]
        have l2' : s'.2.2.1 2 = r' 4 := by
          obtain ⟨⟨l2, r4, _⟩, _⟩ := e4.1.2.2.2.2.2.1
          rw [l2, r4]
        refine ⟨r' 4 - σ 48 4, s'.1, s'.2.1, s'.2.2.1, s'.2.2.2.1, s'.2.2.2.2.1, s'.2.2.2.2.2.1, s'.2.2.2.2.2.2.1, s'.2.2.2.2.2.2.2, vp_updL o 0 (Int32.toInt64 (r' 4 - σ 48 4)), upd (σ 40) 3 0, r', ?_, ?_, rfl, rfl, L, me, start, hT, k1, k3, k4, k5, ⟨T' + m, by omega, ?_⟩, k7, Or.inr ⟨N, F, G, cf, ac2, n2, by omega, b', c, e4⟩⟩
        · unfold mL_ticks mX7_ticks
          rw [if_neg h2, if_pos h5', g2, me_bd, me_let, hrun', me_b8, me_b9, me_let, l2, l2']
        · unfold mX8_ticks
          have ht' : ¬ upd (σ 40) 3 0 4 = 0 := by rw [mu_n _ _ (by omega), ht]; exact nI_ne0 h0 (by omega)
          rw [me_let, hin, me_bd, if_neg (by decide), if_neg ht', me_let, mr_ticks_n (by omega) e2, me_bd]
        · show r' 0 = nI (T' + m)
          rw [e5, k6', nI_add]
end
