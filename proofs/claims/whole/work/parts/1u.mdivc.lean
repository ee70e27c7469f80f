section
/-- what step i of the ring moves -/
def mr (N : Nat) (P M : Nat → Int32) (i : Nat) : Int32 := P (i % N) ||| M (i % N)
theorem mr_per (N : Nat) (P M : Nat → Int32) : PER (mr N P M) N := fun i => by unfold mr; rw [Nat.add_mod_right]
theorem mr_ix {N : Nat} (P M : Nat → Int32) {i : Nat} (h : i < N) : mr N P M i = P i ||| M i := by unfold mr; rw [Nat.mod_eq_of_lt h]
theorem mr_ix2 {N : Nat} (P M : Nat → Int32) {i : Nat} (h : N ≤ i) (h2 : i < 2 * N) : mr N P M i = P (i - N) ||| M (i - N) := by
  have e : i % N = i - N := by
    rw [Nat.mod_eq_sub_mod h, Nat.mod_eq_of_lt (by omega)]
  unfold mr
  rw [e]
theorem me_need_loop {sq M P : Nat → Int32} {N b : Nat} (hq : sq 0 = nI N) (hN : N ≤ 16) (hb : b ≤ 2 * N) : ∀ (d i n : Nat) (u : Int32), i + d = b → bq_loop (bq_u3 (bX5_groupsNeeded_8 sq M P (nI b))) (nI i, u, nI n) = some (nI (n + gs (mr N P M) d i u)) := by
  intro d
  induction d with
  | zero =>
    intro i n u hi
    have : i = b := by omega
    subst this
    refine ml_done ?_
    rw [me_u3]
    unfold bX5_groupsNeeded_8
    rw [if_pos (mq_rfl _)]
    rfl
  | succ d ih =>
    intro i n u hi
    have hv : bX5_groupsNeeded_8 sq M P (nI b) (nI i) u (nI n) = some (.inl (nI (i + 1), (if u &&& mr N P M i = 0 then u ||| mr N P M i else mr N P M i), nI (if u &&& mr N P M i = 0 then n else n + 1))) := by
      unfold bX5_groupsNeeded_8
      rw [if_neg (mq_nle (by omega) (by omega)), hq]
      have hmv : bq_let (if nI N ≤ nI i then nI i - nI N else nI i) (fun v5 => mX5_movesIn M P v5) = some (mr N P M i) := by
        rw [me_let]
        by_cases h : N ≤ i
        · rw [if_pos ((mq_le (by omega) (by omega)).mpr h), pk_sub h, me_movesIn _ _ (by omega), mr_ix2 P M h (by omega)]
        · rw [if_neg (fun h9 => h ((mq_le (by omega) (by omega)).mp h9)), me_movesIn _ _ (by omega), mr_ix P M (by omega)]
      rw [me_let] at hmv ⊢
      rw [hmv, me_bd]
      by_cases h : u &&& mr N P M i = 0
      · rw [if_pos h, if_pos h, if_pos h]
        show some (Sum.inl (nI i + 1, u ||| mr N P M i, nI n)) = _
        rw [nI_1]
      · rw [if_neg h, if_neg h, if_neg h]
        show some (Sum.inl (nI i + 1, 0 ||| mr N P M i, nI n + 1)) = _
        rw [nI_1, nI_1, mq_0or]
    refine ml_step hv ?_
    have h := ih (i + 1) (if u &&& mr N P M i = 0 then n else n + 1) (if u &&& mr N P M i = 0 then u ||| mr N P M i else mr N P M i) (by omega)
    rw [h, gs]
    by_cases hz : u &&& mr N P M i = 0
    · rw [if_pos hz, if_pos hz, if_pos hz]
    · rw [if_neg hz, if_neg hz, if_neg hz, show n + 1 + gs (mr N P M) d (i + 1) (mr N P M i) = n + (gs (mr N P M) d (i + 1) (mr N P M i) + 1) by omega]
theorem me_need {sq M P : Nat → Int32} {N a b : Nat} (hq : sq 0 = nI N) (hN : N ≤ 16) (hb : b ≤ 2 * N) (hab : a ≤ b) : mX5_groupsNeeded sq M P (nI a) (nI b) = some (nI (nd (mr N P M) a b)) := by
  have h := me_need_loop (M := M) (P := P) hq hN hb (b - a) a 1 0 (by omega)
  have h' : bq_loop (bq_u3 (bX5_groupsNeeded_8 sq M P (nI b))) (nI a, 0, 1) = some (nI (1 + gs (mr N P M) (b - a) a 0)) := h
  unfold mX5_groupsNeeded
  rw [h', me_bd, Nat.add_comm]
  rfl
theorem nd_most {f : Nat → Int32} : ∀ (n a : Nat), dv f (a + n) n a := by
  intro n
  induction n with
  | zero => intro a; exact Nat.le_refl a
  | succ n ih =>
    intro a
    refine ⟨a + 1, by omega, fre_one f (by omega), ?_⟩
    have := ih (a + 1)
    rw [show a + 1 + n = a + (n + 1) by omega] at this
    exact this
theorem nd_N {f : Nat → Int32} {N a : Nat} (h0 : 0 < N) : nd f a (a + N) ≤ N := nd_le (by omega) h0 (nd_most N a)
theorem me_divmin {sq M P : Nat → Int32} {N : Nat} (hq : sq 0 = nI N) (h0 : 0 < N) (hN : N ≤ 16) : ∃ a k, bq_loop (bq_u3 (bX5_divide_9 sq M P)) (0, 0, sq 0) = some (nI k, nI a) ∧ MIN (mr N P M) N a k := by
  rw [hq]
  have := ml_inv (b := bq_u3 (bX5_divide_9 sq M P)) (fun s x => ∃ a k, x = (nI s, nI a, nI k) ∧ (s = 0 → k = N ∧ a = 0) ∧ (0 < s → a < s ∧ nd (mr N P M) a (a + N) = k) ∧ (k ≤ N) ∧ (∀ t, t < s → k ≤ nd (mr N P M) t (t + N)) ∧ ∀ t, t < a → t < s → k < nd (mr N P M) t (t + N)) (fun r => ∃ a k, r = (nI k, nI a) ∧ MIN (mr N P M) N a k) N (fun s x hs hx => ?_) (fun x hx => ?_) N 0 (0, 0, nI N) (by omega) ⟨0, N, rfl, fun _ => ⟨rfl, rfl⟩, fun h => by omega, by omega, fun t h => by omega, fun t h => by omega⟩
  · obtain ⟨r, h1, a, k, rfl, h2⟩ := this
    exact ⟨a, k, h1, h2⟩
  · obtain ⟨a, k, rfl, e0, e1, e2, e3, e4⟩ := hx
    left
    have hN1 := nd_N (f := mr N P M) (N := N) (a := s) h0
    rw [me_u3]
    unfold bX5_divide_9
    rw [hq, if_neg (mq_nle hs (by omega)), nI_add, me_need hq hN (by omega) (by omega), me_bd, nI_1]
    by_cases h : k ≤ nd (mr N P M) s (s + N)
    · rw [if_pos ((mq_le (by omega) (by omega)).mpr h)]
      refine ⟨_, rfl, a, k, rfl, fun h9 => by omega, fun _ => ?_, e2, fun t ht => ?_, fun t ht _ => ?_⟩
      · rcases Nat.eq_zero_or_pos s with h9 | h9
        · have h8 := e0 h9
          subst h9
          rw [h8.2]
          exact ⟨by omega, by omega⟩
        · have := e1 h9; exact ⟨by omega, this.2⟩
      · rcases Nat.lt_or_ge t s with h9 | h9
        · exact e3 t h9
        · rw [show t = s by omega]; exact h
      · rcases Nat.eq_zero_or_pos s with h9 | h9
        · have := e0 h9; omega
        · have := (e1 h9).1; exact e4 t ht (by omega)
    · rw [if_neg (fun h9 => h ((mq_le (by omega) (by omega)).mp h9))]
      refine ⟨_, rfl, s, nd (mr N P M) s (s + N), rfl, fun h9 => by omega, fun _ => ⟨by omega, rfl⟩, by omega, fun t ht => ?_, fun t ht _ => ?_⟩
      · rcases Nat.lt_or_ge t s with h9 | h9
        · have := e3 t h9; omega
        · rw [show t = s by omega]; exact Nat.le_refl _
      · have := e3 t ht; omega
  · obtain ⟨a, k, rfl, e0, e1, e2, e3, e4⟩ := hx
    refine ⟨(nI k, nI a), ?_, a, k, rfl, (e1 h0).1, (e1 h0).2, e3, fun s hs => e4 s hs (by have := (e1 h0).1; omega)⟩
    rw [me_u3]
    unfold bX5_divide_9
    rw [hq, if_pos (mq_rfl _)]
/-- an array of the cuts of T below n, in their order -/
def ARR (T : Nat → Bool) (n : Nat) (cu : Nat → Int32) : Prop := ∀ s, s < n → T s = true → cu (cnt T 0 s) = nI s
theorem cnt_mono (T : Nat → Bool) (a : Nat) {m n : Nat} (h : m ≤ n) : cnt T a m ≤ cnt T a n := by
  have := cnt_add T a m (n - m)
  rw [show m + (n - m) = n by omega] at this
  omega
theorem cnt_s (T : Nat → Bool) (n : Nat) : cnt T 0 (n + 1) = cnt T 0 n + (if T n then 1 else 0) := by rw [cnt, Nat.zero_add]
theorem cnt_le (T : Nat → Bool) (a : Nat) : ∀ n, cnt T a n ≤ n := by
  intro n
  induction n with
  | zero => exact Nat.le_refl 0
  | succ n ih =>
    rw [cnt]
    by_cases h : T (a + n) = true
    · rw [if_pos h]; omega
    · rw [if_neg h]; omega
theorem cnt_surj (T : Nat → Bool) : ∀ (n h : Nat), h < cnt T 0 n → ∃ s, s < n ∧ T s = true ∧ cnt T 0 s = h := by
  intro n
  induction n with
  | zero => intro h hh; exact absurd hh (Nat.not_lt_zero h)
  | succ n ih =>
    intro h hh
    rw [cnt_s] at hh
    rcases Nat.lt_or_ge h (cnt T 0 n) with h1 | h1
    · obtain ⟨s, a, b, c⟩ := ih h h1
      exact ⟨s, by omega, b, c⟩
    · by_cases ht : T n = true
      · rw [if_pos ht] at hh
        exact ⟨n, by omega, ht, by omega⟩
      · rw [if_neg ht] at hh
        omega
theorem arr_s {T : Nat → Bool} {s : Nat} {cu : Nat → Int32} (h : ARR T s cu) (hs : T s = true) : ARR T (s + 1) (upd cu (cnt T 0 s) (nI s)) := fun q hq hT => by
  rcases Nat.lt_or_ge q s with h1 | h1
  · have h2 := cnt_mono T 0 (m := q + 1) (n := s) h1
    rw [cnt_s, if_pos hT] at h2
    rw [mu_n _ _ (by omega)]
    exact h q h1 hT
  · rw [show q = s by omega, mu_s]
theorem arr_n {T : Nat → Bool} {s : Nat} {cu : Nat → Int32} (h : ARR T s cu) (hs : T s = false) : ARR T (s + 1) cu := fun q hq hT => by
  rcases Nat.lt_or_ge q s with h1 | h1
  · exact h q h1 hT
  · rw [show q = s by omega, hs] at hT
    cases hT
theorem arr_rest {T : Nat → Bool} {s N : Nat} {cu : Nat → Int32} (h : ARR T s cu) (hs : cnt T 0 s = cnt T 0 N) (hN : s ≤ N) : ARR T N cu := fun q hq hT => by
  rcases Nat.lt_or_ge q s with h1 | h1
  · exact h q h1 hT
  · have h2 := cnt_mono T 0 (m := q + 1) (n := N) hq
    have h3 := cnt_mono T 0 (m := s) (n := q) h1
    rw [cnt_s, if_pos hT] at h2
    omega
theorem upd_upd (f : Nat → Int32) (k : Nat) (x y : Int32) : upd (upd f k x) k y = upd f k y := by
  funext j
  unfold upd
  by_cases h : j = k
  · rw [if_pos h, if_pos h]
  · rw [if_neg h, if_neg h, if_neg h]
theorem me_place {sq M P : Nat → Int32} {N a k : Nat} (cu : Nat → Int32) (hq : sq 0 = nI N) (hN : N ≤ 16) (hm : MIN (mr N P M) N a k) : ∃ cu', mX5_placeCuts sq cu M P (nI a) (nI k) = some (upd sq 5 (nI k), cu') ∧ ARR (Cb (mr N P M) N a) N cu' := by
  have ha := hm.1
  have hp := mr_per N P M
  have hall := cb_all hp hm
  have hkN : k ≤ 16 := by rw [← hm.2.1]; exact Nat.le_trans (nd_N (by omega)) hN
  have hC0 : ∀ s, a ≤ s → cnt (Cb (mr N P M) N a) 0 s = cnt (Cb (mr N P M) N a) a (s - a) := fun s hs => by
    have := cnt_add (Cb (mr N P M) N a) 0 a (s - a)
    rw [show a + (s - a) = s by omega, Nat.zero_add, cnt_none a (fun i _ h => cb_low (by omega))] at this
    omega
  generalize hC : Cb (mr N P M) N a = C at *
  have := ml_inv (b := bq_u3 (bX5_placeCuts_7 M P (nI a) (nI k))) (fun j x => ∃ cu', x = (nI (a + j), upd sq 5 (nI (cnt C 0 (a + j))), cu') ∧ ARR C (a + j) cu') (fun r => ∃ cu', r = (upd sq 5 (nI k), cu') ∧ ARR C N cu') (N - a) (fun j x hj hx => ?_) (fun x hx => ?_) (N - a) 0 (nI a, upd sq 5 0, cu) (by omega) ⟨cu, by rw [Nat.add_zero, hC0 a (Nat.le_refl a), Nat.sub_self]; rfl, fun s hs hT => by rw [← hC, cb_low (by omega)] at hT; cases hT⟩
  · obtain ⟨r, h1, cu', rfl, h2⟩ := this
    refine ⟨cu', ?_, h2⟩
    unfold mX5_placeCuts
    rw [me_let, h1, me_b2]
  · obtain ⟨cu', rfl, h2⟩ := hx
    have u0 : upd sq 5 (nI (cnt C 0 (a + j))) 0 = nI N := hq
    have hgk : cnt C 0 (a + j) ≤ k := by rw [← hall]; exact cnt_mono C 0 (by omega)
    rw [me_u3]
    unfold bX5_placeCuts_7
    rw [u0, if_neg (mq_nle (by omega) (by omega)), mu_s]
    rcases Nat.lt_or_ge (cnt C 0 (a + j)) k with hlt | hge
    · left
      rw [if_neg (mq_nle hlt (by omega)), nI_add, me_need u0 hN (by omega) (by omega), me_bd, pk_sub hgk]
      have hle := nd_N (f := mr N P M) (N := N) (a := a) (by omega)
      have hmo := nd_mono (f := mr N P M) (a := a) (a' := a + j) (b := a + N) (by omega) (by omega)
      -- a cut stands here just where C has one
      have hcut : C (a + j) = true ↔ nd (mr N P M) (a + j) (a + N) ≤ k - cnt C 0 (a + j) := by
        rcases Nat.eq_zero_or_pos j with h9 | h9
        · subst h9
          have e1 : C (a + 0) = true := by rw [← hC]; exact cb_a
          have e2 : cnt C 0 (a + 0) = 0 := by rw [Nat.add_zero, hC0 a (Nat.le_refl a), Nat.sub_self]; rfl
          rw [e1, e2, Nat.add_zero, hm.2.1]
          exact ⟨fun _ => by omega, fun _ => rfl⟩
        · have h4 := cb_cnt hm (j - 1) (by omega)
          rw [hC, show 1 + (j - 1) = j by omega] at h4
          have h5 := hC0 (a + j) (by omega)
          rw [show a + j - a = j by omega] at h5
          have hCj : C (a + j) = decide (a ≤ a + j ∧ (a + j = a ∨ nd (mr N P M) (a + j) (a + N) < nd (mr N P M) (a + j - 1) (a + N))) := by rw [← hC]; rfl
          rw [hCj, decide_eq_true_eq, show a + j - 1 = a + (j - 1) by omega]
          have h6 := nd_pos (mr N P M) (a + (j - 1)) (a + N)
          constructor
          · rintro ⟨_, h | h⟩ <;> omega
          · intro h
            exact ⟨by omega, Or.inr (by omega)⟩
      by_cases hc : C (a + j) = true
      · have h6 := hcut.mp hc
        rw [if_neg (fun h9 => absurd ((nI_ltI (by omega) (by omega)).mp h9) (by omega)), me_ci _ (by omega) (by omega), nI_clamp (by omega), me_let, me_let, me_b2, nI_1, me_let, nI_1, upd_upd]
        refine ⟨_, rfl, upd cu' (cnt C 0 (a + j)) (nI (a + j)), ?_, ?_⟩
        · rw [show a + (j + 1) = a + j + 1 by omega, cnt_s, if_pos hc]
        · rw [show a + (j + 1) = a + j + 1 by omega]
          exact arr_s h2 hc
      · have h6 : ¬ nd (mr N P M) (a + j) (a + N) ≤ k - cnt C 0 (a + j) := fun h9 => hc (hcut.mpr h9)
        rw [if_pos ((nI_ltI (by omega) (by omega)).mpr (by omega)), me_b2, me_let, nI_1]
        refine ⟨_, rfl, cu', ?_, ?_⟩
        · rw [show a + (j + 1) = a + j + 1 by omega, cnt_s, if_neg hc]
          rfl
        · rw [show a + (j + 1) = a + j + 1 by omega]
          exact arr_n h2 (by simpa using hc)
    · right
      have hek : cnt C 0 (a + j) = k := by omega
      rw [if_pos ((mq_le (by omega) (by omega)).mpr hge)]
      refine ⟨_, rfl, cu', by rw [hek], arr_rest h2 (by rw [hek, hall]) (by omega)⟩
  · obtain ⟨cu', rfl, h2⟩ := hx
    rw [show a + (N - a) = N by omega] at h2 ⊢
    have u0 : upd sq 5 (nI (cnt C 0 N)) 0 = nI N := hq
    refine ⟨(upd sq 5 (nI k), cu'), ?_, cu', rfl, h2⟩
    rw [me_u3]
    unfold bX5_placeCuts_7
    rw [u0, if_pos (mq_rfl _), hall]
/-- the group of step i -/
def gf (T : Nat → Bool) (k i : Nat) : Nat := if cnt T 0 (i + 1) = 0 then k - 1 else cnt T 0 (i + 1) - 1
theorem me_name {sq cu : Nat → Int32} {N k : Nat} {T : Nat → Bool} (gos : Nat → Int32) (hq : sq 0 = nI N) (hg : sq 5 = nI k) (hk0 : 0 < k) (hN : N ≤ 16) (hT : cnt T 0 N = k) (hA : ARR T N cu) : ∃ gos', mX5_nameGroups sq cu gos = some gos' ∧ ∀ i, i < N → gos' i = nI (gf T k i) := by
  have hkN : k ≤ N := by rw [← hT]; exact cnt_le T 0 N
  have := ml_inv (b := bq_u4 (bX5_nameGroups_11 sq cu)) (fun s x => ∃ go', x = (nI s, nI (cnt T 0 s), nI (if cnt T 0 s = 0 then k - 1 else cnt T 0 s - 1), go') ∧ ∀ i, i < s → go' i = nI (gf T k i)) (fun r => ∀ i, i < N → r i = nI (gf T k i)) N (fun s x hs hx => ?_) (fun x hx => ?_) N 0 (0, 0, nI (k - 1), gos) (by omega) ⟨gos, rfl, fun i hi => by omega⟩
  · obtain ⟨r, h1, h2⟩ := this
    refine ⟨r, ?_, h2⟩
    unfold mX5_nameGroups
    rw [hg, mq_pred hk0, me_let, h1, me_bd]
  · obtain ⟨go', rfl, h2⟩ := hx
    left
    have hck : cnt T 0 s ≤ k := by rw [← hT]; exact cnt_mono T 0 (by omega)
    show ∃ s', bX5_nameGroups_11 sq cu (nI s) (nI (cnt T 0 s)) (nI (if cnt T 0 s = 0 then k - 1 else cnt T 0 s - 1)) go' = some (.inl s') ∧ _
    unfold bX5_nameGroups_11
    rw [hq, if_neg (mq_nle hs (by omega)), hg]
    have hv : (if nI k ≤ nI (cnt T 0 s) then some (nI (if cnt T 0 s = 0 then k - 1 else cnt T 0 s - 1), nI (cnt T 0 s)) else (bq_ci (nI (cnt T 0 s)) 16 (if cu ((nI (cnt T 0 s)).toNatClampNeg) = nI s then (bq_let (nI (cnt T 0 s) + 1) (fun v9 => some (nI (cnt T 0 s), v9))) else some (nI (if cnt T 0 s = 0 then k - 1 else cnt T 0 s - 1), nI (cnt T 0 s))))) = some (nI (gf T k s), nI (cnt T 0 (s + 1))) := by
      by_cases hs2 : T s = true
      · have hA1 := hA s hs hs2
        have hlt : cnt T 0 s < k := by
          have := cnt_mono T 0 (m := s + 1) (n := N) hs
          rw [cnt_s, if_pos hs2] at this
          omega
        rw [if_neg (mq_nle hlt (by omega)), me_ci _ (by omega) (by omega), nI_clamp (by omega), hA1, if_pos rfl, me_let, nI_1]
        unfold gf
        rw [cnt_s, if_pos hs2, if_neg (by omega), Nat.add_sub_cancel]
      · have e : gf T k s = if cnt T 0 s = 0 then k - 1 else cnt T 0 s - 1 := by
          unfold gf
          rw [cnt_s, if_neg hs2, Nat.add_zero]
        rw [e, cnt_s, if_neg hs2, Nat.add_zero]
        by_cases hlt : cnt T 0 s < k
        · rw [if_neg (mq_nle hlt (by omega)), me_ci _ (by omega) (by omega), nI_clamp (by omega)]
          obtain ⟨q, q1, q2, q3⟩ := cnt_surj T N (cnt T 0 s) (by omega)
          have hA1 := hA q q1 q2
          rw [q3] at hA1
          rw [hA1, if_neg (fun h9 => hs2 (by rw [← (nI_eq (by omega) (by omega)).mp h9]; exact q2))]
        · rw [if_pos ((mq_le (by omega) (by omega)).mpr (by omega))]
    rw [hv, me_b2, me_ci _ (by omega) (by omega), nI_clamp (by omega), me_let, me_let, nI_1]
    refine ⟨_, rfl, _, rfl, fun i hi => ?_⟩
    rcases Nat.lt_or_ge i s with h9 | h9
    · rw [mu_n _ _ (by omega)]
      exact h2 i h9
    · rw [show i = s by omega, mu_s]
  · obtain ⟨go', rfl, h2⟩ := hx
    refine ⟨go', ?_, h2⟩
    show bX5_nameGroups_11 sq cu (nI N) (nI (cnt T 0 N)) (nI (if cnt T 0 N = 0 then k - 1 else cnt T 0 N - 1)) go' = _
    unfold bX5_nameGroups_11
    rw [hq, if_pos (mq_rfl _)]
theorem me_divide {sq M P : Nat → Int32} {N : Nat} (cu gos : Nat → Int32) (hq : sq 0 = nI N) (h0 : 0 < N) (hN : N ≤ 16) : ∃ a k cu' gos', MIN (mr N P M) N a k ∧ mX5_divide sq cu gos M P = some (upd sq 5 (nI k), cu', gos') ∧ ARR (Cb (mr N P M) N a) N cu' ∧ ∀ i, i < N → gos' i = nI (gf (Cb (mr N P M) N a) k i) := by
  obtain ⟨a, k, h1, hm⟩ := me_divmin (M := M) (P := P) hq h0 hN
  obtain ⟨cu', h2, h3⟩ := me_place cu hq hN hm
  have hk : 0 < k := by rw [← hm.2.1]; exact nd_pos _ _ _
  obtain ⟨gos', h4, h5⟩ := me_name (sq := upd sq 5 (nI k)) gos hq (mu_s _ _ _) hk hN (cb_all (mr_per N P M) hm) h3
  refine ⟨a, k, cu', gos', hm, ?_, h3, h5⟩
  unfold mX5_divide
  rw [me_let, h1, me_b2, h2, me_b2, h4, me_bd]
theorem mr_groupFor {t ct : Nat → Int32} {N k i : Nat} {T : Nat → Bool} (hg : t 8 = nI k) (hk0 : 0 < k) (hN : N ≤ 16) (hT : cnt T 0 N = k) (hA : ARR T N ct) (hi : i < N) : mX8_groupFor t ct (nI i) = some (nI (gf T k i)) := by
  have hkN : k ≤ N := by rw [← hT]; exact cnt_le T 0 N
  have hck : cnt T 0 (i + 1) ≤ k := by rw [← hT]; exact cnt_mono T 0 (by omega)
  have h : bq_loop (bq_u2 (bX8_groupFor_9 t ct (nI i))) (0, nI (k - 1)) = some (nI (if min k (cnt T 0 (i + 1)) = 0 then k - 1 else min k (cnt T 0 (i + 1)) - 1)) := by
    have h0 : ((0 : Int32), nI (k - 1)) = (nI 0, nI (if min 0 (cnt T 0 (i + 1)) = 0 then k - 1 else min 0 (cnt T 0 (i + 1)) - 1)) := by
      rw [Nat.zero_min, if_pos rfl]
      rfl
    rw [h0]
    refine ml_run (fun h => (nI h, nI (if min h (cnt T 0 (i + 1)) = 0 then k - 1 else min h (cnt T 0 (i + 1)) - 1))) k (fun h hh => ?_) ?_
    · rw [me_u2]
      unfold bX8_groupFor_9
      rw [hg, if_neg (mq_nle hh (by omega)), me_ci _ (by omega) (by omega), nI_clamp (by omega), me_let, me_let, nI_1]
      obtain ⟨s, s1, s2, s3⟩ := cnt_surj T N h (by omega)
      have hA1 := hA s s1 s2
      rw [s3] at hA1
      rw [hA1]
      congr 4
      by_cases his : i < s
      · rw [if_pos ((nI_ltI (by omega) (by omega)).mpr his)]
        have := cnt_mono T 0 (m := i + 1) (n := s) his
        rw [show min h (cnt T 0 (i + 1)) = cnt T 0 (i + 1) by omega, show min (h + 1) (cnt T 0 (i + 1)) = cnt T 0 (i + 1) by omega]
      · rw [if_neg (fun h9 => his ((nI_ltI (by omega) (by omega)).mp h9))]
        have := cnt_mono T 0 (m := s + 1) (n := i + 1) (by omega)
        rw [cnt_s, if_pos s2] at this
        rw [show min (h + 1) (cnt T 0 (i + 1)) = h + 1 by omega, if_neg (by omega), Nat.add_sub_cancel]
    · rw [me_u2]
      unfold bX8_groupFor_9
      rw [hg, if_pos (mq_rfl _)]
  unfold mX8_groupFor gf
  rw [hg, mq_pred hk0, me_let, h, me_bd, show min k (cnt T 0 (i + 1)) = cnt T 0 (i + 1) by omega]
end
