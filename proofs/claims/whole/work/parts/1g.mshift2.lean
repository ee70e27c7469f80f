theorem sp_or_congr {on on' : Nat → Bool} {P P' : Nat → Int32} : ∀ (n : Nat), (∀ i, i < n → on i = on' i ∧ P i = P' i) → sp_or on P n = sp_or on' P' n := by
  intro n
  induction n with
  | zero => intro _; rfl
  | succ n ih =>
    intro h
    rw [sp_or, sp_or, ih (fun i hi => h i (by omega)), (h n (by omega)).1, (h n (by omega)).2]
theorem sp_bits_congr {p q : Nat → Bool} : ∀ (n : Nat), (∀ i, i < n → p i = q i) → sp_bits p n = sp_bits q n := by
  intro n
  induction n with
  | zero => intro _; rfl
  | succ n ih =>
    intro h
    rw [sp_bits, sp_bits, ih (fun i hi => h i (by omega)), h n (by omega)]
theorem sp_any_0 {x : Int32} (h : ∀ c, c < 32 → bt x c = true → c < 6) : (if sp_any (bt x) 6 then (1 : Int32) else 0) = if x = 0 then 0 else 1 := by
  by_cases hx : x = 0
  · rw [if_pos hx, if_neg]
    rw [sp_any_iff]
    rintro ⟨c, _, h2⟩
    rw [hx, b_0] at h2
    cases h2
  · rw [if_neg hx, if_pos]
    rw [sp_any_iff]
    apply Classical.byContradiction
    intro hn
    apply hx
    rw [mb_zero]
    intro i hi
    cases hb : bt x i
    · rfl
    · exact absurd ⟨i, h i hi hb, hb⟩ hn
theorem sp_or_6 {on : Nat → Bool} {P : Nat → Int32} {N : Nat} (h : ∀ i, i < N → ∀ c, c < 32 → bt (P i) c = true → c < 6) : ∀ c, c < 32 → bt (sp_or on P N) c = true → c < 6 := by
  intro c hc hb
  obtain ⟨i, h1, _, h3⟩ := (sp_or_bt on P c N).mp hb
  exact h i h1 c hc h3
theorem mv_shift {N F J x n : Nat} {P M Z Pr Mr Zr sq t tt lg mv tm sc r : Nat → Int32} {out X : Int32} {on : Nat → Bool} (hv : VS N F P M Z Pr Mr Zr) (hx : x < 6) (hxP : bt (P F) x = true) (hFJ : F < J) (hJN : J < N) (hxM : bt (M J) x = true) (hq : sq 0 = nI N) (ht : t 4 = nI N) (hE : ER N F n Z lg mv tm sc r) (hn : n + 7 < 2 ^ 31) (hX : ∀ i, i < N → bt X i = on i) (htt : tt 10 = r 0) (hval : ∀ c, c < 6 → r (26 + c) = if bt out c then 1 else 0) :
    ∃ lg' mv' tm' sc' r', bq_loop (bq_u5 (bX3_shiftValves_55 tt sq M P (sp_tp (sp_or on P N) (sp_or on M N) out) (sp_sh (sp_or on P N) (sp_or on M N) out))) (0, lg, mv, tm, sc) = some (lg', mv', tm', sc') ∧ bq_loop (bq_u3 (bX8_ticksOnce_11 t Mr Pr Zr X)) (0, 0, r) = some (if sp_sh (sp_or on P N) (sp_or on M N) out = 0 then 0 else 1, r') ∧ VI N F J x n 6 (sp_or on P N) (sp_or on M N) out Z r lg' mv' tm' sc' r' ∧ (sp_sh (sp_or on P N) (sp_or on M N) out = 0 → lg' = lg ∧ mv' = mv ∧ tm' = tm ∧ sc' = sc) := by
  have hv0 := hv
  obtain ⟨⟨h0, hN⟩, hcp, hZ, hbits, hdis, hF, hF3, hF4⟩ := hv
  have eP : sp_or on Pr N = sp_or on P N := sp_or_congr N (fun i hi => ⟨rfl, (hcp i hi).1⟩)
  have eM : sp_or on Mr N = sp_or on M N := sp_or_congr N (fun i hi => ⟨rfl, (hcp i hi).2.1⟩)
  have hdr : ∀ i, i < N → ∀ c, c < 6 → ¬ (bt (Pr i) c = true ∧ bt (Mr i) c = true) := fun i hi c hc => by rw [(hcp i hi).1, (hcp i hi).2.1]; exact hdis i hi c hc
  have hpl6 := sp_or_6 (on := on) (fun i hi c hc h => hbits i hi c hc (Or.inl h))
  have hmi6 := sp_or_6 (on := on) (fun i hi c hc h => hbits i hi c hc (Or.inr h))
  have turn_n := @mr_turn_n t Mr Pr Zr
  have turn_e := @mr_turn_e t Mr Pr Zr
  generalize hpl : sp_or on P N = pl at *
  generalize hmi : sp_or on M N = mi at *
  have hsh6 : ∀ c, c < 32 → bt (sp_sh pl mi out) c = true → c < 6 := fun c hc h => by
    rw [sp_sh_bt _ _ _ hc] at h
    cases hp : bt pl c
    · cases hm : bt mi c
      · rw [hp, hm] at h; simp at h
      · exact hmi6 c hc hm
    · exact hpl6 c hc hp
  have hvout : ∀ c, c < 6 → bt (sp_sh pl mi out) c = false → bt (sp_out pl mi out) c = bt out c := fun c hc h => by
    rw [sp_sh_bt _ _ _ (by omega)] at h
    rw [sp_out_bt _ _ _ (by omega)]
    revert h
    generalize bt pl c = a
    generalize bt mi c = b
    generalize bt out c = w
    revert a b w
    decide
  have hvoute : ∀ c, c < 6 → bt (sp_sh pl mi out) c = true → bt (sp_out pl mi out) c = !bt out c ∧ bt (sp_tp pl mi out) c = !bt out c := fun c hc h => by
    rw [sp_sh_bt _ _ _ (by omega)] at h
    rw [sp_out_bt _ _ _ (by omega), sp_tp_bt _ _ _ (by omega)]
    revert h
    generalize bt pl c = a
    generalize bt mi c = b
    generalize bt out c = w
    revert a b w
    decide
  by_cases hsh : sp_sh pl mi out = 0
  · -- nothing goes over
    have hall : ∀ c, bt (sp_sh pl mi out) c = false := fun c => by rw [hsh, b_0]
    refine ⟨lg, mv, tm, sc, sp_put r (fun c => sp_cmd (bt pl c) (bt mi c)) 32 6, ?_, ?_, ?_, fun _ => ⟨rfl, rfl, rfl, rfl⟩⟩
    · refine ml_run (fun _ => (0, lg, mv, tm, sc)) 0 (fun j hj => by omega) ?_
      show bX3_shiftValves_55 tt sq M P _ _ 0 lg mv tm sc = _
      unfold bX3_shiftValves_55
      rw [if_neg (by decide), if_pos hsh]
    · rw [if_pos hsh]
      have e0 : ((0 : Int32), (0 : Int32), r) = (nI 0, 0, sp_put r (fun c => sp_cmd (bt pl c) (bt mi c)) 32 0) := by rw [sp_put_0]; rfl
      rw [e0]
      refine ml_run (fun j => (nI j, 0, sp_put r (fun c => sp_cmd (bt pl c) (bt mi c)) 32 j)) 6 (fun j hj => ?_) ?_
      · rw [me_u3]
        have := turn_n (r := sp_put r (fun c => sp_cmd (bt pl c) (bt mi c)) 32 j) (N := N) (j := j) (on := on) (x := X) ht hN hj hdr hX 0 (bt out j) (by rw [sp_put_out _ _ (by omega)]; exact hval j hj) (by rw [eP, eM, ← sp_sh_bt _ _ _ (by omega)]; exact hall j)
        rw [this, eP, eM, sp_put_s r (fun c => sp_cmd (bt pl c) (bt mi c)) 32 j]
      · rw [me_u3]
        unfold bX8_ticksOnce_11
        rw [if_pos (by decide)]
    · refine ⟨⟨n, by omega, er_frame hE (fun k hk => sp_put_out _ _ (by omega))⟩, fun k hk => sp_put_out _ _ (by omega), fun c hc => ?_, fun c hc => sp_put_in _ _ hc, ?_⟩
      · rw [sp_put_out _ _ (by omega), if_pos hc, hvout c hc (hall c)]
        exact hval c hc
      · refine ⟨Or.inl ⟨sp_put_out _ _ (by omega), sp_put_out _ _ (by omega), sp_put_out _ _ (by omega)⟩, fun h => by rw [sp_put_out _ _ (by omega)]; exact h⟩
  · have par := ml_par (b1 := bq_u5 (bX3_shiftValves_55 tt sq M P (sp_tp pl mi out) (sp_sh pl mi out))) (b2 := bq_u3 (bX8_ticksOnce_11 t Mr Pr Zr X)) (fun j s1 s2 => s1.1 = nI j ∧ s2.1 = nI j ∧ s2.2.1 = (if sp_any (bt (sp_sh pl mi out)) j then 1 else 0) ∧ VI N F J x n j pl mi out Z r s1.2.1 s1.2.2.1 s1.2.2.2.1 s1.2.2.2.2 s2.2.2) (fun r1 r2 => r2.1 = (if sp_any (bt (sp_sh pl mi out)) 6 then 1 else 0) ∧ VI N F J x n 6 pl mi out Z r r1.1 r1.2.1 r1.2.2.1 r1.2.2.2 r2.2) 6 ?_ ?_ (0, lg, mv, tm, sc) (0, 0, r) ?_
    · obtain ⟨⟨lg', mv', tm', sc'⟩, ⟨v', r'⟩, h1, h2, h3, h4⟩ := par
      refine ⟨lg', mv', tm', sc', r', h1, ?_, h4, fun h => absurd h hsh⟩
      rw [sp_any_0 hsh6] at h3
      have h3' : v' = if sp_sh pl mi out = 0 then 0 else 1 := h3
      rw [h2, h3']
    · rintro j ⟨i1, lg1, mv1, tm1, sc1⟩ ⟨i2, v2, r2⟩ hj ⟨e1, e2, e3, hI⟩
      have e1' : i1 = nI j := e1
      have e2' : i2 = nI j := e2
      have e3' : v2 = if sp_any (bt (sp_sh pl mi out)) j then 1 else 0 := e3
      subst e1' e2' e3'
      obtain ⟨⟨m, hm, hEm⟩, hfr, hvl, hcm, hct, hct6⟩ : VI N F J x n j pl mi out Z r lg1 mv1 tm1 sc1 r2 := hI
      have hw : r2 (26 + j) = if bt out j then 1 else 0 := by
        rw [hvl j hj, if_neg (by omega : ¬ j < j)]
      cases hb : bt (sp_sh pl mi out) j
      · refine ⟨(nI (j + 1), lg1, mv1, tm1, sc1), (nI (j + 1), (if sp_any (bt (sp_sh pl mi out)) j then 1 else 0), upd r2 (32 + j) (sp_cmd (bt pl j) (bt mi j))), ?_, ?_, rfl, rfl, ?_, ?_⟩
        · show bX3_shiftValves_55 tt sq M P _ _ (nI j) lg1 mv1 tm1 sc1 = _
          unfold bX3_shiftValves_55
          rw [if_neg (mq_6 hj), if_neg hsh, me_holds _ (by omega), hb, me_bd, if_pos (by decide), me_b4, me_let, nI_1]
        · rw [me_u3]
          have := turn_n (r := r2) (N := N) (j := j) (on := on) (x := X) ht hN hj hdr hX (if sp_any (bt (sp_sh pl mi out)) j then 1 else 0) (bt out j) hw (by rw [eP, eM, ← sp_sh_bt _ _ _ (by omega)]; exact hb)
          rw [this, eP, eM]
        · show (if sp_any (bt (sp_sh pl mi out)) j then (1 : Int32) else 0) = if sp_any (bt (sp_sh pl mi out)) (j + 1) then 1 else 0
          rw [sp_any, hb, Bool.or_false]
        · refine ⟨⟨m, by omega, er_frame hEm (fun k hk => mu_n _ _ (by omega))⟩, fun k hk => ?_, fun c hc => ?_, fun c hc => ?_, ?_, ?_⟩
          · show upd r2 (32 + j) _ k = _
            rw [mu_n _ _ (by omega)]
            exact hfr k hk
          · show upd r2 (32 + j) _ (26 + c) = _
            rw [mu_n _ _ (by omega), hvl c hc]
            by_cases hcj : c = j
            · subst hcj
              rw [if_neg (by omega : ¬ c < c), if_pos (by omega : c < c + 1), hvout c hc hb]
            · by_cases h : c < j
              · rw [if_pos h, if_pos (by omega : c < j + 1)]
              · rw [if_neg h, if_neg (by omega : ¬ c < j + 1)]
          · show upd r2 (32 + j) _ (32 + c) = _
            by_cases hcj : c = j
            · subst hcj
              rw [mu_s]
            · rw [mu_n _ _ (by omega)]
              exact hcm c (by omega)
          · show (upd r2 (32 + j) _ 9 = _ ∧ _) ∨ (upd r2 (32 + j) _ 9 = _ ∧ _)
            rcases hct with ⟨a1, a2, a3⟩ | ⟨a1, a2, a3, a4, a5⟩
            · left
              refine ⟨?_, ?_, ?_⟩
              · rw [mu_n _ _ (by omega)]; exact a1
              · show upd r2 (32 + j) _ 11 = _
                rw [mu_n _ _ (by omega)]; exact a2
              · show upd r2 (32 + j) _ 12 = _
                rw [mu_n _ _ (by omega)]; exact a3
            · right
              refine ⟨?_, ?_, ?_, ?_, a5⟩
              · rw [mu_n _ _ (by omega)]; exact a1
              · show upd r2 (32 + j) _ 11 = _
                rw [mu_n _ _ (by omega)]; exact a2
              · show upd r2 (32 + j) _ 12 = _
                rw [mu_n _ _ (by omega)]; exact a3
              · exact wc_mono (wc_frame a4 (mu_n _ _ (by omega)) (mu_n _ _ (by omega)))
          · intro h
            show upd r2 (32 + j) _ 6 = _
            rw [mu_n _ _ (by omega)]
            exact hct6 h
      · obtain ⟨ho, htp⟩ := hvoute j hj hb
        have hrr : ∀ k, k ≠ 32 + j → k ≠ 26 + j → (upd (upd r2 (32 + j) (sp_cmd (bt pl j) (bt mi j))) (26 + j) (if (!bt out j) = true then 1 else 0)) k = r2 k := fun k h1 h2 => by rw [mu_n _ _ h2, mu_n _ _ h1]
        have hr26 : (upd (upd r2 (32 + j) (sp_cmd (bt pl j) (bt mi j))) (26 + j) (if (!bt out j) = true then 1 else 0)) (26 + j) = if (!bt out j) = true then 1 else 0 := mu_s _ _ _
        have hr32 : (upd (upd r2 (32 + j) (sp_cmd (bt pl j) (bt mi j))) (26 + j) (if (!bt out j) = true then 1 else 0)) (32 + j) = sp_cmd (bt pl j) (bt mi j) := by rw [mu_n _ _ (by omega), mu_s]
        have turn := fun r' => turn_e (r := r2) (r' := r') (N := N) (j := j) (on := on) (x := X) ht hN hj hdr hX (if sp_any (bt (sp_sh pl mi out)) j then 1 else 0) (bt out j) hw (by rw [eP, eM, ← sp_sh_bt _ _ _ (by omega)]; exact hb)
        rw [eP, eM] at turn
        generalize (upd (upd r2 (32 + j) (sp_cmd (bt pl j) (bt mi j))) (26 + j) (if (!bt out j) = true then 1 else 0)) = r3 at hrr hr26 hr32 turn
        have hE3 : ER N F m Z lg1 mv1 tm1 sc1 r3 := er_frame hEm (fun k hk => hrr k (by omega) (by omega))
        obtain ⟨lg', mv', tm', sc', r', g1, g2, g3, g4, g5, g6, g7, g8⟩ := mr_event (c := j) (t := t) (sq := sq) hv0 hq ht hE3 (by omega) hj (!bt out j)
        have h30 : r3 0 = tt 10 := by rw [hrr 0 (by omega) (by omega), hfr 0 (by omega), htt]
        refine ⟨(nI (j + 1), lg', mv', tm', sc'), (nI (j + 1), 1, r'), ?_, ?_, rfl, rfl, ?_, ?_⟩
        · show bX3_shiftValves_55 tt sq M P _ _ (nI j) lg1 mv1 tm1 sc1 = _
          unfold bX3_shiftValves_55
          have ev : (if (if (!bt out j) = true then (1 : Int32) else 0) = 0 then (0 : Int32) else 1) = if (!bt out j) = true then 1 else 0 := by cases bt out j <;> rfl
          rw [if_neg (mq_6 hj), if_neg hsh, me_holds _ (by omega), hb, me_bd, if_neg (by decide), me_holds _ (by omega), htp, me_bd, ev, me_let, ← h30, g1, me_b3, g2, me_bd, me_b4, me_let, nI_1]
        · rw [me_u3]
          exact turn r' g3
        · show (1 : Int32) = if sp_any (bt (sp_sh pl mi out)) (j + 1) then 1 else 0
          rw [sp_any, hb, Bool.or_true, if_pos rfl]
        · refine ⟨⟨m + 1, by omega, g4⟩, fun k hk => ?_, fun c hc => ?_, fun c hc => ?_, ?_, ?_⟩
          · show r' k = _
            rw [g5 k (by omega), hrr k (by omega) (by omega)]
            exact hfr k hk
          · show r' (26 + c) = _
            rw [g5 _ (by omega)]
            by_cases hcj : c = j
            · subst hcj
              rw [hr26, if_pos (by omega : c < c + 1), ho]
            · rw [hrr _ (by omega) (by omega), hvl c hc]
              by_cases h : c < j
              · rw [if_pos h, if_pos (by omega : c < j + 1)]
              · rw [if_neg h, if_neg (by omega : ¬ c < j + 1)]
          · show r' (32 + c) = _
            rw [g5 _ (by omega)]
            by_cases hcj : c = j
            · subst hcj
              exact hr32
            · rw [hrr _ (by omega) (by omega)]
              exact hcm c (by omega)
          · have q9 := hrr 9 (by omega) (by omega)
            have q11 := hrr 11 (by omega) (by omega)
            have q12 := hrr 12 (by omega) (by omega)
            have q6 := hrr 6 (by omega) (by omega)
            have q0 : r3 0 = r 0 := by rw [h30, htt]
            show (r' 9 = _ ∧ r' 11 = _ ∧ r' 12 = _) ∨ (r' 9 = _ ∧ r' 11 = _ ∧ r' 12 = _ ∧ WC F J x (j + 1) r' ∧ r 6 = 0)
            rcases hct with ⟨a1, a2, a3⟩ | ⟨a1, a2, a3, a4, a5⟩
            · rcases g6 with ⟨b1, b2, b3⟩ | ⟨b1, b2, b3, b4, b5, b6⟩
              · left
                exact ⟨by rw [b1, q9, a1], by rw [b2, q11, a2], by rw [b3, q12, a3]⟩
              · right
                refine ⟨by rw [b1, q9, a1], by rw [b2, q9, a1, q0, q11, a2], by rw [b3, q9, a1, q0, q12, a3], Or.inl ⟨b4, ?_⟩, ?_⟩
                · rw [b5, sp_mo_bt (fun c h1 h2 => hbits F hF c h1 h2) _ (by omega), decide_eq_true hx, hxP]
                  rfl
                · have h60 : r2 6 = 0 := by rw [← q6]; exact b6
                  rcases (hEm.2.2.1).2.2.2 with h | h
                  · apply Classical.byContradiction
                    intro hne
                    have : r 6 = 1 := by
                      rcases (hE.2.2.1).2.2.2 with h9 | h9
                      · exact absurd h9 hne
                      · exact h9
                    rw [hct6 this] at h60
                    cases h60
                  · rw [h] at h60; cases h60
            · have hW3 : WC F J x j r3 := wc_frame a4 (hrr 7 (by omega) (by omega)) (hrr 8 (by omega) (by omega))
              obtain ⟨w1, w2⟩ := g8 x J hx hxP hFJ hJN hxM hW3
              rcases g6 with ⟨b1, b2, b3⟩ | ⟨b1, _⟩
              · right
                exact ⟨by rw [b1, q9, a1], by rw [b2, q11, a2], by rw [b3, q12, a3], w2, a5⟩
              · exfalso
                rw [b1] at w1
                have : r3 9 + 1 - r3 9 = r3 9 - r3 9 := by rw [w1]
                rw [Int32.sub_self, Int32.add_comm, Int32.add_sub_cancel] at this
                cases this
          · intro h
            show r' 6 = 1
            exact g7 (by rw [hrr 6 (by omega) (by omega)]; exact hct6 h)
    · rintro ⟨i1, lg1, mv1, tm1, sc1⟩ ⟨i2, v2, r2⟩ ⟨e1, e2, e3, hI⟩
      have e1' : i1 = nI 6 := e1
      have e2' : i2 = nI 6 := e2
      subst e1' e2'
      refine ⟨(lg1, mv1, tm1, sc1), (v2, r2), ?_, ?_, e3, hI⟩
      · show bX3_shiftValves_55 tt sq M P _ _ (nI 6) lg1 mv1 tm1 sc1 = _
        unfold bX3_shiftValves_55
        rw [if_pos (by decide)]
      · rw [me_u3]
        unfold bX8_ticksOnce_11
        rw [if_pos (by decide)]
    · refine ⟨rfl, rfl, rfl, ⟨n, by omega, hE⟩, fun k _ => rfl, fun c hc => ?_, fun c hc => by omega, Or.inl ⟨rfl, rfl, rfl⟩, fun h => h⟩
      show r (26 + c) = _
      rw [hval c hc, if_neg (by omega : ¬ c < 0)]
