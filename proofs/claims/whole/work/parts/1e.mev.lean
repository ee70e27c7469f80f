def sp_lg (lg : Nat → Int32) (n : Nat) : Nat → Int32 := upd (upd (upd lg 4 (nI ((n + 1) % 40))) 3 (nI (min (n + 1) 40))) 2 (nI (n + 1))
theorem er_log {n c : Nat} {mv tm r r' : Nat → Int32} {o : Bool} (h : ∀ k, k < 40 → k < n → tm ((k + 1) % 40) = r (60 + k) ∧ mv ((k + 1) % 40) = r (100 + k)) (hr : ∀ k, 60 ≤ k → r' k = sp_rev r n c o k) : ∀ k, k < 40 → k < n + 1 → (upd tm ((n + 1) % 40) (r 0)) ((k + 1) % 40) = r' (60 + k) ∧ (upd mv ((n + 1) % 40) (2 * nI c + if o then 1 else 0)) ((k + 1) % 40) = r' (100 + k) := by
  intro k hk hkn
  rw [hr _ (by omega), hr _ (by omega)]
  unfold sp_rev
  by_cases he : k = n % 40
  · have e1 : (k + 1) % 40 = (n + 1) % 40 := by omega
    rw [e1, mu_s, mu_s, he, mu_n _ _ (by omega), mu_n _ _ (by omega), mu_s, mu_n _ _ (by omega), mu_s]
    exact ⟨rfl, rfl⟩
  · have e1 : (k + 1) % 40 ≠ (n + 1) % 40 := by omega
    rw [mu_n _ _ e1, mu_n _ _ e1, mu_n _ _ (by omega), mu_n _ _ (by omega), mu_n _ _ (by omega), mu_n _ _ (by omega), mu_n _ _ (by omega), mu_n _ _ (by omega)]
    exact h k hk (by omega)
/-- what an event leaves as it is -/
def FR (r r' : Nat → Int32) : Prop := ∀ k, (k < 4 ∨ k = 10 ∨ (13 ≤ k ∧ k < 60)) → r' k = r k
/-- what an event does to the cycles -/
def CYC (F : Nat) (P M r r' : Nat → Int32) : Prop := (r' 9 = r 9 ∧ r' 11 = r 11 ∧ r' 12 = r 12) ∨ (r' 9 = r 9 + 1 ∧ r' 11 = (if r 9 + 1 = 1 then r 0 else r 11) ∧ r' 12 = (if r 9 + 1 = 2 then r 0 else r 12) ∧ r' 7 = nI F ∧ r' 8 = sp_mo P M F ∧ r 6 = 0)
/-- behind a cycle: the next one waits for an event of cylinder x that can't come in this tick -/
def WC (F J x c : Nat) (r : Nat → Int32) : Prop := (r 7 = nI F ∧ bt (r 8) x = true) ∨ (x < c ∧ ∃ d, r 7 = nI d ∧ d ≤ J ∧ (d = J → bt (r 8) (6 + x) = true))
theorem mr_event {N F n c : Nat} {P M Z Pr Mr Zr sq t lg mv tm sc r : Nat → Int32} (hv : VS N F P M Z Pr Mr Zr) (hq : sq 0 = nI N) (ht : t 4 = nI N) (hE : ER N F n Z lg mv tm sc r) (hn : n + 1 < 2 ^ 31) (hc : c < 6) (o : Bool) :
    ∃ lg' mv' tm' sc' r', mX1_note lg mv tm (r 0) (2 * nI c + if o then 1 else 0) = some (lg', mv', tm') ∧ mX4_judge sc sq M P (nI c) (if o then 1 else 0) = some sc' ∧ mX8_notesEvent t Mr Pr Zr r (nI c) (if o then 1 else 0) = some r' ∧ ER N F (n + 1) Z lg' mv' tm' sc' r' ∧ FR r r' ∧ CYC F P M r r' ∧ (r 6 = 1 → r' 6 = 1) ∧ (∀ x J, x < 6 → bt (P F) x = true → F < J → J < N → bt (M J) x = true → WC F J x c r → r' 9 = r 9 ∧ WC F J x (c + 1) r') := by
  obtain ⟨⟨h0, hN⟩, hcp, hZ, hbits, hdis, hF, hF3, hF4⟩ := hv
  obtain ⟨⟨l2, r4, l3, l4⟩, hlog, ⟨s0, s1, s2, r6⟩, ⟨d, s3, r7, hd, hFd, hZd⟩, h8, h8b, h8d⟩ := hE
  have hnote := me_note (mv := mv) (tm := tm) l2 l3 l4 (r 0) (2 * nI c + if o then 1 else 0)
  have hdue := sp_dueOf_bt h8 hc o
  have hZr : ∀ i, i < N → (Zr i ≤ 0 ↔ ¬ P i ||| M i = 0) := fun i hi => by rw [(hcp i hi).2.2]; exact hZ i hi
  have hl2 : sp_lg lg n 2 = nI (n + 1) := rfl
  have hl3 : sp_lg lg n 3 = nI (min (n + 1) 40) := rfl
  have hl4 : sp_lg lg n 4 = nI ((n + 1) % 40) := rfl
  by_cases hw : r 6 = 1 ∨ bt (r 8) (sp_ebit c o) = false
  · -- a wrong event
    have hj : ¬ sc 2 = 0 ∨ bt (sp_dueOf sc o) c = false := by
      rcases hw with h | h
      · left; rw [s2, h]; decide
      · right; rw [← hdue]; exact h
    have q : ∀ k, k < 60 → k ≠ 4 → k ≠ 6 → upd (sp_rev r n c o) 6 1 k = r k := fun k h1 h2 h3 => by rw [mu_n _ _ h3, sp_rev_lo _ _ _ _ h1 h2]
    have q6 : upd (sp_rev r n c o) 6 1 6 = 1 := mu_s _ _ _
    have hrr : ∀ k, 60 ≤ k → upd (sp_rev r n c o) 6 1 k = sp_rev r n c o k := fun k hk => mu_n _ _ (by omega)
    refine ⟨_, _, _, _, _, hnote, me_judge_a hc o hj, mr_note_a hc o r4 hn hw, ?_, ?_, ?_, fun _ => q6, ?_⟩
    · refine ⟨⟨hl2, rfl, hl3, hl4⟩, er_log hlog hrr, ⟨?_, ?_, ?_, Or.inr q6⟩, ⟨d, ?_, ?_, hd, hFd, hZd⟩, ?_, h8b, h8d⟩
      · rw [q 5 (by omega) (by omega) (by omega)]; exact s0
      · rw [q 9 (by omega) (by omega) (by omega)]; exact s1
      · rw [q6]; rfl
      · exact s3
      · rw [q 7 (by omega) (by omega) (by omega)]; exact r7
      · rw [q 8 (by omega) (by omega) (by omega)]; exact h8
    · intro k hk
      exact q k (by omega) (by omega) (by omega)
    · left
      exact ⟨q 9 (by omega) (by omega) (by omega), q 11 (by omega) (by omega) (by omega), q 12 (by omega) (by omega) (by omega)⟩
    · intro x J _ _ _ _ _ hW
      refine ⟨q 9 (by omega) (by omega) (by omega), ?_⟩
      unfold WC at hW ⊢
      rw [q 7 (by omega) (by omega) (by omega), q 8 (by omega) (by omega) (by omega)]
      rcases hW with h | ⟨h1, h2⟩
      · exact Or.inl h
      · exact Or.inr ⟨by omega, h2⟩
  · have hw6 : ¬ r 6 = 1 := fun h => hw (Or.inl h)
    have hr60 : r 6 = 0 := by rcases r6 with h | h; exact h; exact absurd h hw6
    have hwb : bt (r 8) (sp_ebit c o) = true := by
      cases hx : bt (r 8) (sp_ebit c o)
      · exact absurd (Or.inr hx) hw
      · rfl
    have hs20 : sc 2 = 0 := by rw [s2, hr60]
    have hsb : bt (sp_dueOf sc o) c = true := by rw [← hdue]; exact hwb
    have hd8 := sp_right_due (n := n) hc o h8 h8d hsb
    have e4 : sp_right sc c 4 = sc 4 &&& (((1 : Int32) <<< (nI c &&& 31)) ^^^ (-1)) := rfl
    have e5 : sp_right sc c 5 = sc 5 &&& (((1 : Int32) <<< (nI c &&& 31)) ^^^ (-1)) := rfl
    have b4 : ∀ i, i < 32 → bt (sp_right sc c 4) i = true → bt (sc 4) i = true := fun i hi h => by
      rw [e4, mb_clr _ (by omega) hi] at h
      exact (Bool.and_eq_true _ _ ▸ h).1
    have b5 : ∀ i, i < 32 → bt (sp_right sc c 5) i = true → bt (sc 5) i = true := fun i hi h => by
      rw [e5, mb_clr _ (by omega) hi] at h
      exact (Bool.and_eq_true _ _ ▸ h).1
    have h8b' : ∀ i, i < 32 → (bt (sp_right sc c 4) i = true ∨ bt (sp_right sc c 5) i = true) → i < 6 := fun i hi h => by
      rcases h with h | h
      · exact h8b i hi (Or.inl (b4 i hi h))
      · exact h8b i hi (Or.inr (b5 i hi h))
    have h8d' : ∀ i, i < 6 → ¬ (bt (sp_right sc c 4) i = true ∧ bt (sp_right sc c 5) i = true) := fun i hi h => h8d i hi ⟨b4 i (by omega) h.1, b5 i (by omega) h.2⟩
    have hz := sp_due_zero hd8 h8b'
    have p4 : sp_rr r n c o 4 = nI (n + 1) := rfl
    have p5 : sp_rr r n c o 5 = r 5 + 1 := rfl
    have phi : ∀ k, 60 ≤ k → sp_rr r n c o k = sp_rev r n c o k := fun k hk => by unfold sp_rr; rw [mu_n _ _ (by omega), mu_n _ _ (by omega)]
    have q0 : sp_right sc c 0 = sc 0 + 1 := rfl
    have hWbit : ∀ x, x < 6 → bt (r 8) x = true → ¬ (sp_rr r n c o 8 = 0) ∨ (c = x ∧ o = true) := fun x hx hb => by
      by_cases hcx : c = x ∧ o = true
      · exact Or.inr hcx
      · left
        intro h
        have h1 := mb_zero.mp h x (by omega)
        have e8 : sp_rr r n c o 8 = r 8 &&& (((1 : Int32) <<< (nI (sp_ebit c o) &&& 31)) ^^^ (-1)) := mu_s _ _ _
        have hl := sp_ebit_lt hc o
        rw [e8, mb_clr _ (by omega) (by omega), hb, decide_eq_false (by unfold sp_ebit; cases o; simp; omega; simp at hcx ⊢; omega)] at h1
        cases h1
    by_cases hnz : sp_rr r n c o 8 = 0
    · have hab := hz.mp hnz
      have hpm : ∀ i, i < N → (P i ||| M i = 0 ↔ ¬ Zr i ≤ 0) := fun i hi => by
        rw [hZr i hi]
        exact ⟨fun h h2 => h2 h, fun h => Classical.byContradiction h⟩
      rcases ml_least (fun i => Zr i ≤ 0) (d + 1) N with hl | ⟨m, hm1, hm2, hm3, hm4⟩
      · -- a cycle
        refine ⟨_, _, _, _, _, hnote, me_judge_d (F := F) hq hN hc o hs20 hsb hab.1 hab.2 s3 hd (fun i h1 h2 => (hpm i h2).mpr (hl i h1 h2)) hF ((hZ F hF).mp hF3) (fun i _ h2 => (hpm i (by omega)).mpr (by rw [(hcp i (by omega)).2.2]; exact hF4 i h2)), mr_note_d (F := F) ht hN hc o r4 hn hw6 hwb hnz r7 hd hl hF (by rw [(hcp F hF).2.2]; exact hF3) (fun i h2 => by rw [(hcp i (by omega)).2.2]; exact hF4 i h2), ?_, ?_, ?_, fun h => absurd h hw6, ?_⟩
        · have emo : sp_mo Pr Mr F = sp_mo P M F := by unfold sp_mo; rw [(hcp F hF).1, (hcp F hF).2.1]
          refine ⟨⟨hl2, rfl, hl3, hl4⟩, er_log hlog (fun k hk => ?_), ⟨?_, ?_, ?_, ?_⟩, ⟨F, rfl, rfl, hF, Nat.le_refl F, hF3⟩, ?_, ?_, ?_⟩
          · unfold sp_cyc
            rw [mu_n _ _ (by omega), mu_n _ _ (by omega), mu_n _ _ (by omega), mu_n _ _ (by omega), mu_n _ _ (by omega), phi k hk]
          · show sc 0 + 1 = r 5 + 1
            rw [s0]
          · show sc 1 + 1 = sp_rr r n c o 9 + 1
            rw [s1, sp_rr_lo _ _ _ _ (by omega) (by omega) (by omega) (by omega)]
          · show sc 2 = sp_rr r n c o 6
            rw [s2, sp_rr_lo _ _ _ _ (by omega) (by omega) (by omega) (by omega)]
          · left
            show sp_rr r n c o 6 = 0
            rw [sp_rr_lo _ _ _ _ (by omega) (by omega) (by omega) (by omega), hr60]
          · show ∀ i, i < 32 → bt (sp_mo Pr Mr F) i = ((decide (i < 6) && bt (P F) i) || (decide (6 ≤ i ∧ i < 12) && bt (M F) (i - 6)))
            rw [emo]
            exact sp_mo_bt (fun c h1 h2 => hbits F hF c h1 h2)
          · exact fun i hi h => hbits F hF i hi h
          · exact fun i hi h => hdis F hF i hi h
        · intro k hk
          unfold sp_cyc
          rw [mu_n _ _ (by omega), mu_n _ _ (by omega), mu_n _ _ (by omega), mu_n _ _ (by omega), mu_n _ _ (by omega), sp_rr_lo _ _ _ _ (by omega) (by omega) (by omega) (by omega)]
        · right
          have e0 : (upd (upd (sp_rr r n c o) 7 (nI F)) 8 (sp_mo Pr Mr F)) 0 = r 0 := by rw [mu_n _ _ (by omega), mu_n _ _ (by omega), sp_rr_lo _ _ _ _ (by omega) (by omega) (by omega) (by omega)]
          have e9 : (upd (upd (sp_rr r n c o) 7 (nI F)) 8 (sp_mo Pr Mr F)) 9 = r 9 := by rw [mu_n _ _ (by omega), mu_n _ _ (by omega), sp_rr_lo _ _ _ _ (by omega) (by omega) (by omega) (by omega)]
          have e11 : (upd (upd (sp_rr r n c o) 7 (nI F)) 8 (sp_mo Pr Mr F)) 11 = r 11 := by rw [mu_n _ _ (by omega), mu_n _ _ (by omega), sp_rr_lo _ _ _ _ (by omega) (by omega) (by omega) (by omega)]
          have e12 : (upd (upd (sp_rr r n c o) 7 (nI F)) 8 (sp_mo Pr Mr F)) 12 = r 12 := by rw [mu_n _ _ (by omega), mu_n _ _ (by omega), sp_rr_lo _ _ _ _ (by omega) (by omega) (by omega) (by omega)]
          unfold sp_cyc
          rw [e0, e9, e11, e12]
          refine ⟨rfl, rfl, rfl, rfl, ?_, hr60⟩
          show sp_mo Pr Mr F = sp_mo P M F
          unfold sp_mo
          rw [(hcp F hF).1, (hcp F hF).2.1]
        · -- no second cycle in a tick
          intro x J hx hPx hFJ hJN hMx hW
          exfalso
          have hJZ : Zr J ≤ 0 := (hZr J hJN).mpr (fun h => by
            have := mb_zero.mp h x (by omega)
            rw [b_or, hMx, Bool.or_true] at this
            cases this)
          have hdJ : J ≤ d := by
            rcases Nat.lt_or_ge d J with h | h
            · exact absurd hJZ (hl J (by omega) hJN)
            · exact h
          rcases hW with ⟨h1, h2⟩ | ⟨h1, d', h2, h3, h4⟩
          · rw [r7, nI_eq (by omega) (by omega)] at h1
            omega
          · rw [r7, nI_eq (by omega) (by omega)] at h2
            have hdd : d' = J := by omega
            have hbx := h4 hdd
            have h1' := mb_zero.mp hnz (6 + x) (by omega)
            have e8 : sp_rr r n c o 8 = r 8 &&& (((1 : Int32) <<< (nI (sp_ebit c o) &&& 31)) ^^^ (-1)) := mu_s _ _ _
            have hlt := sp_ebit_lt hc o
            rw [e8, mb_clr _ (by omega) (by omega), hbx, decide_eq_false (by unfold sp_ebit; cases o; simp; omega; simp; omega)] at h1'
            cases h1'
      · -- the next step with moves
        have hmP : ¬ P m ||| M m = 0 := (hZr m hm2).mp hm3
        refine ⟨_, _, _, _, _, hnote, me_judge_c hq hN hc o hs20 hsb hab.1 hab.2 s3 (by omega) hm2 hmP (fun i h1 h2 => (hpm i (by omega)).mpr (hm4 i h1 h2)), mr_note_c (F := F) ht hN hc o r4 hn hw6 hwb hnz r7 (by omega) hm2 hm3 hm4 hFd (by rw [(hcp F hF).2.2]; exact hF3) (fun i h2 => by rw [(hcp i (by omega)).2.2]; exact hF4 i h2), ?_, ?_, ?_, fun h => absurd h hw6, ?_⟩
        · have emo : sp_mo Pr Mr m = sp_mo P M m := by unfold sp_mo; rw [(hcp m hm2).1, (hcp m hm2).2.1]
          refine ⟨⟨hl2, rfl, hl3, hl4⟩, er_log hlog (fun k hk => ?_), ⟨?_, ?_, ?_, ?_⟩, ⟨m, rfl, rfl, hm2, by omega, (hZ m hm2).mpr hmP⟩, ?_, ?_, ?_⟩
          · rw [mu_n _ _ (by omega), mu_n _ _ (by omega), phi k hk]
          · show sc 0 + 1 = r 5 + 1
            rw [s0]
          · show sc 1 = sp_rr r n c o 9
            rw [s1, sp_rr_lo _ _ _ _ (by omega) (by omega) (by omega) (by omega)]
          · show sc 2 = sp_rr r n c o 6
            rw [s2, sp_rr_lo _ _ _ _ (by omega) (by omega) (by omega) (by omega)]
          · left
            show sp_rr r n c o 6 = 0
            rw [sp_rr_lo _ _ _ _ (by omega) (by omega) (by omega) (by omega), hr60]
          · show ∀ i, i < 32 → bt (sp_mo Pr Mr m) i = ((decide (i < 6) && bt (P m) i) || (decide (6 ≤ i ∧ i < 12) && bt (M m) (i - 6)))
            rw [emo]
            exact sp_mo_bt (fun c h1 h2 => hbits m hm2 c h1 h2)
          · exact fun i hi h => hbits m hm2 i hi h
          · exact fun i hi h => hdis m hm2 i hi h
        · intro k hk
          rw [mu_n _ _ (by omega), mu_n _ _ (by omega), sp_rr_lo _ _ _ _ (by omega) (by omega) (by omega) (by omega)]
        · left
          refine ⟨?_, ?_, ?_⟩ <;> rw [mu_n _ _ (by omega), mu_n _ _ (by omega), sp_rr_lo _ _ _ _ (by omega) (by omega) (by omega) (by omega)]
        · intro x J hx hPx hFJ hJN hMx hW
          refine ⟨by rw [mu_n _ _ (by omega), mu_n _ _ (by omega), sp_rr_lo _ _ _ _ (by omega) (by omega) (by omega) (by omega)], ?_⟩
          have hJZ : Zr J ≤ 0 := (hZr J hJN).mpr (fun h => by
            have := mb_zero.mp h x (by omega)
            rw [b_or, hMx, Bool.or_true] at this
            cases this)
          have hmJ : d < J → m ≤ J := fun h => by
            rcases Nat.lt_or_ge J m with h9 | h9
            · exact absurd hJZ (hm4 J (by omega) h9)
            · exact h9
          have fin : d < J → x < c + 1 → WC F J x (c + 1) (upd (upd (sp_rr r n c o) 7 (nI m)) 8 (sp_mo Pr Mr m)) := fun h1 h2 => by
            refine Or.inr ⟨h2, m, rfl, hmJ h1, fun h9 => ?_⟩
            show bt (sp_mo Pr Mr m) (6 + x) = true
            have emo : sp_mo Pr Mr m = sp_mo P M m := by unfold sp_mo; rw [(hcp m hm2).1, (hcp m hm2).2.1]
            rw [emo, sp_mo_bt (fun c h1 h2 => hbits m hm2 c h1 h2) _ (by omega), decide_eq_true (by omega : 6 ≤ 6 + x ∧ 6 + x < 12), Nat.add_sub_cancel_left, h9, hMx]
            simp
          rcases hW with ⟨h1, h2⟩ | ⟨h1, d', h2, h3, h4⟩
          · rw [r7, nI_eq (by omega) (by omega)] at h1
            rcases hWbit x hx h2 with h | h
            · exact absurd hnz h
            · exact fin (by omega) (by omega)
          · rw [r7, nI_eq (by omega) (by omega)] at h2
            by_cases hdd : d' = J
            · exfalso
              have hbx := h4 hdd
              have h1' := mb_zero.mp hnz (6 + x) (by omega)
              have e8 : sp_rr r n c o 8 = r 8 &&& (((1 : Int32) <<< (nI (sp_ebit c o) &&& 31)) ^^^ (-1)) := mu_s _ _ _
              have hlt := sp_ebit_lt hc o
              rw [e8, mb_clr _ (by omega) (by omega), hbx, decide_eq_false (by unfold sp_ebit; cases o; simp; omega; simp; omega)] at h1'
              cases h1'
            · exact fin (by omega) (by omega)
    · -- moves of the step are left
      refine ⟨_, _, _, _, _, hnote, me_judge_b hc o hs20 hsb (fun h => hnz (hz.mpr h)), mr_note_b hc o r4 hn hw6 hwb hnz, ?_, ?_, ?_, fun h => absurd h hw6, ?_⟩
      · refine ⟨⟨hl2, rfl, hl3, hl4⟩, er_log hlog phi, ⟨?_, ?_, ?_, ?_⟩, ⟨d, s3, ?_, hd, hFd, hZd⟩, hd8, h8b', h8d'⟩
        · rw [q0, p5, s0]
        · show sc 1 = sp_rr r n c o 9
          rw [s1, sp_rr_lo _ _ _ _ (by omega) (by omega) (by omega) (by omega)]
        · show sc 2 = sp_rr r n c o 6
          rw [s2, sp_rr_lo _ _ _ _ (by omega) (by omega) (by omega) (by omega)]
        · left
          rw [sp_rr_lo _ _ _ _ (by omega) (by omega) (by omega) (by omega), hr60]
        · rw [sp_rr_lo _ _ _ _ (by omega) (by omega) (by omega) (by omega), r7]
      · intro k hk
        exact sp_rr_lo _ _ _ _ (by omega) (by omega) (by omega) (by omega)
      · left
        refine ⟨?_, ?_, ?_⟩ <;> exact sp_rr_lo _ _ _ _ (by omega) (by omega) (by omega) (by omega)
      · intro x J hx hPx hFJ hJN hMx hW
        refine ⟨sp_rr_lo _ _ _ _ (by omega) (by omega) (by omega) (by omega), ?_⟩
        have e8 : sp_rr r n c o 8 = r 8 &&& (((1 : Int32) <<< (nI (sp_ebit c o) &&& 31)) ^^^ (-1)) := mu_s _ _ _
        have hlt := sp_ebit_lt hc o
        have h77 : sp_rr r n c o 7 = r 7 := sp_rr_lo _ _ _ _ (by omega) (by omega) (by omega) (by omega)
        unfold WC
        rw [h77]
        rcases hW with ⟨h1, h2⟩ | ⟨h1, d', h2, h3, h4⟩
        · by_cases hcx : c = x ∧ o = true
          · exact Or.inr ⟨by omega, F, h1, by omega, fun h => by omega⟩
          · left
            refine ⟨h1, ?_⟩
            rw [e8, mb_clr _ (by omega) (by omega), h2, decide_eq_false (by unfold sp_ebit; cases o; simp; omega; simp at hcx ⊢; omega)]
            rfl
        · refine Or.inr ⟨by omega, d', h2, h3, fun h => ?_⟩
          rw [e8, mb_clr _ (by omega) (by omega), h4 h, decide_eq_false (by unfold sp_ebit; cases o; simp; omega; simp; omega)]
          rfl
