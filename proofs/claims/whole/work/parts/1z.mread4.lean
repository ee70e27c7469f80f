section
theorem dig_ne : ∀ d, d < 10 → nI (48 + d) ≠ -1 := by decide +kernel
theorem mq_m1 : ∀ p, p < 256 → ¬ (0 : Int32) ≤ -1 - nI p ∧ (-1 : Int32) - (-1 - nI p) = nI p := by decide +kernel
theorem mr_digit {L : Nat} {tr sg tx : Nat → Int32} (hT : TXT L sg tx) (h11 : tr 11 = nI L) {i : Nat} (hi : i < 1000) : mX8_isDigit tr tx (nI i) = bq_bd (mX8_in (ch L sg i) 48 57) (fun v2 => bq_cb v2 (some v2)) := by
  unfold mX8_isDigit
  rw [mr_letter hT h11 hi, me_bd]
theorem me_digit {L : Nat} {t sg : Nat → Int32} (hL : L ≤ 80) (ht : t 1 = nI L) {i : Nat} (hi : i < 1000) : mX2_digitAt t sg (nI i) = some (if ch L sg i < 48 then (-1) else (if 57 < ch L sg i then (-1) else (ch L sg i - 48))) := by
  unfold mX2_digitAt
  rw [me_sign hL ht hi, me_bd, me_let]
/-- a pause, both sides -/
theorem pause_sim {L n i : Nat} {t tr sg tx Z rp : Nat → Int32} (hT : TXT L sg tx) (h1 : t 1 = nI L) (h11 : tr 11 = nI L) (h14 : tr 14 = nI n) (h4 : t 4 = nI i) (hn : n < 16) (hi : i < L) :
    (∃ e v, i < e ∧ e ≤ L ∧ 1 ≤ v ∧ v ≤ 60 ∧ mX2_readPause t sg Z (nI n) = some (upd t 4 (nI e), upd Z n (nI v)) ∧ mX8_readsPause tr rp tx (nI (i + 1)) = some (nI e, upd rp n (nI v))) ∨
    (∃ p rp', p < 200 ∧ mX2_readPause t sg Z (nI n) = some (rfs t p, Z) ∧ mX8_readsPause tr rp tx (nI (i + 1)) = some (-1 - nI p, rp')) := by
  have hL := hT.1
  have e1 : t 4 + 1 = nI (i + 1) := by rw [h4, nI_1]
  have e2 : t 4 + 2 = nI (i + 2) := by
    have : (2 : Int32) = nI 2 := rfl
    rw [h4, this, nI_add]
  have hd1 := me_digit (t := t) (sg := sg) hL h1 (i := i + 1) (by omega)
  have hd2 := me_digit (t := t) (sg := sg) hL h1 (i := i + 2) (by omega)
  have hr1 := mr_digit (tr := tr) hT h11 (i := i + 1) (by omega)
  have hr2 := mr_digit (tr := tr) hT h11 (i := i + 2) (by omega)
  have hl1 := mr_letter (tr := tr) hT h11 (i := i + 1) (by omega)
  have hl2 := mr_letter (tr := tr) hT h11 (i := i + 2) (by omega)
  rcases ch_dig (ch_or hT (i + 1)) with ⟨d, hd, x1, x2, x3, x4, x5⟩ | ⟨x5, x6⟩
  · rw [if_neg x3, if_neg x4, x2] at hd1
    rw [x5, me_bd, me_cb _ (Or.inr rfl)] at hr1
    have hlt1 : i + 1 < L := ch_lt x1 (dig_ne d hd)
    -- one digit or two
    obtain ⟨w, k, kk, hw, hk, hkL, hkk, hcl, hrf⟩ : ∃ w k kk, w < 100 ∧ (k = 2 ∨ k = 3) ∧ i + k ≤ L ∧ t 4 + kk = nI (i + k) ∧ mX2_readPause t sg Z (nI n) = (bq_let (fun (_ : Unit) => bq_bd (mX2_refuseSign t (t 4 + 1)) (fun t_4 => some (t_4, Z))) (fun J62 => if nI w < 1 then (J62 ()) else (if nI w ≤ 60 then (bq_ci (nI n) 16 (bq_let (upd Z ((nI n : Int32).toNatClampNeg) (nI w)) (fun p1_pauses_5 => bq_let (upd t 4 (t 4 + kk)) (fun t_7 => some (t_7, p1_pauses_5))))) else (J62 ())))) ∧ mX8_readsPause tr rp tx (nI (i + 1)) = bq_ci (tr 14) 17 (bq_let (upd rp (((tr 14) : Int32).toNatClampNeg) (nI w)) (fun t_readPauses_11 => bq_bd (mX8_in (nI w) 1 60) (fun v12 => bq_let (if v12 = 0 then (((-1) - nI (i + 1))) else nI (i + k) : Int32) (fun v13 => some (v13, t_readPauses_11))))) := by
      rcases ch_dig (ch_or hT (i + 2)) with ⟨d', hd', y1, y2, y3, y4, y5⟩ | ⟨y5, y6⟩
      · rw [if_neg y3, if_neg y4, y2] at hd2
        rw [y5, me_bd, me_cb _ (Or.inr rfl)] at hr2
        have hlt2 : i + 2 < L := ch_lt y1 (dig_ne d' hd')
        have hten : 10 * nI d + nI d' = nI (10 * d + d') := by
          have : (10 : Int32) = nI 10 := rfl
          rw [this, pk_mul, nI_add]
        have e3 : t 4 + 3 = nI (i + 3) := by
          have : (3 : Int32) = nI 3 := rfl
          rw [h4, this, nI_add]
        refine ⟨10 * d + d', 3, 3, by omega, Or.inr rfl, by omega, e3, ?_, ?_⟩
        · unfold mX2_readPause
          rw [e1, e2, hd1, me_bd, hd2, me_bd, if_pos (nI_pos' (by omega)), if_neg (nI_pos (by omega)), me_let, hten, if_neg (nI_pos (by omega)), me_let, me_let]
          rfl
        · unfold mX8_readsPause
          have hsum : 10 * nI d + ch L sg (i + 2) - 48 = nI (10 * d + d') := by
            have a1 : (48 : Int32) = nI 48 := rfl
            have a2 : (10 : Int32) = nI 10 := rfl
            rw [y1, a1, a2, pk_mul, nI_add, pk_sub (by omega), show 10 * d + (48 + d') - 48 = 10 * d + d' by omega]
          rw [hr1, me_bd, if_neg (by decide), hl1, me_bd, x2, me_let, nI_1, me_let, hr2, me_bd, if_neg (by decide), hl2, me_bd, hsum, me_let, nI_1, me_let, me_b2]
      · have hneg : (if ch L sg (i + 2) < 48 then (-1 : Int32) else (if 57 < ch L sg (i + 2) then (-1) else (ch L sg (i + 2) - 48))) = -1 := by
          rcases y6 with h | ⟨h, h'⟩
          · rw [if_pos h]
          · rw [if_neg h, if_pos h']
        rw [hneg] at hd2
        rw [y5, me_bd, me_cb _ (Or.inl rfl)] at hr2
        refine ⟨d, 2, 2, by omega, Or.inl rfl, by omega, e2, ?_, ?_⟩
        · unfold mX2_readPause
          rw [e1, e2, hd1, me_bd, hd2, me_bd, if_pos (nI_pos' (by omega)), if_pos (by decide), me_let, if_pos (by decide), me_let, me_let, ← e2]
          rfl
        · unfold mX8_readsPause
          rw [hr1, me_bd, if_neg (by decide), hl1, me_bd, x2, me_let, nI_1, me_let, hr2, me_bd, if_pos rfl, me_b2]
    rw [h14, me_ci _ (by omega) (by omega), nI_clamp (by omega), me_let, me_in] at hrf
    rw [me_let, me_ci _ hn (by omega), nI_clamp (by omega), me_let, me_let, hkk] at hcl
    by_cases hv : 1 ≤ w ∧ w ≤ 60
    · left
      refine ⟨i + k, w, by omega, hkL, hv.1, hv.2, ?_, ?_⟩
      · have q1 : ¬ nI w < (1 : Int32) := nI_nlt (b := 1) hv.1 (by omega)
        have q2 : nI w ≤ (60 : Int32) := nI_le (b := 60) hv.2 (by omega)
        rw [hcl, if_neg q1, if_pos q2]
      · have hc : (1 : Int32) ≤ nI w ∧ nI w ≤ 60 := ⟨nI_le (a := 1) hv.1 (by omega), nI_le (b := 60) hv.2 (by omega)⟩
        rw [hrf, if_pos hc, me_bd, if_neg (by decide), me_let]
    · right
      have hc : ¬ ((1 : Int32) ≤ nI w ∧ nI w ≤ 60) := fun h9 => hv ⟨(nI_leI (a := 1) (by omega) (by omega)).mp h9.1, (nI_leI (b := 60) (by omega) (by omega)).mp h9.2⟩
      refine ⟨i + 1, upd rp n (nI w), by omega, ?_, ?_⟩
      · have href : bq_bd (mX2_refuseSign t (t 4 + 1)) (fun t_4 => some (t_4, Z)) = some (rfs t (i + 1), Z) := by rw [e1]; rfl
        rw [hcl, href]
        by_cases h9 : nI w < 1
        · rw [if_pos h9]
        · rw [if_neg h9, if_neg (fun h8 => hc ⟨Int32.not_lt.mp h9, h8⟩)]
      · rw [hrf, if_neg hc, me_bd, if_pos rfl, me_let]
  · right
    have hneg : (if ch L sg (i + 1) < 48 then (-1 : Int32) else (if 57 < ch L sg (i + 1) then (-1) else (ch L sg (i + 1) - 48))) = -1 := by
      rcases x6 with h | ⟨h, h'⟩
      · rw [if_pos h]
      · rw [if_neg h, if_pos h']
    rw [hneg] at hd1
    rw [x5, me_bd, me_cb _ (Or.inl rfl)] at hr1
    refine ⟨i + 1, rp, by omega, ?_, ?_⟩
    · unfold mX2_readPause
      rw [e1, e2, hd1, me_bd, hd2, me_bd, if_neg (by decide)]
      rfl
    · unfold mX8_readsPause
      rw [hr1, me_bd, if_pos rfl]
end
