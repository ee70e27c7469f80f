section
theorem me_b10 {α1 α2 α3 α4 α5 α6 α7 α8 α9 α10 β : Type} (k : α1 → α2 → α3 → α4 → α5 → α6 → α7 → α8 → α9 → α10 → Option β) (x1 : α1) (x2 : α2) (x3 : α3) (x4 : α4) (x5 : α5) (x6 : α6) (x7 : α7) (x8 : α8) (x9 : α9) (x10 : α10) : bq_b10 (some (x1, x2, x3, x4, x5, x6, x7, x8, x9, x10)) k = k x1 x2 x3 x4 x5 x6 x7 x8 x9 x10 := rfl
def st0 : Nat → Int32 := sp_put bq_z0 (fun _ => 3) 0 6
def rr0 : Nat → Int32 := upd (upd bq_z0 1 1) 2 1
/-- the cells at the beginning -/
def σ0 (k : Nat) : Nat → Int32 := if k = 0 then upd bq_z0 5 0 else if k = 3 then upd bq_z0 8 1 else if k = 30 then upd bq_z0 8 1 else if k = 4 then upd (upd bq_z0 0 1) 1 (-1) else if k = 31 then upd (upd bq_z0 0 1) 1 (-1) else if k = 18 then st0 else if k = 38 then st0 else if k = 49 then st0 else if k = 48 then sp_rest rr0 (-1) 0 0 else bq_z0
theorem mX3_i : mX3_init = some (upd bq_z0 8 1, upd (upd bq_z0 0 1) 1 (-1), bq_z0, bq_z0, bq_z0, bq_z0, st0, bq_z0, bq_z0, bq_z0) := by
  unfold mX3_init mX0_init mX1_init mX4_init
  rw [me_let, me_let, me_bd, me_b3, me_bd, me_let, me_fill 6 (by omega), me_bd]
  rfl
theorem c_init7 : mX7_init = some (σ0 0, σ0 11, σ0 17, σ0 14, σ0 16, σ0 15, σ0 12, σ0 13, σ0 1, σ0 2, σ0 3, σ0 4, σ0 6, σ0 8, σ0 7, σ0 10, σ0 18, σ0 9, σ0 19, σ0 5, σ0 30, σ0 31, σ0 33, σ0 35, σ0 34, σ0 37, σ0 38, σ0 36, σ0 39, σ0 32, σ0 20, σ0 21, σ0 22, σ0 23, σ0 29, σ0 26, σ0 28, σ0 27, σ0 24, σ0 25) := by
  unfold mX7_init mX5_init mX2_init mX6_init
  rw [mX3_i, me_b7', me_b2, me_b10, me_b10, me_b3, me_b7', me_let]
  rfl
theorem c_init8 : mX8_init = some (σ0 40, σ0 48, σ0 51, σ0 49, σ0 43, σ0 41, σ0 44, σ0 42, σ0 50, σ0 46, σ0 45, σ0 47) := by
  have hl : bq_loop (bq_u2 (bX8_init_96)) (0, bq_z0) = some st0 := by
    have h0 : ((0 : Int32), (bq_z0 : Nat → Int32)) = (nI 0, sp_put bq_z0 (fun _ => 3) 0 0) := by rw [sp_put_0]; rfl
    rw [h0]
    refine ml_run (fun j => (nI j, sp_put bq_z0 (fun _ => 3) 0 j)) 6 (fun j hj => ?_) ?_
    · rw [me_u2]
      unfold bX8_init_96
      have es := sp_put_s bq_z0 (fun _ => 3) 0 j
      rw [Nat.zero_add] at es
      rw [if_neg (mq_6 hj), me_ci _ hj (by omega), nI_clamp (by omega), me_let, es, me_let, nI_1]
    · rw [me_u2]
      unfold bX8_init_96
      rw [if_pos (by decide)]
      rfl
  unfold mX8_init
  rw [hl, me_bd, me_let, me_let]
  have hr : mX8_rests bq_z0 bq_z0 bq_z0 bq_z0 (upd (upd bq_z0 1 1) 2 1) = some (sp_rest rr0 (-1) 0 0) := mr_rests0 rfl
  rw [hr, me_bd]
  rfl
theorem c_inv0 : INV 0 0 σ0 := by
  have hk : ∀ k, k < 140 → k ≠ 3 → k ≠ 7 → k ≠ 8 → k ≠ 11 → k ≠ 12 → ¬ (k = 1 ∨ k = 2 ∨ (38 ≤ k ∧ k ≤ 43)) → sp_rest rr0 (-1) 0 0 k = 0 := fun k h1 h2 h3 h4 h5 h6 h7 => by
    rw [sp_rest_k _ _ _ _ h1 h2 h3 h4 h5 h6]
    unfold sp_stay
    rw [if_neg h7]
  have hs : ∀ k, (k = 1 ∨ k = 2 ∨ (38 ≤ k ∧ k ≤ 43)) → sp_rest rr0 (-1) 0 0 k = rr0 k := fun k h7 => by
    rw [sp_rest_k _ _ _ _ (by omega) (by omega) (by omega) (by omega) (by omega) (by omega)]
    unfold sp_stay
    rw [if_pos h7]
  have e48 : σ0 48 = sp_rest rr0 (-1) 0 0 := rfl
  refine ⟨0, 1, true, ⟨by omega, fun i hi => by omega⟩, ⟨rfl, rfl⟩, rfl, by omega, fun c _ => rfl, ⟨0, by omega, ?_⟩, rfl, Or.inl ⟨rfl, rfl, rfl, rfl, ?_⟩⟩
  · rw [e48, hk 0 (by omega) (by omega) (by omega) (by omega) (by omega) (by omega) (by omega)]; rfl
  · rw [e48]
    refine ⟨⟨rfl, ?_⟩, ⟨?_, ?_⟩, ⟨rfl, ?_, rfl, rfl⟩, fun c hc => ⟨?_, ?_, ?_, fun k hk5 => ?_⟩, fun i hi => by omega, ⟨⟨rfl, ?_, rfl, rfl⟩, fun k _ h => by omega⟩, ?_, ?_, ?_⟩
    · rw [hs 2 (by omega)]; rfl
    · rw [hk 0 (by omega) (by omega) (by omega) (by omega) (by omega) (by omega) (by omega)]; rfl
    · rw [hk 10 (by omega) (by omega) (by omega) (by omega) (by omega) (by omega) (by omega)]
      show (0 : Int32) = 0 - 0
      decide
    · rw [hs 1 (by omega)]; rfl
    · rw [hk _ (by omega) (by omega) (by omega) (by omega) (by omega) (by omega) (by omega)]; rfl
    · rw [hk _ (by omega) (by omega) (by omega) (by omega) (by omega) (by omega) (by omega)]
      show (0 : Int32) = if bt 0 c = true then 1 else 0
      rw [b_0]
      rfl
    · rw [hk _ (by omega) (by omega) (by omega) (by omega) (by omega) (by omega) (by omega)]
      show (0 : Int32) = sp_cmd (bt 0 c) (bt 0 c)
      rw [b_0]
      rfl
    · rw [hs _ (by omega)]
      show bt (rr0 (38 + c)) k = bt 0 c
      have : rr0 (38 + c) = 0 := by
        unfold rr0
        rw [mu_n _ _ (by omega), mu_n _ _ (by omega)]
      rw [this, b_0, b_0]
    · rw [hk 4 (by omega) (by omega) (by omega) (by omega) (by omega) (by omega) (by omega)]; rfl
    · rw [hk 5 (by omega) (by omega) (by omega) (by omega) (by omega) (by omega) (by omega)]; rfl
    · rw [hk 9 (by omega) (by omega) (by omega) (by omega) (by omega) (by omega) (by omega)]; rfl
    · intro c hc hb
      have : bt (0 : Int32) c = true := hb
      rw [b_0] at this
      cases this
end
