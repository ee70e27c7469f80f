/-- f, but from a on n places of g -/
def sp_put (f g : Nat → Int32) (a n : Nat) : Nat → Int32 := fun k => if a ≤ k ∧ k < a + n then g (k - a) else f k
theorem sp_put_0 (f g : Nat → Int32) (a : Nat) : sp_put f g a 0 = f := by
  funext k
  unfold sp_put
  rw [if_neg (by omega)]
theorem sp_put_s (f g : Nat → Int32) (a n : Nat) : upd (sp_put f g a n) (a + n) (g n) = sp_put f g a (n + 1) := by
  funext k
  unfold upd sp_put
  by_cases h : k = a + n
  · rw [if_pos h, if_pos (by omega), h, Nat.add_sub_cancel_left]
  · rw [if_neg h]
    by_cases h2 : a ≤ k ∧ k < a + n
    · rw [if_pos h2, if_pos (by omega)]
    · rw [if_neg h2, if_neg (by omega)]
theorem sp_put_at (f g : Nat → Int32) (a n : Nat) : sp_put f g a n (a + n) = f (a + n) := by
  unfold sp_put
  rw [if_neg (by omega)]
theorem sp_put_in (f g : Nat → Int32) {a n k : Nat} (h : k < n) : sp_put f g a n (a + k) = g k := by
  unfold sp_put
  rw [if_pos (by omega), Nat.add_sub_cancel_left]
theorem sp_put_out (f g : Nat → Int32) {a n k : Nat} (h : k < a ∨ a + n ≤ k) : sp_put f g a n k = f k := by
  unfold sp_put
  rw [if_neg (by omega)]
theorem sp_put_same (f g : Nat → Int32) (a n : Nat) (h : g n = f (a + n)) : sp_put f g a (n + 1) = sp_put f g a n := by
  rw [← sp_put_s, h]
  funext k
  unfold upd
  by_cases hk : k = a + n
  · rw [if_pos hk, hk, sp_put_at]
  · rw [if_neg hk]
def sp_any (p : Nat → Bool) : Nat → Bool
  | 0 => false
  | n + 1 => sp_any p n || p n
theorem sp_any_iff (p : Nat → Bool) : ∀ n, sp_any p n = true ↔ ∃ c, c < n ∧ p c = true := by
  intro n
  induction n with
  | zero => exact ⟨fun h => (by cases h), fun ⟨c, h, _⟩ => absurd h (Nat.not_lt_zero c)⟩
  | succ n ih =>
    rw [sp_any, Bool.or_eq_true, ih]
    constructor
    · rintro (⟨c, h1, h2⟩ | h)
      · exact ⟨c, by omega, h2⟩
      · exact ⟨n, by omega, h⟩
    · rintro ⟨c, h1, h2⟩
      rcases Nat.lt_or_ge c n with h | h
      · exact Or.inl ⟨c, h, h2⟩
      · rw [show c = n by omega] at h2; exact Or.inr h2
/-- where a piston goes in a tick: p its position, g its goal -/
def sp_by (p g : Int32) (stuck : Bool) : Int32 := if p = g ∨ stuck = true then 0 else if g ≤ p then -1 else 1
def sp_mv (p g : Int32) (stuck : Bool) : Bool := decide (¬ p = g) && !stuck
theorem mq_add0 (x : Int32) : x + 0 = x := Int32.add_zero x
theorem sp_by_0 {p g : Int32} {s : Bool} (h : sp_mv p g s = false) : sp_by p g s = 0 := by
  unfold sp_by
  unfold sp_mv at h
  by_cases h1 : p = g
  · rw [if_pos (Or.inl h1)]
  · cases s
    · rw [decide_eq_true h1] at h; exact absurd h (by decide)
    · rw [if_pos (Or.inr rfl)]
theorem me_pistons (t fa po st : Nat → Int32) : mX3_movePistons t fa po st = some (if sp_any (fun c => sp_mv (po c) (if bt (t 9) c then st c else 0) (bt (fa 0) c)) 6 then 1 else 0, sp_put po (fun c => po c + sp_by (po c) (if bt (t 9) c then st c else 0) (bt (fa 0) c)) 0 6) := by
  generalize hg : (fun c => if bt (t 9) c then st c else 0) = g
  have hgc : ∀ c, (if bt (t 9) c then st c else 0) = g c := fun c => by rw [← hg]
  simp only [hgc]
  have h : bq_loop (bq_u3 (bX3_movePistons_4 t fa st)) (0, 0, po) = some (if sp_any (fun c => sp_mv (po c) (g c) (bt (fa 0) c)) 6 then 1 else 0, sp_put po (fun c => po c + sp_by (po c) (g c) (bt (fa 0) c)) 0 6) := by
    have h0 : ((0 : Int32), (0 : Int32), po) = (nI 0, (if sp_any (fun c => sp_mv (po c) (g c) (bt (fa 0) c)) 0 then (1 : Int32) else 0), sp_put po (fun c => po c + sp_by (po c) (g c) (bt (fa 0) c)) 0 0) := by rw [sp_put_0]; rfl
    rw [h0]
    refine ml_run (fun j => (nI j, (if sp_any (fun c => sp_mv (po c) (g c) (bt (fa 0) c)) j then (1 : Int32) else 0), sp_put po (fun c => po c + sp_by (po c) (g c) (bt (fa 0) c)) 0 j)) 6 (fun j hj => ?_) ?_
    · rw [me_u3]
      unfold bX3_movePistons_4
      rw [if_neg (mq_6 hj), me_holds _ (by omega), me_bd]
      have eg : (if (if bt (t 9) j = true then (1 : Int32) else 0) = 0 then some (0 : Int32) else bq_ci (nI j) 6 (some (st (nI j).toNatClampNeg))) = some (g j) := by
        rw [← hgc j, me_ci _ hj (by omega), nI_clamp (by omega)]
        cases bt (t 9) j <;> rfl
      have ep : sp_put po (fun c => po c + sp_by (po c) (g c) (bt (fa 0) c)) 0 j j = po j := by
        have := sp_put_at po (fun c => po c + sp_by (po c) (g c) (bt (fa 0) c)) 0 j
        rw [Nat.zero_add] at this
        exact this
      have es := sp_put_s po (fun c => po c + sp_by (po c) (g c) (bt (fa 0) c)) 0 j
      rw [Nat.zero_add] at es
      have eq0 := sp_put_same po (fun c => po c + sp_by (po c) (g c) (bt (fa 0) c)) 0 j
      rw [Nat.zero_add] at eq0
      have hci : ∀ (k : Option (Int32 × (Nat → Int32))), bq_ci (nI j) 6 k = k := fun k => me_ci k hj (by omega)
      have hci2 : ∀ (k : Option ((Int32 × Int32 × (Nat → Int32)) ⊕ (Int32 × (Nat → Int32)))), bq_ci (nI j) 6 k = k := fun k => me_ci k hj (by omega)
      have hcl : (nI j).toNatClampNeg = j := nI_clamp (by omega)
      have hh : mX7_holds (fa 0) (nI j) = some (if bt (fa 0) j then 1 else 0) := me_holds _ (by omega)
      rw [eg, me_bd]
      simp only [hci, hci2, hcl, ep, hh, me_bd]
      rw [sp_any]
      by_cases c1 : po j = g j
      · have hm : sp_mv (po j) (g j) (bt (fa 0) j) = false := by unfold sp_mv; rw [decide_eq_false (fun h9 => h9 c1)]; rfl
        rw [if_pos c1, hm, Bool.or_false, eq0 (by simp only [sp_by_0 hm, mq_add0])]
        rw [me_b2, me_let, nI_1]
      · rw [if_neg c1]
        cases hs : bt (fa 0) j
        · have hm : sp_mv (po j) (g j) false = true := by unfold sp_mv; rw [decide_eq_true c1]; rfl
          rw [if_pos (by decide), me_let, me_let, hm, Bool.or_true]
          have e9 : po j + (if g j ≤ po j then (-1 : Int32) else 1) = po j + sp_by (po j) (g j) (bt (fa 0) j) := by
            have hn : ¬ (po j = g j ∨ bt (fa 0) j = true) := by
              rintro (h | h)
              · exact c1 h
              · rw [hs] at h; cases h
            unfold sp_by
            rw [if_neg hn]
          rw [e9, es]
          rw [me_b2, me_let, nI_1]
          rfl
        · have hm : sp_mv (po j) (g j) true = false := by unfold sp_mv; rw [Bool.not_true, Bool.and_false]
          rw [if_neg (by decide), hm, Bool.or_false, eq0 (by simp only [hs, sp_by_0 hm, mq_add0])]
          rw [me_b2, me_let, nI_1]
    · rw [me_u3]
      unfold bX3_movePistons_4
      rw [if_pos (by decide)]
  unfold mX3_movePistons
  rw [h, me_b2, me_cbi]
