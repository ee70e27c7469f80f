section BQA
def bq_let {α β : Type} (x : α) (k : α → β) : β := k x
theorem bq_let_el {α β : Type} {x : α} {k : α → Option β} {r : β} (h : bq_let x k = some r) : ∃ y, y = x ∧ k y = some r := ⟨x, rfl, h⟩
def bq_bd {α β : Type} (x : Option α) (k : α → Option β) : Option β := match x with
  | none => none
  | some y => k y
theorem bq_bd_el {α β : Type} {x : Option α} {k : α → Option β} {r : β} (h : bq_bd x k = some r) : ∃ y, x = some y ∧ k y = some r := by
  cases x with
  | none => cases h
  | some y => exact ⟨y, rfl, h⟩
def bq_ci {β : Type} (i : Int32) (n : Nat) (k : Option β) : Option β := if i < 0 ∨ n ≤ i.toNatClampNeg then none else k
theorem bq_ci_el {β : Type} {i : Int32} {n : Nat} {k : Option β} {r : β} (h : bq_ci i n k = some r) : vp_in i n ∧ k = some r := by
  unfold bq_ci at h
  split at h
  · cases h
  · rename_i h1
    exact ⟨h1, h⟩
def bq_cz {β : Type} (y : Int32) (k : Option β) : Option β := if y = 0 then none else k
theorem bq_cz_el {β : Type} {y : Int32} {k : Option β} {r : β} (h : bq_cz y k = some r) : ¬ y = 0 ∧ k = some r := by
  unfold bq_cz at h
  split at h
  · cases h
  · rename_i h1
    exact ⟨h1, h⟩
def bq_cb {β : Type} (y : Int32) (k : Option β) : Option β := if y = 0 ∨ y = 1 then k else none
theorem bq_cb_el {β : Type} {y : Int32} {k : Option β} {r : β} (h : bq_cb y k = some r) : (y = 0 ∨ y = 1) ∧ k = some r := by
  unfold bq_cb at h
  split at h
  · rename_i h1
    exact ⟨h1, h⟩
  · cases h
def bq_cc {β : Type} (P : Prop) [Decidable P] (k : Option β) : Option β := if P then k else none
theorem bq_cc_el {β : Type} {P : Prop} [Decidable P] {k : Option β} {r : β} (h : bq_cc P k = some r) : P ∧ k = some r := by
  unfold bq_cc at h
  split at h
  · rename_i h1
    exact ⟨h1, h⟩
  · cases h
theorem bq_t {β : Type} {P : Prop} [Decidable P] {a b : Option β} {r : β} (hc : P) (h : (if P then a else b) = some r) : a = some r := by rw [if_pos hc] at h; exact h
theorem bq_f {β : Type} {P : Prop} [Decidable P] {a b : Option β} {r : β} (hc : ¬ P) (h : (if P then a else b) = some r) : b = some r := by rw [if_neg hc] at h; exact h
theorem bq_nt {β : Type} {P : Prop} [Decidable P] {a b : Option β} {r : β} (hc : ¬ P) (h : (if ¬ P then a else b) = some r) : a = some r := by rw [if_pos hc] at h; exact h
theorem bq_et {β : Type} {P : Prop} [Decidable P] {a b x : β} (hc : P) (h : x = (if P then a else b)) : x = a := by rw [if_pos hc] at h; exact h
theorem bq_ef {β : Type} {P : Prop} [Decidable P] {a b x : β} (hc : ¬ P) (h : x = (if P then a else b)) : x = b := by rw [if_neg hc] at h; exact h
def bq_lp {S R : Type} (b : S → Option (S ⊕ R)) : Nat → S → Option R
  | 0, _ => none
  | n + 1, s => match b s with
    | none => none
    | some (.inl t) => bq_lp b n t
    | some (.inr r) => some r
def bq_lk {S R : Type} (b : S → Option (S ⊕ R)) (n : Nat) : S ⊕ R → Option R
  | .inl t => bq_lp b n t
  | .inr r => some r
theorem bq_lp_el {S R : Type} {b : S → Option (S ⊕ R)} {n : Nat} {s : S} {r : R} (h : bq_lp b (n + 1) s = some r) : ∃ o, b s = some o ∧ bq_lk b n o = some r := by
  unfold bq_lp at h
  cases hb : b s with
  | none => rw [hb] at h; cases h
  | some o =>
    rw [hb] at h
    refine ⟨o, rfl, ?_⟩
    cases o with
    | inl t => exact h
    | inr r => exact h
theorem bq_lp_0 {S R : Type} {b : S → Option (S ⊕ R)} {s : S} {r : R} {P : Prop} (h : bq_lp b 0 s = some r) : P := by
  unfold bq_lp at h
  cases h
theorem bq_lp_s {S R : Type} {b : S → Option (S ⊕ R)} {n : Nat} {s : S} {r : R} (h : bq_lp b n s = some r) : bq_lp b (n + 1) s = some r := by
  induction n generalizing s with
  | zero => exact bq_lp_0 h
  | succ n ih =>
    obtain ⟨o, h1, h2⟩ := bq_lp_el h
    unfold bq_lp
    rw [h1]
    cases o with
    | inl t => exact ih h2
    | inr r => exact h2
theorem bq_lp_le {S R : Type} {b : S → Option (S ⊕ R)} {n k : Nat} {s : S} {r : R} (h : bq_lp b n s = some r) : bq_lp b (n + k) s = some r := by
  induction k with
  | zero => exact h
  | succ k ih => exact bq_lp_s ih
noncomputable def bq_loop {S R : Type} (b : S → Option (S ⊕ R)) (s : S) : Option R := @dite _ (∃ (r : R) (n : Nat), bq_lp b n s = some r) (Classical.propDecidable _) (fun h => some (Classical.choose h)) (fun _ => none)
theorem bq_loop_el {S R : Type} {b : S → Option (S ⊕ R)} {s : S} {r : R} (h : bq_loop b s = some r) : ∃ n, bq_lp b n s = some r := by
  unfold bq_loop at h
  split at h
  · rename_i h1
    obtain ⟨n, hn⟩ := Classical.choose_spec h1
    cases h
    exact ⟨n, hn⟩
  · cases h
theorem bq_loop_of {S R : Type} {b : S → Option (S ⊕ R)} {n : Nat} {s : S} {r : R} (h : bq_lp b n s = some r) : bq_loop b s = some r := by
  have h1 : ∃ (r : R) (n : Nat), bq_lp b n s = some r := ⟨r, n, h⟩
  unfold bq_loop
  rw [dif_pos h1]
  obtain ⟨k, hk⟩ := Classical.choose_spec h1
  have h2 := bq_lp_le (k := k) h
  have h3 := bq_lp_le (k := n) hk
  rw [Nat.add_comm k n, h2] at h3
  exact h3.symm
def bq_tc (x y : Option Nat) : Option Nat := match x with
  | some k => some k
  | none => y
theorem bq_tc_el {x y : Option Nat} {r : Nat} (h : bq_tc x y = some r) : x = some r ∨ y = some r := by
  cases x with
  | none => exact Or.inr h
  | some k => exact Or.inl h
end BQA
section BQF
def bq_b2 {α1 α2 β : Type} (x : Option (α1 × α2)) (k : α1 → α2 → Option β) : Option β := match x with
  | none => none
  | some (x1, x2) => k x1 x2
theorem bq_b2_el {α1 α2 β : Type} {x : Option (α1 × α2)} {k : α1 → α2 → Option β} {r : β} (h : bq_b2 x k = some r) : ∃ (x1 : α1) (x2 : α2), x = some (x1, x2) ∧ k x1 x2 = some r := by
  cases x with
  | none => cases h
  | some y =>
    obtain ⟨x1, x2⟩ := y
    exact ⟨x1, x2, rfl, h⟩
def bq_l2 {α1 α2 β : Type} (x : α1 × α2) (k : α1 → α2 → β) : β := k x.1 x.2
theorem bq_l2_el {α1 α2 β : Type} {x : α1 × α2} {k : α1 → α2 → Option β} {r : β} (h : bq_l2 x k = some r) : ∃ (x1 : α1) (x2 : α2), (x1, x2) = x ∧ k x1 x2 = some r := ⟨x.1, x.2, rfl, h⟩
def bq_u2 {α1 α2 β : Type} (k : α1 → α2 → β) (x : α1 × α2) : β := k x.1 x.2
theorem bq_u2_el {α1 α2 β : Type} {k : α1 → α2 → β} {B : α1 × α2 → β} {r : β} (e : B = bq_u2 k) {x1 : α1} {x2 : α2} (h : B (x1, x2) = r) : k x1 x2 = r := by
  subst e
  exact h
theorem bq_ap2 {α1 α2 β : Type} {f J : α1 → α2 → β} {r : β} (e : J = f) {x1 : α1} {x2 : α2} (h : J x1 x2 = r) : f x1 x2 = r := e ▸ h
def bq_or2 {α1 α2 β γ : Type} (x : (α1 × α2) ⊕ β) (k : α1 → α2 → γ) (kr : β → γ) : γ := match x with
  | .inl (x1, x2) => k x1 x2
  | .inr r => kr r
def bq_b3 {α1 α2 α3 β : Type} (x : Option (α1 × α2 × α3)) (k : α1 → α2 → α3 → Option β) : Option β := match x with
  | none => none
  | some (x1, x2, x3) => k x1 x2 x3
theorem bq_b3_el {α1 α2 α3 β : Type} {x : Option (α1 × α2 × α3)} {k : α1 → α2 → α3 → Option β} {r : β} (h : bq_b3 x k = some r) : ∃ (x1 : α1) (x2 : α2) (x3 : α3), x = some (x1, x2, x3) ∧ k x1 x2 x3 = some r := by
  cases x with
  | none => cases h
  | some y =>
    obtain ⟨x1, x2, x3⟩ := y
    exact ⟨x1, x2, x3, rfl, h⟩
def bq_l3 {α1 α2 α3 β : Type} (x : α1 × α2 × α3) (k : α1 → α2 → α3 → β) : β := k x.1 x.2.1 x.2.2
theorem bq_l3_el {α1 α2 α3 β : Type} {x : α1 × α2 × α3} {k : α1 → α2 → α3 → Option β} {r : β} (h : bq_l3 x k = some r) : ∃ (x1 : α1) (x2 : α2) (x3 : α3), (x1, x2, x3) = x ∧ k x1 x2 x3 = some r := ⟨x.1, x.2.1, x.2.2, rfl, h⟩
def bq_u3 {α1 α2 α3 β : Type} (k : α1 → α2 → α3 → β) (x : α1 × α2 × α3) : β := k x.1 x.2.1 x.2.2
theorem bq_u3_el {α1 α2 α3 β : Type} {k : α1 → α2 → α3 → β} {B : α1 × α2 × α3 → β} {r : β} (e : B = bq_u3 k) {x1 : α1} {x2 : α2} {x3 : α3} (h : B (x1, x2, x3) = r) : k x1 x2 x3 = r := by
  subst e
  exact h
theorem bq_ap3 {α1 α2 α3 β : Type} {f J : α1 → α2 → α3 → β} {r : β} (e : J = f) {x1 : α1} {x2 : α2} {x3 : α3} (h : J x1 x2 x3 = r) : f x1 x2 x3 = r := e ▸ h
def bq_or3 {α1 α2 α3 β γ : Type} (x : (α1 × α2 × α3) ⊕ β) (k : α1 → α2 → α3 → γ) (kr : β → γ) : γ := match x with
  | .inl (x1, x2, x3) => k x1 x2 x3
  | .inr r => kr r
def bq_b4 {α1 α2 α3 α4 β : Type} (x : Option (α1 × α2 × α3 × α4)) (k : α1 → α2 → α3 → α4 → Option β) : Option β := match x with
  | none => none
  | some (x1, x2, x3, x4) => k x1 x2 x3 x4
theorem bq_b4_el {α1 α2 α3 α4 β : Type} {x : Option (α1 × α2 × α3 × α4)} {k : α1 → α2 → α3 → α4 → Option β} {r : β} (h : bq_b4 x k = some r) : ∃ (x1 : α1) (x2 : α2) (x3 : α3) (x4 : α4), x = some (x1, x2, x3, x4) ∧ k x1 x2 x3 x4 = some r := by
  cases x with
  | none => cases h
  | some y =>
    obtain ⟨x1, x2, x3, x4⟩ := y
    exact ⟨x1, x2, x3, x4, rfl, h⟩
def bq_l4 {α1 α2 α3 α4 β : Type} (x : α1 × α2 × α3 × α4) (k : α1 → α2 → α3 → α4 → β) : β := k x.1 x.2.1 x.2.2.1 x.2.2.2
theorem bq_l4_el {α1 α2 α3 α4 β : Type} {x : α1 × α2 × α3 × α4} {k : α1 → α2 → α3 → α4 → Option β} {r : β} (h : bq_l4 x k = some r) : ∃ (x1 : α1) (x2 : α2) (x3 : α3) (x4 : α4), (x1, x2, x3, x4) = x ∧ k x1 x2 x3 x4 = some r := ⟨x.1, x.2.1, x.2.2.1, x.2.2.2, rfl, h⟩
def bq_u4 {α1 α2 α3 α4 β : Type} (k : α1 → α2 → α3 → α4 → β) (x : α1 × α2 × α3 × α4) : β := k x.1 x.2.1 x.2.2.1 x.2.2.2
theorem bq_u4_el {α1 α2 α3 α4 β : Type} {k : α1 → α2 → α3 → α4 → β} {B : α1 × α2 × α3 × α4 → β} {r : β} (e : B = bq_u4 k) {x1 : α1} {x2 : α2} {x3 : α3} {x4 : α4} (h : B (x1, x2, x3, x4) = r) : k x1 x2 x3 x4 = r := by
  subst e
  exact h
theorem bq_ap4 {α1 α2 α3 α4 β : Type} {f J : α1 → α2 → α3 → α4 → β} {r : β} (e : J = f) {x1 : α1} {x2 : α2} {x3 : α3} {x4 : α4} (h : J x1 x2 x3 x4 = r) : f x1 x2 x3 x4 = r := e ▸ h
def bq_or4 {α1 α2 α3 α4 β γ : Type} (x : (α1 × α2 × α3 × α4) ⊕ β) (k : α1 → α2 → α3 → α4 → γ) (kr : β → γ) : γ := match x with
  | .inl (x1, x2, x3, x4) => k x1 x2 x3 x4
  | .inr r => kr r
def bq_b5 {α1 α2 α3 α4 α5 β : Type} (x : Option (α1 × α2 × α3 × α4 × α5)) (k : α1 → α2 → α3 → α4 → α5 → Option β) : Option β := match x with
  | none => none
  | some (x1, x2, x3, x4, x5) => k x1 x2 x3 x4 x5
theorem bq_b5_el {α1 α2 α3 α4 α5 β : Type} {x : Option (α1 × α2 × α3 × α4 × α5)} {k : α1 → α2 → α3 → α4 → α5 → Option β} {r : β} (h : bq_b5 x k = some r) : ∃ (x1 : α1) (x2 : α2) (x3 : α3) (x4 : α4) (x5 : α5), x = some (x1, x2, x3, x4, x5) ∧ k x1 x2 x3 x4 x5 = some r := by
  cases x with
  | none => cases h
  | some y =>
    obtain ⟨x1, x2, x3, x4, x5⟩ := y
    exact ⟨x1, x2, x3, x4, x5, rfl, h⟩
def bq_l5 {α1 α2 α3 α4 α5 β : Type} (x : α1 × α2 × α3 × α4 × α5) (k : α1 → α2 → α3 → α4 → α5 → β) : β := k x.1 x.2.1 x.2.2.1 x.2.2.2.1 x.2.2.2.2
theorem bq_l5_el {α1 α2 α3 α4 α5 β : Type} {x : α1 × α2 × α3 × α4 × α5} {k : α1 → α2 → α3 → α4 → α5 → Option β} {r : β} (h : bq_l5 x k = some r) : ∃ (x1 : α1) (x2 : α2) (x3 : α3) (x4 : α4) (x5 : α5), (x1, x2, x3, x4, x5) = x ∧ k x1 x2 x3 x4 x5 = some r := ⟨x.1, x.2.1, x.2.2.1, x.2.2.2.1, x.2.2.2.2, rfl, h⟩
def bq_u5 {α1 α2 α3 α4 α5 β : Type} (k : α1 → α2 → α3 → α4 → α5 → β) (x : α1 × α2 × α3 × α4 × α5) : β := k x.1 x.2.1 x.2.2.1 x.2.2.2.1 x.2.2.2.2
theorem bq_u5_el {α1 α2 α3 α4 α5 β : Type} {k : α1 → α2 → α3 → α4 → α5 → β} {B : α1 × α2 × α3 × α4 × α5 → β} {r : β} (e : B = bq_u5 k) {x1 : α1} {x2 : α2} {x3 : α3} {x4 : α4} {x5 : α5} (h : B (x1, x2, x3, x4, x5) = r) : k x1 x2 x3 x4 x5 = r := by
  subst e
  exact h
theorem bq_ap5 {α1 α2 α3 α4 α5 β : Type} {f J : α1 → α2 → α3 → α4 → α5 → β} {r : β} (e : J = f) {x1 : α1} {x2 : α2} {x3 : α3} {x4 : α4} {x5 : α5} (h : J x1 x2 x3 x4 x5 = r) : f x1 x2 x3 x4 x5 = r := e ▸ h
def bq_or5 {α1 α2 α3 α4 α5 β γ : Type} (x : (α1 × α2 × α3 × α4 × α5) ⊕ β) (k : α1 → α2 → α3 → α4 → α5 → γ) (kr : β → γ) : γ := match x with
  | .inl (x1, x2, x3, x4, x5) => k x1 x2 x3 x4 x5
  | .inr r => kr r
def bq_b6 {α1 α2 α3 α4 α5 α6 β : Type} (x : Option (α1 × α2 × α3 × α4 × α5 × α6)) (k : α1 → α2 → α3 → α4 → α5 → α6 → Option β) : Option β := match x with
  | none => none
  | some (x1, x2, x3, x4, x5, x6) => k x1 x2 x3 x4 x5 x6
theorem bq_b6_el {α1 α2 α3 α4 α5 α6 β : Type} {x : Option (α1 × α2 × α3 × α4 × α5 × α6)} {k : α1 → α2 → α3 → α4 → α5 → α6 → Option β} {r : β} (h : bq_b6 x k = some r) : ∃ (x1 : α1) (x2 : α2) (x3 : α3) (x4 : α4) (x5 : α5) (x6 : α6), x = some (x1, x2, x3, x4, x5, x6) ∧ k x1 x2 x3 x4 x5 x6 = some r := by
  cases x with
  | none => cases h
  | some y =>
    obtain ⟨x1, x2, x3, x4, x5, x6⟩ := y
    exact ⟨x1, x2, x3, x4, x5, x6, rfl, h⟩
def bq_l6 {α1 α2 α3 α4 α5 α6 β : Type} (x : α1 × α2 × α3 × α4 × α5 × α6) (k : α1 → α2 → α3 → α4 → α5 → α6 → β) : β := k x.1 x.2.1 x.2.2.1 x.2.2.2.1 x.2.2.2.2.1 x.2.2.2.2.2
theorem bq_l6_el {α1 α2 α3 α4 α5 α6 β : Type} {x : α1 × α2 × α3 × α4 × α5 × α6} {k : α1 → α2 → α3 → α4 → α5 → α6 → Option β} {r : β} (h : bq_l6 x k = some r) : ∃ (x1 : α1) (x2 : α2) (x3 : α3) (x4 : α4) (x5 : α5) (x6 : α6), (x1, x2, x3, x4, x5, x6) = x ∧ k x1 x2 x3 x4 x5 x6 = some r := ⟨x.1, x.2.1, x.2.2.1, x.2.2.2.1, x.2.2.2.2.1, x.2.2.2.2.2, rfl, h⟩
def bq_u6 {α1 α2 α3 α4 α5 α6 β : Type} (k : α1 → α2 → α3 → α4 → α5 → α6 → β) (x : α1 × α2 × α3 × α4 × α5 × α6) : β := k x.1 x.2.1 x.2.2.1 x.2.2.2.1 x.2.2.2.2.1 x.2.2.2.2.2
theorem bq_u6_el {α1 α2 α3 α4 α5 α6 β : Type} {k : α1 → α2 → α3 → α4 → α5 → α6 → β} {B : α1 × α2 × α3 × α4 × α5 × α6 → β} {r : β} (e : B = bq_u6 k) {x1 : α1} {x2 : α2} {x3 : α3} {x4 : α4} {x5 : α5} {x6 : α6} (h : B (x1, x2, x3, x4, x5, x6) = r) : k x1 x2 x3 x4 x5 x6 = r := by
  subst e
  exact h
theorem bq_ap6 {α1 α2 α3 α4 α5 α6 β : Type} {f J : α1 → α2 → α3 → α4 → α5 → α6 → β} {r : β} (e : J = f) {x1 : α1} {x2 : α2} {x3 : α3} {x4 : α4} {x5 : α5} {x6 : α6} (h : J x1 x2 x3 x4 x5 x6 = r) : f x1 x2 x3 x4 x5 x6 = r := e ▸ h
def bq_or6 {α1 α2 α3 α4 α5 α6 β γ : Type} (x : (α1 × α2 × α3 × α4 × α5 × α6) ⊕ β) (k : α1 → α2 → α3 → α4 → α5 → α6 → γ) (kr : β → γ) : γ := match x with
  | .inl (x1, x2, x3, x4, x5, x6) => k x1 x2 x3 x4 x5 x6
  | .inr r => kr r
def bq_b7 {α1 α2 α3 α4 α5 α6 α7 β : Type} (x : Option (α1 × α2 × α3 × α4 × α5 × α6 × α7)) (k : α1 → α2 → α3 → α4 → α5 → α6 → α7 → Option β) : Option β := match x with
  | none => none
  | some (x1, x2, x3, x4, x5, x6, x7) => k x1 x2 x3 x4 x5 x6 x7
theorem bq_b7_el {α1 α2 α3 α4 α5 α6 α7 β : Type} {x : Option (α1 × α2 × α3 × α4 × α5 × α6 × α7)} {k : α1 → α2 → α3 → α4 → α5 → α6 → α7 → Option β} {r : β} (h : bq_b7 x k = some r) : ∃ (x1 : α1) (x2 : α2) (x3 : α3) (x4 : α4) (x5 : α5) (x6 : α6) (x7 : α7), x = some (x1, x2, x3, x4, x5, x6, x7) ∧ k x1 x2 x3 x4 x5 x6 x7 = some r := by
  cases x with
  | none => cases h
  | some y =>
    obtain ⟨x1, x2, x3, x4, x5, x6, x7⟩ := y
    exact ⟨x1, x2, x3, x4, x5, x6, x7, rfl, h⟩
def bq_l7 {α1 α2 α3 α4 α5 α6 α7 β : Type} (x : α1 × α2 × α3 × α4 × α5 × α6 × α7) (k : α1 → α2 → α3 → α4 → α5 → α6 → α7 → β) : β := k x.1 x.2.1 x.2.2.1 x.2.2.2.1 x.2.2.2.2.1 x.2.2.2.2.2.1 x.2.2.2.2.2.2
theorem bq_l7_el {α1 α2 α3 α4 α5 α6 α7 β : Type} {x : α1 × α2 × α3 × α4 × α5 × α6 × α7} {k : α1 → α2 → α3 → α4 → α5 → α6 → α7 → Option β} {r : β} (h : bq_l7 x k = some r) : ∃ (x1 : α1) (x2 : α2) (x3 : α3) (x4 : α4) (x5 : α5) (x6 : α6) (x7 : α7), (x1, x2, x3, x4, x5, x6, x7) = x ∧ k x1 x2 x3 x4 x5 x6 x7 = some r := ⟨x.1, x.2.1, x.2.2.1, x.2.2.2.1, x.2.2.2.2.1, x.2.2.2.2.2.1, x.2.2.2.2.2.2, rfl, h⟩
def bq_u7 {α1 α2 α3 α4 α5 α6 α7 β : Type} (k : α1 → α2 → α3 → α4 → α5 → α6 → α7 → β) (x : α1 × α2 × α3 × α4 × α5 × α6 × α7) : β := k x.1 x.2.1 x.2.2.1 x.2.2.2.1 x.2.2.2.2.1 x.2.2.2.2.2.1 x.2.2.2.2.2.2
theorem bq_u7_el {α1 α2 α3 α4 α5 α6 α7 β : Type} {k : α1 → α2 → α3 → α4 → α5 → α6 → α7 → β} {B : α1 × α2 × α3 × α4 × α5 × α6 × α7 → β} {r : β} (e : B = bq_u7 k) {x1 : α1} {x2 : α2} {x3 : α3} {x4 : α4} {x5 : α5} {x6 : α6} {x7 : α7} (h : B (x1, x2, x3, x4, x5, x6, x7) = r) : k x1 x2 x3 x4 x5 x6 x7 = r := by
  subst e
  exact h
theorem bq_ap7 {α1 α2 α3 α4 α5 α6 α7 β : Type} {f J : α1 → α2 → α3 → α4 → α5 → α6 → α7 → β} {r : β} (e : J = f) {x1 : α1} {x2 : α2} {x3 : α3} {x4 : α4} {x5 : α5} {x6 : α6} {x7 : α7} (h : J x1 x2 x3 x4 x5 x6 x7 = r) : f x1 x2 x3 x4 x5 x6 x7 = r := e ▸ h
def bq_or7 {α1 α2 α3 α4 α5 α6 α7 β γ : Type} (x : (α1 × α2 × α3 × α4 × α5 × α6 × α7) ⊕ β) (k : α1 → α2 → α3 → α4 → α5 → α6 → α7 → γ) (kr : β → γ) : γ := match x with
  | .inl (x1, x2, x3, x4, x5, x6, x7) => k x1 x2 x3 x4 x5 x6 x7
  | .inr r => kr r
def bq_b8 {α1 α2 α3 α4 α5 α6 α7 α8 β : Type} (x : Option (α1 × α2 × α3 × α4 × α5 × α6 × α7 × α8)) (k : α1 → α2 → α3 → α4 → α5 → α6 → α7 → α8 → Option β) : Option β := match x with
  | none => none
  | some (x1, x2, x3, x4, x5, x6, x7, x8) => k x1 x2 x3 x4 x5 x6 x7 x8
theorem bq_b8_el {α1 α2 α3 α4 α5 α6 α7 α8 β : Type} {x : Option (α1 × α2 × α3 × α4 × α5 × α6 × α7 × α8)} {k : α1 → α2 → α3 → α4 → α5 → α6 → α7 → α8 → Option β} {r : β} (h : bq_b8 x k = some r) : ∃ (x1 : α1) (x2 : α2) (x3 : α3) (x4 : α4) (x5 : α5) (x6 : α6) (x7 : α7) (x8 : α8), x = some (x1, x2, x3, x4, x5, x6, x7, x8) ∧ k x1 x2 x3 x4 x5 x6 x7 x8 = some r := by
  cases x with
  | none => cases h
  | some y =>
    obtain ⟨x1, x2, x3, x4, x5, x6, x7, x8⟩ := y
    exact ⟨x1, x2, x3, x4, x5, x6, x7, x8, rfl, h⟩
def bq_l8 {α1 α2 α3 α4 α5 α6 α7 α8 β : Type} (x : α1 × α2 × α3 × α4 × α5 × α6 × α7 × α8) (k : α1 → α2 → α3 → α4 → α5 → α6 → α7 → α8 → β) : β := k x.1 x.2.1 x.2.2.1 x.2.2.2.1 x.2.2.2.2.1 x.2.2.2.2.2.1 x.2.2.2.2.2.2.1 x.2.2.2.2.2.2.2
theorem bq_l8_el {α1 α2 α3 α4 α5 α6 α7 α8 β : Type} {x : α1 × α2 × α3 × α4 × α5 × α6 × α7 × α8} {k : α1 → α2 → α3 → α4 → α5 → α6 → α7 → α8 → Option β} {r : β} (h : bq_l8 x k = some r) : ∃ (x1 : α1) (x2 : α2) (x3 : α3) (x4 : α4) (x5 : α5) (x6 : α6) (x7 : α7) (x8 : α8), (x1, x2, x3, x4, x5, x6, x7, x8) = x ∧ k x1 x2 x3 x4 x5 x6 x7 x8 = some r := ⟨x.1, x.2.1, x.2.2.1, x.2.2.2.1, x.2.2.2.2.1, x.2.2.2.2.2.1, x.2.2.2.2.2.2.1, x.2.2.2.2.2.2.2, rfl, h⟩
def bq_u8 {α1 α2 α3 α4 α5 α6 α7 α8 β : Type} (k : α1 → α2 → α3 → α4 → α5 → α6 → α7 → α8 → β) (x : α1 × α2 × α3 × α4 × α5 × α6 × α7 × α8) : β := k x.1 x.2.1 x.2.2.1 x.2.2.2.1 x.2.2.2.2.1 x.2.2.2.2.2.1 x.2.2.2.2.2.2.1 x.2.2.2.2.2.2.2
theorem bq_u8_el {α1 α2 α3 α4 α5 α6 α7 α8 β : Type} {k : α1 → α2 → α3 → α4 → α5 → α6 → α7 → α8 → β} {B : α1 × α2 × α3 × α4 × α5 × α6 × α7 × α8 → β} {r : β} (e : B = bq_u8 k) {x1 : α1} {x2 : α2} {x3 : α3} {x4 : α4} {x5 : α5} {x6 : α6} {x7 : α7} {x8 : α8} (h : B (x1, x2, x3, x4, x5, x6, x7, x8) = r) : k x1 x2 x3 x4 x5 x6 x7 x8 = r := by
  subst e
  exact h
theorem bq_ap8 {α1 α2 α3 α4 α5 α6 α7 α8 β : Type} {f J : α1 → α2 → α3 → α4 → α5 → α6 → α7 → α8 → β} {r : β} (e : J = f) {x1 : α1} {x2 : α2} {x3 : α3} {x4 : α4} {x5 : α5} {x6 : α6} {x7 : α7} {x8 : α8} (h : J x1 x2 x3 x4 x5 x6 x7 x8 = r) : f x1 x2 x3 x4 x5 x6 x7 x8 = r := e ▸ h
def bq_or8 {α1 α2 α3 α4 α5 α6 α7 α8 β γ : Type} (x : (α1 × α2 × α3 × α4 × α5 × α6 × α7 × α8) ⊕ β) (k : α1 → α2 → α3 → α4 → α5 → α6 → α7 → α8 → γ) (kr : β → γ) : γ := match x with
  | .inl (x1, x2, x3, x4, x5, x6, x7, x8) => k x1 x2 x3 x4 x5 x6 x7 x8
  | .inr r => kr r
def bq_b9 {α1 α2 α3 α4 α5 α6 α7 α8 α9 β : Type} (x : Option (α1 × α2 × α3 × α4 × α5 × α6 × α7 × α8 × α9)) (k : α1 → α2 → α3 → α4 → α5 → α6 → α7 → α8 → α9 → Option β) : Option β := match x with
  | none => none
  | some (x1, x2, x3, x4, x5, x6, x7, x8, x9) => k x1 x2 x3 x4 x5 x6 x7 x8 x9
theorem bq_b9_el {α1 α2 α3 α4 α5 α6 α7 α8 α9 β : Type} {x : Option (α1 × α2 × α3 × α4 × α5 × α6 × α7 × α8 × α9)} {k : α1 → α2 → α3 → α4 → α5 → α6 → α7 → α8 → α9 → Option β} {r : β} (h : bq_b9 x k = some r) : ∃ (x1 : α1) (x2 : α2) (x3 : α3) (x4 : α4) (x5 : α5) (x6 : α6) (x7 : α7) (x8 : α8) (x9 : α9), x = some (x1, x2, x3, x4, x5, x6, x7, x8, x9) ∧ k x1 x2 x3 x4 x5 x6 x7 x8 x9 = some r := by
  cases x with
  | none => cases h
  | some y =>
    obtain ⟨x1, x2, x3, x4, x5, x6, x7, x8, x9⟩ := y
    exact ⟨x1, x2, x3, x4, x5, x6, x7, x8, x9, rfl, h⟩
def bq_l9 {α1 α2 α3 α4 α5 α6 α7 α8 α9 β : Type} (x : α1 × α2 × α3 × α4 × α5 × α6 × α7 × α8 × α9) (k : α1 → α2 → α3 → α4 → α5 → α6 → α7 → α8 → α9 → β) : β := k x.1 x.2.1 x.2.2.1 x.2.2.2.1 x.2.2.2.2.1 x.2.2.2.2.2.1 x.2.2.2.2.2.2.1 x.2.2.2.2.2.2.2.1 x.2.2.2.2.2.2.2.2
theorem bq_l9_el {α1 α2 α3 α4 α5 α6 α7 α8 α9 β : Type} {x : α1 × α2 × α3 × α4 × α5 × α6 × α7 × α8 × α9} {k : α1 → α2 → α3 → α4 → α5 → α6 → α7 → α8 → α9 → Option β} {r : β} (h : bq_l9 x k = some r) : ∃ (x1 : α1) (x2 : α2) (x3 : α3) (x4 : α4) (x5 : α5) (x6 : α6) (x7 : α7) (x8 : α8) (x9 : α9), (x1, x2, x3, x4, x5, x6, x7, x8, x9) = x ∧ k x1 x2 x3 x4 x5 x6 x7 x8 x9 = some r := ⟨x.1, x.2.1, x.2.2.1, x.2.2.2.1, x.2.2.2.2.1, x.2.2.2.2.2.1, x.2.2.2.2.2.2.1, x.2.2.2.2.2.2.2.1, x.2.2.2.2.2.2.2.2, rfl, h⟩
def bq_u9 {α1 α2 α3 α4 α5 α6 α7 α8 α9 β : Type} (k : α1 → α2 → α3 → α4 → α5 → α6 → α7 → α8 → α9 → β) (x : α1 × α2 × α3 × α4 × α5 × α6 × α7 × α8 × α9) : β := k x.1 x.2.1 x.2.2.1 x.2.2.2.1 x.2.2.2.2.1 x.2.2.2.2.2.1 x.2.2.2.2.2.2.1 x.2.2.2.2.2.2.2.1 x.2.2.2.2.2.2.2.2
theorem bq_u9_el {α1 α2 α3 α4 α5 α6 α7 α8 α9 β : Type} {k : α1 → α2 → α3 → α4 → α5 → α6 → α7 → α8 → α9 → β} {B : α1 × α2 × α3 × α4 × α5 × α6 × α7 × α8 × α9 → β} {r : β} (e : B = bq_u9 k) {x1 : α1} {x2 : α2} {x3 : α3} {x4 : α4} {x5 : α5} {x6 : α6} {x7 : α7} {x8 : α8} {x9 : α9} (h : B (x1, x2, x3, x4, x5, x6, x7, x8, x9) = r) : k x1 x2 x3 x4 x5 x6 x7 x8 x9 = r := by
  subst e
  exact h
theorem bq_ap9 {α1 α2 α3 α4 α5 α6 α7 α8 α9 β : Type} {f J : α1 → α2 → α3 → α4 → α5 → α6 → α7 → α8 → α9 → β} {r : β} (e : J = f) {x1 : α1} {x2 : α2} {x3 : α3} {x4 : α4} {x5 : α5} {x6 : α6} {x7 : α7} {x8 : α8} {x9 : α9} (h : J x1 x2 x3 x4 x5 x6 x7 x8 x9 = r) : f x1 x2 x3 x4 x5 x6 x7 x8 x9 = r := e ▸ h
def bq_or9 {α1 α2 α3 α4 α5 α6 α7 α8 α9 β γ : Type} (x : (α1 × α2 × α3 × α4 × α5 × α6 × α7 × α8 × α9) ⊕ β) (k : α1 → α2 → α3 → α4 → α5 → α6 → α7 → α8 → α9 → γ) (kr : β → γ) : γ := match x with
  | .inl (x1, x2, x3, x4, x5, x6, x7, x8, x9) => k x1 x2 x3 x4 x5 x6 x7 x8 x9
  | .inr r => kr r
def bq_b10 {α1 α2 α3 α4 α5 α6 α7 α8 α9 α10 β : Type} (x : Option (α1 × α2 × α3 × α4 × α5 × α6 × α7 × α8 × α9 × α10)) (k : α1 → α2 → α3 → α4 → α5 → α6 → α7 → α8 → α9 → α10 → Option β) : Option β := match x with
  | none => none
  | some (x1, x2, x3, x4, x5, x6, x7, x8, x9, x10) => k x1 x2 x3 x4 x5 x6 x7 x8 x9 x10
theorem bq_b10_el {α1 α2 α3 α4 α5 α6 α7 α8 α9 α10 β : Type} {x : Option (α1 × α2 × α3 × α4 × α5 × α6 × α7 × α8 × α9 × α10)} {k : α1 → α2 → α3 → α4 → α5 → α6 → α7 → α8 → α9 → α10 → Option β} {r : β} (h : bq_b10 x k = some r) : ∃ (x1 : α1) (x2 : α2) (x3 : α3) (x4 : α4) (x5 : α5) (x6 : α6) (x7 : α7) (x8 : α8) (x9 : α9) (x10 : α10), x = some (x1, x2, x3, x4, x5, x6, x7, x8, x9, x10) ∧ k x1 x2 x3 x4 x5 x6 x7 x8 x9 x10 = some r := by
  cases x with
  | none => cases h
  | some y =>
    obtain ⟨x1, x2, x3, x4, x5, x6, x7, x8, x9, x10⟩ := y
    exact ⟨x1, x2, x3, x4, x5, x6, x7, x8, x9, x10, rfl, h⟩
def bq_l10 {α1 α2 α3 α4 α5 α6 α7 α8 α9 α10 β : Type} (x : α1 × α2 × α3 × α4 × α5 × α6 × α7 × α8 × α9 × α10) (k : α1 → α2 → α3 → α4 → α5 → α6 → α7 → α8 → α9 → α10 → β) : β := k x.1 x.2.1 x.2.2.1 x.2.2.2.1 x.2.2.2.2.1 x.2.2.2.2.2.1 x.2.2.2.2.2.2.1 x.2.2.2.2.2.2.2.1 x.2.2.2.2.2.2.2.2.1 x.2.2.2.2.2.2.2.2.2
theorem bq_l10_el {α1 α2 α3 α4 α5 α6 α7 α8 α9 α10 β : Type} {x : α1 × α2 × α3 × α4 × α5 × α6 × α7 × α8 × α9 × α10} {k : α1 → α2 → α3 → α4 → α5 → α6 → α7 → α8 → α9 → α10 → Option β} {r : β} (h : bq_l10 x k = some r) : ∃ (x1 : α1) (x2 : α2) (x3 : α3) (x4 : α4) (x5 : α5) (x6 : α6) (x7 : α7) (x8 : α8) (x9 : α9) (x10 : α10), (x1, x2, x3, x4, x5, x6, x7, x8, x9, x10) = x ∧ k x1 x2 x3 x4 x5 x6 x7 x8 x9 x10 = some r := ⟨x.1, x.2.1, x.2.2.1, x.2.2.2.1, x.2.2.2.2.1, x.2.2.2.2.2.1, x.2.2.2.2.2.2.1, x.2.2.2.2.2.2.2.1, x.2.2.2.2.2.2.2.2.1, x.2.2.2.2.2.2.2.2.2, rfl, h⟩
def bq_u10 {α1 α2 α3 α4 α5 α6 α7 α8 α9 α10 β : Type} (k : α1 → α2 → α3 → α4 → α5 → α6 → α7 → α8 → α9 → α10 → β) (x : α1 × α2 × α3 × α4 × α5 × α6 × α7 × α8 × α9 × α10) : β := k x.1 x.2.1 x.2.2.1 x.2.2.2.1 x.2.2.2.2.1 x.2.2.2.2.2.1 x.2.2.2.2.2.2.1 x.2.2.2.2.2.2.2.1 x.2.2.2.2.2.2.2.2.1 x.2.2.2.2.2.2.2.2.2
theorem bq_u10_el {α1 α2 α3 α4 α5 α6 α7 α8 α9 α10 β : Type} {k : α1 → α2 → α3 → α4 → α5 → α6 → α7 → α8 → α9 → α10 → β} {B : α1 × α2 × α3 × α4 × α5 × α6 × α7 × α8 × α9 × α10 → β} {r : β} (e : B = bq_u10 k) {x1 : α1} {x2 : α2} {x3 : α3} {x4 : α4} {x5 : α5} {x6 : α6} {x7 : α7} {x8 : α8} {x9 : α9} {x10 : α10} (h : B (x1, x2, x3, x4, x5, x6, x7, x8, x9, x10) = r) : k x1 x2 x3 x4 x5 x6 x7 x8 x9 x10 = r := by
  subst e
  exact h
theorem bq_ap10 {α1 α2 α3 α4 α5 α6 α7 α8 α9 α10 β : Type} {f J : α1 → α2 → α3 → α4 → α5 → α6 → α7 → α8 → α9 → α10 → β} {r : β} (e : J = f) {x1 : α1} {x2 : α2} {x3 : α3} {x4 : α4} {x5 : α5} {x6 : α6} {x7 : α7} {x8 : α8} {x9 : α9} {x10 : α10} (h : J x1 x2 x3 x4 x5 x6 x7 x8 x9 x10 = r) : f x1 x2 x3 x4 x5 x6 x7 x8 x9 x10 = r := e ▸ h
def bq_or10 {α1 α2 α3 α4 α5 α6 α7 α8 α9 α10 β γ : Type} (x : (α1 × α2 × α3 × α4 × α5 × α6 × α7 × α8 × α9 × α10) ⊕ β) (k : α1 → α2 → α3 → α4 → α5 → α6 → α7 → α8 → α9 → α10 → γ) (kr : β → γ) : γ := match x with
  | .inl (x1, x2, x3, x4, x5, x6, x7, x8, x9, x10) => k x1 x2 x3 x4 x5 x6 x7 x8 x9 x10
  | .inr r => kr r
def bq_b11 {α1 α2 α3 α4 α5 α6 α7 α8 α9 α10 α11 β : Type} (x : Option (α1 × α2 × α3 × α4 × α5 × α6 × α7 × α8 × α9 × α10 × α11)) (k : α1 → α2 → α3 → α4 → α5 → α6 → α7 → α8 → α9 → α10 → α11 → Option β) : Option β := match x with
  | none => none
  | some (x1, x2, x3, x4, x5, x6, x7, x8, x9, x10, x11) => k x1 x2 x3 x4 x5 x6 x7 x8 x9 x10 x11
theorem bq_b11_el {α1 α2 α3 α4 α5 α6 α7 α8 α9 α10 α11 β : Type} {x : Option (α1 × α2 × α3 × α4 × α5 × α6 × α7 × α8 × α9 × α10 × α11)} {k : α1 → α2 → α3 → α4 → α5 → α6 → α7 → α8 → α9 → α10 → α11 → Option β} {r : β} (h : bq_b11 x k = some r) : ∃ (x1 : α1) (x2 : α2) (x3 : α3) (x4 : α4) (x5 : α5) (x6 : α6) (x7 : α7) (x8 : α8) (x9 : α9) (x10 : α10) (x11 : α11), x = some (x1, x2, x3, x4, x5, x6, x7, x8, x9, x10, x11) ∧ k x1 x2 x3 x4 x5 x6 x7 x8 x9 x10 x11 = some r := by
  cases x with
  | none => cases h
  | some y =>
    obtain ⟨x1, x2, x3, x4, x5, x6, x7, x8, x9, x10, x11⟩ := y
    exact ⟨x1, x2, x3, x4, x5, x6, x7, x8, x9, x10, x11, rfl, h⟩
def bq_l11 {α1 α2 α3 α4 α5 α6 α7 α8 α9 α10 α11 β : Type} (x : α1 × α2 × α3 × α4 × α5 × α6 × α7 × α8 × α9 × α10 × α11) (k : α1 → α2 → α3 → α4 → α5 → α6 → α7 → α8 → α9 → α10 → α11 → β) : β := k x.1 x.2.1 x.2.2.1 x.2.2.2.1 x.2.2.2.2.1 x.2.2.2.2.2.1 x.2.2.2.2.2.2.1 x.2.2.2.2.2.2.2.1 x.2.2.2.2.2.2.2.2.1 x.2.2.2.2.2.2.2.2.2.1 x.2.2.2.2.2.2.2.2.2.2
theorem bq_l11_el {α1 α2 α3 α4 α5 α6 α7 α8 α9 α10 α11 β : Type} {x : α1 × α2 × α3 × α4 × α5 × α6 × α7 × α8 × α9 × α10 × α11} {k : α1 → α2 → α3 → α4 → α5 → α6 → α7 → α8 → α9 → α10 → α11 → Option β} {r : β} (h : bq_l11 x k = some r) : ∃ (x1 : α1) (x2 : α2) (x3 : α3) (x4 : α4) (x5 : α5) (x6 : α6) (x7 : α7) (x8 : α8) (x9 : α9) (x10 : α10) (x11 : α11), (x1, x2, x3, x4, x5, x6, x7, x8, x9, x10, x11) = x ∧ k x1 x2 x3 x4 x5 x6 x7 x8 x9 x10 x11 = some r := ⟨x.1, x.2.1, x.2.2.1, x.2.2.2.1, x.2.2.2.2.1, x.2.2.2.2.2.1, x.2.2.2.2.2.2.1, x.2.2.2.2.2.2.2.1, x.2.2.2.2.2.2.2.2.1, x.2.2.2.2.2.2.2.2.2.1, x.2.2.2.2.2.2.2.2.2.2, rfl, h⟩
def bq_u11 {α1 α2 α3 α4 α5 α6 α7 α8 α9 α10 α11 β : Type} (k : α1 → α2 → α3 → α4 → α5 → α6 → α7 → α8 → α9 → α10 → α11 → β) (x : α1 × α2 × α3 × α4 × α5 × α6 × α7 × α8 × α9 × α10 × α11) : β := k x.1 x.2.1 x.2.2.1 x.2.2.2.1 x.2.2.2.2.1 x.2.2.2.2.2.1 x.2.2.2.2.2.2.1 x.2.2.2.2.2.2.2.1 x.2.2.2.2.2.2.2.2.1 x.2.2.2.2.2.2.2.2.2.1 x.2.2.2.2.2.2.2.2.2.2
theorem bq_u11_el {α1 α2 α3 α4 α5 α6 α7 α8 α9 α10 α11 β : Type} {k : α1 → α2 → α3 → α4 → α5 → α6 → α7 → α8 → α9 → α10 → α11 → β} {B : α1 × α2 × α3 × α4 × α5 × α6 × α7 × α8 × α9 × α10 × α11 → β} {r : β} (e : B = bq_u11 k) {x1 : α1} {x2 : α2} {x3 : α3} {x4 : α4} {x5 : α5} {x6 : α6} {x7 : α7} {x8 : α8} {x9 : α9} {x10 : α10} {x11 : α11} (h : B (x1, x2, x3, x4, x5, x6, x7, x8, x9, x10, x11) = r) : k x1 x2 x3 x4 x5 x6 x7 x8 x9 x10 x11 = r := by
  subst e
  exact h
theorem bq_ap11 {α1 α2 α3 α4 α5 α6 α7 α8 α9 α10 α11 β : Type} {f J : α1 → α2 → α3 → α4 → α5 → α6 → α7 → α8 → α9 → α10 → α11 → β} {r : β} (e : J = f) {x1 : α1} {x2 : α2} {x3 : α3} {x4 : α4} {x5 : α5} {x6 : α6} {x7 : α7} {x8 : α8} {x9 : α9} {x10 : α10} {x11 : α11} (h : J x1 x2 x3 x4 x5 x6 x7 x8 x9 x10 x11 = r) : f x1 x2 x3 x4 x5 x6 x7 x8 x9 x10 x11 = r := e ▸ h
def bq_or11 {α1 α2 α3 α4 α5 α6 α7 α8 α9 α10 α11 β γ : Type} (x : (α1 × α2 × α3 × α4 × α5 × α6 × α7 × α8 × α9 × α10 × α11) ⊕ β) (k : α1 → α2 → α3 → α4 → α5 → α6 → α7 → α8 → α9 → α10 → α11 → γ) (kr : β → γ) : γ := match x with
  | .inl (x1, x2, x3, x4, x5, x6, x7, x8, x9, x10, x11) => k x1 x2 x3 x4 x5 x6 x7 x8 x9 x10 x11
  | .inr r => kr r
def bq_b12 {α1 α2 α3 α4 α5 α6 α7 α8 α9 α10 α11 α12 β : Type} (x : Option (α1 × α2 × α3 × α4 × α5 × α6 × α7 × α8 × α9 × α10 × α11 × α12)) (k : α1 → α2 → α3 → α4 → α5 → α6 → α7 → α8 → α9 → α10 → α11 → α12 → Option β) : Option β := match x with
  | none => none
  | some (x1, x2, x3, x4, x5, x6, x7, x8, x9, x10, x11, x12) => k x1 x2 x3 x4 x5 x6 x7 x8 x9 x10 x11 x12
theorem bq_b12_el {α1 α2 α3 α4 α5 α6 α7 α8 α9 α10 α11 α12 β : Type} {x : Option (α1 × α2 × α3 × α4 × α5 × α6 × α7 × α8 × α9 × α10 × α11 × α12)} {k : α1 → α2 → α3 → α4 → α5 → α6 → α7 → α8 → α9 → α10 → α11 → α12 → Option β} {r : β} (h : bq_b12 x k = some r) : ∃ (x1 : α1) (x2 : α2) (x3 : α3) (x4 : α4) (x5 : α5) (x6 : α6) (x7 : α7) (x8 : α8) (x9 : α9) (x10 : α10) (x11 : α11) (x12 : α12), x = some (x1, x2, x3, x4, x5, x6, x7, x8, x9, x10, x11, x12) ∧ k x1 x2 x3 x4 x5 x6 x7 x8 x9 x10 x11 x12 = some r := by
  cases x with
  | none => cases h
  | some y =>
    obtain ⟨x1, x2, x3, x4, x5, x6, x7, x8, x9, x10, x11, x12⟩ := y
    exact ⟨x1, x2, x3, x4, x5, x6, x7, x8, x9, x10, x11, x12, rfl, h⟩
def bq_l12 {α1 α2 α3 α4 α5 α6 α7 α8 α9 α10 α11 α12 β : Type} (x : α1 × α2 × α3 × α4 × α5 × α6 × α7 × α8 × α9 × α10 × α11 × α12) (k : α1 → α2 → α3 → α4 → α5 → α6 → α7 → α8 → α9 → α10 → α11 → α12 → β) : β := k x.1 x.2.1 x.2.2.1 x.2.2.2.1 x.2.2.2.2.1 x.2.2.2.2.2.1 x.2.2.2.2.2.2.1 x.2.2.2.2.2.2.2.1 x.2.2.2.2.2.2.2.2.1 x.2.2.2.2.2.2.2.2.2.1 x.2.2.2.2.2.2.2.2.2.2.1 x.2.2.2.2.2.2.2.2.2.2.2
theorem bq_l12_el {α1 α2 α3 α4 α5 α6 α7 α8 α9 α10 α11 α12 β : Type} {x : α1 × α2 × α3 × α4 × α5 × α6 × α7 × α8 × α9 × α10 × α11 × α12} {k : α1 → α2 → α3 → α4 → α5 → α6 → α7 → α8 → α9 → α10 → α11 → α12 → Option β} {r : β} (h : bq_l12 x k = some r) : ∃ (x1 : α1) (x2 : α2) (x3 : α3) (x4 : α4) (x5 : α5) (x6 : α6) (x7 : α7) (x8 : α8) (x9 : α9) (x10 : α10) (x11 : α11) (x12 : α12), (x1, x2, x3, x4, x5, x6, x7, x8, x9, x10, x11, x12) = x ∧ k x1 x2 x3 x4 x5 x6 x7 x8 x9 x10 x11 x12 = some r := ⟨x.1, x.2.1, x.2.2.1, x.2.2.2.1, x.2.2.2.2.1, x.2.2.2.2.2.1, x.2.2.2.2.2.2.1, x.2.2.2.2.2.2.2.1, x.2.2.2.2.2.2.2.2.1, x.2.2.2.2.2.2.2.2.2.1, x.2.2.2.2.2.2.2.2.2.2.1, x.2.2.2.2.2.2.2.2.2.2.2, rfl, h⟩
def bq_u12 {α1 α2 α3 α4 α5 α6 α7 α8 α9 α10 α11 α12 β : Type} (k : α1 → α2 → α3 → α4 → α5 → α6 → α7 → α8 → α9 → α10 → α11 → α12 → β) (x : α1 × α2 × α3 × α4 × α5 × α6 × α7 × α8 × α9 × α10 × α11 × α12) : β := k x.1 x.2.1 x.2.2.1 x.2.2.2.1 x.2.2.2.2.1 x.2.2.2.2.2.1 x.2.2.2.2.2.2.1 x.2.2.2.2.2.2.2.1 x.2.2.2.2.2.2.2.2.1 x.2.2.2.2.2.2.2.2.2.1 x.2.2.2.2.2.2.2.2.2.2.1 x.2.2.2.2.2.2.2.2.2.2.2
theorem bq_u12_el {α1 α2 α3 α4 α5 α6 α7 α8 α9 α10 α11 α12 β : Type} {k : α1 → α2 → α3 → α4 → α5 → α6 → α7 → α8 → α9 → α10 → α11 → α12 → β} {B : α1 × α2 × α3 × α4 × α5 × α6 × α7 × α8 × α9 × α10 × α11 × α12 → β} {r : β} (e : B = bq_u12 k) {x1 : α1} {x2 : α2} {x3 : α3} {x4 : α4} {x5 : α5} {x6 : α6} {x7 : α7} {x8 : α8} {x9 : α9} {x10 : α10} {x11 : α11} {x12 : α12} (h : B (x1, x2, x3, x4, x5, x6, x7, x8, x9, x10, x11, x12) = r) : k x1 x2 x3 x4 x5 x6 x7 x8 x9 x10 x11 x12 = r := by
  subst e
  exact h
theorem bq_ap12 {α1 α2 α3 α4 α5 α6 α7 α8 α9 α10 α11 α12 β : Type} {f J : α1 → α2 → α3 → α4 → α5 → α6 → α7 → α8 → α9 → α10 → α11 → α12 → β} {r : β} (e : J = f) {x1 : α1} {x2 : α2} {x3 : α3} {x4 : α4} {x5 : α5} {x6 : α6} {x7 : α7} {x8 : α8} {x9 : α9} {x10 : α10} {x11 : α11} {x12 : α12} (h : J x1 x2 x3 x4 x5 x6 x7 x8 x9 x10 x11 x12 = r) : f x1 x2 x3 x4 x5 x6 x7 x8 x9 x10 x11 x12 = r := e ▸ h
def bq_or12 {α1 α2 α3 α4 α5 α6 α7 α8 α9 α10 α11 α12 β γ : Type} (x : (α1 × α2 × α3 × α4 × α5 × α6 × α7 × α8 × α9 × α10 × α11 × α12) ⊕ β) (k : α1 → α2 → α3 → α4 → α5 → α6 → α7 → α8 → α9 → α10 → α11 → α12 → γ) (kr : β → γ) : γ := match x with
  | .inl (x1, x2, x3, x4, x5, x6, x7, x8, x9, x10, x11, x12) => k x1 x2 x3 x4 x5 x6 x7 x8 x9 x10 x11 x12
  | .inr r => kr r
def bq_u1 {α β : Type} (k : α → β) (x : α) : β := k x
theorem bq_u1_el {α β : Type} {k : α → β} {B : α → β} {r : β} (e : B = bq_u1 k) {x : α} (h : B x = r) : k x = r := by
  subst e
  exact h
theorem bq_ap1 {α β : Type} {f J : α → β} {r : β} (e : J = f) {x : α} (h : J x = r) : f x = r := e ▸ h
def bq_or1 {α β γ : Type} (x : α ⊕ β) (k : α → γ) (kr : β → γ) : γ := match x with
  | .inl x => k x
  | .inr r => kr r
theorem bq_loop_B {S R : Type} {b : S → Option (S ⊕ R)} {s : S} {r : R} (h : bq_loop b s = some r) : ∃ B : S → Option (S ⊕ R), B = b ∧ ∃ n, bq_lp B n s = some r := ⟨b, rfl, bq_loop_el h⟩
theorem bq_or1_l {α1 β γ : Type} {x1 : α1} {k : α1 → γ} {kr : β → γ} {r : γ} (h : bq_or1 (.inl x1) k kr = r) : k x1 = r := h
theorem bq_or1_r {α1 β γ : Type} {x : β} {k : α1 → γ} {kr : β → γ} {r : γ} (h : bq_or1 (.inr x) k kr = r) : kr x = r := h
theorem bq_or2_l {α1 α2 β γ : Type} {x1 : α1} {x2 : α2} {k : α1 → α2 → γ} {kr : β → γ} {r : γ} (h : bq_or2 (.inl (x1, x2)) k kr = r) : k x1 x2 = r := h
theorem bq_or2_r {α1 α2 β γ : Type} {x : β} {k : α1 → α2 → γ} {kr : β → γ} {r : γ} (h : bq_or2 (.inr x) k kr = r) : kr x = r := h
theorem bq_or3_l {α1 α2 α3 β γ : Type} {x1 : α1} {x2 : α2} {x3 : α3} {k : α1 → α2 → α3 → γ} {kr : β → γ} {r : γ} (h : bq_or3 (.inl (x1, x2, x3)) k kr = r) : k x1 x2 x3 = r := h
theorem bq_or3_r {α1 α2 α3 β γ : Type} {x : β} {k : α1 → α2 → α3 → γ} {kr : β → γ} {r : γ} (h : bq_or3 (.inr x) k kr = r) : kr x = r := h
theorem bq_or4_l {α1 α2 α3 α4 β γ : Type} {x1 : α1} {x2 : α2} {x3 : α3} {x4 : α4} {k : α1 → α2 → α3 → α4 → γ} {kr : β → γ} {r : γ} (h : bq_or4 (.inl (x1, x2, x3, x4)) k kr = r) : k x1 x2 x3 x4 = r := h
theorem bq_or4_r {α1 α2 α3 α4 β γ : Type} {x : β} {k : α1 → α2 → α3 → α4 → γ} {kr : β → γ} {r : γ} (h : bq_or4 (.inr x) k kr = r) : kr x = r := h
theorem bq_or5_l {α1 α2 α3 α4 α5 β γ : Type} {x1 : α1} {x2 : α2} {x3 : α3} {x4 : α4} {x5 : α5} {k : α1 → α2 → α3 → α4 → α5 → γ} {kr : β → γ} {r : γ} (h : bq_or5 (.inl (x1, x2, x3, x4, x5)) k kr = r) : k x1 x2 x3 x4 x5 = r := h
theorem bq_or5_r {α1 α2 α3 α4 α5 β γ : Type} {x : β} {k : α1 → α2 → α3 → α4 → α5 → γ} {kr : β → γ} {r : γ} (h : bq_or5 (.inr x) k kr = r) : kr x = r := h
theorem bq_or6_l {α1 α2 α3 α4 α5 α6 β γ : Type} {x1 : α1} {x2 : α2} {x3 : α3} {x4 : α4} {x5 : α5} {x6 : α6} {k : α1 → α2 → α3 → α4 → α5 → α6 → γ} {kr : β → γ} {r : γ} (h : bq_or6 (.inl (x1, x2, x3, x4, x5, x6)) k kr = r) : k x1 x2 x3 x4 x5 x6 = r := h
theorem bq_or6_r {α1 α2 α3 α4 α5 α6 β γ : Type} {x : β} {k : α1 → α2 → α3 → α4 → α5 → α6 → γ} {kr : β → γ} {r : γ} (h : bq_or6 (.inr x) k kr = r) : kr x = r := h
theorem bq_or7_l {α1 α2 α3 α4 α5 α6 α7 β γ : Type} {x1 : α1} {x2 : α2} {x3 : α3} {x4 : α4} {x5 : α5} {x6 : α6} {x7 : α7} {k : α1 → α2 → α3 → α4 → α5 → α6 → α7 → γ} {kr : β → γ} {r : γ} (h : bq_or7 (.inl (x1, x2, x3, x4, x5, x6, x7)) k kr = r) : k x1 x2 x3 x4 x5 x6 x7 = r := h
theorem bq_or7_r {α1 α2 α3 α4 α5 α6 α7 β γ : Type} {x : β} {k : α1 → α2 → α3 → α4 → α5 → α6 → α7 → γ} {kr : β → γ} {r : γ} (h : bq_or7 (.inr x) k kr = r) : kr x = r := h
theorem bq_or8_l {α1 α2 α3 α4 α5 α6 α7 α8 β γ : Type} {x1 : α1} {x2 : α2} {x3 : α3} {x4 : α4} {x5 : α5} {x6 : α6} {x7 : α7} {x8 : α8} {k : α1 → α2 → α3 → α4 → α5 → α6 → α7 → α8 → γ} {kr : β → γ} {r : γ} (h : bq_or8 (.inl (x1, x2, x3, x4, x5, x6, x7, x8)) k kr = r) : k x1 x2 x3 x4 x5 x6 x7 x8 = r := h
theorem bq_or8_r {α1 α2 α3 α4 α5 α6 α7 α8 β γ : Type} {x : β} {k : α1 → α2 → α3 → α4 → α5 → α6 → α7 → α8 → γ} {kr : β → γ} {r : γ} (h : bq_or8 (.inr x) k kr = r) : kr x = r := h
theorem bq_or9_l {α1 α2 α3 α4 α5 α6 α7 α8 α9 β γ : Type} {x1 : α1} {x2 : α2} {x3 : α3} {x4 : α4} {x5 : α5} {x6 : α6} {x7 : α7} {x8 : α8} {x9 : α9} {k : α1 → α2 → α3 → α4 → α5 → α6 → α7 → α8 → α9 → γ} {kr : β → γ} {r : γ} (h : bq_or9 (.inl (x1, x2, x3, x4, x5, x6, x7, x8, x9)) k kr = r) : k x1 x2 x3 x4 x5 x6 x7 x8 x9 = r := h
theorem bq_or9_r {α1 α2 α3 α4 α5 α6 α7 α8 α9 β γ : Type} {x : β} {k : α1 → α2 → α3 → α4 → α5 → α6 → α7 → α8 → α9 → γ} {kr : β → γ} {r : γ} (h : bq_or9 (.inr x) k kr = r) : kr x = r := h
theorem bq_or10_l {α1 α2 α3 α4 α5 α6 α7 α8 α9 α10 β γ : Type} {x1 : α1} {x2 : α2} {x3 : α3} {x4 : α4} {x5 : α5} {x6 : α6} {x7 : α7} {x8 : α8} {x9 : α9} {x10 : α10} {k : α1 → α2 → α3 → α4 → α5 → α6 → α7 → α8 → α9 → α10 → γ} {kr : β → γ} {r : γ} (h : bq_or10 (.inl (x1, x2, x3, x4, x5, x6, x7, x8, x9, x10)) k kr = r) : k x1 x2 x3 x4 x5 x6 x7 x8 x9 x10 = r := h
theorem bq_or10_r {α1 α2 α3 α4 α5 α6 α7 α8 α9 α10 β γ : Type} {x : β} {k : α1 → α2 → α3 → α4 → α5 → α6 → α7 → α8 → α9 → α10 → γ} {kr : β → γ} {r : γ} (h : bq_or10 (.inr x) k kr = r) : kr x = r := h
theorem bq_or11_l {α1 α2 α3 α4 α5 α6 α7 α8 α9 α10 α11 β γ : Type} {x1 : α1} {x2 : α2} {x3 : α3} {x4 : α4} {x5 : α5} {x6 : α6} {x7 : α7} {x8 : α8} {x9 : α9} {x10 : α10} {x11 : α11} {k : α1 → α2 → α3 → α4 → α5 → α6 → α7 → α8 → α9 → α10 → α11 → γ} {kr : β → γ} {r : γ} (h : bq_or11 (.inl (x1, x2, x3, x4, x5, x6, x7, x8, x9, x10, x11)) k kr = r) : k x1 x2 x3 x4 x5 x6 x7 x8 x9 x10 x11 = r := h
theorem bq_or11_r {α1 α2 α3 α4 α5 α6 α7 α8 α9 α10 α11 β γ : Type} {x : β} {k : α1 → α2 → α3 → α4 → α5 → α6 → α7 → α8 → α9 → α10 → α11 → γ} {kr : β → γ} {r : γ} (h : bq_or11 (.inr x) k kr = r) : kr x = r := h
theorem bq_or12_l {α1 α2 α3 α4 α5 α6 α7 α8 α9 α10 α11 α12 β γ : Type} {x1 : α1} {x2 : α2} {x3 : α3} {x4 : α4} {x5 : α5} {x6 : α6} {x7 : α7} {x8 : α8} {x9 : α9} {x10 : α10} {x11 : α11} {x12 : α12} {k : α1 → α2 → α3 → α4 → α5 → α6 → α7 → α8 → α9 → α10 → α11 → α12 → γ} {kr : β → γ} {r : γ} (h : bq_or12 (.inl (x1, x2, x3, x4, x5, x6, x7, x8, x9, x10, x11, x12)) k kr = r) : k x1 x2 x3 x4 x5 x6 x7 x8 x9 x10 x11 x12 = r := h
theorem bq_or12_r {α1 α2 α3 α4 α5 α6 α7 α8 α9 α10 α11 α12 β γ : Type} {x : β} {k : α1 → α2 → α3 → α4 → α5 → α6 → α7 → α8 → α9 → α10 → α11 → α12 → γ} {kr : β → γ} {r : γ} (h : bq_or12 (.inr x) k kr = r) : kr x = r := h
theorem bq_lk_r {S R : Type} {b : S → Option (S ⊕ R)} {n : Nat} {x r : R} (h : bq_lk b n (.inr x) = some r) : x = r := Option.some.inj h
theorem bq_in2 {α1 α2 : Type} {x1 y1 : α1} {x2 y2 : α2} (h : (x1, x2) = (y1, y2)) : x1 = y1 ∧ x2 = y2 := by
  simp only [Prod.mk.injEq] at h
  exact h
theorem bq_in3 {α1 α2 α3 : Type} {x1 y1 : α1} {x2 y2 : α2} {x3 y3 : α3} (h : (x1, x2, x3) = (y1, y2, y3)) : x1 = y1 ∧ x2 = y2 ∧ x3 = y3 := by
  simp only [Prod.mk.injEq] at h
  exact h
theorem bq_in4 {α1 α2 α3 α4 : Type} {x1 y1 : α1} {x2 y2 : α2} {x3 y3 : α3} {x4 y4 : α4} (h : (x1, x2, x3, x4) = (y1, y2, y3, y4)) : x1 = y1 ∧ x2 = y2 ∧ x3 = y3 ∧ x4 = y4 := by
  simp only [Prod.mk.injEq] at h
  exact h
theorem bq_in5 {α1 α2 α3 α4 α5 : Type} {x1 y1 : α1} {x2 y2 : α2} {x3 y3 : α3} {x4 y4 : α4} {x5 y5 : α5} (h : (x1, x2, x3, x4, x5) = (y1, y2, y3, y4, y5)) : x1 = y1 ∧ x2 = y2 ∧ x3 = y3 ∧ x4 = y4 ∧ x5 = y5 := by
  simp only [Prod.mk.injEq] at h
  exact h
theorem bq_in6 {α1 α2 α3 α4 α5 α6 : Type} {x1 y1 : α1} {x2 y2 : α2} {x3 y3 : α3} {x4 y4 : α4} {x5 y5 : α5} {x6 y6 : α6} (h : (x1, x2, x3, x4, x5, x6) = (y1, y2, y3, y4, y5, y6)) : x1 = y1 ∧ x2 = y2 ∧ x3 = y3 ∧ x4 = y4 ∧ x5 = y5 ∧ x6 = y6 := by
  simp only [Prod.mk.injEq] at h
  exact h
theorem bq_in7 {α1 α2 α3 α4 α5 α6 α7 : Type} {x1 y1 : α1} {x2 y2 : α2} {x3 y3 : α3} {x4 y4 : α4} {x5 y5 : α5} {x6 y6 : α6} {x7 y7 : α7} (h : (x1, x2, x3, x4, x5, x6, x7) = (y1, y2, y3, y4, y5, y6, y7)) : x1 = y1 ∧ x2 = y2 ∧ x3 = y3 ∧ x4 = y4 ∧ x5 = y5 ∧ x6 = y6 ∧ x7 = y7 := by
  simp only [Prod.mk.injEq] at h
  exact h
theorem bq_in8 {α1 α2 α3 α4 α5 α6 α7 α8 : Type} {x1 y1 : α1} {x2 y2 : α2} {x3 y3 : α3} {x4 y4 : α4} {x5 y5 : α5} {x6 y6 : α6} {x7 y7 : α7} {x8 y8 : α8} (h : (x1, x2, x3, x4, x5, x6, x7, x8) = (y1, y2, y3, y4, y5, y6, y7, y8)) : x1 = y1 ∧ x2 = y2 ∧ x3 = y3 ∧ x4 = y4 ∧ x5 = y5 ∧ x6 = y6 ∧ x7 = y7 ∧ x8 = y8 := by
  simp only [Prod.mk.injEq] at h
  exact h
theorem bq_in9 {α1 α2 α3 α4 α5 α6 α7 α8 α9 : Type} {x1 y1 : α1} {x2 y2 : α2} {x3 y3 : α3} {x4 y4 : α4} {x5 y5 : α5} {x6 y6 : α6} {x7 y7 : α7} {x8 y8 : α8} {x9 y9 : α9} (h : (x1, x2, x3, x4, x5, x6, x7, x8, x9) = (y1, y2, y3, y4, y5, y6, y7, y8, y9)) : x1 = y1 ∧ x2 = y2 ∧ x3 = y3 ∧ x4 = y4 ∧ x5 = y5 ∧ x6 = y6 ∧ x7 = y7 ∧ x8 = y8 ∧ x9 = y9 := by
  simp only [Prod.mk.injEq] at h
  exact h
theorem bq_in10 {α1 α2 α3 α4 α5 α6 α7 α8 α9 α10 : Type} {x1 y1 : α1} {x2 y2 : α2} {x3 y3 : α3} {x4 y4 : α4} {x5 y5 : α5} {x6 y6 : α6} {x7 y7 : α7} {x8 y8 : α8} {x9 y9 : α9} {x10 y10 : α10} (h : (x1, x2, x3, x4, x5, x6, x7, x8, x9, x10) = (y1, y2, y3, y4, y5, y6, y7, y8, y9, y10)) : x1 = y1 ∧ x2 = y2 ∧ x3 = y3 ∧ x4 = y4 ∧ x5 = y5 ∧ x6 = y6 ∧ x7 = y7 ∧ x8 = y8 ∧ x9 = y9 ∧ x10 = y10 := by
  simp only [Prod.mk.injEq] at h
  exact h
theorem bq_in11 {α1 α2 α3 α4 α5 α6 α7 α8 α9 α10 α11 : Type} {x1 y1 : α1} {x2 y2 : α2} {x3 y3 : α3} {x4 y4 : α4} {x5 y5 : α5} {x6 y6 : α6} {x7 y7 : α7} {x8 y8 : α8} {x9 y9 : α9} {x10 y10 : α10} {x11 y11 : α11} (h : (x1, x2, x3, x4, x5, x6, x7, x8, x9, x10, x11) = (y1, y2, y3, y4, y5, y6, y7, y8, y9, y10, y11)) : x1 = y1 ∧ x2 = y2 ∧ x3 = y3 ∧ x4 = y4 ∧ x5 = y5 ∧ x6 = y6 ∧ x7 = y7 ∧ x8 = y8 ∧ x9 = y9 ∧ x10 = y10 ∧ x11 = y11 := by
  simp only [Prod.mk.injEq] at h
  exact h
theorem bq_in12 {α1 α2 α3 α4 α5 α6 α7 α8 α9 α10 α11 α12 : Type} {x1 y1 : α1} {x2 y2 : α2} {x3 y3 : α3} {x4 y4 : α4} {x5 y5 : α5} {x6 y6 : α6} {x7 y7 : α7} {x8 y8 : α8} {x9 y9 : α9} {x10 y10 : α10} {x11 y11 : α11} {x12 y12 : α12} (h : (x1, x2, x3, x4, x5, x6, x7, x8, x9, x10, x11, x12) = (y1, y2, y3, y4, y5, y6, y7, y8, y9, y10, y11, y12)) : x1 = y1 ∧ x2 = y2 ∧ x3 = y3 ∧ x4 = y4 ∧ x5 = y5 ∧ x6 = y6 ∧ x7 = y7 ∧ x8 = y8 ∧ x9 = y9 ∧ x10 = y10 ∧ x11 = y11 ∧ x12 = y12 := by
  simp only [Prod.mk.injEq] at h
  exact h
def bq_b13 {α1 α2 α3 α4 α5 α6 α7 α8 α9 α10 α11 α12 α13 β : Type} (x : Option (α1 × α2 × α3 × α4 × α5 × α6 × α7 × α8 × α9 × α10 × α11 × α12 × α13)) (k : α1 → α2 → α3 → α4 → α5 → α6 → α7 → α8 → α9 → α10 → α11 → α12 → α13 → Option β) : Option β := match x with
  | none => none
  | some (x1, x2, x3, x4, x5, x6, x7, x8, x9, x10, x11, x12, x13) => k x1 x2 x3 x4 x5 x6 x7 x8 x9 x10 x11 x12 x13
theorem bq_b13_el {α1 α2 α3 α4 α5 α6 α7 α8 α9 α10 α11 α12 α13 β : Type} {x : Option (α1 × α2 × α3 × α4 × α5 × α6 × α7 × α8 × α9 × α10 × α11 × α12 × α13)} {k : α1 → α2 → α3 → α4 → α5 → α6 → α7 → α8 → α9 → α10 → α11 → α12 → α13 → Option β} {r : β} (h : bq_b13 x k = some r) : ∃ (x1 : α1) (x2 : α2) (x3 : α3) (x4 : α4) (x5 : α5) (x6 : α6) (x7 : α7) (x8 : α8) (x9 : α9) (x10 : α10) (x11 : α11) (x12 : α12) (x13 : α13), x = some (x1, x2, x3, x4, x5, x6, x7, x8, x9, x10, x11, x12, x13) ∧ k x1 x2 x3 x4 x5 x6 x7 x8 x9 x10 x11 x12 x13 = some r := by
  cases x with
  | none => cases h
  | some y =>
    obtain ⟨x1, x2, x3, x4, x5, x6, x7, x8, x9, x10, x11, x12, x13⟩ := y
    exact ⟨x1, x2, x3, x4, x5, x6, x7, x8, x9, x10, x11, x12, x13, rfl, h⟩
def bq_u13 {α1 α2 α3 α4 α5 α6 α7 α8 α9 α10 α11 α12 α13 β : Type} (k : α1 → α2 → α3 → α4 → α5 → α6 → α7 → α8 → α9 → α10 → α11 → α12 → α13 → β) (x : α1 × α2 × α3 × α4 × α5 × α6 × α7 × α8 × α9 × α10 × α11 × α12 × α13) : β := k x.1 x.2.1 x.2.2.1 x.2.2.2.1 x.2.2.2.2.1 x.2.2.2.2.2.1 x.2.2.2.2.2.2.1 x.2.2.2.2.2.2.2.1 x.2.2.2.2.2.2.2.2.1 x.2.2.2.2.2.2.2.2.2.1 x.2.2.2.2.2.2.2.2.2.2.1 x.2.2.2.2.2.2.2.2.2.2.2.1 x.2.2.2.2.2.2.2.2.2.2.2.2
theorem bq_u13_el {α1 α2 α3 α4 α5 α6 α7 α8 α9 α10 α11 α12 α13 β : Type} {k : α1 → α2 → α3 → α4 → α5 → α6 → α7 → α8 → α9 → α10 → α11 → α12 → α13 → β} {B : α1 × α2 × α3 × α4 × α5 × α6 × α7 × α8 × α9 × α10 × α11 × α12 × α13 → β} {r : β} (e : B = bq_u13 k) {x1 : α1} {x2 : α2} {x3 : α3} {x4 : α4} {x5 : α5} {x6 : α6} {x7 : α7} {x8 : α8} {x9 : α9} {x10 : α10} {x11 : α11} {x12 : α12} {x13 : α13} (h : B (x1, x2, x3, x4, x5, x6, x7, x8, x9, x10, x11, x12, x13) = r) : k x1 x2 x3 x4 x5 x6 x7 x8 x9 x10 x11 x12 x13 = r := by
  subst e
  exact h
theorem bq_ap13 {α1 α2 α3 α4 α5 α6 α7 α8 α9 α10 α11 α12 α13 β : Type} {f J : α1 → α2 → α3 → α4 → α5 → α6 → α7 → α8 → α9 → α10 → α11 → α12 → α13 → β} {r : β} (e : J = f) {x1 : α1} {x2 : α2} {x3 : α3} {x4 : α4} {x5 : α5} {x6 : α6} {x7 : α7} {x8 : α8} {x9 : α9} {x10 : α10} {x11 : α11} {x12 : α12} {x13 : α13} (h : J x1 x2 x3 x4 x5 x6 x7 x8 x9 x10 x11 x12 x13 = r) : f x1 x2 x3 x4 x5 x6 x7 x8 x9 x10 x11 x12 x13 = r := e ▸ h
def bq_or13 {α1 α2 α3 α4 α5 α6 α7 α8 α9 α10 α11 α12 α13 β γ : Type} (x : (α1 × α2 × α3 × α4 × α5 × α6 × α7 × α8 × α9 × α10 × α11 × α12 × α13) ⊕ β) (k : α1 → α2 → α3 → α4 → α5 → α6 → α7 → α8 → α9 → α10 → α11 → α12 → α13 → γ) (kr : β → γ) : γ := match x with
  | .inl (x1, x2, x3, x4, x5, x6, x7, x8, x9, x10, x11, x12, x13) => k x1 x2 x3 x4 x5 x6 x7 x8 x9 x10 x11 x12 x13
  | .inr r => kr r
theorem bq_or13_l {α1 α2 α3 α4 α5 α6 α7 α8 α9 α10 α11 α12 α13 β γ : Type} {x1 : α1} {x2 : α2} {x3 : α3} {x4 : α4} {x5 : α5} {x6 : α6} {x7 : α7} {x8 : α8} {x9 : α9} {x10 : α10} {x11 : α11} {x12 : α12} {x13 : α13} {k : α1 → α2 → α3 → α4 → α5 → α6 → α7 → α8 → α9 → α10 → α11 → α12 → α13 → γ} {kr : β → γ} {r : γ} (h : bq_or13 (.inl (x1, x2, x3, x4, x5, x6, x7, x8, x9, x10, x11, x12, x13)) k kr = r) : k x1 x2 x3 x4 x5 x6 x7 x8 x9 x10 x11 x12 x13 = r := h
theorem bq_or13_r {α1 α2 α3 α4 α5 α6 α7 α8 α9 α10 α11 α12 α13 β γ : Type} {x : β} {k : α1 → α2 → α3 → α4 → α5 → α6 → α7 → α8 → α9 → α10 → α11 → α12 → α13 → γ} {kr : β → γ} {r : γ} (h : bq_or13 (.inr x) k kr = r) : kr x = r := h
theorem bq_in13 {α1 α2 α3 α4 α5 α6 α7 α8 α9 α10 α11 α12 α13 : Type} {x1 y1 : α1} {x2 y2 : α2} {x3 y3 : α3} {x4 y4 : α4} {x5 y5 : α5} {x6 y6 : α6} {x7 y7 : α7} {x8 y8 : α8} {x9 y9 : α9} {x10 y10 : α10} {x11 y11 : α11} {x12 y12 : α12} {x13 y13 : α13} (h : (x1, x2, x3, x4, x5, x6, x7, x8, x9, x10, x11, x12, x13) = (y1, y2, y3, y4, y5, y6, y7, y8, y9, y10, y11, y12, y13)) : x1 = y1 ∧ x2 = y2 ∧ x3 = y3 ∧ x4 = y4 ∧ x5 = y5 ∧ x6 = y6 ∧ x7 = y7 ∧ x8 = y8 ∧ x9 = y9 ∧ x10 = y10 ∧ x11 = y11 ∧ x12 = y12 ∧ x13 = y13 := by
  simp only [Prod.mk.injEq] at h
  exact h
def bq_b14 {α1 α2 α3 α4 α5 α6 α7 α8 α9 α10 α11 α12 α13 α14 β : Type} (x : Option (α1 × α2 × α3 × α4 × α5 × α6 × α7 × α8 × α9 × α10 × α11 × α12 × α13 × α14)) (k : α1 → α2 → α3 → α4 → α5 → α6 → α7 → α8 → α9 → α10 → α11 → α12 → α13 → α14 → Option β) : Option β := match x with
  | none => none
  | some (x1, x2, x3, x4, x5, x6, x7, x8, x9, x10, x11, x12, x13, x14) => k x1 x2 x3 x4 x5 x6 x7 x8 x9 x10 x11 x12 x13 x14
theorem bq_b14_el {α1 α2 α3 α4 α5 α6 α7 α8 α9 α10 α11 α12 α13 α14 β : Type} {x : Option (α1 × α2 × α3 × α4 × α5 × α6 × α7 × α8 × α9 × α10 × α11 × α12 × α13 × α14)} {k : α1 → α2 → α3 → α4 → α5 → α6 → α7 → α8 → α9 → α10 → α11 → α12 → α13 → α14 → Option β} {r : β} (h : bq_b14 x k = some r) : ∃ (x1 : α1) (x2 : α2) (x3 : α3) (x4 : α4) (x5 : α5) (x6 : α6) (x7 : α7) (x8 : α8) (x9 : α9) (x10 : α10) (x11 : α11) (x12 : α12) (x13 : α13) (x14 : α14), x = some (x1, x2, x3, x4, x5, x6, x7, x8, x9, x10, x11, x12, x13, x14) ∧ k x1 x2 x3 x4 x5 x6 x7 x8 x9 x10 x11 x12 x13 x14 = some r := by
  cases x with
  | none => cases h
  | some y =>
    obtain ⟨x1, x2, x3, x4, x5, x6, x7, x8, x9, x10, x11, x12, x13, x14⟩ := y
    exact ⟨x1, x2, x3, x4, x5, x6, x7, x8, x9, x10, x11, x12, x13, x14, rfl, h⟩
def bq_u14 {α1 α2 α3 α4 α5 α6 α7 α8 α9 α10 α11 α12 α13 α14 β : Type} (k : α1 → α2 → α3 → α4 → α5 → α6 → α7 → α8 → α9 → α10 → α11 → α12 → α13 → α14 → β) (x : α1 × α2 × α3 × α4 × α5 × α6 × α7 × α8 × α9 × α10 × α11 × α12 × α13 × α14) : β := k x.1 x.2.1 x.2.2.1 x.2.2.2.1 x.2.2.2.2.1 x.2.2.2.2.2.1 x.2.2.2.2.2.2.1 x.2.2.2.2.2.2.2.1 x.2.2.2.2.2.2.2.2.1 x.2.2.2.2.2.2.2.2.2.1 x.2.2.2.2.2.2.2.2.2.2.1 x.2.2.2.2.2.2.2.2.2.2.2.1 x.2.2.2.2.2.2.2.2.2.2.2.2.1 x.2.2.2.2.2.2.2.2.2.2.2.2.2
theorem bq_u14_el {α1 α2 α3 α4 α5 α6 α7 α8 α9 α10 α11 α12 α13 α14 β : Type} {k : α1 → α2 → α3 → α4 → α5 → α6 → α7 → α8 → α9 → α10 → α11 → α12 → α13 → α14 → β} {B : α1 × α2 × α3 × α4 × α5 × α6 × α7 × α8 × α9 × α10 × α11 × α12 × α13 × α14 → β} {r : β} (e : B = bq_u14 k) {x1 : α1} {x2 : α2} {x3 : α3} {x4 : α4} {x5 : α5} {x6 : α6} {x7 : α7} {x8 : α8} {x9 : α9} {x10 : α10} {x11 : α11} {x12 : α12} {x13 : α13} {x14 : α14} (h : B (x1, x2, x3, x4, x5, x6, x7, x8, x9, x10, x11, x12, x13, x14) = r) : k x1 x2 x3 x4 x5 x6 x7 x8 x9 x10 x11 x12 x13 x14 = r := by
  subst e
  exact h
theorem bq_ap14 {α1 α2 α3 α4 α5 α6 α7 α8 α9 α10 α11 α12 α13 α14 β : Type} {f J : α1 → α2 → α3 → α4 → α5 → α6 → α7 → α8 → α9 → α10 → α11 → α12 → α13 → α14 → β} {r : β} (e : J = f) {x1 : α1} {x2 : α2} {x3 : α3} {x4 : α4} {x5 : α5} {x6 : α6} {x7 : α7} {x8 : α8} {x9 : α9} {x10 : α10} {x11 : α11} {x12 : α12} {x13 : α13} {x14 : α14} (h : J x1 x2 x3 x4 x5 x6 x7 x8 x9 x10 x11 x12 x13 x14 = r) : f x1 x2 x3 x4 x5 x6 x7 x8 x9 x10 x11 x12 x13 x14 = r := e ▸ h
def bq_or14 {α1 α2 α3 α4 α5 α6 α7 α8 α9 α10 α11 α12 α13 α14 β γ : Type} (x : (α1 × α2 × α3 × α4 × α5 × α6 × α7 × α8 × α9 × α10 × α11 × α12 × α13 × α14) ⊕ β) (k : α1 → α2 → α3 → α4 → α5 → α6 → α7 → α8 → α9 → α10 → α11 → α12 → α13 → α14 → γ) (kr : β → γ) : γ := match x with
  | .inl (x1, x2, x3, x4, x5, x6, x7, x8, x9, x10, x11, x12, x13, x14) => k x1 x2 x3 x4 x5 x6 x7 x8 x9 x10 x11 x12 x13 x14
  | .inr r => kr r
theorem bq_or14_l {α1 α2 α3 α4 α5 α6 α7 α8 α9 α10 α11 α12 α13 α14 β γ : Type} {x1 : α1} {x2 : α2} {x3 : α3} {x4 : α4} {x5 : α5} {x6 : α6} {x7 : α7} {x8 : α8} {x9 : α9} {x10 : α10} {x11 : α11} {x12 : α12} {x13 : α13} {x14 : α14} {k : α1 → α2 → α3 → α4 → α5 → α6 → α7 → α8 → α9 → α10 → α11 → α12 → α13 → α14 → γ} {kr : β → γ} {r : γ} (h : bq_or14 (.inl (x1, x2, x3, x4, x5, x6, x7, x8, x9, x10, x11, x12, x13, x14)) k kr = r) : k x1 x2 x3 x4 x5 x6 x7 x8 x9 x10 x11 x12 x13 x14 = r := h
theorem bq_or14_r {α1 α2 α3 α4 α5 α6 α7 α8 α9 α10 α11 α12 α13 α14 β γ : Type} {x : β} {k : α1 → α2 → α3 → α4 → α5 → α6 → α7 → α8 → α9 → α10 → α11 → α12 → α13 → α14 → γ} {kr : β → γ} {r : γ} (h : bq_or14 (.inr x) k kr = r) : kr x = r := h
theorem bq_in14 {α1 α2 α3 α4 α5 α6 α7 α8 α9 α10 α11 α12 α13 α14 : Type} {x1 y1 : α1} {x2 y2 : α2} {x3 y3 : α3} {x4 y4 : α4} {x5 y5 : α5} {x6 y6 : α6} {x7 y7 : α7} {x8 y8 : α8} {x9 y9 : α9} {x10 y10 : α10} {x11 y11 : α11} {x12 y12 : α12} {x13 y13 : α13} {x14 y14 : α14} (h : (x1, x2, x3, x4, x5, x6, x7, x8, x9, x10, x11, x12, x13, x14) = (y1, y2, y3, y4, y5, y6, y7, y8, y9, y10, y11, y12, y13, y14)) : x1 = y1 ∧ x2 = y2 ∧ x3 = y3 ∧ x4 = y4 ∧ x5 = y5 ∧ x6 = y6 ∧ x7 = y7 ∧ x8 = y8 ∧ x9 = y9 ∧ x10 = y10 ∧ x11 = y11 ∧ x12 = y12 ∧ x13 = y13 ∧ x14 = y14 := by
  simp only [Prod.mk.injEq] at h
  exact h
def bq_b15 {α1 α2 α3 α4 α5 α6 α7 α8 α9 α10 α11 α12 α13 α14 α15 β : Type} (x : Option (α1 × α2 × α3 × α4 × α5 × α6 × α7 × α8 × α9 × α10 × α11 × α12 × α13 × α14 × α15)) (k : α1 → α2 → α3 → α4 → α5 → α6 → α7 → α8 → α9 → α10 → α11 → α12 → α13 → α14 → α15 → Option β) : Option β := match x with
  | none => none
  | some (x1, x2, x3, x4, x5, x6, x7, x8, x9, x10, x11, x12, x13, x14, x15) => k x1 x2 x3 x4 x5 x6 x7 x8 x9 x10 x11 x12 x13 x14 x15
theorem bq_b15_el {α1 α2 α3 α4 α5 α6 α7 α8 α9 α10 α11 α12 α13 α14 α15 β : Type} {x : Option (α1 × α2 × α3 × α4 × α5 × α6 × α7 × α8 × α9 × α10 × α11 × α12 × α13 × α14 × α15)} {k : α1 → α2 → α3 → α4 → α5 → α6 → α7 → α8 → α9 → α10 → α11 → α12 → α13 → α14 → α15 → Option β} {r : β} (h : bq_b15 x k = some r) : ∃ (x1 : α1) (x2 : α2) (x3 : α3) (x4 : α4) (x5 : α5) (x6 : α6) (x7 : α7) (x8 : α8) (x9 : α9) (x10 : α10) (x11 : α11) (x12 : α12) (x13 : α13) (x14 : α14) (x15 : α15), x = some (x1, x2, x3, x4, x5, x6, x7, x8, x9, x10, x11, x12, x13, x14, x15) ∧ k x1 x2 x3 x4 x5 x6 x7 x8 x9 x10 x11 x12 x13 x14 x15 = some r := by
  cases x with
  | none => cases h
  | some y =>
    obtain ⟨x1, x2, x3, x4, x5, x6, x7, x8, x9, x10, x11, x12, x13, x14, x15⟩ := y
    exact ⟨x1, x2, x3, x4, x5, x6, x7, x8, x9, x10, x11, x12, x13, x14, x15, rfl, h⟩
def bq_u15 {α1 α2 α3 α4 α5 α6 α7 α8 α9 α10 α11 α12 α13 α14 α15 β : Type} (k : α1 → α2 → α3 → α4 → α5 → α6 → α7 → α8 → α9 → α10 → α11 → α12 → α13 → α14 → α15 → β) (x : α1 × α2 × α3 × α4 × α5 × α6 × α7 × α8 × α9 × α10 × α11 × α12 × α13 × α14 × α15) : β := k x.1 x.2.1 x.2.2.1 x.2.2.2.1 x.2.2.2.2.1 x.2.2.2.2.2.1 x.2.2.2.2.2.2.1 x.2.2.2.2.2.2.2.1 x.2.2.2.2.2.2.2.2.1 x.2.2.2.2.2.2.2.2.2.1 x.2.2.2.2.2.2.2.2.2.2.1 x.2.2.2.2.2.2.2.2.2.2.2.1 x.2.2.2.2.2.2.2.2.2.2.2.2.1 x.2.2.2.2.2.2.2.2.2.2.2.2.2.1 x.2.2.2.2.2.2.2.2.2.2.2.2.2.2
theorem bq_u15_el {α1 α2 α3 α4 α5 α6 α7 α8 α9 α10 α11 α12 α13 α14 α15 β : Type} {k : α1 → α2 → α3 → α4 → α5 → α6 → α7 → α8 → α9 → α10 → α11 → α12 → α13 → α14 → α15 → β} {B : α1 × α2 × α3 × α4 × α5 × α6 × α7 × α8 × α9 × α10 × α11 × α12 × α13 × α14 × α15 → β} {r : β} (e : B = bq_u15 k) {x1 : α1} {x2 : α2} {x3 : α3} {x4 : α4} {x5 : α5} {x6 : α6} {x7 : α7} {x8 : α8} {x9 : α9} {x10 : α10} {x11 : α11} {x12 : α12} {x13 : α13} {x14 : α14} {x15 : α15} (h : B (x1, x2, x3, x4, x5, x6, x7, x8, x9, x10, x11, x12, x13, x14, x15) = r) : k x1 x2 x3 x4 x5 x6 x7 x8 x9 x10 x11 x12 x13 x14 x15 = r := by
  subst e
  exact h
theorem bq_ap15 {α1 α2 α3 α4 α5 α6 α7 α8 α9 α10 α11 α12 α13 α14 α15 β : Type} {f J : α1 → α2 → α3 → α4 → α5 → α6 → α7 → α8 → α9 → α10 → α11 → α12 → α13 → α14 → α15 → β} {r : β} (e : J = f) {x1 : α1} {x2 : α2} {x3 : α3} {x4 : α4} {x5 : α5} {x6 : α6} {x7 : α7} {x8 : α8} {x9 : α9} {x10 : α10} {x11 : α11} {x12 : α12} {x13 : α13} {x14 : α14} {x15 : α15} (h : J x1 x2 x3 x4 x5 x6 x7 x8 x9 x10 x11 x12 x13 x14 x15 = r) : f x1 x2 x3 x4 x5 x6 x7 x8 x9 x10 x11 x12 x13 x14 x15 = r := e ▸ h
def bq_or15 {α1 α2 α3 α4 α5 α6 α7 α8 α9 α10 α11 α12 α13 α14 α15 β γ : Type} (x : (α1 × α2 × α3 × α4 × α5 × α6 × α7 × α8 × α9 × α10 × α11 × α12 × α13 × α14 × α15) ⊕ β) (k : α1 → α2 → α3 → α4 → α5 → α6 → α7 → α8 → α9 → α10 → α11 → α12 → α13 → α14 → α15 → γ) (kr : β → γ) : γ := match x with
  | .inl (x1, x2, x3, x4, x5, x6, x7, x8, x9, x10, x11, x12, x13, x14, x15) => k x1 x2 x3 x4 x5 x6 x7 x8 x9 x10 x11 x12 x13 x14 x15
  | .inr r => kr r
theorem bq_or15_l {α1 α2 α3 α4 α5 α6 α7 α8 α9 α10 α11 α12 α13 α14 α15 β γ : Type} {x1 : α1} {x2 : α2} {x3 : α3} {x4 : α4} {x5 : α5} {x6 : α6} {x7 : α7} {x8 : α8} {x9 : α9} {x10 : α10} {x11 : α11} {x12 : α12} {x13 : α13} {x14 : α14} {x15 : α15} {k : α1 → α2 → α3 → α4 → α5 → α6 → α7 → α8 → α9 → α10 → α11 → α12 → α13 → α14 → α15 → γ} {kr : β → γ} {r : γ} (h : bq_or15 (.inl (x1, x2, x3, x4, x5, x6, x7, x8, x9, x10, x11, x12, x13, x14, x15)) k kr = r) : k x1 x2 x3 x4 x5 x6 x7 x8 x9 x10 x11 x12 x13 x14 x15 = r := h
theorem bq_or15_r {α1 α2 α3 α4 α5 α6 α7 α8 α9 α10 α11 α12 α13 α14 α15 β γ : Type} {x : β} {k : α1 → α2 → α3 → α4 → α5 → α6 → α7 → α8 → α9 → α10 → α11 → α12 → α13 → α14 → α15 → γ} {kr : β → γ} {r : γ} (h : bq_or15 (.inr x) k kr = r) : kr x = r := h
theorem bq_in15 {α1 α2 α3 α4 α5 α6 α7 α8 α9 α10 α11 α12 α13 α14 α15 : Type} {x1 y1 : α1} {x2 y2 : α2} {x3 y3 : α3} {x4 y4 : α4} {x5 y5 : α5} {x6 y6 : α6} {x7 y7 : α7} {x8 y8 : α8} {x9 y9 : α9} {x10 y10 : α10} {x11 y11 : α11} {x12 y12 : α12} {x13 y13 : α13} {x14 y14 : α14} {x15 y15 : α15} (h : (x1, x2, x3, x4, x5, x6, x7, x8, x9, x10, x11, x12, x13, x14, x15) = (y1, y2, y3, y4, y5, y6, y7, y8, y9, y10, y11, y12, y13, y14, y15)) : x1 = y1 ∧ x2 = y2 ∧ x3 = y3 ∧ x4 = y4 ∧ x5 = y5 ∧ x6 = y6 ∧ x7 = y7 ∧ x8 = y8 ∧ x9 = y9 ∧ x10 = y10 ∧ x11 = y11 ∧ x12 = y12 ∧ x13 = y13 ∧ x14 = y14 ∧ x15 = y15 := by
  simp only [Prod.mk.injEq] at h
  exact h
def bq_b16 {α1 α2 α3 α4 α5 α6 α7 α8 α9 α10 α11 α12 α13 α14 α15 α16 β : Type} (x : Option (α1 × α2 × α3 × α4 × α5 × α6 × α7 × α8 × α9 × α10 × α11 × α12 × α13 × α14 × α15 × α16)) (k : α1 → α2 → α3 → α4 → α5 → α6 → α7 → α8 → α9 → α10 → α11 → α12 → α13 → α14 → α15 → α16 → Option β) : Option β := match x with
  | none => none
  | some (x1, x2, x3, x4, x5, x6, x7, x8, x9, x10, x11, x12, x13, x14, x15, x16) => k x1 x2 x3 x4 x5 x6 x7 x8 x9 x10 x11 x12 x13 x14 x15 x16
theorem bq_b16_el {α1 α2 α3 α4 α5 α6 α7 α8 α9 α10 α11 α12 α13 α14 α15 α16 β : Type} {x : Option (α1 × α2 × α3 × α4 × α5 × α6 × α7 × α8 × α9 × α10 × α11 × α12 × α13 × α14 × α15 × α16)} {k : α1 → α2 → α3 → α4 → α5 → α6 → α7 → α8 → α9 → α10 → α11 → α12 → α13 → α14 → α15 → α16 → Option β} {r : β} (h : bq_b16 x k = some r) : ∃ (x1 : α1) (x2 : α2) (x3 : α3) (x4 : α4) (x5 : α5) (x6 : α6) (x7 : α7) (x8 : α8) (x9 : α9) (x10 : α10) (x11 : α11) (x12 : α12) (x13 : α13) (x14 : α14) (x15 : α15) (x16 : α16), x = some (x1, x2, x3, x4, x5, x6, x7, x8, x9, x10, x11, x12, x13, x14, x15, x16) ∧ k x1 x2 x3 x4 x5 x6 x7 x8 x9 x10 x11 x12 x13 x14 x15 x16 = some r := by
  cases x with
  | none => cases h
  | some y =>
    obtain ⟨x1, x2, x3, x4, x5, x6, x7, x8, x9, x10, x11, x12, x13, x14, x15, x16⟩ := y
    exact ⟨x1, x2, x3, x4, x5, x6, x7, x8, x9, x10, x11, x12, x13, x14, x15, x16, rfl, h⟩
def bq_u16 {α1 α2 α3 α4 α5 α6 α7 α8 α9 α10 α11 α12 α13 α14 α15 α16 β : Type} (k : α1 → α2 → α3 → α4 → α5 → α6 → α7 → α8 → α9 → α10 → α11 → α12 → α13 → α14 → α15 → α16 → β) (x : α1 × α2 × α3 × α4 × α5 × α6 × α7 × α8 × α9 × α10 × α11 × α12 × α13 × α14 × α15 × α16) : β := k x.1 x.2.1 x.2.2.1 x.2.2.2.1 x.2.2.2.2.1 x.2.2.2.2.2.1 x.2.2.2.2.2.2.1 x.2.2.2.2.2.2.2.1 x.2.2.2.2.2.2.2.2.1 x.2.2.2.2.2.2.2.2.2.1 x.2.2.2.2.2.2.2.2.2.2.1 x.2.2.2.2.2.2.2.2.2.2.2.1 x.2.2.2.2.2.2.2.2.2.2.2.2.1 x.2.2.2.2.2.2.2.2.2.2.2.2.2.1 x.2.2.2.2.2.2.2.2.2.2.2.2.2.2.1 x.2.2.2.2.2.2.2.2.2.2.2.2.2.2.2
theorem bq_u16_el {α1 α2 α3 α4 α5 α6 α7 α8 α9 α10 α11 α12 α13 α14 α15 α16 β : Type} {k : α1 → α2 → α3 → α4 → α5 → α6 → α7 → α8 → α9 → α10 → α11 → α12 → α13 → α14 → α15 → α16 → β} {B : α1 × α2 × α3 × α4 × α5 × α6 × α7 × α8 × α9 × α10 × α11 × α12 × α13 × α14 × α15 × α16 → β} {r : β} (e : B = bq_u16 k) {x1 : α1} {x2 : α2} {x3 : α3} {x4 : α4} {x5 : α5} {x6 : α6} {x7 : α7} {x8 : α8} {x9 : α9} {x10 : α10} {x11 : α11} {x12 : α12} {x13 : α13} {x14 : α14} {x15 : α15} {x16 : α16} (h : B (x1, x2, x3, x4, x5, x6, x7, x8, x9, x10, x11, x12, x13, x14, x15, x16) = r) : k x1 x2 x3 x4 x5 x6 x7 x8 x9 x10 x11 x12 x13 x14 x15 x16 = r := by
  subst e
  exact h
theorem bq_ap16 {α1 α2 α3 α4 α5 α6 α7 α8 α9 α10 α11 α12 α13 α14 α15 α16 β : Type} {f J : α1 → α2 → α3 → α4 → α5 → α6 → α7 → α8 → α9 → α10 → α11 → α12 → α13 → α14 → α15 → α16 → β} {r : β} (e : J = f) {x1 : α1} {x2 : α2} {x3 : α3} {x4 : α4} {x5 : α5} {x6 : α6} {x7 : α7} {x8 : α8} {x9 : α9} {x10 : α10} {x11 : α11} {x12 : α12} {x13 : α13} {x14 : α14} {x15 : α15} {x16 : α16} (h : J x1 x2 x3 x4 x5 x6 x7 x8 x9 x10 x11 x12 x13 x14 x15 x16 = r) : f x1 x2 x3 x4 x5 x6 x7 x8 x9 x10 x11 x12 x13 x14 x15 x16 = r := e ▸ h
def bq_or16 {α1 α2 α3 α4 α5 α6 α7 α8 α9 α10 α11 α12 α13 α14 α15 α16 β γ : Type} (x : (α1 × α2 × α3 × α4 × α5 × α6 × α7 × α8 × α9 × α10 × α11 × α12 × α13 × α14 × α15 × α16) ⊕ β) (k : α1 → α2 → α3 → α4 → α5 → α6 → α7 → α8 → α9 → α10 → α11 → α12 → α13 → α14 → α15 → α16 → γ) (kr : β → γ) : γ := match x with
  | .inl (x1, x2, x3, x4, x5, x6, x7, x8, x9, x10, x11, x12, x13, x14, x15, x16) => k x1 x2 x3 x4 x5 x6 x7 x8 x9 x10 x11 x12 x13 x14 x15 x16
  | .inr r => kr r
theorem bq_or16_l {α1 α2 α3 α4 α5 α6 α7 α8 α9 α10 α11 α12 α13 α14 α15 α16 β γ : Type} {x1 : α1} {x2 : α2} {x3 : α3} {x4 : α4} {x5 : α5} {x6 : α6} {x7 : α7} {x8 : α8} {x9 : α9} {x10 : α10} {x11 : α11} {x12 : α12} {x13 : α13} {x14 : α14} {x15 : α15} {x16 : α16} {k : α1 → α2 → α3 → α4 → α5 → α6 → α7 → α8 → α9 → α10 → α11 → α12 → α13 → α14 → α15 → α16 → γ} {kr : β → γ} {r : γ} (h : bq_or16 (.inl (x1, x2, x3, x4, x5, x6, x7, x8, x9, x10, x11, x12, x13, x14, x15, x16)) k kr = r) : k x1 x2 x3 x4 x5 x6 x7 x8 x9 x10 x11 x12 x13 x14 x15 x16 = r := h
theorem bq_or16_r {α1 α2 α3 α4 α5 α6 α7 α8 α9 α10 α11 α12 α13 α14 α15 α16 β γ : Type} {x : β} {k : α1 → α2 → α3 → α4 → α5 → α6 → α7 → α8 → α9 → α10 → α11 → α12 → α13 → α14 → α15 → α16 → γ} {kr : β → γ} {r : γ} (h : bq_or16 (.inr x) k kr = r) : kr x = r := h
theorem bq_in16 {α1 α2 α3 α4 α5 α6 α7 α8 α9 α10 α11 α12 α13 α14 α15 α16 : Type} {x1 y1 : α1} {x2 y2 : α2} {x3 y3 : α3} {x4 y4 : α4} {x5 y5 : α5} {x6 y6 : α6} {x7 y7 : α7} {x8 y8 : α8} {x9 y9 : α9} {x10 y10 : α10} {x11 y11 : α11} {x12 y12 : α12} {x13 y13 : α13} {x14 y14 : α14} {x15 y15 : α15} {x16 y16 : α16} (h : (x1, x2, x3, x4, x5, x6, x7, x8, x9, x10, x11, x12, x13, x14, x15, x16) = (y1, y2, y3, y4, y5, y6, y7, y8, y9, y10, y11, y12, y13, y14, y15, y16)) : x1 = y1 ∧ x2 = y2 ∧ x3 = y3 ∧ x4 = y4 ∧ x5 = y5 ∧ x6 = y6 ∧ x7 = y7 ∧ x8 = y8 ∧ x9 = y9 ∧ x10 = y10 ∧ x11 = y11 ∧ x12 = y12 ∧ x13 = y13 ∧ x14 = y14 ∧ x15 = y15 ∧ x16 = y16 := by
  simp only [Prod.mk.injEq] at h
  exact h
def bq_b17 {α1 α2 α3 α4 α5 α6 α7 α8 α9 α10 α11 α12 α13 α14 α15 α16 α17 β : Type} (x : Option (α1 × α2 × α3 × α4 × α5 × α6 × α7 × α8 × α9 × α10 × α11 × α12 × α13 × α14 × α15 × α16 × α17)) (k : α1 → α2 → α3 → α4 → α5 → α6 → α7 → α8 → α9 → α10 → α11 → α12 → α13 → α14 → α15 → α16 → α17 → Option β) : Option β := match x with
  | none => none
  | some (x1, x2, x3, x4, x5, x6, x7, x8, x9, x10, x11, x12, x13, x14, x15, x16, x17) => k x1 x2 x3 x4 x5 x6 x7 x8 x9 x10 x11 x12 x13 x14 x15 x16 x17
theorem bq_b17_el {α1 α2 α3 α4 α5 α6 α7 α8 α9 α10 α11 α12 α13 α14 α15 α16 α17 β : Type} {x : Option (α1 × α2 × α3 × α4 × α5 × α6 × α7 × α8 × α9 × α10 × α11 × α12 × α13 × α14 × α15 × α16 × α17)} {k : α1 → α2 → α3 → α4 → α5 → α6 → α7 → α8 → α9 → α10 → α11 → α12 → α13 → α14 → α15 → α16 → α17 → Option β} {r : β} (h : bq_b17 x k = some r) : ∃ (x1 : α1) (x2 : α2) (x3 : α3) (x4 : α4) (x5 : α5) (x6 : α6) (x7 : α7) (x8 : α8) (x9 : α9) (x10 : α10) (x11 : α11) (x12 : α12) (x13 : α13) (x14 : α14) (x15 : α15) (x16 : α16) (x17 : α17), x = some (x1, x2, x3, x4, x5, x6, x7, x8, x9, x10, x11, x12, x13, x14, x15, x16, x17) ∧ k x1 x2 x3 x4 x5 x6 x7 x8 x9 x10 x11 x12 x13 x14 x15 x16 x17 = some r := by
  cases x with
  | none => cases h
  | some y =>
    obtain ⟨x1, x2, x3, x4, x5, x6, x7, x8, x9, x10, x11, x12, x13, x14, x15, x16, x17⟩ := y
    exact ⟨x1, x2, x3, x4, x5, x6, x7, x8, x9, x10, x11, x12, x13, x14, x15, x16, x17, rfl, h⟩
def bq_u17 {α1 α2 α3 α4 α5 α6 α7 α8 α9 α10 α11 α12 α13 α14 α15 α16 α17 β : Type} (k : α1 → α2 → α3 → α4 → α5 → α6 → α7 → α8 → α9 → α10 → α11 → α12 → α13 → α14 → α15 → α16 → α17 → β) (x : α1 × α2 × α3 × α4 × α5 × α6 × α7 × α8 × α9 × α10 × α11 × α12 × α13 × α14 × α15 × α16 × α17) : β := k x.1 x.2.1 x.2.2.1 x.2.2.2.1 x.2.2.2.2.1 x.2.2.2.2.2.1 x.2.2.2.2.2.2.1 x.2.2.2.2.2.2.2.1 x.2.2.2.2.2.2.2.2.1 x.2.2.2.2.2.2.2.2.2.1 x.2.2.2.2.2.2.2.2.2.2.1 x.2.2.2.2.2.2.2.2.2.2.2.1 x.2.2.2.2.2.2.2.2.2.2.2.2.1 x.2.2.2.2.2.2.2.2.2.2.2.2.2.1 x.2.2.2.2.2.2.2.2.2.2.2.2.2.2.1 x.2.2.2.2.2.2.2.2.2.2.2.2.2.2.2.1 x.2.2.2.2.2.2.2.2.2.2.2.2.2.2.2.2
theorem bq_u17_el {α1 α2 α3 α4 α5 α6 α7 α8 α9 α10 α11 α12 α13 α14 α15 α16 α17 β : Type} {k : α1 → α2 → α3 → α4 → α5 → α6 → α7 → α8 → α9 → α10 → α11 → α12 → α13 → α14 → α15 → α16 → α17 → β} {B : α1 × α2 × α3 × α4 × α5 × α6 × α7 × α8 × α9 × α10 × α11 × α12 × α13 × α14 × α15 × α16 × α17 → β} {r : β} (e : B = bq_u17 k) {x1 : α1} {x2 : α2} {x3 : α3} {x4 : α4} {x5 : α5} {x6 : α6} {x7 : α7} {x8 : α8} {x9 : α9} {x10 : α10} {x11 : α11} {x12 : α12} {x13 : α13} {x14 : α14} {x15 : α15} {x16 : α16} {x17 : α17} (h : B (x1, x2, x3, x4, x5, x6, x7, x8, x9, x10, x11, x12, x13, x14, x15, x16, x17) = r) : k x1 x2 x3 x4 x5 x6 x7 x8 x9 x10 x11 x12 x13 x14 x15 x16 x17 = r := by
  subst e
  exact h
theorem bq_ap17 {α1 α2 α3 α4 α5 α6 α7 α8 α9 α10 α11 α12 α13 α14 α15 α16 α17 β : Type} {f J : α1 → α2 → α3 → α4 → α5 → α6 → α7 → α8 → α9 → α10 → α11 → α12 → α13 → α14 → α15 → α16 → α17 → β} {r : β} (e : J = f) {x1 : α1} {x2 : α2} {x3 : α3} {x4 : α4} {x5 : α5} {x6 : α6} {x7 : α7} {x8 : α8} {x9 : α9} {x10 : α10} {x11 : α11} {x12 : α12} {x13 : α13} {x14 : α14} {x15 : α15} {x16 : α16} {x17 : α17} (h : J x1 x2 x3 x4 x5 x6 x7 x8 x9 x10 x11 x12 x13 x14 x15 x16 x17 = r) : f x1 x2 x3 x4 x5 x6 x7 x8 x9 x10 x11 x12 x13 x14 x15 x16 x17 = r := e ▸ h
def bq_or17 {α1 α2 α3 α4 α5 α6 α7 α8 α9 α10 α11 α12 α13 α14 α15 α16 α17 β γ : Type} (x : (α1 × α2 × α3 × α4 × α5 × α6 × α7 × α8 × α9 × α10 × α11 × α12 × α13 × α14 × α15 × α16 × α17) ⊕ β) (k : α1 → α2 → α3 → α4 → α5 → α6 → α7 → α8 → α9 → α10 → α11 → α12 → α13 → α14 → α15 → α16 → α17 → γ) (kr : β → γ) : γ := match x with
  | .inl (x1, x2, x3, x4, x5, x6, x7, x8, x9, x10, x11, x12, x13, x14, x15, x16, x17) => k x1 x2 x3 x4 x5 x6 x7 x8 x9 x10 x11 x12 x13 x14 x15 x16 x17
  | .inr r => kr r
theorem bq_or17_l {α1 α2 α3 α4 α5 α6 α7 α8 α9 α10 α11 α12 α13 α14 α15 α16 α17 β γ : Type} {x1 : α1} {x2 : α2} {x3 : α3} {x4 : α4} {x5 : α5} {x6 : α6} {x7 : α7} {x8 : α8} {x9 : α9} {x10 : α10} {x11 : α11} {x12 : α12} {x13 : α13} {x14 : α14} {x15 : α15} {x16 : α16} {x17 : α17} {k : α1 → α2 → α3 → α4 → α5 → α6 → α7 → α8 → α9 → α10 → α11 → α12 → α13 → α14 → α15 → α16 → α17 → γ} {kr : β → γ} {r : γ} (h : bq_or17 (.inl (x1, x2, x3, x4, x5, x6, x7, x8, x9, x10, x11, x12, x13, x14, x15, x16, x17)) k kr = r) : k x1 x2 x3 x4 x5 x6 x7 x8 x9 x10 x11 x12 x13 x14 x15 x16 x17 = r := h
theorem bq_or17_r {α1 α2 α3 α4 α5 α6 α7 α8 α9 α10 α11 α12 α13 α14 α15 α16 α17 β γ : Type} {x : β} {k : α1 → α2 → α3 → α4 → α5 → α6 → α7 → α8 → α9 → α10 → α11 → α12 → α13 → α14 → α15 → α16 → α17 → γ} {kr : β → γ} {r : γ} (h : bq_or17 (.inr x) k kr = r) : kr x = r := h
theorem bq_in17 {α1 α2 α3 α4 α5 α6 α7 α8 α9 α10 α11 α12 α13 α14 α15 α16 α17 : Type} {x1 y1 : α1} {x2 y2 : α2} {x3 y3 : α3} {x4 y4 : α4} {x5 y5 : α5} {x6 y6 : α6} {x7 y7 : α7} {x8 y8 : α8} {x9 y9 : α9} {x10 y10 : α10} {x11 y11 : α11} {x12 y12 : α12} {x13 y13 : α13} {x14 y14 : α14} {x15 y15 : α15} {x16 y16 : α16} {x17 y17 : α17} (h : (x1, x2, x3, x4, x5, x6, x7, x8, x9, x10, x11, x12, x13, x14, x15, x16, x17) = (y1, y2, y3, y4, y5, y6, y7, y8, y9, y10, y11, y12, y13, y14, y15, y16, y17)) : x1 = y1 ∧ x2 = y2 ∧ x3 = y3 ∧ x4 = y4 ∧ x5 = y5 ∧ x6 = y6 ∧ x7 = y7 ∧ x8 = y8 ∧ x9 = y9 ∧ x10 = y10 ∧ x11 = y11 ∧ x12 = y12 ∧ x13 = y13 ∧ x14 = y14 ∧ x15 = y15 ∧ x16 = y16 ∧ x17 = y17 := by
  simp only [Prod.mk.injEq] at h
  exact h
def bq_b18 {α1 α2 α3 α4 α5 α6 α7 α8 α9 α10 α11 α12 α13 α14 α15 α16 α17 α18 β : Type} (x : Option (α1 × α2 × α3 × α4 × α5 × α6 × α7 × α8 × α9 × α10 × α11 × α12 × α13 × α14 × α15 × α16 × α17 × α18)) (k : α1 → α2 → α3 → α4 → α5 → α6 → α7 → α8 → α9 → α10 → α11 → α12 → α13 → α14 → α15 → α16 → α17 → α18 → Option β) : Option β := match x with
  | none => none
  | some (x1, x2, x3, x4, x5, x6, x7, x8, x9, x10, x11, x12, x13, x14, x15, x16, x17, x18) => k x1 x2 x3 x4 x5 x6 x7 x8 x9 x10 x11 x12 x13 x14 x15 x16 x17 x18
theorem bq_b18_el {α1 α2 α3 α4 α5 α6 α7 α8 α9 α10 α11 α12 α13 α14 α15 α16 α17 α18 β : Type} {x : Option (α1 × α2 × α3 × α4 × α5 × α6 × α7 × α8 × α9 × α10 × α11 × α12 × α13 × α14 × α15 × α16 × α17 × α18)} {k : α1 → α2 → α3 → α4 → α5 → α6 → α7 → α8 → α9 → α10 → α11 → α12 → α13 → α14 → α15 → α16 → α17 → α18 → Option β} {r : β} (h : bq_b18 x k = some r) : ∃ (x1 : α1) (x2 : α2) (x3 : α3) (x4 : α4) (x5 : α5) (x6 : α6) (x7 : α7) (x8 : α8) (x9 : α9) (x10 : α10) (x11 : α11) (x12 : α12) (x13 : α13) (x14 : α14) (x15 : α15) (x16 : α16) (x17 : α17) (x18 : α18), x = some (x1, x2, x3, x4, x5, x6, x7, x8, x9, x10, x11, x12, x13, x14, x15, x16, x17, x18) ∧ k x1 x2 x3 x4 x5 x6 x7 x8 x9 x10 x11 x12 x13 x14 x15 x16 x17 x18 = some r := by
  cases x with
  | none => cases h
  | some y =>
    obtain ⟨x1, x2, x3, x4, x5, x6, x7, x8, x9, x10, x11, x12, x13, x14, x15, x16, x17, x18⟩ := y
    exact ⟨x1, x2, x3, x4, x5, x6, x7, x8, x9, x10, x11, x12, x13, x14, x15, x16, x17, x18, rfl, h⟩
def bq_u18 {α1 α2 α3 α4 α5 α6 α7 α8 α9 α10 α11 α12 α13 α14 α15 α16 α17 α18 β : Type} (k : α1 → α2 → α3 → α4 → α5 → α6 → α7 → α8 → α9 → α10 → α11 → α12 → α13 → α14 → α15 → α16 → α17 → α18 → β) (x : α1 × α2 × α3 × α4 × α5 × α6 × α7 × α8 × α9 × α10 × α11 × α12 × α13 × α14 × α15 × α16 × α17 × α18) : β := k x.1 x.2.1 x.2.2.1 x.2.2.2.1 x.2.2.2.2.1 x.2.2.2.2.2.1 x.2.2.2.2.2.2.1 x.2.2.2.2.2.2.2.1 x.2.2.2.2.2.2.2.2.1 x.2.2.2.2.2.2.2.2.2.1 x.2.2.2.2.2.2.2.2.2.2.1 x.2.2.2.2.2.2.2.2.2.2.2.1 x.2.2.2.2.2.2.2.2.2.2.2.2.1 x.2.2.2.2.2.2.2.2.2.2.2.2.2.1 x.2.2.2.2.2.2.2.2.2.2.2.2.2.2.1 x.2.2.2.2.2.2.2.2.2.2.2.2.2.2.2.1 x.2.2.2.2.2.2.2.2.2.2.2.2.2.2.2.2.1 x.2.2.2.2.2.2.2.2.2.2.2.2.2.2.2.2.2
theorem bq_u18_el {α1 α2 α3 α4 α5 α6 α7 α8 α9 α10 α11 α12 α13 α14 α15 α16 α17 α18 β : Type} {k : α1 → α2 → α3 → α4 → α5 → α6 → α7 → α8 → α9 → α10 → α11 → α12 → α13 → α14 → α15 → α16 → α17 → α18 → β} {B : α1 × α2 × α3 × α4 × α5 × α6 × α7 × α8 × α9 × α10 × α11 × α12 × α13 × α14 × α15 × α16 × α17 × α18 → β} {r : β} (e : B = bq_u18 k) {x1 : α1} {x2 : α2} {x3 : α3} {x4 : α4} {x5 : α5} {x6 : α6} {x7 : α7} {x8 : α8} {x9 : α9} {x10 : α10} {x11 : α11} {x12 : α12} {x13 : α13} {x14 : α14} {x15 : α15} {x16 : α16} {x17 : α17} {x18 : α18} (h : B (x1, x2, x3, x4, x5, x6, x7, x8, x9, x10, x11, x12, x13, x14, x15, x16, x17, x18) = r) : k x1 x2 x3 x4 x5 x6 x7 x8 x9 x10 x11 x12 x13 x14 x15 x16 x17 x18 = r := by
  subst e
  exact h
theorem bq_ap18 {α1 α2 α3 α4 α5 α6 α7 α8 α9 α10 α11 α12 α13 α14 α15 α16 α17 α18 β : Type} {f J : α1 → α2 → α3 → α4 → α5 → α6 → α7 → α8 → α9 → α10 → α11 → α12 → α13 → α14 → α15 → α16 → α17 → α18 → β} {r : β} (e : J = f) {x1 : α1} {x2 : α2} {x3 : α3} {x4 : α4} {x5 : α5} {x6 : α6} {x7 : α7} {x8 : α8} {x9 : α9} {x10 : α10} {x11 : α11} {x12 : α12} {x13 : α13} {x14 : α14} {x15 : α15} {x16 : α16} {x17 : α17} {x18 : α18} (h : J x1 x2 x3 x4 x5 x6 x7 x8 x9 x10 x11 x12 x13 x14 x15 x16 x17 x18 = r) : f x1 x2 x3 x4 x5 x6 x7 x8 x9 x10 x11 x12 x13 x14 x15 x16 x17 x18 = r := e ▸ h
def bq_or18 {α1 α2 α3 α4 α5 α6 α7 α8 α9 α10 α11 α12 α13 α14 α15 α16 α17 α18 β γ : Type} (x : (α1 × α2 × α3 × α4 × α5 × α6 × α7 × α8 × α9 × α10 × α11 × α12 × α13 × α14 × α15 × α16 × α17 × α18) ⊕ β) (k : α1 → α2 → α3 → α4 → α5 → α6 → α7 → α8 → α9 → α10 → α11 → α12 → α13 → α14 → α15 → α16 → α17 → α18 → γ) (kr : β → γ) : γ := match x with
  | .inl (x1, x2, x3, x4, x5, x6, x7, x8, x9, x10, x11, x12, x13, x14, x15, x16, x17, x18) => k x1 x2 x3 x4 x5 x6 x7 x8 x9 x10 x11 x12 x13 x14 x15 x16 x17 x18
  | .inr r => kr r
theorem bq_or18_l {α1 α2 α3 α4 α5 α6 α7 α8 α9 α10 α11 α12 α13 α14 α15 α16 α17 α18 β γ : Type} {x1 : α1} {x2 : α2} {x3 : α3} {x4 : α4} {x5 : α5} {x6 : α6} {x7 : α7} {x8 : α8} {x9 : α9} {x10 : α10} {x11 : α11} {x12 : α12} {x13 : α13} {x14 : α14} {x15 : α15} {x16 : α16} {x17 : α17} {x18 : α18} {k : α1 → α2 → α3 → α4 → α5 → α6 → α7 → α8 → α9 → α10 → α11 → α12 → α13 → α14 → α15 → α16 → α17 → α18 → γ} {kr : β → γ} {r : γ} (h : bq_or18 (.inl (x1, x2, x3, x4, x5, x6, x7, x8, x9, x10, x11, x12, x13, x14, x15, x16, x17, x18)) k kr = r) : k x1 x2 x3 x4 x5 x6 x7 x8 x9 x10 x11 x12 x13 x14 x15 x16 x17 x18 = r := h
theorem bq_or18_r {α1 α2 α3 α4 α5 α6 α7 α8 α9 α10 α11 α12 α13 α14 α15 α16 α17 α18 β γ : Type} {x : β} {k : α1 → α2 → α3 → α4 → α5 → α6 → α7 → α8 → α9 → α10 → α11 → α12 → α13 → α14 → α15 → α16 → α17 → α18 → γ} {kr : β → γ} {r : γ} (h : bq_or18 (.inr x) k kr = r) : kr x = r := h
theorem bq_in18 {α1 α2 α3 α4 α5 α6 α7 α8 α9 α10 α11 α12 α13 α14 α15 α16 α17 α18 : Type} {x1 y1 : α1} {x2 y2 : α2} {x3 y3 : α3} {x4 y4 : α4} {x5 y5 : α5} {x6 y6 : α6} {x7 y7 : α7} {x8 y8 : α8} {x9 y9 : α9} {x10 y10 : α10} {x11 y11 : α11} {x12 y12 : α12} {x13 y13 : α13} {x14 y14 : α14} {x15 y15 : α15} {x16 y16 : α16} {x17 y17 : α17} {x18 y18 : α18} (h : (x1, x2, x3, x4, x5, x6, x7, x8, x9, x10, x11, x12, x13, x14, x15, x16, x17, x18) = (y1, y2, y3, y4, y5, y6, y7, y8, y9, y10, y11, y12, y13, y14, y15, y16, y17, y18)) : x1 = y1 ∧ x2 = y2 ∧ x3 = y3 ∧ x4 = y4 ∧ x5 = y5 ∧ x6 = y6 ∧ x7 = y7 ∧ x8 = y8 ∧ x9 = y9 ∧ x10 = y10 ∧ x11 = y11 ∧ x12 = y12 ∧ x13 = y13 ∧ x14 = y14 ∧ x15 = y15 ∧ x16 = y16 ∧ x17 = y17 ∧ x18 = y18 := by
  simp only [Prod.mk.injEq] at h
  exact h
def bq_b19 {α1 α2 α3 α4 α5 α6 α7 α8 α9 α10 α11 α12 α13 α14 α15 α16 α17 α18 α19 β : Type} (x : Option (α1 × α2 × α3 × α4 × α5 × α6 × α7 × α8 × α9 × α10 × α11 × α12 × α13 × α14 × α15 × α16 × α17 × α18 × α19)) (k : α1 → α2 → α3 → α4 → α5 → α6 → α7 → α8 → α9 → α10 → α11 → α12 → α13 → α14 → α15 → α16 → α17 → α18 → α19 → Option β) : Option β := match x with
  | none => none
  | some (x1, x2, x3, x4, x5, x6, x7, x8, x9, x10, x11, x12, x13, x14, x15, x16, x17, x18, x19) => k x1 x2 x3 x4 x5 x6 x7 x8 x9 x10 x11 x12 x13 x14 x15 x16 x17 x18 x19
theorem bq_b19_el {α1 α2 α3 α4 α5 α6 α7 α8 α9 α10 α11 α12 α13 α14 α15 α16 α17 α18 α19 β : Type} {x : Option (α1 × α2 × α3 × α4 × α5 × α6 × α7 × α8 × α9 × α10 × α11 × α12 × α13 × α14 × α15 × α16 × α17 × α18 × α19)} {k : α1 → α2 → α3 → α4 → α5 → α6 → α7 → α8 → α9 → α10 → α11 → α12 → α13 → α14 → α15 → α16 → α17 → α18 → α19 → Option β} {r : β} (h : bq_b19 x k = some r) : ∃ (x1 : α1) (x2 : α2) (x3 : α3) (x4 : α4) (x5 : α5) (x6 : α6) (x7 : α7) (x8 : α8) (x9 : α9) (x10 : α10) (x11 : α11) (x12 : α12) (x13 : α13) (x14 : α14) (x15 : α15) (x16 : α16) (x17 : α17) (x18 : α18) (x19 : α19), x = some (x1, x2, x3, x4, x5, x6, x7, x8, x9, x10, x11, x12, x13, x14, x15, x16, x17, x18, x19) ∧ k x1 x2 x3 x4 x5 x6 x7 x8 x9 x10 x11 x12 x13 x14 x15 x16 x17 x18 x19 = some r := by
  cases x with
  | none => cases h
  | some y =>
    obtain ⟨x1, x2, x3, x4, x5, x6, x7, x8, x9, x10, x11, x12, x13, x14, x15, x16, x17, x18, x19⟩ := y
    exact ⟨x1, x2, x3, x4, x5, x6, x7, x8, x9, x10, x11, x12, x13, x14, x15, x16, x17, x18, x19, rfl, h⟩
def bq_u19 {α1 α2 α3 α4 α5 α6 α7 α8 α9 α10 α11 α12 α13 α14 α15 α16 α17 α18 α19 β : Type} (k : α1 → α2 → α3 → α4 → α5 → α6 → α7 → α8 → α9 → α10 → α11 → α12 → α13 → α14 → α15 → α16 → α17 → α18 → α19 → β) (x : α1 × α2 × α3 × α4 × α5 × α6 × α7 × α8 × α9 × α10 × α11 × α12 × α13 × α14 × α15 × α16 × α17 × α18 × α19) : β := k x.1 x.2.1 x.2.2.1 x.2.2.2.1 x.2.2.2.2.1 x.2.2.2.2.2.1 x.2.2.2.2.2.2.1 x.2.2.2.2.2.2.2.1 x.2.2.2.2.2.2.2.2.1 x.2.2.2.2.2.2.2.2.2.1 x.2.2.2.2.2.2.2.2.2.2.1 x.2.2.2.2.2.2.2.2.2.2.2.1 x.2.2.2.2.2.2.2.2.2.2.2.2.1 x.2.2.2.2.2.2.2.2.2.2.2.2.2.1 x.2.2.2.2.2.2.2.2.2.2.2.2.2.2.1 x.2.2.2.2.2.2.2.2.2.2.2.2.2.2.2.1 x.2.2.2.2.2.2.2.2.2.2.2.2.2.2.2.2.1 x.2.2.2.2.2.2.2.2.2.2.2.2.2.2.2.2.2.1 x.2.2.2.2.2.2.2.2.2.2.2.2.2.2.2.2.2.2
theorem bq_u19_el {α1 α2 α3 α4 α5 α6 α7 α8 α9 α10 α11 α12 α13 α14 α15 α16 α17 α18 α19 β : Type} {k : α1 → α2 → α3 → α4 → α5 → α6 → α7 → α8 → α9 → α10 → α11 → α12 → α13 → α14 → α15 → α16 → α17 → α18 → α19 → β} {B : α1 × α2 × α3 × α4 × α5 × α6 × α7 × α8 × α9 × α10 × α11 × α12 × α13 × α14 × α15 × α16 × α17 × α18 × α19 → β} {r : β} (e : B = bq_u19 k) {x1 : α1} {x2 : α2} {x3 : α3} {x4 : α4} {x5 : α5} {x6 : α6} {x7 : α7} {x8 : α8} {x9 : α9} {x10 : α10} {x11 : α11} {x12 : α12} {x13 : α13} {x14 : α14} {x15 : α15} {x16 : α16} {x17 : α17} {x18 : α18} {x19 : α19} (h : B (x1, x2, x3, x4, x5, x6, x7, x8, x9, x10, x11, x12, x13, x14, x15, x16, x17, x18, x19) = r) : k x1 x2 x3 x4 x5 x6 x7 x8 x9 x10 x11 x12 x13 x14 x15 x16 x17 x18 x19 = r := by
  subst e
  exact h
theorem bq_ap19 {α1 α2 α3 α4 α5 α6 α7 α8 α9 α10 α11 α12 α13 α14 α15 α16 α17 α18 α19 β : Type} {f J : α1 → α2 → α3 → α4 → α5 → α6 → α7 → α8 → α9 → α10 → α11 → α12 → α13 → α14 → α15 → α16 → α17 → α18 → α19 → β} {r : β} (e : J = f) {x1 : α1} {x2 : α2} {x3 : α3} {x4 : α4} {x5 : α5} {x6 : α6} {x7 : α7} {x8 : α8} {x9 : α9} {x10 : α10} {x11 : α11} {x12 : α12} {x13 : α13} {x14 : α14} {x15 : α15} {x16 : α16} {x17 : α17} {x18 : α18} {x19 : α19} (h : J x1 x2 x3 x4 x5 x6 x7 x8 x9 x10 x11 x12 x13 x14 x15 x16 x17 x18 x19 = r) : f x1 x2 x3 x4 x5 x6 x7 x8 x9 x10 x11 x12 x13 x14 x15 x16 x17 x18 x19 = r := e ▸ h
def bq_or19 {α1 α2 α3 α4 α5 α6 α7 α8 α9 α10 α11 α12 α13 α14 α15 α16 α17 α18 α19 β γ : Type} (x : (α1 × α2 × α3 × α4 × α5 × α6 × α7 × α8 × α9 × α10 × α11 × α12 × α13 × α14 × α15 × α16 × α17 × α18 × α19) ⊕ β) (k : α1 → α2 → α3 → α4 → α5 → α6 → α7 → α8 → α9 → α10 → α11 → α12 → α13 → α14 → α15 → α16 → α17 → α18 → α19 → γ) (kr : β → γ) : γ := match x with
  | .inl (x1, x2, x3, x4, x5, x6, x7, x8, x9, x10, x11, x12, x13, x14, x15, x16, x17, x18, x19) => k x1 x2 x3 x4 x5 x6 x7 x8 x9 x10 x11 x12 x13 x14 x15 x16 x17 x18 x19
  | .inr r => kr r
theorem bq_or19_l {α1 α2 α3 α4 α5 α6 α7 α8 α9 α10 α11 α12 α13 α14 α15 α16 α17 α18 α19 β γ : Type} {x1 : α1} {x2 : α2} {x3 : α3} {x4 : α4} {x5 : α5} {x6 : α6} {x7 : α7} {x8 : α8} {x9 : α9} {x10 : α10} {x11 : α11} {x12 : α12} {x13 : α13} {x14 : α14} {x15 : α15} {x16 : α16} {x17 : α17} {x18 : α18} {x19 : α19} {k : α1 → α2 → α3 → α4 → α5 → α6 → α7 → α8 → α9 → α10 → α11 → α12 → α13 → α14 → α15 → α16 → α17 → α18 → α19 → γ} {kr : β → γ} {r : γ} (h : bq_or19 (.inl (x1, x2, x3, x4, x5, x6, x7, x8, x9, x10, x11, x12, x13, x14, x15, x16, x17, x18, x19)) k kr = r) : k x1 x2 x3 x4 x5 x6 x7 x8 x9 x10 x11 x12 x13 x14 x15 x16 x17 x18 x19 = r := h
theorem bq_or19_r {α1 α2 α3 α4 α5 α6 α7 α8 α9 α10 α11 α12 α13 α14 α15 α16 α17 α18 α19 β γ : Type} {x : β} {k : α1 → α2 → α3 → α4 → α5 → α6 → α7 → α8 → α9 → α10 → α11 → α12 → α13 → α14 → α15 → α16 → α17 → α18 → α19 → γ} {kr : β → γ} {r : γ} (h : bq_or19 (.inr x) k kr = r) : kr x = r := h
theorem bq_in19 {α1 α2 α3 α4 α5 α6 α7 α8 α9 α10 α11 α12 α13 α14 α15 α16 α17 α18 α19 : Type} {x1 y1 : α1} {x2 y2 : α2} {x3 y3 : α3} {x4 y4 : α4} {x5 y5 : α5} {x6 y6 : α6} {x7 y7 : α7} {x8 y8 : α8} {x9 y9 : α9} {x10 y10 : α10} {x11 y11 : α11} {x12 y12 : α12} {x13 y13 : α13} {x14 y14 : α14} {x15 y15 : α15} {x16 y16 : α16} {x17 y17 : α17} {x18 y18 : α18} {x19 y19 : α19} (h : (x1, x2, x3, x4, x5, x6, x7, x8, x9, x10, x11, x12, x13, x14, x15, x16, x17, x18, x19) = (y1, y2, y3, y4, y5, y6, y7, y8, y9, y10, y11, y12, y13, y14, y15, y16, y17, y18, y19)) : x1 = y1 ∧ x2 = y2 ∧ x3 = y3 ∧ x4 = y4 ∧ x5 = y5 ∧ x6 = y6 ∧ x7 = y7 ∧ x8 = y8 ∧ x9 = y9 ∧ x10 = y10 ∧ x11 = y11 ∧ x12 = y12 ∧ x13 = y13 ∧ x14 = y14 ∧ x15 = y15 ∧ x16 = y16 ∧ x17 = y17 ∧ x18 = y18 ∧ x19 = y19 := by
  simp only [Prod.mk.injEq] at h
  exact h
def bq_b20 {α1 α2 α3 α4 α5 α6 α7 α8 α9 α10 α11 α12 α13 α14 α15 α16 α17 α18 α19 α20 β : Type} (x : Option (α1 × α2 × α3 × α4 × α5 × α6 × α7 × α8 × α9 × α10 × α11 × α12 × α13 × α14 × α15 × α16 × α17 × α18 × α19 × α20)) (k : α1 → α2 → α3 → α4 → α5 → α6 → α7 → α8 → α9 → α10 → α11 → α12 → α13 → α14 → α15 → α16 → α17 → α18 → α19 → α20 → Option β) : Option β := match x with
  | none => none
  | some (x1, x2, x3, x4, x5, x6, x7, x8, x9, x10, x11, x12, x13, x14, x15, x16, x17, x18, x19, x20) => k x1 x2 x3 x4 x5 x6 x7 x8 x9 x10 x11 x12 x13 x14 x15 x16 x17 x18 x19 x20
theorem bq_b20_el {α1 α2 α3 α4 α5 α6 α7 α8 α9 α10 α11 α12 α13 α14 α15 α16 α17 α18 α19 α20 β : Type} {x : Option (α1 × α2 × α3 × α4 × α5 × α6 × α7 × α8 × α9 × α10 × α11 × α12 × α13 × α14 × α15 × α16 × α17 × α18 × α19 × α20)} {k : α1 → α2 → α3 → α4 → α5 → α6 → α7 → α8 → α9 → α10 → α11 → α12 → α13 → α14 → α15 → α16 → α17 → α18 → α19 → α20 → Option β} {r : β} (h : bq_b20 x k = some r) : ∃ (x1 : α1) (x2 : α2) (x3 : α3) (x4 : α4) (x5 : α5) (x6 : α6) (x7 : α7) (x8 : α8) (x9 : α9) (x10 : α10) (x11 : α11) (x12 : α12) (x13 : α13) (x14 : α14) (x15 : α15) (x16 : α16) (x17 : α17) (x18 : α18) (x19 : α19) (x20 : α20), x = some (x1, x2, x3, x4, x5, x6, x7, x8, x9, x10, x11, x12, x13, x14, x15, x16, x17, x18, x19, x20) ∧ k x1 x2 x3 x4 x5 x6 x7 x8 x9 x10 x11 x12 x13 x14 x15 x16 x17 x18 x19 x20 = some r := by
  cases x with
  | none => cases h
  | some y =>
    obtain ⟨x1, x2, x3, x4, x5, x6, x7, x8, x9, x10, x11, x12, x13, x14, x15, x16, x17, x18, x19, x20⟩ := y
    exact ⟨x1, x2, x3, x4, x5, x6, x7, x8, x9, x10, x11, x12, x13, x14, x15, x16, x17, x18, x19, x20, rfl, h⟩
def bq_u20 {α1 α2 α3 α4 α5 α6 α7 α8 α9 α10 α11 α12 α13 α14 α15 α16 α17 α18 α19 α20 β : Type} (k : α1 → α2 → α3 → α4 → α5 → α6 → α7 → α8 → α9 → α10 → α11 → α12 → α13 → α14 → α15 → α16 → α17 → α18 → α19 → α20 → β) (x : α1 × α2 × α3 × α4 × α5 × α6 × α7 × α8 × α9 × α10 × α11 × α12 × α13 × α14 × α15 × α16 × α17 × α18 × α19 × α20) : β := k x.1 x.2.1 x.2.2.1 x.2.2.2.1 x.2.2.2.2.1 x.2.2.2.2.2.1 x.2.2.2.2.2.2.1 x.2.2.2.2.2.2.2.1 x.2.2.2.2.2.2.2.2.1 x.2.2.2.2.2.2.2.2.2.1 x.2.2.2.2.2.2.2.2.2.2.1 x.2.2.2.2.2.2.2.2.2.2.2.1 x.2.2.2.2.2.2.2.2.2.2.2.2.1 x.2.2.2.2.2.2.2.2.2.2.2.2.2.1 x.2.2.2.2.2.2.2.2.2.2.2.2.2.2.1 x.2.2.2.2.2.2.2.2.2.2.2.2.2.2.2.1 x.2.2.2.2.2.2.2.2.2.2.2.2.2.2.2.2.1 x.2.2.2.2.2.2.2.2.2.2.2.2.2.2.2.2.2.1 x.2.2.2.2.2.2.2.2.2.2.2.2.2.2.2.2.2.2.1 x.2.2.2.2.2.2.2.2.2.2.2.2.2.2.2.2.2.2.2
theorem bq_u20_el {α1 α2 α3 α4 α5 α6 α7 α8 α9 α10 α11 α12 α13 α14 α15 α16 α17 α18 α19 α20 β : Type} {k : α1 → α2 → α3 → α4 → α5 → α6 → α7 → α8 → α9 → α10 → α11 → α12 → α13 → α14 → α15 → α16 → α17 → α18 → α19 → α20 → β} {B : α1 × α2 × α3 × α4 × α5 × α6 × α7 × α8 × α9 × α10 × α11 × α12 × α13 × α14 × α15 × α16 × α17 × α18 × α19 × α20 → β} {r : β} (e : B = bq_u20 k) {x1 : α1} {x2 : α2} {x3 : α3} {x4 : α4} {x5 : α5} {x6 : α6} {x7 : α7} {x8 : α8} {x9 : α9} {x10 : α10} {x11 : α11} {x12 : α12} {x13 : α13} {x14 : α14} {x15 : α15} {x16 : α16} {x17 : α17} {x18 : α18} {x19 : α19} {x20 : α20} (h : B (x1, x2, x3, x4, x5, x6, x7, x8, x9, x10, x11, x12, x13, x14, x15, x16, x17, x18, x19, x20) = r) : k x1 x2 x3 x4 x5 x6 x7 x8 x9 x10 x11 x12 x13 x14 x15 x16 x17 x18 x19 x20 = r := by
  subst e
  exact h
theorem bq_ap20 {α1 α2 α3 α4 α5 α6 α7 α8 α9 α10 α11 α12 α13 α14 α15 α16 α17 α18 α19 α20 β : Type} {f J : α1 → α2 → α3 → α4 → α5 → α6 → α7 → α8 → α9 → α10 → α11 → α12 → α13 → α14 → α15 → α16 → α17 → α18 → α19 → α20 → β} {r : β} (e : J = f) {x1 : α1} {x2 : α2} {x3 : α3} {x4 : α4} {x5 : α5} {x6 : α6} {x7 : α7} {x8 : α8} {x9 : α9} {x10 : α10} {x11 : α11} {x12 : α12} {x13 : α13} {x14 : α14} {x15 : α15} {x16 : α16} {x17 : α17} {x18 : α18} {x19 : α19} {x20 : α20} (h : J x1 x2 x3 x4 x5 x6 x7 x8 x9 x10 x11 x12 x13 x14 x15 x16 x17 x18 x19 x20 = r) : f x1 x2 x3 x4 x5 x6 x7 x8 x9 x10 x11 x12 x13 x14 x15 x16 x17 x18 x19 x20 = r := e ▸ h
def bq_or20 {α1 α2 α3 α4 α5 α6 α7 α8 α9 α10 α11 α12 α13 α14 α15 α16 α17 α18 α19 α20 β γ : Type} (x : (α1 × α2 × α3 × α4 × α5 × α6 × α7 × α8 × α9 × α10 × α11 × α12 × α13 × α14 × α15 × α16 × α17 × α18 × α19 × α20) ⊕ β) (k : α1 → α2 → α3 → α4 → α5 → α6 → α7 → α8 → α9 → α10 → α11 → α12 → α13 → α14 → α15 → α16 → α17 → α18 → α19 → α20 → γ) (kr : β → γ) : γ := match x with
  | .inl (x1, x2, x3, x4, x5, x6, x7, x8, x9, x10, x11, x12, x13, x14, x15, x16, x17, x18, x19, x20) => k x1 x2 x3 x4 x5 x6 x7 x8 x9 x10 x11 x12 x13 x14 x15 x16 x17 x18 x19 x20
  | .inr r => kr r
theorem bq_or20_l {α1 α2 α3 α4 α5 α6 α7 α8 α9 α10 α11 α12 α13 α14 α15 α16 α17 α18 α19 α20 β γ : Type} {x1 : α1} {x2 : α2} {x3 : α3} {x4 : α4} {x5 : α5} {x6 : α6} {x7 : α7} {x8 : α8} {x9 : α9} {x10 : α10} {x11 : α11} {x12 : α12} {x13 : α13} {x14 : α14} {x15 : α15} {x16 : α16} {x17 : α17} {x18 : α18} {x19 : α19} {x20 : α20} {k : α1 → α2 → α3 → α4 → α5 → α6 → α7 → α8 → α9 → α10 → α11 → α12 → α13 → α14 → α15 → α16 → α17 → α18 → α19 → α20 → γ} {kr : β → γ} {r : γ} (h : bq_or20 (.inl (x1, x2, x3, x4, x5, x6, x7, x8, x9, x10, x11, x12, x13, x14, x15, x16, x17, x18, x19, x20)) k kr = r) : k x1 x2 x3 x4 x5 x6 x7 x8 x9 x10 x11 x12 x13 x14 x15 x16 x17 x18 x19 x20 = r := h
theorem bq_or20_r {α1 α2 α3 α4 α5 α6 α7 α8 α9 α10 α11 α12 α13 α14 α15 α16 α17 α18 α19 α20 β γ : Type} {x : β} {k : α1 → α2 → α3 → α4 → α5 → α6 → α7 → α8 → α9 → α10 → α11 → α12 → α13 → α14 → α15 → α16 → α17 → α18 → α19 → α20 → γ} {kr : β → γ} {r : γ} (h : bq_or20 (.inr x) k kr = r) : kr x = r := h
theorem bq_in20 {α1 α2 α3 α4 α5 α6 α7 α8 α9 α10 α11 α12 α13 α14 α15 α16 α17 α18 α19 α20 : Type} {x1 y1 : α1} {x2 y2 : α2} {x3 y3 : α3} {x4 y4 : α4} {x5 y5 : α5} {x6 y6 : α6} {x7 y7 : α7} {x8 y8 : α8} {x9 y9 : α9} {x10 y10 : α10} {x11 y11 : α11} {x12 y12 : α12} {x13 y13 : α13} {x14 y14 : α14} {x15 y15 : α15} {x16 y16 : α16} {x17 y17 : α17} {x18 y18 : α18} {x19 y19 : α19} {x20 y20 : α20} (h : (x1, x2, x3, x4, x5, x6, x7, x8, x9, x10, x11, x12, x13, x14, x15, x16, x17, x18, x19, x20) = (y1, y2, y3, y4, y5, y6, y7, y8, y9, y10, y11, y12, y13, y14, y15, y16, y17, y18, y19, y20)) : x1 = y1 ∧ x2 = y2 ∧ x3 = y3 ∧ x4 = y4 ∧ x5 = y5 ∧ x6 = y6 ∧ x7 = y7 ∧ x8 = y8 ∧ x9 = y9 ∧ x10 = y10 ∧ x11 = y11 ∧ x12 = y12 ∧ x13 = y13 ∧ x14 = y14 ∧ x15 = y15 ∧ x16 = y16 ∧ x17 = y17 ∧ x18 = y18 ∧ x19 = y19 ∧ x20 = y20 := by
  simp only [Prod.mk.injEq] at h
  exact h
end BQF
