section BQA
def bq_let {α β : Type} (x : α) (k : α → β) : β := k x
theorem bq_let_el {α β : Type} {x : α} {k : α → Option β} {r : β} (h : bq_let x k = some r) : ∃ y, y = x ∧ k y = some r := ⟨x, rfl, h⟩
def bq_bd {α β : Type} (x : Option α) (k : α → Option β) : Option β := match x with
  | none => none
  | some y => k y
theorem bq_bd_el {α β : Type} {x : Option α} {k : α → Option β} {r : β} (h : bq_bd x k = some r) : ∃ y, x = some y ∧ k y = some r := by
  cases x with
  | none => cases h
  | some y => exact ⟨y, rfl, h⟩
def bq_ci {β : Type} (i : Int32) (n : Nat) (k : Option β) : Option β := if i < 0 ∨ n ≤ i.toNatClampNeg then none else k
theorem bq_ci_el {β : Type} {i : Int32} {n : Nat} {k : Option β} {r : β} (h : bq_ci i n k = some r) : vp_in i n ∧ k = some r := by
  unfold bq_ci at h
  split at h
  · cases h
  · rename_i h1
    exact ⟨h1, h⟩
def bq_cz {β : Type} (y : Int32) (k : Option β) : Option β := if y = 0 then none else k
theorem bq_cz_el {β : Type} {y : Int32} {k : Option β} {r : β} (h : bq_cz y k = some r) : ¬ y = 0 ∧ k = some r := by
  unfold bq_cz at h
  split at h
  · cases h
  · rename_i h1
    exact ⟨h1, h⟩
def bq_cb {β : Type} (y : Int32) (k : Option β) : Option β := if y = 0 ∨ y = 1 then k else none
theorem bq_cb_el {β : Type} {y : Int32} {k : Option β} {r : β} (h : bq_cb y k = some r) : (y = 0 ∨ y = 1) ∧ k = some r := by
  unfold bq_cb at h
  split at h
  · rename_i h1
    exact ⟨h1, h⟩
  · cases h
def bq_cc {β : Type} (P : Prop) [Decidable P] (k : Option β) : Option β := if P then k else none
theorem bq_cc_el {β : Type} {P : Prop} [Decidable P] {k : Option β} {r : β} (h : bq_cc P k = some r) : P ∧ k = some r := by
  unfold bq_cc at h
  split at h
  · rename_i h1
    exact ⟨h1, h⟩
  · cases h
theorem bq_t {β : Type} {P : Prop} [Decidable P] {a b : Option β} {r : β} (hc : P) (h : (if P then a else b) = some r) : a = some r := by rw [if_pos hc] at h; exact h
theorem bq_f {β : Type} {P : Prop} [Decidable P] {a b : Option β} {r : β} (hc : ¬ P) (h : (if P then a else b) = some r) : b = some r := by rw [if_neg hc] at h; exact h
theorem bq_nt {β : Type} {P : Prop} [Decidable P] {a b : Option β} {r : β} (hc : ¬ P) (h : (if ¬ P then a else b) = some r) : a = some r := by rw [if_pos hc] at h; exact h
theorem bq_et {β : Type} {P : Prop} [Decidable P] {a b x : β} (hc : P) (h : x = (if P then a else b)) : x = a := by rw [if_pos hc] at h; exact h
theorem bq_ef {β : Type} {P : Prop} [Decidable P] {a b x : β} (hc : ¬ P) (h : x = (if P then a else b)) : x = b := by rw [if_neg hc] at h; exact h
def bq_lp {S R : Type} (b : S → Option (S ⊕ R)) : Nat → S → Option R
  | 0, _ => none
  | n + 1, s => match b s with
    | none => none
    | some (.inl t) => bq_lp b n t
    | some (.inr r) => some r
def bq_lk {S R : Type} (b : S → Option (S ⊕ R)) (n : Nat) : S ⊕ R → Option R
  | .inl t => bq_lp b n t
  | .inr r => some r
theorem bq_lp_el {S R : Type} {b : S → Option (S ⊕ R)} {n : Nat} {s : S} {r : R} (h : bq_lp b (n + 1) s = some r) : ∃ o, b s = some o ∧ bq_lk b n o = some r := by
  unfold bq_lp at h
  cases hb : b s with
  | none => rw [hb] at h; cases h
  | some o =>
    rw [hb] at h
    refine ⟨o, rfl, ?_⟩
    cases o with
    | inl t => exact h
    | inr r => exact h
theorem bq_lp_0 {S R : Type} {b : S → Option (S ⊕ R)} {s : S} {r : R} {P : Prop} (h : bq_lp b 0 s = some r) : P := by
  unfold bq_lp at h
  cases h
theorem bq_lp_s {S R : Type} {b : S → Option (S ⊕ R)} {n : Nat} {s : S} {r : R} (h : bq_lp b n s = some r) : bq_lp b (n + 1) s = some r := by
  induction n generalizing s with
  | zero => exact bq_lp_0 h
  | succ n ih =>
    obtain ⟨o, h1, h2⟩ := bq_lp_el h
    unfold bq_lp
    rw [h1]
    cases o with
    | inl t => exact ih h2
    | inr r => exact h2
theorem bq_lp_le {S R : Type} {b : S → Option (S ⊕ R)} {n k : Nat} {s : S} {r : R} (h : bq_lp b n s = some r) : bq_lp b (n + k) s = some r := by
  induction k with
  | zero => exact h
  | succ k ih => exact bq_lp_s ih
noncomputable def bq_loop {S R : Type} (b : S → Option (S ⊕ R)) (s : S) : Option R := @dite _ (∃ (r : R) (n : Nat), bq_lp b n s = some r) (Classical.propDecidable _) (fun h => some (Classical.choose h)) (fun _ => none)
theorem bq_loop_el {S R : Type} {b : S → Option (S ⊕ R)} {s : S} {r : R} (h : bq_loop b s = some r) : ∃ n, bq_lp b n s = some r := by
  unfold bq_loop at h
  split at h
  · rename_i h1
    obtain ⟨n, hn⟩ := Classical.choose_spec h1
    cases h
    exact ⟨n, hn⟩
  · cases h
theorem bq_loop_of {S R : Type} {b : S → Option (S ⊕ R)} {n : Nat} {s : S} {r : R} (h : bq_lp b n s = some r) : bq_loop b s = some r := by
  have h1 : ∃ (r : R) (n : Nat), bq_lp b n s = some r := ⟨r, n, h⟩
  unfold bq_loop
  rw [dif_pos h1]
  obtain ⟨k, hk⟩ := Classical.choose_spec h1
  have h2 := bq_lp_le (k := k) h
  have h3 := bq_lp_le (k := n) hk
  rw [Nat.add_comm k n, h2] at h3
  exact h3.symm
end BQA
section BQF
def bq_b2 {α1 α2 β : Type} (x : Option (α1 × α2)) (k : α1 → α2 → Option β) : Option β := match x with
  | none => none
  | some (x1, x2) => k x1 x2
theorem bq_b2_el {α1 α2 β : Type} {x : Option (α1 × α2)} {k : α1 → α2 → Option β} {r : β} (h : bq_b2 x k = some r) : ∃ (x1 : α1) (x2 : α2), x = some (x1, x2) ∧ k x1 x2 = some r := by
  cases x with
  | none => cases h
  | some y =>
    obtain ⟨x1, x2⟩ := y
    exact ⟨x1, x2, rfl, h⟩
def bq_l2 {α1 α2 β : Type} (x : α1 × α2) (k : α1 → α2 → β) : β := k x.1 x.2
theorem bq_l2_el {α1 α2 β : Type} {x : α1 × α2} {k : α1 → α2 → Option β} {r : β} (h : bq_l2 x k = some r) : ∃ (x1 : α1) (x2 : α2), (x1, x2) = x ∧ k x1 x2 = some r := ⟨x.1, x.2, rfl, h⟩
def bq_u2 {α1 α2 β : Type} (k : α1 → α2 → β) (x : α1 × α2) : β := k x.1 x.2
theorem bq_u2_el {α1 α2 β : Type} {k : α1 → α2 → β} {B : α1 × α2 → β} {r : β} (e : B = bq_u2 k) {x1 : α1} {x2 : α2} (h : B (x1, x2) = r) : k x1 x2 = r := by
  subst e
  exact h
theorem bq_ap2 {α1 α2 β : Type} {f J : α1 → α2 → β} {r : β} (e : J = f) {x1 : α1} {x2 : α2} (h : J x1 x2 = r) : f x1 x2 = r := e ▸ h
def bq_or2 {α1 α2 β γ : Type} (x : (α1 × α2) ⊕ β) (k : α1 → α2 → γ) (kr : β → γ) : γ := match x with
  | .inl (x1, x2) => k x1 x2
  | .inr r => kr r
def bq_b3 {α1 α2 α3 β : Type} (x : Option (α1 × α2 × α3)) (k : α1 → α2 → α3 → Option β) : Option β := match x with
  | none => none
  | some (x1, x2, x3) => k x1 x2 x3
theorem bq_b3_el {α1 α2 α3 β : Type} {x : Option (α1 × α2 × α3)} {k : α1 → α2 → α3 → Option β} {r : β} (h : bq_b3 x k = some r) : ∃ (x1 : α1) (x2 : α2) (x3 : α3), x = some (x1, x2, x3) ∧ k x1 x2 x3 = some r := by
  cases x with
  | none => cases h
  | some y =>
    obtain ⟨x1, x2, x3⟩ := y
    exact ⟨x1, x2, x3, rfl, h⟩
def bq_l3 {α1 α2 α3 β : Type} (x : α1 × α2 × α3) (k : α1 → α2 → α3 → β) : β := k x.1 x.2.1 x.2.2
theorem bq_l3_el {α1 α2 α3 β : Type} {x : α1 × α2 × α3} {k : α1 → α2 → α3 → Option β} {r : β} (h : bq_l3 x k = some r) : ∃ (x1 : α1) (x2 : α2) (x3 : α3), (x1, x2, x3) = x ∧ k x1 x2 x3 = some r := ⟨x.1, x.2.1, x.2.2, rfl, h⟩
def bq_u3 {α1 α2 α3 β : Type} (k : α1 → α2 → α3 → β) (x : α1 × α2 × α3) : β := k x.1 x.2.1 x.2.2
theorem bq_u3_el {α1 α2 α3 β : Type} {k : α1 → α2 → α3 → β} {B : α1 × α2 × α3 → β} {r : β} (e : B = bq_u3 k) {x1 : α1} {x2 : α2} {x3 : α3} (h : B (x1, x2, x3) = r) : k x1 x2 x3 = r := by
  subst e
  exact h
theorem bq_ap3 {α1 α2 α3 β : Type} {f J : α1 → α2 → α3 → β} {r : β} (e : J = f) {x1 : α1} {x2 : α2} {x3 : α3} (h : J x1 x2 x3 = r) : f x1 x2 x3 = r := e ▸ h
def bq_or3 {α1 α2 α3 β γ : Type} (x : (α1 × α2 × α3) ⊕ β) (k : α1 → α2 → α3 → γ) (kr : β → γ) : γ := match x with
  | .inl (x1, x2, x3) => k x1 x2 x3
  | .inr r => kr r
def bq_b4 {α1 α2 α3 α4 β : Type} (x : Option (α1 × α2 × α3 × α4)) (k : α1 → α2 → α3 → α4 → Option β) : Option β := match x with
  | none => none
  | some (x1, x2, x3, x4) => k x1 x2 x3 x4
theorem bq_b4_el {α1 α2 α3 α4 β : Type} {x : Option (α1 × α2 × α3 × α4)} {k : α1 → α2 → α3 → α4 → Option β} {r : β} (h : bq_b4 x k = some r) : ∃ (x1 : α1) (x2 : α2) (x3 : α3) (x4 : α4), x = some (x1, x2, x3, x4) ∧ k x1 x2 x3 x4 = some r := by
  cases x with
  | none => cases h
  | some y =>
    obtain ⟨x1, x2, x3, x4⟩ := y
    exact ⟨x1, x2, x3, x4, rfl, h⟩
def bq_l4 {α1 α2 α3 α4 β : Type} (x : α1 × α2 × α3 × α4) (k : α1 → α2 → α3 → α4 → β) : β := k x.1 x.2.1 x.2.2.1 x.2.2.2
theorem bq_l4_el {α1 α2 α3 α4 β : Type} {x : α1 × α2 × α3 × α4} {k : α1 → α2 → α3 → α4 → Option β} {r : β} (h : bq_l4 x k = some r) : ∃ (x1 : α1) (x2 : α2) (x3 : α3) (x4 : α4), (x1, x2, x3, x4) = x ∧ k x1 x2 x3 x4 = some r := ⟨x.1, x.2.1, x.2.2.1, x.2.2.2, rfl, h⟩
def bq_u4 {α1 α2 α3 α4 β : Type} (k : α1 → α2 → α3 → α4 → β) (x : α1 × α2 × α3 × α4) : β := k x.1 x.2.1 x.2.2.1 x.2.2.2
theorem bq_u4_el {α1 α2 α3 α4 β : Type} {k : α1 → α2 → α3 → α4 → β} {B : α1 × α2 × α3 × α4 → β} {r : β} (e : B = bq_u4 k) {x1 : α1} {x2 : α2} {x3 : α3} {x4 : α4} (h : B (x1, x2, x3, x4) = r) : k x1 x2 x3 x4 = r := by
  subst e
  exact h
theorem bq_ap4 {α1 α2 α3 α4 β : Type} {f J : α1 → α2 → α3 → α4 → β} {r : β} (e : J = f) {x1 : α1} {x2 : α2} {x3 : α3} {x4 : α4} (h : J x1 x2 x3 x4 = r) : f x1 x2 x3 x4 = r := e ▸ h
def bq_or4 {α1 α2 α3 α4 β γ : Type} (x : (α1 × α2 × α3 × α4) ⊕ β) (k : α1 → α2 → α3 → α4 → γ) (kr : β → γ) : γ := match x with
  | .inl (x1, x2, x3, x4) => k x1 x2 x3 x4
  | .inr r => kr r
def bq_b5 {α1 α2 α3 α4 α5 β : Type} (x : Option (α1 × α2 × α3 × α4 × α5)) (k : α1 → α2 → α3 → α4 → α5 → Option β) : Option β := match x with
  | none => none
  | some (x1, x2, x3, x4, x5) => k x1 x2 x3 x4 x5
theorem bq_b5_el {α1 α2 α3 α4 α5 β : Type} {x : Option (α1 × α2 × α3 × α4 × α5)} {k : α1 → α2 → α3 → α4 → α5 → Option β} {r : β} (h : bq_b5 x k = some r) : ∃ (x1 : α1) (x2 : α2) (x3 : α3) (x4 : α4) (x5 : α5), x = some (x1, x2, x3, x4, x5) ∧ k x1 x2 x3 x4 x5 = some r := by
  cases x with
  | none => cases h
  | some y =>
    obtain ⟨x1, x2, x3, x4, x5⟩ := y
    exact ⟨x1, x2, x3, x4, x5, rfl, h⟩
def bq_l5 {α1 α2 α3 α4 α5 β : Type} (x : α1 × α2 × α3 × α4 × α5) (k : α1 → α2 → α3 → α4 → α5 → β) : β := k x.1 x.2.1 x.2.2.1 x.2.2.2.1 x.2.2.2.2
theorem bq_l5_el {α1 α2 α3 α4 α5 β : Type} {x : α1 × α2 × α3 × α4 × α5} {k : α1 → α2 → α3 → α4 → α5 → Option β} {r : β} (h : bq_l5 x k = some r) : ∃ (x1 : α1) (x2 : α2) (x3 : α3) (x4 : α4) (x5 : α5), (x1, x2, x3, x4, x5) = x ∧ k x1 x2 x3 x4 x5 = some r := ⟨x.1, x.2.1, x.2.2.1, x.2.2.2.1, x.2.2.2.2, rfl, h⟩
def bq_u5 {α1 α2 α3 α4 α5 β : Type} (k : α1 → α2 → α3 → α4 → α5 → β) (x : α1 × α2 × α3 × α4 × α5) : β := k x.1 x.2.1 x.2.2.1 x.2.2.2.1 x.2.2.2.2
theorem bq_u5_el {α1 α2 α3 α4 α5 β : Type} {k : α1 → α2 → α3 → α4 → α5 → β} {B : α1 × α2 × α3 × α4 × α5 → β} {r : β} (e : B = bq_u5 k) {x1 : α1} {x2 : α2} {x3 : α3} {x4 : α4} {x5 : α5} (h : B (x1, x2, x3, x4, x5) = r) : k x1 x2 x3 x4 x5 = r := by
  subst e
  exact h
theorem bq_ap5 {α1 α2 α3 α4 α5 β : Type} {f J : α1 → α2 → α3 → α4 → α5 → β} {r : β} (e : J = f) {x1 : α1} {x2 : α2} {x3 : α3} {x4 : α4} {x5 : α5} (h : J x1 x2 x3 x4 x5 = r) : f x1 x2 x3 x4 x5 = r := e ▸ h
def bq_or5 {α1 α2 α3 α4 α5 β γ : Type} (x : (α1 × α2 × α3 × α4 × α5) ⊕ β) (k : α1 → α2 → α3 → α4 → α5 → γ) (kr : β → γ) : γ := match x with
  | .inl (x1, x2, x3, x4, x5) => k x1 x2 x3 x4 x5
  | .inr r => kr r
def bq_b6 {α1 α2 α3 α4 α5 α6 β : Type} (x : Option (α1 × α2 × α3 × α4 × α5 × α6)) (k : α1 → α2 → α3 → α4 → α5 → α6 → Option β) : Option β := match x with
  | none => none
  | some (x1, x2, x3, x4, x5, x6) => k x1 x2 x3 x4 x5 x6
theorem bq_b6_el {α1 α2 α3 α4 α5 α6 β : Type} {x : Option (α1 × α2 × α3 × α4 × α5 × α6)} {k : α1 → α2 → α3 → α4 → α5 → α6 → Option β} {r : β} (h : bq_b6 x k = some r) : ∃ (x1 : α1) (x2 : α2) (x3 : α3) (x4 : α4) (x5 : α5) (x6 : α6), x = some (x1, x2, x3, x4, x5, x6) ∧ k x1 x2 x3 x4 x5 x6 = some r := by
  cases x with
  | none => cases h
  | some y =>
    obtain ⟨x1, x2, x3, x4, x5, x6⟩ := y
    exact ⟨x1, x2, x3, x4, x5, x6, rfl, h⟩
def bq_l6 {α1 α2 α3 α4 α5 α6 β : Type} (x : α1 × α2 × α3 × α4 × α5 × α6) (k : α1 → α2 → α3 → α4 → α5 → α6 → β) : β := k x.1 x.2.1 x.2.2.1 x.2.2.2.1 x.2.2.2.2.1 x.2.2.2.2.2
theorem bq_l6_el {α1 α2 α3 α4 α5 α6 β : Type} {x : α1 × α2 × α3 × α4 × α5 × α6} {k : α1 → α2 → α3 → α4 → α5 → α6 → Option β} {r : β} (h : bq_l6 x k = some r) : ∃ (x1 : α1) (x2 : α2) (x3 : α3) (x4 : α4) (x5 : α5) (x6 : α6), (x1, x2, x3, x4, x5, x6) = x ∧ k x1 x2 x3 x4 x5 x6 = some r := ⟨x.1, x.2.1, x.2.2.1, x.2.2.2.1, x.2.2.2.2.1, x.2.2.2.2.2, rfl, h⟩
def bq_u6 {α1 α2 α3 α4 α5 α6 β : Type} (k : α1 → α2 → α3 → α4 → α5 → α6 → β) (x : α1 × α2 × α3 × α4 × α5 × α6) : β := k x.1 x.2.1 x.2.2.1 x.2.2.2.1 x.2.2.2.2.1 x.2.2.2.2.2
theorem bq_u6_el {α1 α2 α3 α4 α5 α6 β : Type} {k : α1 → α2 → α3 → α4 → α5 → α6 → β} {B : α1 × α2 × α3 × α4 × α5 × α6 → β} {r : β} (e : B = bq_u6 k) {x1 : α1} {x2 : α2} {x3 : α3} {x4 : α4} {x5 : α5} {x6 : α6} (h : B (x1, x2, x3, x4, x5, x6) = r) : k x1 x2 x3 x4 x5 x6 = r := by
  subst e
  exact h
theorem bq_ap6 {α1 α2 α3 α4 α5 α6 β : Type} {f J : α1 → α2 → α3 → α4 → α5 → α6 → β} {r : β} (e : J = f) {x1 : α1} {x2 : α2} {x3 : α3} {x4 : α4} {x5 : α5} {x6 : α6} (h : J x1 x2 x3 x4 x5 x6 = r) : f x1 x2 x3 x4 x5 x6 = r := e ▸ h
def bq_or6 {α1 α2 α3 α4 α5 α6 β γ : Type} (x : (α1 × α2 × α3 × α4 × α5 × α6) ⊕ β) (k : α1 → α2 → α3 → α4 → α5 → α6 → γ) (kr : β → γ) : γ := match x with
  | .inl (x1, x2, x3, x4, x5, x6) => k x1 x2 x3 x4 x5 x6
  | .inr r => kr r
def bq_b7 {α1 α2 α3 α4 α5 α6 α7 β : Type} (x : Option (α1 × α2 × α3 × α4 × α5 × α6 × α7)) (k : α1 → α2 → α3 → α4 → α5 → α6 → α7 → Option β) : Option β := match x with
  | none => none
  | some (x1, x2, x3, x4, x5, x6, x7) => k x1 x2 x3 x4 x5 x6 x7
theorem bq_b7_el {α1 α2 α3 α4 α5 α6 α7 β : Type} {x : Option (α1 × α2 × α3 × α4 × α5 × α6 × α7)} {k : α1 → α2 → α3 → α4 → α5 → α6 → α7 → Option β} {r : β} (h : bq_b7 x k = some r) : ∃ (x1 : α1) (x2 : α2) (x3 : α3) (x4 : α4) (x5 : α5) (x6 : α6) (x7 : α7), x = some (x1, x2, x3, x4, x5, x6, x7) ∧ k x1 x2 x3 x4 x5 x6 x7 = some r := by
  cases x with
  | none => cases h
  | some y =>
    obtain ⟨x1, x2, x3, x4, x5, x6, x7⟩ := y
    exact ⟨x1, x2, x3, x4, x5, x6, x7, rfl, h⟩
def bq_l7 {α1 α2 α3 α4 α5 α6 α7 β : Type} (x : α1 × α2 × α3 × α4 × α5 × α6 × α7) (k : α1 → α2 → α3 → α4 → α5 → α6 → α7 → β) : β := k x.1 x.2.1 x.2.2.1 x.2.2.2.1 x.2.2.2.2.1 x.2.2.2.2.2.1 x.2.2.2.2.2.2
theorem bq_l7_el {α1 α2 α3 α4 α5 α6 α7 β : Type} {x : α1 × α2 × α3 × α4 × α5 × α6 × α7} {k : α1 → α2 → α3 → α4 → α5 → α6 → α7 → Option β} {r : β} (h : bq_l7 x k = some r) : ∃ (x1 : α1) (x2 : α2) (x3 : α3) (x4 : α4) (x5 : α5) (x6 : α6) (x7 : α7), (x1, x2, x3, x4, x5, x6, x7) = x ∧ k x1 x2 x3 x4 x5 x6 x7 = some r := ⟨x.1, x.2.1, x.2.2.1, x.2.2.2.1, x.2.2.2.2.1, x.2.2.2.2.2.1, x.2.2.2.2.2.2, rfl, h⟩
def bq_u7 {α1 α2 α3 α4 α5 α6 α7 β : Type} (k : α1 → α2 → α3 → α4 → α5 → α6 → α7 → β) (x : α1 × α2 × α3 × α4 × α5 × α6 × α7) : β := k x.1 x.2.1 x.2.2.1 x.2.2.2.1 x.2.2.2.2.1 x.2.2.2.2.2.1 x.2.2.2.2.2.2
theorem bq_u7_el {α1 α2 α3 α4 α5 α6 α7 β : Type} {k : α1 → α2 → α3 → α4 → α5 → α6 → α7 → β} {B : α1 × α2 × α3 × α4 × α5 × α6 × α7 → β} {r : β} (e : B = bq_u7 k) {x1 : α1} {x2 : α2} {x3 : α3} {x4 : α4} {x5 : α5} {x6 : α6} {x7 : α7} (h : B (x1, x2, x3, x4, x5, x6, x7) = r) : k x1 x2 x3 x4 x5 x6 x7 = r := by
  subst e
  exact h
theorem bq_ap7 {α1 α2 α3 α4 α5 α6 α7 β : Type} {f J : α1 → α2 → α3 → α4 → α5 → α6 → α7 → β} {r : β} (e : J = f) {x1 : α1} {x2 : α2} {x3 : α3} {x4 : α4} {x5 : α5} {x6 : α6} {x7 : α7} (h : J x1 x2 x3 x4 x5 x6 x7 = r) : f x1 x2 x3 x4 x5 x6 x7 = r := e ▸ h
def bq_or7 {α1 α2 α3 α4 α5 α6 α7 β γ : Type} (x : (α1 × α2 × α3 × α4 × α5 × α6 × α7) ⊕ β) (k : α1 → α2 → α3 → α4 → α5 → α6 → α7 → γ) (kr : β → γ) : γ := match x with
  | .inl (x1, x2, x3, x4, x5, x6, x7) => k x1 x2 x3 x4 x5 x6 x7
  | .inr r => kr r
def bq_b8 {α1 α2 α3 α4 α5 α6 α7 α8 β : Type} (x : Option (α1 × α2 × α3 × α4 × α5 × α6 × α7 × α8)) (k : α1 → α2 → α3 → α4 → α5 → α6 → α7 → α8 → Option β) : Option β := match x with
  | none => none
  | some (x1, x2, x3, x4, x5, x6, x7, x8) => k x1 x2 x3 x4 x5 x6 x7 x8
theorem bq_b8_el {α1 α2 α3 α4 α5 α6 α7 α8 β : Type} {x : Option (α1 × α2 × α3 × α4 × α5 × α6 × α7 × α8)} {k : α1 → α2 → α3 → α4 → α5 → α6 → α7 → α8 → Option β} {r : β} (h : bq_b8 x k = some r) : ∃ (x1 : α1) (x2 : α2) (x3 : α3) (x4 : α4) (x5 : α5) (x6 : α6) (x7 : α7) (x8 : α8), x = some (x1, x2, x3, x4, x5, x6, x7, x8) ∧ k x1 x2 x3 x4 x5 x6 x7 x8 = some r := by
  cases x with
  | none => cases h
  | some y =>
    obtain ⟨x1, x2, x3, x4, x5, x6, x7, x8⟩ := y
    exact ⟨x1, x2, x3, x4, x5, x6, x7, x8, rfl, h⟩
def bq_l8 {α1 α2 α3 α4 α5 α6 α7 α8 β : Type} (x : α1 × α2 × α3 × α4 × α5 × α6 × α7 × α8) (k : α1 → α2 → α3 → α4 → α5 → α6 → α7 → α8 → β) : β := k x.1 x.2.1 x.2.2.1 x.2.2.2.1 x.2.2.2.2.1 x.2.2.2.2.2.1 x.2.2.2.2.2.2.1 x.2.2.2.2.2.2.2
theorem bq_l8_el {α1 α2 α3 α4 α5 α6 α7 α8 β : Type} {x : α1 × α2 × α3 × α4 × α5 × α6 × α7 × α8} {k : α1 → α2 → α3 → α4 → α5 → α6 → α7 → α8 → Option β} {r : β} (h : bq_l8 x k = some r) : ∃ (x1 : α1) (x2 : α2) (x3 : α3) (x4 : α4) (x5 : α5) (x6 : α6) (x7 : α7) (x8 : α8), (x1, x2, x3, x4, x5, x6, x7, x8) = x ∧ k x1 x2 x3 x4 x5 x6 x7 x8 = some r := ⟨x.1, x.2.1, x.2.2.1, x.2.2.2.1, x.2.2.2.2.1, x.2.2.2.2.2.1, x.2.2.2.2.2.2.1, x.2.2.2.2.2.2.2, rfl, h⟩
def bq_u8 {α1 α2 α3 α4 α5 α6 α7 α8 β : Type} (k : α1 → α2 → α3 → α4 → α5 → α6 → α7 → α8 → β) (x : α1 × α2 × α3 × α4 × α5 × α6 × α7 × α8) : β := k x.1 x.2.1 x.2.2.1 x.2.2.2.1 x.2.2.2.2.1 x.2.2.2.2.2.1 x.2.2.2.2.2.2.1 x.2.2.2.2.2.2.2
theorem bq_u8_el {α1 α2 α3 α4 α5 α6 α7 α8 β : Type} {k : α1 → α2 → α3 → α4 → α5 → α6 → α7 → α8 → β} {B : α1 × α2 × α3 × α4 × α5 × α6 × α7 × α8 → β} {r : β} (e : B = bq_u8 k) {x1 : α1} {x2 : α2} {x3 : α3} {x4 : α4} {x5 : α5} {x6 : α6} {x7 : α7} {x8 : α8} (h : B (x1, x2, x3, x4, x5, x6, x7, x8) = r) : k x1 x2 x3 x4 x5 x6 x7 x8 = r := by
  subst e
  exact h
theorem bq_ap8 {α1 α2 α3 α4 α5 α6 α7 α8 β : Type} {f J : α1 → α2 → α3 → α4 → α5 → α6 → α7 → α8 → β} {r : β} (e : J = f) {x1 : α1} {x2 : α2} {x3 : α3} {x4 : α4} {x5 : α5} {x6 : α6} {x7 : α7} {x8 : α8} (h : J x1 x2 x3 x4 x5 x6 x7 x8 = r) : f x1 x2 x3 x4 x5 x6 x7 x8 = r := e ▸ h
def bq_or8 {α1 α2 α3 α4 α5 α6 α7 α8 β γ : Type} (x : (α1 × α2 × α3 × α4 × α5 × α6 × α7 × α8) ⊕ β) (k : α1 → α2 → α3 → α4 → α5 → α6 → α7 → α8 → γ) (kr : β → γ) : γ := match x with
  | .inl (x1, x2, x3, x4, x5, x6, x7, x8) => k x1 x2 x3 x4 x5 x6 x7 x8
  | .inr r => kr r
def bq_b9 {α1 α2 α3 α4 α5 α6 α7 α8 α9 β : Type} (x : Option (α1 × α2 × α3 × α4 × α5 × α6 × α7 × α8 × α9)) (k : α1 → α2 → α3 → α4 → α5 → α6 → α7 → α8 → α9 → Option β) : Option β := match x with
  | none => none
  | some (x1, x2, x3, x4, x5, x6, x7, x8, x9) => k x1 x2 x3 x4 x5 x6 x7 x8 x9
theorem bq_b9_el {α1 α2 α3 α4 α5 α6 α7 α8 α9 β : Type} {x : Option (α1 × α2 × α3 × α4 × α5 × α6 × α7 × α8 × α9)} {k : α1 → α2 → α3 → α4 → α5 → α6 → α7 → α8 → α9 → Option β} {r : β} (h : bq_b9 x k = some r) : ∃ (x1 : α1) (x2 : α2) (x3 : α3) (x4 : α4) (x5 : α5) (x6 : α6) (x7 : α7) (x8 : α8) (x9 : α9), x = some (x1, x2, x3, x4, x5, x6, x7, x8, x9) ∧ k x1 x2 x3 x4 x5 x6 x7 x8 x9 = some r := by
  cases x with
  | none => cases h
  | some y =>
    obtain ⟨x1, x2, x3, x4, x5, x6, x7, x8, x9⟩ := y
    exact ⟨x1, x2, x3, x4, x5, x6, x7, x8, x9, rfl, h⟩
def bq_l9 {α1 α2 α3 α4 α5 α6 α7 α8 α9 β : Type} (x : α1 × α2 × α3 × α4 × α5 × α6 × α7 × α8 × α9) (k : α1 → α2 → α3 → α4 → α5 → α6 → α7 → α8 → α9 → β) : β := k x.1 x.2.1 x.2.2.1 x.2.2.2.1 x.2.2.2.2.1 x.2.2.2.2.2.1 x.2.2.2.2.2.2.1 x.2.2.2.2.2.2.2.1 x.2.2.2.2.2.2.2.2
theorem bq_l9_el {α1 α2 α3 α4 α5 α6 α7 α8 α9 β : Type} {x : α1 × α2 × α3 × α4 × α5 × α6 × α7 × α8 × α9} {k : α1 → α2 → α3 → α4 → α5 → α6 → α7 → α8 → α9 → Option β} {r : β} (h : bq_l9 x k = some r) : ∃ (x1 : α1) (x2 : α2) (x3 : α3) (x4 : α4) (x5 : α5) (x6 : α6) (x7 : α7) (x8 : α8) (x9 : α9), (x1, x2, x3, x4, x5, x6, x7, x8, x9) = x ∧ k x1 x2 x3 x4 x5 x6 x7 x8 x9 = some r := ⟨x.1, x.2.1, x.2.2.1, x.2.2.2.1, x.2.2.2.2.1, x.2.2.2.2.2.1, x.2.2.2.2.2.2.1, x.2.2.2.2.2.2.2.1, x.2.2.2.2.2.2.2.2, rfl, h⟩
def bq_u9 {α1 α2 α3 α4 α5 α6 α7 α8 α9 β : Type} (k : α1 → α2 → α3 → α4 → α5 → α6 → α7 → α8 → α9 → β) (x : α1 × α2 × α3 × α4 × α5 × α6 × α7 × α8 × α9) : β := k x.1 x.2.1 x.2.2.1 x.2.2.2.1 x.2.2.2.2.1 x.2.2.2.2.2.1 x.2.2.2.2.2.2.1 x.2.2.2.2.2.2.2.1 x.2.2.2.2.2.2.2.2
theorem bq_u9_el {α1 α2 α3 α4 α5 α6 α7 α8 α9 β : Type} {k : α1 → α2 → α3 → α4 → α5 → α6 → α7 → α8 → α9 → β} {B : α1 × α2 × α3 × α4 × α5 × α6 × α7 × α8 × α9 → β} {r : β} (e : B = bq_u9 k) {x1 : α1} {x2 : α2} {x3 : α3} {x4 : α4} {x5 : α5} {x6 : α6} {x7 : α7} {x8 : α8} {x9 : α9} (h : B (x1, x2, x3, x4, x5, x6, x7, x8, x9) = r) : k x1 x2 x3 x4 x5 x6 x7 x8 x9 = r := by
  subst e
  exact h
theorem bq_ap9 {α1 α2 α3 α4 α5 α6 α7 α8 α9 β : Type} {f J : α1 → α2 → α3 → α4 → α5 → α6 → α7 → α8 → α9 → β} {r : β} (e : J = f) {x1 : α1} {x2 : α2} {x3 : α3} {x4 : α4} {x5 : α5} {x6 : α6} {x7 : α7} {x8 : α8} {x9 : α9} (h : J x1 x2 x3 x4 x5 x6 x7 x8 x9 = r) : f x1 x2 x3 x4 x5 x6 x7 x8 x9 = r := e ▸ h
def bq_or9 {α1 α2 α3 α4 α5 α6 α7 α8 α9 β γ : Type} (x : (α1 × α2 × α3 × α4 × α5 × α6 × α7 × α8 × α9) ⊕ β) (k : α1 → α2 → α3 → α4 → α5 → α6 → α7 → α8 → α9 → γ) (kr : β → γ) : γ := match x with
  | .inl (x1, x2, x3, x4, x5, x6, x7, x8, x9) => k x1 x2 x3 x4 x5 x6 x7 x8 x9
  | .inr r => kr r
def bq_b10 {α1 α2 α3 α4 α5 α6 α7 α8 α9 α10 β : Type} (x : Option (α1 × α2 × α3 × α4 × α5 × α6 × α7 × α8 × α9 × α10)) (k : α1 → α2 → α3 → α4 → α5 → α6 → α7 → α8 → α9 → α10 → Option β) : Option β := match x with
  | none => none
  | some (x1, x2, x3, x4, x5, x6, x7, x8, x9, x10) => k x1 x2 x3 x4 x5 x6 x7 x8 x9 x10
theorem bq_b10_el {α1 α2 α3 α4 α5 α6 α7 α8 α9 α10 β : Type} {x : Option (α1 × α2 × α3 × α4 × α5 × α6 × α7 × α8 × α9 × α10)} {k : α1 → α2 → α3 → α4 → α5 → α6 → α7 → α8 → α9 → α10 → Option β} {r : β} (h : bq_b10 x k = some r) : ∃ (x1 : α1) (x2 : α2) (x3 : α3) (x4 : α4) (x5 : α5) (x6 : α6) (x7 : α7) (x8 : α8) (x9 : α9) (x10 : α10), x = some (x1, x2, x3, x4, x5, x6, x7, x8, x9, x10) ∧ k x1 x2 x3 x4 x5 x6 x7 x8 x9 x10 = some r := by
  cases x with
  | none => cases h
  | some y =>
    obtain ⟨x1, x2, x3, x4, x5, x6, x7, x8, x9, x10⟩ := y
    exact ⟨x1, x2, x3, x4, x5, x6, x7, x8, x9, x10, rfl, h⟩
def bq_l10 {α1 α2 α3 α4 α5 α6 α7 α8 α9 α10 β : Type} (x : α1 × α2 × α3 × α4 × α5 × α6 × α7 × α8 × α9 × α10) (k : α1 → α2 → α3 → α4 → α5 → α6 → α7 → α8 → α9 → α10 → β) : β := k x.1 x.2.1 x.2.2.1 x.2.2.2.1 x.2.2.2.2.1 x.2.2.2.2.2.1 x.2.2.2.2.2.2.1 x.2.2.2.2.2.2.2.1 x.2.2.2.2.2.2.2.2.1 x.2.2.2.2.2.2.2.2.2
theorem bq_l10_el {α1 α2 α3 α4 α5 α6 α7 α8 α9 α10 β : Type} {x : α1 × α2 × α3 × α4 × α5 × α6 × α7 × α8 × α9 × α10} {k : α1 → α2 → α3 → α4 → α5 → α6 → α7 → α8 → α9 → α10 → Option β} {r : β} (h : bq_l10 x k = some r) : ∃ (x1 : α1) (x2 : α2) (x3 : α3) (x4 : α4) (x5 : α5) (x6 : α6) (x7 : α7) (x8 : α8) (x9 : α9) (x10 : α10), (x1, x2, x3, x4, x5, x6, x7, x8, x9, x10) = x ∧ k x1 x2 x3 x4 x5 x6 x7 x8 x9 x10 = some r := ⟨x.1, x.2.1, x.2.2.1, x.2.2.2.1, x.2.2.2.2.1, x.2.2.2.2.2.1, x.2.2.2.2.2.2.1, x.2.2.2.2.2.2.2.1, x.2.2.2.2.2.2.2.2.1, x.2.2.2.2.2.2.2.2.2, rfl, h⟩
def bq_u10 {α1 α2 α3 α4 α5 α6 α7 α8 α9 α10 β : Type} (k : α1 → α2 → α3 → α4 → α5 → α6 → α7 → α8 → α9 → α10 → β) (x : α1 × α2 × α3 × α4 × α5 × α6 × α7 × α8 × α9 × α10) : β := k x.1 x.2.1 x.2.2.1 x.2.2.2.1 x.2.2.2.2.1 x.2.2.2.2.2.1 x.2.2.2.2.2.2.1 x.2.2.2.2.2.2.2.1 x.2.2.2.2.2.2.2.2.1 x.2.2.2.2.2.2.2.2.2
theorem bq_u10_el {α1 α2 α3 α4 α5 α6 α7 α8 α9 α10 β : Type} {k : α1 → α2 → α3 → α4 → α5 → α6 → α7 → α8 → α9 → α10 → β} {B : α1 × α2 × α3 × α4 × α5 × α6 × α7 × α8 × α9 × α10 → β} {r : β} (e : B = bq_u10 k) {x1 : α1} {x2 : α2} {x3 : α3} {x4 : α4} {x5 : α5} {x6 : α6} {x7 : α7} {x8 : α8} {x9 : α9} {x10 : α10} (h : B (x1, x2, x3, x4, x5, x6, x7, x8, x9, x10) = r) : k x1 x2 x3 x4 x5 x6 x7 x8 x9 x10 = r := by
  subst e
  exact h
theorem bq_ap10 {α1 α2 α3 α4 α5 α6 α7 α8 α9 α10 β : Type} {f J : α1 → α2 → α3 → α4 → α5 → α6 → α7 → α8 → α9 → α10 → β} {r : β} (e : J = f) {x1 : α1} {x2 : α2} {x3 : α3} {x4 : α4} {x5 : α5} {x6 : α6} {x7 : α7} {x8 : α8} {x9 : α9} {x10 : α10} (h : J x1 x2 x3 x4 x5 x6 x7 x8 x9 x10 = r) : f x1 x2 x3 x4 x5 x6 x7 x8 x9 x10 = r := e ▸ h
def bq_or10 {α1 α2 α3 α4 α5 α6 α7 α8 α9 α10 β γ : Type} (x : (α1 × α2 × α3 × α4 × α5 × α6 × α7 × α8 × α9 × α10) ⊕ β) (k : α1 → α2 → α3 → α4 → α5 → α6 → α7 → α8 → α9 → α10 → γ) (kr : β → γ) : γ := match x with
  | .inl (x1, x2, x3, x4, x5, x6, x7, x8, x9, x10) => k x1 x2 x3 x4 x5 x6 x7 x8 x9 x10
  | .inr r => kr r
def bq_b11 {α1 α2 α3 α4 α5 α6 α7 α8 α9 α10 α11 β : Type} (x : Option (α1 × α2 × α3 × α4 × α5 × α6 × α7 × α8 × α9 × α10 × α11)) (k : α1 → α2 → α3 → α4 → α5 → α6 → α7 → α8 → α9 → α10 → α11 → Option β) : Option β := match x with
  | none => none
  | some (x1, x2, x3, x4, x5, x6, x7, x8, x9, x10, x11) => k x1 x2 x3 x4 x5 x6 x7 x8 x9 x10 x11
theorem bq_b11_el {α1 α2 α3 α4 α5 α6 α7 α8 α9 α10 α11 β : Type} {x : Option (α1 × α2 × α3 × α4 × α5 × α6 × α7 × α8 × α9 × α10 × α11)} {k : α1 → α2 → α3 → α4 → α5 → α6 → α7 → α8 → α9 → α10 → α11 → Option β} {r : β} (h : bq_b11 x k = some r) : ∃ (x1 : α1) (x2 : α2) (x3 : α3) (x4 : α4) (x5 : α5) (x6 : α6) (x7 : α7) (x8 : α8) (x9 : α9) (x10 : α10) (x11 : α11), x = some (x1, x2, x3, x4, x5, x6, x7, x8, x9, x10, x11) ∧ k x1 x2 x3 x4 x5 x6 x7 x8 x9 x10 x11 = some r := by
  cases x with
  | none => cases h
  | some y =>
    obtain ⟨x1, x2, x3, x4, x5, x6, x7, x8, x9, x10, x11⟩ := y
    exact ⟨x1, x2, x3, x4, x5, x6, x7, x8, x9, x10, x11, rfl, h⟩
def bq_l11 {α1 α2 α3 α4 α5 α6 α7 α8 α9 α10 α11 β : Type} (x : α1 × α2 × α3 × α4 × α5 × α6 × α7 × α8 × α9 × α10 × α11) (k : α1 → α2 → α3 → α4 → α5 → α6 → α7 → α8 → α9 → α10 → α11 → β) : β := k x.1 x.2.1 x.2.2.1 x.2.2.2.1 x.2.2.2.2.1 x.2.2.2.2.2.1 x.2.2.2.2.2.2.1 x.2.2.2.2.2.2.2.1 x.2.2.2.2.2.2.2.2.1 x.2.2.2.2.2.2.2.2.2.1 x.2.2.2.2.2.2.2.2.2.2
theorem bq_l11_el {α1 α2 α3 α4 α5 α6 α7 α8 α9 α10 α11 β : Type} {x : α1 × α2 × α3 × α4 × α5 × α6 × α7 × α8 × α9 × α10 × α11} {k : α1 → α2 → α3 → α4 → α5 → α6 → α7 → α8 → α9 → α10 → α11 → Option β} {r : β} (h : bq_l11 x k = some r) : ∃ (x1 : α1) (x2 : α2) (x3 : α3) (x4 : α4) (x5 : α5) (x6 : α6) (x7 : α7) (x8 : α8) (x9 : α9) (x10 : α10) (x11 : α11), (x1, x2, x3, x4, x5, x6, x7, x8, x9, x10, x11) = x ∧ k x1 x2 x3 x4 x5 x6 x7 x8 x9 x10 x11 = some r := ⟨x.1, x.2.1, x.2.2.1, x.2.2.2.1, x.2.2.2.2.1, x.2.2.2.2.2.1, x.2.2.2.2.2.2.1, x.2.2.2.2.2.2.2.1, x.2.2.2.2.2.2.2.2.1, x.2.2.2.2.2.2.2.2.2.1, x.2.2.2.2.2.2.2.2.2.2, rfl, h⟩
def bq_u11 {α1 α2 α3 α4 α5 α6 α7 α8 α9 α10 α11 β : Type} (k : α1 → α2 → α3 → α4 → α5 → α6 → α7 → α8 → α9 → α10 → α11 → β) (x : α1 × α2 × α3 × α4 × α5 × α6 × α7 × α8 × α9 × α10 × α11) : β := k x.1 x.2.1 x.2.2.1 x.2.2.2.1 x.2.2.2.2.1 x.2.2.2.2.2.1 x.2.2.2.2.2.2.1 x.2.2.2.2.2.2.2.1 x.2.2.2.2.2.2.2.2.1 x.2.2.2.2.2.2.2.2.2.1 x.2.2.2.2.2.2.2.2.2.2
theorem bq_u11_el {α1 α2 α3 α4 α5 α6 α7 α8 α9 α10 α11 β : Type} {k : α1 → α2 → α3 → α4 → α5 → α6 → α7 → α8 → α9 → α10 → α11 → β} {B : α1 × α2 × α3 × α4 × α5 × α6 × α7 × α8 × α9 × α10 × α11 → β} {r : β} (e : B = bq_u11 k) {x1 : α1} {x2 : α2} {x3 : α3} {x4 : α4} {x5 : α5} {x6 : α6} {x7 : α7} {x8 : α8} {x9 : α9} {x10 : α10} {x11 : α11} (h : B (x1, x2, x3, x4, x5, x6, x7, x8, x9, x10, x11) = r) : k x1 x2 x3 x4 x5 x6 x7 x8 x9 x10 x11 = r := by
  subst e
  exact h
theorem bq_ap11 {α1 α2 α3 α4 α5 α6 α7 α8 α9 α10 α11 β : Type} {f J : α1 → α2 → α3 → α4 → α5 → α6 → α7 → α8 → α9 → α10 → α11 → β} {r : β} (e : J = f) {x1 : α1} {x2 : α2} {x3 : α3} {x4 : α4} {x5 : α5} {x6 : α6} {x7 : α7} {x8 : α8} {x9 : α9} {x10 : α10} {x11 : α11} (h : J x1 x2 x3 x4 x5 x6 x7 x8 x9 x10 x11 = r) : f x1 x2 x3 x4 x5 x6 x7 x8 x9 x10 x11 = r := e ▸ h
def bq_or11 {α1 α2 α3 α4 α5 α6 α7 α8 α9 α10 α11 β γ : Type} (x : (α1 × α2 × α3 × α4 × α5 × α6 × α7 × α8 × α9 × α10 × α11) ⊕ β) (k : α1 → α2 → α3 → α4 → α5 → α6 → α7 → α8 → α9 → α10 → α11 → γ) (kr : β → γ) : γ := match x with
  | .inl (x1, x2, x3, x4, x5, x6, x7, x8, x9, x10, x11) => k x1 x2 x3 x4 x5 x6 x7 x8 x9 x10 x11
  | .inr r => kr r
def bq_b12 {α1 α2 α3 α4 α5 α6 α7 α8 α9 α10 α11 α12 β : Type} (x : Option (α1 × α2 × α3 × α4 × α5 × α6 × α7 × α8 × α9 × α10 × α11 × α12)) (k : α1 → α2 → α3 → α4 → α5 → α6 → α7 → α8 → α9 → α10 → α11 → α12 → Option β) : Option β := match x with
  | none => none
  | some (x1, x2, x3, x4, x5, x6, x7, x8, x9, x10, x11, x12) => k x1 x2 x3 x4 x5 x6 x7 x8 x9 x10 x11 x12
theorem bq_b12_el {α1 α2 α3 α4 α5 α6 α7 α8 α9 α10 α11 α12 β : Type} {x : Option (α1 × α2 × α3 × α4 × α5 × α6 × α7 × α8 × α9 × α10 × α11 × α12)} {k : α1 → α2 → α3 → α4 → α5 → α6 → α7 → α8 → α9 → α10 → α11 → α12 → Option β} {r : β} (h : bq_b12 x k = some r) : ∃ (x1 : α1) (x2 : α2) (x3 : α3) (x4 : α4) (x5 : α5) (x6 : α6) (x7 : α7) (x8 : α8) (x9 : α9) (x10 : α10) (x11 : α11) (x12 : α12), x = some (x1, x2, x3, x4, x5, x6, x7, x8, x9, x10, x11, x12) ∧ k x1 x2 x3 x4 x5 x6 x7 x8 x9 x10 x11 x12 = some r := by
  cases x with
  | none => cases h
  | some y =>
    obtain ⟨x1, x2, x3, x4, x5, x6, x7, x8, x9, x10, x11, x12⟩ := y
    exact ⟨x1, x2, x3, x4, x5, x6, x7, x8, x9, x10, x11, x12, rfl, h⟩
def bq_l12 {α1 α2 α3 α4 α5 α6 α7 α8 α9 α10 α11 α12 β : Type} (x : α1 × α2 × α3 × α4 × α5 × α6 × α7 × α8 × α9 × α10 × α11 × α12) (k : α1 → α2 → α3 → α4 → α5 → α6 → α7 → α8 → α9 → α10 → α11 → α12 → β) : β := k x.1 x.2.1 x.2.2.1 x.2.2.2.1 x.2.2.2.2.1 x.2.2.2.2.2.1 x.2.2.2.2.2.2.1 x.2.2.2.2.2.2.2.1 x.2.2.2.2.2.2.2.2.1 x.2.2.2.2.2.2.2.2.2.1 x.2.2.2.2.2.2.2.2.2.2.1 x.2.2.2.2.2.2.2.2.2.2.2
theorem bq_l12_el {α1 α2 α3 α4 α5 α6 α7 α8 α9 α10 α11 α12 β : Type} {x : α1 × α2 × α3 × α4 × α5 × α6 × α7 × α8 × α9 × α10 × α11 × α12} {k : α1 → α2 → α3 → α4 → α5 → α6 → α7 → α8 → α9 → α10 → α11 → α12 → Option β} {r : β} (h : bq_l12 x k = some r) : ∃ (x1 : α1) (x2 : α2) (x3 : α3) (x4 : α4) (x5 : α5) (x6 : α6) (x7 : α7) (x8 : α8) (x9 : α9) (x10 : α10) (x11 : α11) (x12 : α12), (x1, x2, x3, x4, x5, x6, x7, x8, x9, x10, x11, x12) = x ∧ k x1 x2 x3 x4 x5 x6 x7 x8 x9 x10 x11 x12 = some r := ⟨x.1, x.2.1, x.2.2.1, x.2.2.2.1, x.2.2.2.2.1, x.2.2.2.2.2.1, x.2.2.2.2.2.2.1, x.2.2.2.2.2.2.2.1, x.2.2.2.2.2.2.2.2.1, x.2.2.2.2.2.2.2.2.2.1, x.2.2.2.2.2.2.2.2.2.2.1, x.2.2.2.2.2.2.2.2.2.2.2, rfl, h⟩
def bq_u12 {α1 α2 α3 α4 α5 α6 α7 α8 α9 α10 α11 α12 β : Type} (k : α1 → α2 → α3 → α4 → α5 → α6 → α7 → α8 → α9 → α10 → α11 → α12 → β) (x : α1 × α2 × α3 × α4 × α5 × α6 × α7 × α8 × α9 × α10 × α11 × α12) : β := k x.1 x.2.1 x.2.2.1 x.2.2.2.1 x.2.2.2.2.1 x.2.2.2.2.2.1 x.2.2.2.2.2.2.1 x.2.2.2.2.2.2.2.1 x.2.2.2.2.2.2.2.2.1 x.2.2.2.2.2.2.2.2.2.1 x.2.2.2.2.2.2.2.2.2.2.1 x.2.2.2.2.2.2.2.2.2.2.2
theorem bq_u12_el {α1 α2 α3 α4 α5 α6 α7 α8 α9 α10 α11 α12 β : Type} {k : α1 → α2 → α3 → α4 → α5 → α6 → α7 → α8 → α9 → α10 → α11 → α12 → β} {B : α1 × α2 × α3 × α4 × α5 × α6 × α7 × α8 × α9 × α10 × α11 × α12 → β} {r : β} (e : B = bq_u12 k) {x1 : α1} {x2 : α2} {x3 : α3} {x4 : α4} {x5 : α5} {x6 : α6} {x7 : α7} {x8 : α8} {x9 : α9} {x10 : α10} {x11 : α11} {x12 : α12} (h : B (x1, x2, x3, x4, x5, x6, x7, x8, x9, x10, x11, x12) = r) : k x1 x2 x3 x4 x5 x6 x7 x8 x9 x10 x11 x12 = r := by
  subst e
  exact h
theorem bq_ap12 {α1 α2 α3 α4 α5 α6 α7 α8 α9 α10 α11 α12 β : Type} {f J : α1 → α2 → α3 → α4 → α5 → α6 → α7 → α8 → α9 → α10 → α11 → α12 → β} {r : β} (e : J = f) {x1 : α1} {x2 : α2} {x3 : α3} {x4 : α4} {x5 : α5} {x6 : α6} {x7 : α7} {x8 : α8} {x9 : α9} {x10 : α10} {x11 : α11} {x12 : α12} (h : J x1 x2 x3 x4 x5 x6 x7 x8 x9 x10 x11 x12 = r) : f x1 x2 x3 x4 x5 x6 x7 x8 x9 x10 x11 x12 = r := e ▸ h
def bq_or12 {α1 α2 α3 α4 α5 α6 α7 α8 α9 α10 α11 α12 β γ : Type} (x : (α1 × α2 × α3 × α4 × α5 × α6 × α7 × α8 × α9 × α10 × α11 × α12) ⊕ β) (k : α1 → α2 → α3 → α4 → α5 → α6 → α7 → α8 → α9 → α10 → α11 → α12 → γ) (kr : β → γ) : γ := match x with
  | .inl (x1, x2, x3, x4, x5, x6, x7, x8, x9, x10, x11, x12) => k x1 x2 x3 x4 x5 x6 x7 x8 x9 x10 x11 x12
  | .inr r => kr r
def bq_u1 {α β : Type} (k : α → β) (x : α) : β := k x
theorem bq_u1_el {α β : Type} {k : α → β} {B : α → β} {r : β} (e : B = bq_u1 k) {x : α} (h : B x = r) : k x = r := by
  subst e
  exact h
theorem bq_ap1 {α β : Type} {f J : α → β} {r : β} (e : J = f) {x : α} (h : J x = r) : f x = r := e ▸ h
def bq_or1 {α β γ : Type} (x : α ⊕ β) (k : α → γ) (kr : β → γ) : γ := match x with
  | .inl x => k x
  | .inr r => kr r
theorem bq_loop_B {S R : Type} {b : S → Option (S ⊕ R)} {s : S} {r : R} (h : bq_loop b s = some r) : ∃ B : S → Option (S ⊕ R), B = b ∧ ∃ n, bq_lp B n s = some r := ⟨b, rfl, bq_loop_el h⟩
theorem bq_or1_l {α1 β γ : Type} {x1 : α1} {k : α1 → γ} {kr : β → γ} {r : γ} (h : bq_or1 (.inl x1) k kr = r) : k x1 = r := h
theorem bq_or1_r {α1 β γ : Type} {x : β} {k : α1 → γ} {kr : β → γ} {r : γ} (h : bq_or1 (.inr x) k kr = r) : kr x = r := h
theorem bq_or2_l {α1 α2 β γ : Type} {x1 : α1} {x2 : α2} {k : α1 → α2 → γ} {kr : β → γ} {r : γ} (h : bq_or2 (.inl (x1, x2)) k kr = r) : k x1 x2 = r := h
theorem bq_or2_r {α1 α2 β γ : Type} {x : β} {k : α1 → α2 → γ} {kr : β → γ} {r : γ} (h : bq_or2 (.inr x) k kr = r) : kr x = r := h
theorem bq_or3_l {α1 α2 α3 β γ : Type} {x1 : α1} {x2 : α2} {x3 : α3} {k : α1 → α2 → α3 → γ} {kr : β → γ} {r : γ} (h : bq_or3 (.inl (x1, x2, x3)) k kr = r) : k x1 x2 x3 = r := h
theorem bq_or3_r {α1 α2 α3 β γ : Type} {x : β} {k : α1 → α2 → α3 → γ} {kr : β → γ} {r : γ} (h : bq_or3 (.inr x) k kr = r) : kr x = r := h
theorem bq_or4_l {α1 α2 α3 α4 β γ : Type} {x1 : α1} {x2 : α2} {x3 : α3} {x4 : α4} {k : α1 → α2 → α3 → α4 → γ} {kr : β → γ} {r : γ} (h : bq_or4 (.inl (x1, x2, x3, x4)) k kr = r) : k x1 x2 x3 x4 = r := h
theorem bq_or4_r {α1 α2 α3 α4 β γ : Type} {x : β} {k : α1 → α2 → α3 → α4 → γ} {kr : β → γ} {r : γ} (h : bq_or4 (.inr x) k kr = r) : kr x = r := h
theorem bq_or5_l {α1 α2 α3 α4 α5 β γ : Type} {x1 : α1} {x2 : α2} {x3 : α3} {x4 : α4} {x5 : α5} {k : α1 → α2 → α3 → α4 → α5 → γ} {kr : β → γ} {r : γ} (h : bq_or5 (.inl (x1, x2, x3, x4, x5)) k kr = r) : k x1 x2 x3 x4 x5 = r := h
theorem bq_or5_r {α1 α2 α3 α4 α5 β γ : Type} {x : β} {k : α1 → α2 → α3 → α4 → α5 → γ} {kr : β → γ} {r : γ} (h : bq_or5 (.inr x) k kr = r) : kr x = r := h
theorem bq_or6_l {α1 α2 α3 α4 α5 α6 β γ : Type} {x1 : α1} {x2 : α2} {x3 : α3} {x4 : α4} {x5 : α5} {x6 : α6} {k : α1 → α2 → α3 → α4 → α5 → α6 → γ} {kr : β → γ} {r : γ} (h : bq_or6 (.inl (x1, x2, x3, x4, x5, x6)) k kr = r) : k x1 x2 x3 x4 x5 x6 = r := h
theorem bq_or6_r {α1 α2 α3 α4 α5 α6 β γ : Type} {x : β} {k : α1 → α2 → α3 → α4 → α5 → α6 → γ} {kr : β → γ} {r : γ} (h : bq_or6 (.inr x) k kr = r) : kr x = r := h
theorem bq_or7_l {α1 α2 α3 α4 α5 α6 α7 β γ : Type} {x1 : α1} {x2 : α2} {x3 : α3} {x4 : α4} {x5 : α5} {x6 : α6} {x7 : α7} {k : α1 → α2 → α3 → α4 → α5 → α6 → α7 → γ} {kr : β → γ} {r : γ} (h : bq_or7 (.inl (x1, x2, x3, x4, x5, x6, x7)) k kr = r) : k x1 x2 x3 x4 x5 x6 x7 = r := h
theorem bq_or7_r {α1 α2 α3 α4 α5 α6 α7 β γ : Type} {x : β} {k : α1 → α2 → α3 → α4 → α5 → α6 → α7 → γ} {kr : β → γ} {r : γ} (h : bq_or7 (.inr x) k kr = r) : kr x = r := h
theorem bq_or8_l {α1 α2 α3 α4 α5 α6 α7 α8 β γ : Type} {x1 : α1} {x2 : α2} {x3 : α3} {x4 : α4} {x5 : α5} {x6 : α6} {x7 : α7} {x8 : α8} {k : α1 → α2 → α3 → α4 → α5 → α6 → α7 → α8 → γ} {kr : β → γ} {r : γ} (h : bq_or8 (.inl (x1, x2, x3, x4, x5, x6, x7, x8)) k kr = r) : k x1 x2 x3 x4 x5 x6 x7 x8 = r := h
theorem bq_or8_r {α1 α2 α3 α4 α5 α6 α7 α8 β γ : Type} {x : β} {k : α1 → α2 → α3 → α4 → α5 → α6 → α7 → α8 → γ} {kr : β → γ} {r : γ} (h : bq_or8 (.inr x) k kr = r) : kr x = r := h
theorem bq_or9_l {α1 α2 α3 α4 α5 α6 α7 α8 α9 β γ : Type} {x1 : α1} {x2 : α2} {x3 : α3} {x4 : α4} {x5 : α5} {x6 : α6} {x7 : α7} {x8 : α8} {x9 : α9} {k : α1 → α2 → α3 → α4 → α5 → α6 → α7 → α8 → α9 → γ} {kr : β → γ} {r : γ} (h : bq_or9 (.inl (x1, x2, x3, x4, x5, x6, x7, x8, x9)) k kr = r) : k x1 x2 x3 x4 x5 x6 x7 x8 x9 = r := h
theorem bq_or9_r {α1 α2 α3 α4 α5 α6 α7 α8 α9 β γ : Type} {x : β} {k : α1 → α2 → α3 → α4 → α5 → α6 → α7 → α8 → α9 → γ} {kr : β → γ} {r : γ} (h : bq_or9 (.inr x) k kr = r) : kr x = r := h
theorem bq_or10_l {α1 α2 α3 α4 α5 α6 α7 α8 α9 α10 β γ : Type} {x1 : α1} {x2 : α2} {x3 : α3} {x4 : α4} {x5 : α5} {x6 : α6} {x7 : α7} {x8 : α8} {x9 : α9} {x10 : α10} {k : α1 → α2 → α3 → α4 → α5 → α6 → α7 → α8 → α9 → α10 → γ} {kr : β → γ} {r : γ} (h : bq_or10 (.inl (x1, x2, x3, x4, x5, x6, x7, x8, x9, x10)) k kr = r) : k x1 x2 x3 x4 x5 x6 x7 x8 x9 x10 = r := h
theorem bq_or10_r {α1 α2 α3 α4 α5 α6 α7 α8 α9 α10 β γ : Type} {x : β} {k : α1 → α2 → α3 → α4 → α5 → α6 → α7 → α8 → α9 → α10 → γ} {kr : β → γ} {r : γ} (h : bq_or10 (.inr x) k kr = r) : kr x = r := h
theorem bq_or11_l {α1 α2 α3 α4 α5 α6 α7 α8 α9 α10 α11 β γ : Type} {x1 : α1} {x2 : α2} {x3 : α3} {x4 : α4} {x5 : α5} {x6 : α6} {x7 : α7} {x8 : α8} {x9 : α9} {x10 : α10} {x11 : α11} {k : α1 → α2 → α3 → α4 → α5 → α6 → α7 → α8 → α9 → α10 → α11 → γ} {kr : β → γ} {r : γ} (h : bq_or11 (.inl (x1, x2, x3, x4, x5, x6, x7, x8, x9, x10, x11)) k kr = r) : k x1 x2 x3 x4 x5 x6 x7 x8 x9 x10 x11 = r := h
theorem bq_or11_r {α1 α2 α3 α4 α5 α6 α7 α8 α9 α10 α11 β γ : Type} {x : β} {k : α1 → α2 → α3 → α4 → α5 → α6 → α7 → α8 → α9 → α10 → α11 → γ} {kr : β → γ} {r : γ} (h : bq_or11 (.inr x) k kr = r) : kr x = r := h
theorem bq_or12_l {α1 α2 α3 α4 α5 α6 α7 α8 α9 α10 α11 α12 β γ : Type} {x1 : α1} {x2 : α2} {x3 : α3} {x4 : α4} {x5 : α5} {x6 : α6} {x7 : α7} {x8 : α8} {x9 : α9} {x10 : α10} {x11 : α11} {x12 : α12} {k : α1 → α2 → α3 → α4 → α5 → α6 → α7 → α8 → α9 → α10 → α11 → α12 → γ} {kr : β → γ} {r : γ} (h : bq_or12 (.inl (x1, x2, x3, x4, x5, x6, x7, x8, x9, x10, x11, x12)) k kr = r) : k x1 x2 x3 x4 x5 x6 x7 x8 x9 x10 x11 x12 = r := h
theorem bq_or12_r {α1 α2 α3 α4 α5 α6 α7 α8 α9 α10 α11 α12 β γ : Type} {x : β} {k : α1 → α2 → α3 → α4 → α5 → α6 → α7 → α8 → α9 → α10 → α11 → α12 → γ} {kr : β → γ} {r : γ} (h : bq_or12 (.inr x) k kr = r) : kr x = r := h
theorem bq_lk_r {S R : Type} {b : S → Option (S ⊕ R)} {n : Nat} {x r : R} (h : bq_lk b n (.inr x) = some r) : x = r := Option.some.inj h
end BQF
section BQB
variable {p : Program} {l : Launch} {e : Env} {R : Room} {s : State} {m : MethodId} {args : Array Value} {below : List Frame} {meth : Method} {c : Code} {H : Heap} {locs : List Loc} {cells slots : Nat} {Q : State → Prop}
variable {cc : ByteArray} {pc nL : Nat} {ls : Array Slot} {rest : List Value} {D : va_G} {A : Nat → Prop} {a : Nat} {ws : va_W} {H0 : Heap} {own : String} {cI cJ : ClassId}
def bq_w (D : va_G) (A : Nat → Prop) (H0 : Heap) (ws : va_W) (H : Heap) (locs : List Loc) : Prop := va_P D vwCl ws H ∧ va_D A ws ∧ va_S A H0 H locs
abbrev bq_K (D : va_G) (cI cJ : ClassId) (s : State) : Prop := va_K D vwCl [(cI, .int), (cJ, .long)] s
abbrev bq_E (p : Program) (m : MethodId) (c : Code) (cc : ByteArray) (nL : Nat) (s : State) (args : Array Value) (own : String) : Prop := CallFix p m c cc nL s args lw_good own
theorem bq_get (E : bq_E p m c cc nL s args own) (K : bq_K D cI cJ s) (w : bq_w D A H0 ws H locs) (q0 : Nat) {C : String} {T : u_T} {N ci index : Nat} (hin : ∀ w ∈ u_ws C T N, w ∈ lw_good) (hc : vwCl[ci]? = some (C, T, N)) (k : Nat) (hk : k < N) (hl : Cond.fieldLink own index C (T k).2.1 (T k).2.2.1 ∈ lw_good) (ho : (T k).1 = C) {fs : List Value} {v : Value} (he : ws[q0]? = some (a, .inr (ci, fs))) (hv : fs[k]? = some v) (hdg : decode cc pc = .ok (.getfield index, 3))
    (kk : W p l e R s m args below meth c H locs cells slots Q (F0 m (pc + 3) ls (v :: rest))) : W p l e R s m args below meth c H locs cells slots Q (F0 m pc ls (.ref a :: rest)) :=
  va_get E.1 E.2.1 E.2.2.2.2 hin E.2.2.2.1 K w.1 q0 he hc k hk (E.2.2.2.2 _ hl) (fun x h => by rw [ho] at h; exact h) hv hdg kk
theorem bq_put (E : bq_E p m c cc nL s args own) (K : bq_K D cI cJ s) (w : bq_w D A H0 ws H locs) (q0 : Nat) {C : String} {T : u_T} {N ci index : Nat} (hin : ∀ w ∈ u_ws C T N, w ∈ lw_good) (ty0 : Nat → FieldType) (hty : ∀ k, k < N → parseFieldDescriptor (T k).2.2.1 = some (ty0 k)) (hnm : ∀ a, a < N → ∀ b, b < N → a ≠ b → (T a).2.1 ≠ (T b).2.1) (hc : vwCl[ci]? = some (C, T, N)) (k : Nat) (hk : k < N) (hl : Cond.fieldLink own index C (T k).2.1 (T k).2.2.1 ∈ lw_good) (ho : (T k).1 = C) (hfin : (T k).2.2.2 = false) {fs : List Value} {v : Value} (hn : narrow (ty0 k) v = v) (hfit : fits (ty0 k) v = true) (he : ws[q0]? = some (a, .inr (ci, fs))) (hlen : k < fs.length) (hdg : decode cc pc = .ok (.putfield index, 3))
    (kk : ∀ (H1 : Heap) (locs1 : List Loc), bq_w D A H0 (ws.set q0 (a, .inr (ci, fs.set k v))) H1 locs1 → W p l e R s m args below meth c H1 locs1 cells slots Q (F0 m (pc + 3) ls rest)) : W p l e R s m args below meth c H locs cells slots Q (F0 m pc ls (v :: .ref a :: rest)) :=
  va_put E.1 E.2.1 E.2.2.2.2 hin ty0 hty hnm E.2.2.2.1 K w.1 w.2.1 w.2.2 q0 he hc k hk (E.2.2.2.2 _ hl) (fun x h => by rw [ho] at h; exact h) hfin (hty k hk) hn hfit hlen hdg (fun H1 locs1 h1 h2 h3 => kk H1 locs1 ⟨h1, h2, h3⟩)
theorem bq_putF (E : bq_E p m c cc nL s args own) (K : bq_K D cI cJ s) (w : bq_w D A H0 ws H locs) (q0 : Nat) {T : u_T} {N ci index : Nat} (hin : ∀ w ∈ u_ws own T N, w ∈ lw_good) (ty0 : Nat → FieldType) (hty : ∀ k, k < N → parseFieldDescriptor (T k).2.2.1 = some (ty0 k)) (hnm : ∀ a, a < N → ∀ b, b < N → a ≠ b → (T a).2.1 ≠ (T b).2.1) (hc : vwCl[ci]? = some (own, T, N)) (k : Nat) (hk : k < N) (hl : Cond.fieldLink own index own (T k).2.1 (T k).2.2.1 ∈ lw_good) (ho : (T k).1 = own) (hfin : (T k).2.2.2 = true) (hinit : meth.name = "<init>") {fs : List Value} {v : Value} (hn : narrow (ty0 k) v = v) (hfit : fits (ty0 k) v = true) (he : ws[q0]? = some (a, .inr (ci, fs))) (hlen : k < fs.length) (hdg : decode cc pc = .ok (.putfield index, 3))
    (kk : ∀ (H1 : Heap) (locs1 : List Loc), bq_w D A H0 (ws.set q0 (a, .inr (ci, fs.set k v))) H1 locs1 → W p l e R s m args below meth c H1 locs1 cells slots Q (F0 m (pc + 3) ls rest)) : W p l e R s m args below meth c H locs cells slots Q (F0 m pc ls (v :: .ref a :: rest)) :=
  va_putF E.1 E.2.1 E.2.2.2.2 hin ty0 hty hnm E.2.2.2.1 K w.1 w.2.1 w.2.2 q0 he hc k hk (E.2.2.2.2 _ hl) (fun x h => by rw [ho] at h; exact h) hfin hinit ho (hty k hk) hn hfit hlen hdg (fun H1 locs1 h1 h2 h3 => kk H1 locs1 ⟨h1, h2, h3⟩)
theorem bq_ald (E : bq_E p m c cc nL s args own) (K : bq_K D cI cJ s) (w : bq_w D A H0 ws H locs) (q0 : Nat) {n : Nat} {f : Nat → Int32} (ha : ws[q0]? = some (a, .inl (cI, n, .inl f))) {i : Int32} (hin : vp_in i n) (hdg : decode cc pc = .ok (.iaload, 1))
    (kk : W p l e R s m args below meth c H locs cells slots Q (F0 m (pc + 1) ls (.int (f i.toNatClampNeg) :: rest))) : W p l e R s m args below meth c H locs cells slots Q (F0 m pc ls (.int i :: .ref a :: rest)) :=
  va_iald E.1 E.2.1 K w.1 q0 0 ha rfl hin hdg kk
theorem bq_ast (E : bq_E p m c cc nL s args own) (K : bq_K D cI cJ s) (w : bq_w D A H0 ws H locs) (q0 : Nat) {n : Nat} {f : Nat → Int32} (ha : ws[q0]? = some (a, .inl (cI, n, .inl f))) {i x : Int32} (hin : vp_in i n) (hdg : decode cc pc = .ok (.iastore, 1))
    (kk : ∀ (H1 : Heap) (locs1 : List Loc), bq_w D A H0 (ws.set q0 (a, .inl (cI, n, .inl (upd f i.toNatClampNeg x)))) H1 locs1 → W p l e R s m args below meth c H1 locs1 cells slots Q (F0 m (pc + 1) ls rest)) : W p l e R s m args below meth c H locs cells slots Q (F0 m pc ls (.int x :: .int i :: .ref a :: rest)) :=
  va_iast E.1 E.2.1 K w.1 w.2.1 w.2.2 q0 0 ha rfl hin hdg (fun H1 locs1 h1 h2 h3 => kk H1 locs1 ⟨h1, h2, h3⟩)
theorem bq_aldk (E : bq_E p m c cc nL s args own) (K : bq_K D cI cJ s) (w : bq_w D A H0 ws H locs) (q0 : Nat) {n : Nat} {f : Nat → Int32} (ha : ws[q0]? = some (a, .inl (cI, n, .inl f))) {i : Int32} (k : Nat) (hk : i.toNatClampNeg = k) (hin : vp_in i n) (hdg : decode cc pc = .ok (.iaload, 1))
    (kk : W p l e R s m args below meth c H locs cells slots Q (F0 m (pc + 1) ls (.int (f k) :: rest))) : W p l e R s m args below meth c H locs cells slots Q (F0 m pc ls (.int i :: .ref a :: rest)) := by
  subst hk
  exact bq_ald E K w q0 ha hin hdg kk
theorem bq_astk (E : bq_E p m c cc nL s args own) (K : bq_K D cI cJ s) (w : bq_w D A H0 ws H locs) (q0 : Nat) {n : Nat} {f : Nat → Int32} (ha : ws[q0]? = some (a, .inl (cI, n, .inl f))) {i x : Int32} (k : Nat) (hk : i.toNatClampNeg = k) (hin : vp_in i n) (hdg : decode cc pc = .ok (.iastore, 1))
    (kk : ∀ (H1 : Heap) (locs1 : List Loc), bq_w D A H0 (ws.set q0 (a, .inl (cI, n, .inl (upd f k x)))) H1 locs1 → W p l e R s m args below meth c H1 locs1 cells slots Q (F0 m (pc + 1) ls rest)) : W p l e R s m args below meth c H locs cells slots Q (F0 m pc ls (.int x :: .int i :: .ref a :: rest)) := by
  subst hk
  exact bq_ast E K w q0 ha hin hdg kk
theorem bq_alen (E : bq_E p m c cc nL s args own) (K : bq_K D cI cJ s) (w : bq_w D A H0 ws H locs) (q0 : Nat) {n : Nat} {f : Nat → Int32} (ha : ws[q0]? = some (a, .inl (cI, n, .inl f))) {v : Int32} (hv : Int32.ofNat n = v) (hdg : decode cc pc = .ok (.arraylength, 1))
    (kk : W p l e R s m args below meth c H locs cells slots Q (F0 m (pc + 1) ls (.int v :: rest))) : W p l e R s m args below meth c H locs cells slots Q (F0 m pc ls (.ref a :: rest)) :=
  va_alen E.1 E.2.1 K w.1 q0 0 ha rfl hv hdg kk
theorem bq_bool {x : Int32} (h : x = 0 ∨ x = 1) : narrow .boolean (.int x) = .int x := by rcases h with rfl | rfl <;> rfl
theorem bq_boolf {x : Int32} (h : x = 0 ∨ x = 1) : fits .boolean (.int x) = true := by rcases h with rfl | rfl <;> rfl
theorem bq_good {w : Cond} (h : w ∈ lw_good) : w ∈ lw_good ∧ ((w.onTables && w.keeps) = true ∨ ∃ ty, w = .arrayClass ty) := ⟨h, good_of_word (List.mem_filter.mp h).2⟩
theorem bq_gC {y : MethodName} {b : ByteArray} {n : Nat} {r : Option FieldType} (h : Cond.code y b n r ∈ lw_good) : GoodIn lw_good (Cond.code y b n r :: lw_good) := fun w hw => by
  rcases List.mem_cons.mp hw with rfl | hw
  · exact bq_good h
  · exact bq_good hw
theorem bq_gV {own C : String} {idx : Nat} {y : MethodName} {b : ByteArray} {n : Nat} {r : Option FieldType} (h1 : Cond.methodLink own idx y ∈ lw_good) (h2 : Cond.instanceMethod y ∈ lw_good) (h3 : Cond.selects C y y ∈ lw_good) (h4 : Cond.initialized C ∈ lw_good) (h5 : Cond.code y b n r ∈ lw_good) : GoodIn lw_good (wsV own idx C y (Cond.code y b n r :: lw_good)) := fun w hw => by
  unfold wsV at hw
  rcases List.mem_append.mp hw with hw | hw
  · simp only [List.mem_cons, List.not_mem_nil, or_false] at hw
    rcases hw with rfl | rfl | rfl | rfl
    · exact bq_good h1
    · exact bq_good h2
    · exact bq_good h3
    · exact bq_good h4
  · exact bq_gC h5 w hw
theorem bq_gS {own : String} {idx : Nat} {y : MethodName} {b : ByteArray} {n : Nat} {r : Option FieldType} (h1 : Cond.methodLink own idx y ∈ lw_good) (h2 : Cond.static y ∈ lw_good) (h4 : Cond.initialized y.cls ∈ lw_good) (h5 : Cond.code y b n r ∈ lw_good) : GoodIn lw_good (va_wsS own idx y (Cond.code y b n r :: lw_good)) := fun w hw => by
  unfold va_wsS at hw
  rcases List.mem_append.mp hw with hw | hw
  · simp only [List.mem_cons, List.not_mem_nil, or_false] at hw
    rcases hw with rfl | rfl | rfl
    · exact bq_good h1
    · exact bq_good h2
    · exact bq_good h4
  · exact bq_gC h5 w hw
/-- what a method owes: with these arguments, over the cells wc, it returns res, and the cells are wc' -/
def bq_Qc (D : va_G) (wc' : va_W) (res : Option Value) (A : Nat → Prop) : Array Value → State → Outcome → State → Prop := fun _ st oc t => (oc = .returned res ∧ va_P D vwCl wc' t.heap ∧ va_D A wc') ∧ va_F A st t
def bq_Pc (D : va_G) (cI cJ : ClassId) (av : List Value) (wc : va_W) (sz : Nat) : Array Value → State → Prop := va_Pc av (fun U => U.heap.size = sz ∧ va_P D vwCl wc U.heap ∧ bq_K D cI cJ U ∧ va_D (fun _ => True) wc)
def bq_M (l : Launch) (D : va_G) (cI cJ : ClassId) (y : MethodName) (bytes : ByteArray) (maxL : Nat) (ret : Option FieldType) (rm : Room) (av : List Value) (wc wc' : va_W) (res : Option Value) : Prop :=
  ∀ sz : Nat, Met l y (Cond.code y bytes maxL ret :: lw_good) rm (bq_Pc D cI cJ av wc sz) (bq_Qc D wc' res (va_A wc sz)) rm.cells rm.slots (va_A wc sz)
theorem bq_start {y : MethodName} {bytes : ByteArray} {maxL : Nat} {ret : Option FieldType} {rm : Room} {av : List Value} {wc wc' : va_W} {res : Option Value} (hy : plainName y.cls = true) (hlen : (lg_sl av).length ≤ maxL)
    (body : ∀ (p : Program) (e : Env) (s : State) (m : MethodId) (av9 : Array Value) (below : List Frame) (meth : Method) (c : Code) (A : Nat → Prop) (ls : Array Slot) (Q : State → Prop) (H : Heap) (locs : List Loc), bq_E p m c bytes maxL s av9 y.cls → bq_K D cI cJ s → bq_w D A s.heap wc H locs → (∀ q : Nat, s.heap.size ≤ q → A q) → meth.sig.returnType = ret → meth.locks = false → meth.name = y.name → Q = MQ below (bq_Qc D wc' res A) av9 s rm.cells rm.slots A → lv_has ls maxL (lv_args 0 av) →
      W p l e rm s m av9 below meth c H locs 0 0 Q (F0 m 0 ls [])) : bq_M l D cI cJ y bytes maxL ret rm av wc wc' res := by
  intro sz
  refine Met.ofW (cc := bytes) (maxL := maxL) (ret := ret) hy rfl ?_
  intro p e s m args below meth c s₁ B hml hv
  obtain ⟨rfl, hsz, hP, hK, hD0⟩ := hv
  have hts := atoms_spec (ws := Cond.code y bytes maxL ret :: lw_good) B.pre
  subst hsz
  have hl := lv_entry av (n := maxL) hlen
  rw [lg_entry_eq]
  exact body p e s m _ below meth c (va_A wc s.heap.size) _ _ s.heap [] ⟨B.exec, B.bytes, hml, findClass_of_methodNamed B.named, fun w h => hts w (List.mem_cons_of_mem _ h)⟩ hK ⟨hP, hD0.self, va_S.rf⟩ (fun q h => Or.inr h) B.returns B.notSynchronized (name_of_methodNamed B.named B.method).1 rfl hl
variable {wc' : va_W} {A1 : Nat → Prop}
theorem bq_iret (E : bq_E p m c cc nL s args own) (w : bq_w D A s.heap wc' H locs) (hr : meth.sig.returnType = some .int) (hk : meth.locks = false) {v : Int32} (hdg : decode cc pc = .ok (.ireturn, 1)) (hQ : Q = MQ below (bq_Qc D wc' (some (.int v)) A) args s cells slots A) : W p l e R s m args below meth c H locs cells slots Q (F0 m pc ls [.int v]) := by
  subst hQ
  exact W.iret E.1 E.2.1 hr (fun t ht _ => ⟨⟨rfl, by rw [ht]; exact w.1, w.2.1⟩, w.2.2.F ht⟩) w.2.2.2.2 hdg hk
theorem bq_zret (E : bq_E p m c cc nL s args own) (w : bq_w D A s.heap wc' H locs) (hr : meth.sig.returnType = some .boolean) (hk : meth.locks = false) {v : Int32} (hv : v = 0 ∨ v = 1) (hdg : decode cc pc = .ok (.ireturn, 1)) (hQ : Q = MQ below (bq_Qc D wc' (some (.int v)) A) args s cells slots A) : W p l e R s m args below meth c H locs cells slots Q (F0 m pc ls [.int v]) := by
  subst hQ
  exact W.zret E.1 E.2.1 hr (bq_bool hv) (fun t ht _ => ⟨⟨rfl, by rw [ht]; exact w.1, w.2.1⟩, w.2.2.F ht⟩) w.2.2.2.2 hdg hk
theorem bq_lret (E : bq_E p m c cc nL s args own) (w : bq_w D A s.heap wc' H locs) (hr : meth.sig.returnType = some .long) (hk : meth.locks = false) {v : Int64} (hdg : decode cc pc = .ok (.lreturn, 1)) (hQ : Q = MQ below (bq_Qc D wc' (some (.long v)) A) args s cells slots A) : W p l e R s m args below meth c H locs cells slots Q (F0 m pc ls [.long v]) := by
  subst hQ
  exact W.lret E.1 E.2.1 hr (fun t ht _ => ⟨⟨rfl, by rw [ht]; exact w.1, w.2.1⟩, w.2.2.F ht⟩) w.2.2.2.2 hdg hk
theorem bq_vret (E : bq_E p m c cc nL s args own) (w : bq_w D A s.heap wc' H locs) (hr : meth.sig.returnType = none) (hk : meth.locks = false) (hdg : decode cc pc = .ok (.return_, 1)) (hQ : Q = MQ below (bq_Qc D wc' none A) args s cells slots A) : W p l e R s m args below meth c H locs cells slots Q (F0 m pc ls []) := by
  subst hQ
  exact W.vret E.1 E.2.1 hr (fun t ht _ => ⟨⟨rfl, by rw [ht]; exact w.1, w.2.1⟩, w.2.2.F ht⟩) w.2.2.2.2 hdg hk
theorem bq_nmi {x y : Int32} (h : y = x) (k : W p l e R s m args below meth c H locs cells slots Q (F0 m pc ls (.int y :: rest))) : W p l e R s m args below meth c H locs cells slots Q (F0 m pc ls (.int x :: rest)) := by
  subst h
  exact k
theorem bq_nml {x y : Int64} (h : y = x) (k : W p l e R s m args below meth c H locs cells slots Q (F0 m pc ls (.long y :: rest))) : W p l e R s m args below meth c H locs cells slots Q (F0 m pc ls (.long x :: rest)) := by
  subst h
  exact k
end BQB
section BQC
variable {p : Program} {l : Launch} {e : Env} {R : Room} {s : State} {m : MethodId} {args : Array Value} {below : List Frame} {meth : Method} {c : Code} {H : Heap} {locs : List Loc} {cells slots : Nat} {Q : State → Prop}
variable {cc : ByteArray} {pc nL : Nat} {ls : Array Slot} {rest st0 : List Value} {D : va_G} {A : Nat → Prop} {a : Nat} {ws wc wc' ws' : va_W} {H0 : Heap} {own : String} {cI cJ : ClassId}
variable {y : MethodName} {bytes : ByteArray} {maxL n index : Nat} {ret : Option FieldType} {rm : Room} {As : List Value} {res : Option Value}
theorem bq_cont {A1 : Nat → Prop} {mc ms : Nat} {free : Addr → Prop} {av : Array Value} (hr : va_Run p l e R s m args below meth c H locs cells slots mc ms (F0 m pc ls st0) rest (bq_Qc D wc' res A1 av) free) (hS : va_S A H0 H locs) (hA : ∀ q, A1 q → A q) (hf : ∀ q, free q → A q)
    (kk : ∀ (H1 : Heap) (locs1 : List Loc), va_P D vwCl wc' H1 → va_D A1 wc' → (∀ q : Nat, q < H.size → ¬ A1 q → H1[q]? = H[q]?) → va_S A H0 H1 locs1 → W p l e R s m args below meth c H1 locs1 (cells + mc) (slots + ms) Q (F0 m (pc + 3) ls (res.toList ++ rest))) : W p l e R s m args below meth c H locs cells slots Q (F0 m pc ls st0) := by
  intro T hT X
  obtain ⟨v, st₀, t, T', L, h0, X', hL, e1, e2, ⟨⟨hv, hp, hd⟩, hz, hk⟩, st⟩ := hr T hT X
  cases hv
  rw [h0] at hz hk
  obtain ⟨t2, a1, b1⟩ := kk T'.heap (locs ++ L) (by rw [e1]; exact hp) hd (fun q h1 h2 => by rw [e1]; exact hk q h1 h2)
    ⟨Nat.le_trans hS.1 (by rw [e1]; exact hz), fun q h1 h2 => by rw [e1, hk q (Nat.lt_of_lt_of_le h1 hS.1) (fun z => h2 (hA q z))]; exact hS.2.1 q h1 h2, fun q hq => by
      rcases List.mem_append.mp hq with h | h
      · exact hS.2.2 q h
      · exact hf _ (hL q h)⟩ T' rfl X'
  exact ⟨t2, st t2 a1, b1⟩
def bq_pick (ws : va_W) (is : List Nat) : va_W := is.filterMap (fun i => ws[i]?)
theorem bq_pick_map {ws : va_W} : ∀ {is : List Nat}, is.all (fun i => decide (i < ws.length)) = true → is.map (fun i => ws[i]?) = (bq_pick ws is).map some := by
  intro is
  induction is with
  | nil => intro _; rfl
  | cons i is ih =>
    intro h
    rw [List.all_cons, Bool.and_eq_true, decide_eq_true_eq] at h
    have h1 := List.getElem?_eq_getElem h.1
    unfold bq_pick
    rw [List.filterMap_cons, List.map_cons, h1, ih h.2]
    rfl
/-- the worlds of a call: the callee's cells out of the caller's, and back again in the caller's order -/
def bq_cut (ws wc wc' ws' : va_W) : Prop := ∃ (isC isR isP : List Nat), wc = bq_pick ws isC ∧ isC.all (fun i => decide (i < ws.length)) = true ∧ isR.all (fun i => decide (i < ws.length)) = true ∧ va_nd isC = true ∧ va_nd isR = true ∧ isR.all (fun i => decide (i ∉ isC)) = true ∧ ws' = bq_pick (bq_pick ws isR ++ wc') isP ∧ isP.all (fun i => decide (i < (bq_pick ws isR ++ wc').length)) = true ∧ va_nd isP = true
theorem bq_back (hP : va_P D vwCl ws H) (hD : va_D A ws) (hS : va_S A H0 H locs) (hA : ∀ q, H0.size ≤ q → A q) (hc : bq_cut ws wc wc' ws') {as1 : Array Value}
    (hr : va_P D vwCl wc H → va_D (fun _ => True) wc → va_Run p l e R s m args below meth c H locs cells slots rm.cells rm.slots (F0 m pc ls st0) rest (bq_Qc D wc' res (va_A wc H.size) as1) (va_A wc H.size))
    (kk : ∀ (H1 : Heap) (locs1 : List Loc), bq_w D A H0 ws' H1 locs1 → W p l e R s m args below meth c H1 locs1 (cells + rm.cells) (slots + rm.slots) Q (F0 m (pc + 3) ls (res.toList ++ rest))) : W p l e R s m args below meth c H locs cells slots Q (F0 m pc ls st0) := by
  obtain ⟨isC, isR, isP, rfl, hC, hR, hnC, hnR, hdis, rfl, hp, hnP⟩ := hc
  have hC := bq_pick_map hC
  have hR := bq_pick_map hR
  have hp := bq_pick_map hp
  have hdis : ∀ i ∈ isR, i ∉ isC := fun i hi => of_decide_eq_true (List.all_eq_true.mp hdis i hi)
  have hF := va_free hD hS hA isC hC
  have hDc : va_D A (bq_pick ws isC) := hD.sub isC hnC hC
  have hPc : va_P D vwCl (bq_pick ws isC) H := hP.sub isC rfl
  refine bq_cont (hr hPc (hDc.weaken (fun _ _ _ _ => trivial))) hS hF hF (fun H1 locs1 hP1 hD1 hk hS1 => kk H1 locs1 ?_)
  obtain ⟨hP2, hD2⟩ := va_join hP hD isC isR hC hR hnR hdis hk hF hP1 hD1
  exact ⟨hP2.sub isP rfl, hD2.sub isP hnP hp, hS1⟩
theorem bq_back0 (hP : va_P D vwCl ws H) (hD : va_D A ws) (hS : va_S A H0 H locs) (hA : ∀ q, H0.size ≤ q → A q) {as1 : Array Value}
    (hr : va_Run p l e R s m args below meth c H locs cells slots rm.cells rm.slots (F0 m pc ls st0) rest (bq_Qc D [] res (va_A [] H.size) as1) (va_A [] H.size))
    (kk : ∀ (H1 : Heap) (locs1 : List Loc), bq_w D A H0 ws H1 locs1 → W p l e R s m args below meth c H1 locs1 (cells + rm.cells) (slots + rm.slots) Q (F0 m (pc + 3) ls (res.toList ++ rest))) : W p l e R s m args below meth c H locs cells slots Q (F0 m pc ls st0) := by
  have hF : ∀ q, va_A [] H.size q → A q := by
    intro q h
    rcases h with ⟨k, e, h⟩ | h
    · cases h
    · exact hA q (Nat.le_trans hS.1 h)
  refine bq_cont hr hS hF hF (fun H1 locs1 hP1 hD1 hk hS1 => kk H1 locs1 ⟨?_, hD, hS1⟩)
  refine hP.kept (fun k q hq => hk q.1 (hP k q hq).lt ?_)
  rintro (⟨k, e, h⟩ | h)
  · cases h
  · exact Nat.not_le_of_lt (hP k q hq).lt h
theorem bq_blind {av : List Value} {sz : Nat} : FrameBlind (bq_Pc D cI cJ av wc sz) := fun a U g mk q => by
  obtain ⟨q0, q1, qP, qK, qD⟩ := q
  exact ⟨q0, q1, qP, va_K.moved (u := U) (U := U.calling g mk a) (Vm.Alike.refl U.vm) qK, qD⟩
theorem bq_V (E : bq_E p m c cc nL s args own) (K : bq_K D cI cJ s) (w : bq_w D A s.heap ws H locs) (hA : ∀ q, s.heap.size ≤ q → A q) {b : Nat} {C : String}
    (M : bq_M l D cI cJ y bytes maxL ret rm (.ref b :: As) wc wc' res) (G : GoodIn lw_good (wsV own index C y (Cond.code y bytes maxL ret :: lw_good))) (hd : y.cls = C ∧ y.cls ≠ "java/lang/invoke/MethodHandle" ∧ y.cls ≠ "java/lang/invoke/VarHandle" ∧ (parseMethodDescriptor y.desc).map (fun d => d.parameters.length) = some n)
    (hR : rm.frames + 1 ≤ R.frames ∧ 8 + (maxL + 11) + rm.locals ≤ R.locals) (hf : cells + rm.cells ≤ R.cells ∧ slots + rm.slots ≤ R.slots) (hc : bq_cut ws wc wc' ws') (q0 : Nat) {ci N : Nat} {T : u_T} {fs : List Value} (he : ws[q0]? = some (b, .inr (ci, fs))) (hci : vwCl[ci]? = some (C, T, N)) (hn : As.length = n) (hsz : ls.size = nL) (hst : st0 = As.reverse ++ .ref b :: rest) (hW : (rest.map fun v => v.category).sum ≤ 8) {st1 : List Value} (hs1 : res.toList ++ rest = st1) (hdg : decode cc pc = .ok (.invokevirtual index, 3))
    (kk : ∀ (H1 : Heap) (locs1 : List Loc), bq_w D A s.heap ws' H1 locs1 → W p l e R s m args below meth c H1 locs1 (cells + rm.cells) (slots + rm.slots) Q (F0 m (pc + 3) ls st1)) : W p l e R s m args below meth c H locs cells slots Q (F0 m pc ls st0) :=
  bq_back w.1 w.2.1 w.2.2 hA hc (fun hPc hDc => va_runV E (M H.size) (cwV n E.2.2.2.2 G rfl rfl rfl hd hR) ⟨bq_blind, va_recv K w.1 hci he, fun U hU hW => ⟨rfl, by rw [hU], by rw [hU]; exact hPc, va_K.moved hW.alike K, hDc⟩⟩ rfl hn hsz hst (lv_room hW) hdg hf) (fun H1 locs1 h => by rw [hs1]; exact kk H1 locs1 h)
theorem bq_S (E : bq_E p m c cc nL s args own) (K : bq_K D cI cJ s) (w : bq_w D A s.heap ws H locs) (hA : ∀ q, s.heap.size ≤ q → A q)
    (M : bq_M l D cI cJ y bytes maxL ret rm As wc wc' res) (hcd : Cond.code y bytes maxL ret ∈ lw_good) (hml : Cond.methodLink own index y ∈ lw_good) (hini : Cond.initialized y.cls ∈ lw_good) (hstt : Cond.static y ∈ lw_good) (hd : y.cls ≠ "java/lang/invoke/MethodHandle" ∧ y.cls ≠ "java/lang/invoke/VarHandle" ∧ (parseMethodDescriptor y.desc).map (fun d => d.parameters.length) = some n)
    (hR : rm.frames + 1 ≤ R.frames ∧ 8 + (maxL + 11) + rm.locals ≤ R.locals) (hf : cells + rm.cells ≤ R.cells ∧ slots + rm.slots ≤ R.slots) (hc : bq_cut ws wc wc' ws') (hn : As.length = n) (hsz : ls.size = nL) (hst : st0 = As.reverse ++ rest) (hW : (rest.map fun v => v.category).sum ≤ 8) {st1 : List Value} (hs1 : res.toList ++ rest = st1) (hdg : decode cc pc = .ok (.invokestatic index, 3))
    (kk : ∀ (H1 : Heap) (locs1 : List Loc), bq_w D A s.heap ws' H1 locs1 → W p l e R s m args below meth c H1 locs1 (cells + rm.cells) (slots + rm.slots) Q (F0 m (pc + 3) ls st1)) : W p l e R s m args below meth c H locs cells slots Q (F0 m pc ls st0) :=
  bq_back w.1 w.2.1 w.2.2 hA hc (fun hPc hDc => va_runS E (M H.size) ⟨callB_of n E.2.2.2.2 (bq_gC hcd) rfl rfl rfl (E.2.2.2.2 _ hini) (E.2.2.2.2 _ hml) hd hR, E.2.2.2.2 _ hstt⟩ ⟨bq_blind, fun U hU hW => ⟨rfl, by rw [hU], by rw [hU]; exact hPc, va_K.moved hW.alike K, hDc⟩⟩ rfl hn hsz hst (lv_room hW) hdg hf) (fun H1 locs1 h => by rw [hs1]; exact kk H1 locs1 h)
theorem bq_SN (E : bq_E p m c cc nL s args own) (K : bq_K D cI cJ s) (w : bq_w D A s.heap ws H locs) (hA : ∀ q, s.heap.size ≤ q → A q) {host : String}
    (M : bq_M l D cI cJ y bytes maxL ret rm As wc wc' res) (hcd : Cond.code y bytes maxL ret ∈ lw_good) (hml : Cond.methodLinkNest own index y host ∈ lw_good) (hini : Cond.initialized y.cls ∈ lw_good) (hstt : Cond.static y ∈ lw_good) (hd : y.cls ≠ "java/lang/invoke/MethodHandle" ∧ y.cls ≠ "java/lang/invoke/VarHandle" ∧ (parseMethodDescriptor y.desc).map (fun d => d.parameters.length) = some n)
    (hR : rm.frames + 1 ≤ R.frames ∧ 8 + (maxL + 11) + rm.locals ≤ R.locals) (hf : cells + rm.cells ≤ R.cells ∧ slots + rm.slots ≤ R.slots) (hc : bq_cut ws wc wc' ws') (hn : As.length = n) (hsz : ls.size = nL) (hst : st0 = As.reverse ++ rest) (hW : (rest.map fun v => v.category).sum ≤ 8) {st1 : List Value} (hs1 : res.toList ++ rest = st1) (hdg : decode cc pc = .ok (.invokestatic index, 3))
    (kk : ∀ (H1 : Heap) (locs1 : List Loc), bq_w D A s.heap ws' H1 locs1 → W p l e R s m args below meth c H1 locs1 (cells + rm.cells) (slots + rm.slots) Q (F0 m (pc + 3) ls st1)) : W p l e R s m args below meth c H locs cells slots Q (F0 m pc ls st0) :=
  bq_back w.1 w.2.1 w.2.2 hA hc (fun hPc hDc => va_runSN E (M H.size) ⟨va_cnB n E.2.2.2.2 (bq_gC hcd) rfl rfl rfl (va_Nw.of rfl (E.2.2.2.2 _ hml)) (E.2.2.2.2 _ hini) hd hR, E.2.2.2.2 _ hstt, trivial⟩ ⟨bq_blind, fun U hU hW => ⟨rfl, by rw [hU], by rw [hU]; exact hPc, va_K.moved hW.alike K, hDc⟩⟩ rfl hn hsz hst (lv_room hW) hdg hf) (fun H1 locs1 h => by rw [hs1]; exact kk H1 locs1 h)
theorem bq_S0 (E : bq_E p m c cc nL s args own) (K : bq_K D cI cJ s) (w : bq_w D A s.heap ws H locs) (hA : ∀ q, s.heap.size ≤ q → A q)
    (M : bq_M l D cI cJ y bytes maxL ret rm As [] [] res) (hcd : Cond.code y bytes maxL ret ∈ lw_good) (hml : Cond.methodLink own index y ∈ lw_good) (hini : Cond.initialized y.cls ∈ lw_good) (hstt : Cond.static y ∈ lw_good) (hd : y.cls ≠ "java/lang/invoke/MethodHandle" ∧ y.cls ≠ "java/lang/invoke/VarHandle" ∧ (parseMethodDescriptor y.desc).map (fun d => d.parameters.length) = some n)
    (hR : rm.frames + 1 ≤ R.frames ∧ 8 + (maxL + 11) + rm.locals ≤ R.locals) (hf : cells + rm.cells ≤ R.cells ∧ slots + rm.slots ≤ R.slots) (hn : As.length = n) (hsz : ls.size = nL) (hst : st0 = As.reverse ++ rest) (hW : (rest.map fun v => v.category).sum ≤ 8) {st1 : List Value} (hs1 : res.toList ++ rest = st1) (hdg : decode cc pc = .ok (.invokestatic index, 3))
    (kk : ∀ (H1 : Heap) (locs1 : List Loc), bq_w D A s.heap ws H1 locs1 → W p l e R s m args below meth c H1 locs1 (cells + rm.cells) (slots + rm.slots) Q (F0 m (pc + 3) ls st1)) : W p l e R s m args below meth c H locs cells slots Q (F0 m pc ls st0) :=
  bq_back0 w.1 w.2.1 w.2.2 hA (va_runS E (M H.size) ⟨callB_of n E.2.2.2.2 (bq_gC hcd) rfl rfl rfl (E.2.2.2.2 _ hini) (E.2.2.2.2 _ hml) hd hR, E.2.2.2.2 _ hstt⟩ ⟨bq_blind, fun U hU hW => ⟨rfl, by rw [hU], fun k q h => by cases h, va_K.moved hW.alike K, ⟨fun i j p q h => by cases h, fun k q h => by cases h⟩⟩⟩ rfl hn hsz hst (lv_room hW) hdg hf) (fun H1 locs1 h => by rw [hs1]; exact kk H1 locs1 h)
theorem bq_SN0 (E : bq_E p m c cc nL s args own) (K : bq_K D cI cJ s) (w : bq_w D A s.heap ws H locs) (hA : ∀ q, s.heap.size ≤ q → A q) {host : String}
    (M : bq_M l D cI cJ y bytes maxL ret rm As [] [] res) (hcd : Cond.code y bytes maxL ret ∈ lw_good) (hml : Cond.methodLinkNest own index y host ∈ lw_good) (hini : Cond.initialized y.cls ∈ lw_good) (hstt : Cond.static y ∈ lw_good) (hd : y.cls ≠ "java/lang/invoke/MethodHandle" ∧ y.cls ≠ "java/lang/invoke/VarHandle" ∧ (parseMethodDescriptor y.desc).map (fun d => d.parameters.length) = some n)
    (hR : rm.frames + 1 ≤ R.frames ∧ 8 + (maxL + 11) + rm.locals ≤ R.locals) (hf : cells + rm.cells ≤ R.cells ∧ slots + rm.slots ≤ R.slots) (hn : As.length = n) (hsz : ls.size = nL) (hst : st0 = As.reverse ++ rest) (hW : (rest.map fun v => v.category).sum ≤ 8) {st1 : List Value} (hs1 : res.toList ++ rest = st1) (hdg : decode cc pc = .ok (.invokestatic index, 3))
    (kk : ∀ (H1 : Heap) (locs1 : List Loc), bq_w D A s.heap ws H1 locs1 → W p l e R s m args below meth c H1 locs1 (cells + rm.cells) (slots + rm.slots) Q (F0 m (pc + 3) ls st1)) : W p l e R s m args below meth c H locs cells slots Q (F0 m pc ls st0) :=
  bq_back0 w.1 w.2.1 w.2.2 hA (va_runSN E (M H.size) ⟨va_cnB n E.2.2.2.2 (bq_gC hcd) rfl rfl rfl (va_Nw.of rfl (E.2.2.2.2 _ hml)) (E.2.2.2.2 _ hini) hd hR, E.2.2.2.2 _ hstt, trivial⟩ ⟨bq_blind, fun U hU hW => ⟨rfl, by rw [hU], fun k q h => by cases h, va_K.moved hW.alike K, ⟨fun i j p q h => by cases h, fun k q h => by cases h⟩⟩⟩ rfl hn hsz hst (lv_room hW) hdg hf) (fun H1 locs1 h => by rw [hs1]; exact kk H1 locs1 h)
theorem bq_z {H1 : Heap} {locs1 : List Loc} {g : JFrame} (hz : rm.cells = 0 ∧ rm.slots = 0) (k : W p l e R s m args below meth c H1 locs1 cells slots Q g) : W p l e R s m args below meth c H1 locs1 (cells + rm.cells) (slots + rm.slots) Q g := by
  rw [hz.1, hz.2]
  exact k
end BQC
