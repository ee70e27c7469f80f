section
/-- steps a .. e-1 move no cylinder twice -/
def FRE (f : Nat → Int32) (a e : Nat) : Prop := ∀ i j, a ≤ i → i < j → j < e → f i &&& f j = 0
theorem fre_sub {f : Nat → Int32} {a e a' e' : Nat} (h : FRE f a e) (h1 : a ≤ a') (h2 : e' ≤ e) : FRE f a' e' := fun i j x y z => h i j (by omega) y (by omega)
theorem fre_one (f : Nat → Int32) {a e : Nat} (h : e ≤ a + 1) : FRE f a e := fun i j x y z => by omega
/-- from a on, up to b, k groups are enough -/
def dv (f : Nat → Int32) (b : Nat) : Nat → Nat → Prop
  | 0, a => b ≤ a
  | k + 1, a => ∃ e, a ≤ e ∧ FRE f a e ∧ dv f b k e
theorem dv_up {f : Nat → Int32} {b : Nat} {k a : Nat} (h : dv f b k a) : dv f b (k + 1) a := ⟨a, Nat.le_refl a, fre_one f (by omega), h⟩
theorem dv_le {f : Nat → Int32} {b : Nat} {k a : Nat} (h : dv f b k a) : ∀ d, dv f b (k + d) a := by
  intro d
  induction d with
  | zero => exact h
  | succ d ih => exact dv_up ih
theorem dv_pred {f : Nat → Int32} {b k a : Nat} (h : dv f b k (a + 1)) : dv f b (k + 1) a := ⟨a + 1, by omega, fre_one f (by omega), h⟩
theorem dv_next {f : Nat → Int32} {b : Nat} : ∀ (k a : Nat), dv f b k a → dv f b k (a + 1) := by
  intro k
  induction k with
  | zero => intro a h; exact Nat.le_trans h (by omega)
  | succ k ih =>
    intro a h
    obtain ⟨e, h1, h2, h3⟩ := h
    rcases Nat.lt_or_ge a e with he | he
    · exact ⟨e, he, fre_sub h2 (by omega) (by omega), h3⟩
    · have : e = a := by omega
      subst this
      exact dv_up (ih _ h3)
theorem dv_mono {f : Nat → Int32} {b k a : Nat} (h : dv f b k a) : ∀ d, dv f b k (a + d) := by
  intro d
  induction d with
  | zero => exact h
  | succ d ih => exact dv_next _ _ ih
theorem dv_app {f : Nat → Int32} {c s : Nat} (hf : FRE f c s) (hcs : c ≤ s) : ∀ (k a : Nat), a ≤ c → dv f c k a → dv f s (k + 1) a := by
  intro k
  induction k with
  | zero =>
    intro a ha h
    have : a = c := Nat.le_antisymm ha h
    subst this
    exact ⟨s, hcs, hf, Nat.le_refl s⟩
  | succ k ih =>
    intro a ha h
    obtain ⟨e, h1, h2, h3⟩ := h
    rcases Nat.lt_or_ge c e with he | he
    · -- the group reaches over c: cut it there
      refine ⟨c, ha, fre_sub h2 (Nat.le_refl a) (by omega), ?_⟩
      have h0 : dv f s 1 c := ⟨s, hcs, hf, Nat.le_refl s⟩
      have := dv_le h0 k
      rw [Nat.add_comm] at this
      exact this
    · exact ⟨e, h1, h2, ih e he h3⟩
theorem dv_cat {f : Nat → Int32} {b c : Nat} {k2 : Nat} (h2 : dv f b k2 c) : ∀ (k a : Nat), a ≤ c → dv f c k a → dv f b (k + k2) a := by
  intro k
  induction k with
  | zero =>
    intro a ha h
    have : a = c := Nat.le_antisymm ha h
    subst this
    rw [Nat.zero_add]
    exact h2
  | succ k ih =>
    intro a ha h
    obtain ⟨e, h1, h3, h4⟩ := h
    rw [Nat.succ_add]
    rcases Nat.lt_or_ge c e with he | he
    · refine ⟨c, ha, fre_sub h3 (Nat.le_refl a) (by omega), ?_⟩
      have := dv_le h2 k
      rw [Nat.add_comm] at this
      exact this
    · exact ⟨e, h1, h3, ih e he h4⟩
/-- u is what the steps c .. i-1 move -/
def ORS (f : Nat → Int32) (c i : Nat) (u : Int32) : Prop := ∀ x, x < 32 → (bt u x = true ↔ ∃ m, c ≤ m ∧ m < i ∧ bt (f m) x = true)
theorem ors_0 (f : Nat → Int32) (c : Nat) : ORS f c c 0 := fun x _ => by
  rw [b_0]
  exact ⟨fun h => (by cases h), fun ⟨m, h1, h2, _⟩ => by omega⟩
theorem ors_1 (f : Nat → Int32) (c : Nat) : ORS f c (c + 1) (f c) := fun x _ => ⟨fun h => ⟨c, by omega, by omega, h⟩, fun ⟨m, h1, h2, h3⟩ => by rw [show c = m by omega]; exact h3⟩
theorem ors_s {f : Nat → Int32} {c i : Nat} {u : Int32} (h : ORS f c i u) (hc : c ≤ i) : ORS f c (i + 1) (u ||| f i) := fun x hx => by
  rw [b_or, Bool.or_eq_true, h x hx]
  constructor
  · rintro (⟨m, h1, h2, h3⟩ | h3)
    · exact ⟨m, h1, by omega, h3⟩
    · exact ⟨i, hc, by omega, h3⟩
  · rintro ⟨m, h1, h2, h3⟩
    rcases Nat.lt_or_ge m i with h4 | h4
    · exact Or.inl ⟨m, h1, h4, h3⟩
    · rw [show m = i by omega] at h3
      exact Or.inr h3
theorem and_zero {x y : Int32} : x &&& y = 0 ↔ ∀ k, k < 32 → ¬ (bt x k = true ∧ bt y k = true) := by
  rw [mb_zero]
  constructor
  · rintro h k hk ⟨h1, h2⟩
    have := h k hk
    rw [b_and, h1, h2] at this
    cases this
  · intro h k hk
    rw [b_and]
    have := h k hk
    cases h1 : bt x k
    · rfl
    · cases h2 : bt y k
      · rfl
      · exact absurd ⟨h1, h2⟩ this
theorem ors_and {f : Nat → Int32} {c i : Nat} {u y : Int32} (h : ORS f c i u) : u &&& y = 0 ↔ ∀ m, c ≤ m → m < i → f m &&& y = 0 := by
  rw [and_zero]
  constructor
  · intro h1 m hm1 hm2
    rw [and_zero]
    rintro k hk ⟨a, b⟩
    exact h1 k hk ⟨(h k hk).mpr ⟨m, hm1, hm2, a⟩, b⟩
  · rintro h1 k hk ⟨a, b⟩
    obtain ⟨m, hm1, hm2, h3⟩ := (h k hk).mp a
    exact and_zero.mp (h1 m hm1 hm2) k hk ⟨h3, b⟩
theorem fre_s {f : Nat → Int32} {c i : Nat} {u : Int32} (h : ORS f c i u) (hf : FRE f c i) (hz : u &&& f i = 0) : FRE f c (i + 1) := fun a b h1 h2 h3 => by
  rcases Nat.lt_or_ge b i with h4 | h4
  · exact hf a b h1 h2 h4
  · have : b = i := by omega
    subst this
    exact (ors_and h).mp hz a h1 h2
theorem fre_no {f : Nat → Int32} {c i e e' : Nat} {u : Int32} (h : ORS f c i u) (hz : ¬ u &&& f i = 0) (he : e ≤ c) (hf : FRE f e e') : e' ≤ i := by
  apply Classical.byContradiction
  intro h9
  exact hz ((ors_and h).mpr (fun m h1 h2 => hf m i (by omega) h2 (by omega)))
/-- how many groups more the greedy way needs -/
def gs (f : Nat → Int32) : Nat → Nat → Int32 → Nat
  | 0, _, _ => 0
  | d + 1, i, u => if u &&& f i = 0 then gs f d (i + 1) (u ||| f i) else gs f d (i + 1) (f i) + 1
theorem gs_a {f : Nat → Int32} {b : Nat} : ∀ (d i c : Nat) (u : Int32), c ≤ i → i + d = b → ORS f c i u → FRE f c i → dv f b (gs f d i u + 1) c := by
  intro d
  induction d with
  | zero =>
    intro i c u hc hb hu hf
    exact ⟨i, hc, hf, by show b ≤ i; omega⟩
  | succ d ih =>
    intro i c u hc hb hu hf
    rw [gs]
    by_cases h : u &&& f i = 0
    · rw [if_pos h]
      exact ih (i + 1) c _ (by omega) (by omega) (ors_s hu hc) (fre_s hu hf h)
    · rw [if_neg h]
      exact ⟨i, hc, hf, ih (i + 1) i _ (by omega) (by omega) (ors_1 f i) (fre_one f (by omega))⟩
theorem gs_b {f : Nat → Int32} {b : Nat} : ∀ (d i c e k : Nat) (u : Int32), c ≤ i → i + d = b → ORS f c i u → e ≤ c → 1 ≤ k → dv f b k e → gs f d i u + 1 ≤ k := by
  intro d
  induction d with
  | zero =>
    intro i c e k u hc hb hu he hk hd
    show 0 + 1 ≤ k
    omega
  | succ d ih =>
    intro i c e k u hc hb hu he hk hd
    rw [gs]
    by_cases h : u &&& f i = 0
    · rw [if_pos h]
      exact ih (i + 1) c e k _ (by omega) (by omega) (ors_s hu hc) he hk hd
    · rw [if_neg h]
      obtain ⟨k', rfl⟩ : ∃ k', k = k' + 1 := ⟨k - 1, by omega⟩
      obtain ⟨e', h1, h2, h3⟩ := hd
      have h4 := fre_no hu h he h2
      have h5 : 1 ≤ k' := by
        cases k' with
        | zero => have : b ≤ e' := h3; omega
        | succ k' => omega
      have := ih (i + 1) i e' k' _ (by omega) (by omega) (ors_1 f i) h4 h5 h3
      omega
/-- how many groups the steps a .. b-1 need -/
def nd (f : Nat → Int32) (a b : Nat) : Nat := gs f (b - a) a 0 + 1
theorem nd_dv (f : Nat → Int32) {a b : Nat} (h : a ≤ b) : dv f b (nd f a b) a := gs_a (b - a) a a 0 (Nat.le_refl a) (by omega) (ors_0 f a) (fre_one f (by omega))
theorem nd_le {f : Nat → Int32} {a b k : Nat} (h : a ≤ b) (hk : 1 ≤ k) (hd : dv f b k a) : nd f a b ≤ k := gs_b (b - a) a a a k 0 (Nat.le_refl a) (by omega) (ors_0 f a) (Nat.le_refl a) hk hd
theorem nd_pos (f : Nat → Int32) (a b : Nat) : 1 ≤ nd f a b := by unfold nd; omega
theorem nd_mono {f : Nat → Int32} {a a' b : Nat} (h : a ≤ a') (h2 : a' ≤ b) : nd f a' b ≤ nd f a b := by
  refine nd_le h2 (nd_pos f a b) ?_
  have := dv_mono (nd_dv f (Nat.le_trans h h2)) (a' - a)
  rw [show a + (a' - a) = a' by omega] at this
  exact this
theorem nd_step {f : Nat → Int32} {a b : Nat} (h : a + 1 ≤ b) : nd f a b ≤ nd f (a + 1) b + 1 := nd_le (by omega) (by omega) (dv_pred (nd_dv f h))
/-- how far the cuts are at s: c is the last one -/
def CUTI (f : Nat → Int32) (a b s c : Nat) : Prop := a ≤ c ∧ c < s ∧ nd f c b = nd f (s - 1) b ∧ dv f c (nd f a b - nd f c b) a ∧ FRE f c s ∧ (c = a ∨ nd f c b < nd f (c - 1) b)
theorem cut_all {f : Nat → Int32} {a b : Nat} : ∀ d, a + 1 + d ≤ b → ∃ c, CUTI f a b (a + 1 + d) c := by
  intro d
  induction d with
  | zero =>
    intro h
    refine ⟨a, Nat.le_refl a, by omega, rfl, ?_, fre_one f (by omega), Or.inl rfl⟩
    rw [Nat.sub_self]
    exact Nat.le_refl a
  | succ d ih =>
    intro h
    obtain ⟨c, h1, h2, h3, h4, h5, h6⟩ := ih (by omega)
    generalize hs : a + 1 + d = s at *
    have hs1 : a + 1 + (d + 1) = s + 1 := by omega
    rw [hs1] at h ⊢
    have hm := nd_mono (f := f) (a := s - 1) (a' := s) (b := b) (by omega) (by omega)
    have hst := nd_step (f := f) (a := s - 1) (b := b) (by omega)
    rw [show s - 1 + 1 = s by omega] at hst
    by_cases hd : nd f s b = nd f (s - 1) b
    · refine ⟨c, h1, by omega, by rw [show s + 1 - 1 = s by omega, hd, h3], h4, ?_, h6⟩
      obtain ⟨e, k1, k2, k3⟩ := nd_dv f (a := c) (b := b) (by omega)
      have he : s + 1 ≤ e := by
        have k3' : dv f b (gs f (b - c) c 0) e := k3
        cases hg : gs f (b - c) c 0 with
        | zero =>
          rw [hg] at k3'
          have : b ≤ e := k3'
          omega
        | succ g =>
          rw [hg] at k3'
          rcases Nat.lt_or_ge s e with h9 | h9
          · omega
          · exfalso
            have l1 := nd_le (f := f) (a := e) (b := b) (by omega) (by omega) k3'
            have l2 := nd_mono (f := f) (a := e) (a' := s) (b := b) h9 (by omega)
            have l3 : nd f c b = g + 1 + 1 := by unfold nd; rw [hg]
            omega
      exact fre_sub k2 (Nat.le_refl c) he
    · refine ⟨s, by omega, by omega, by rw [show s + 1 - 1 = s by omega], ?_, fre_one f (by omega), Or.inr (by omega)⟩
      have := dv_app h5 (by omega) _ a h1 h4
      have l1 := nd_mono (f := f) (a := a) (a' := c) (b := b) h1 (by omega)
      rw [show nd f a b - nd f s b = nd f a b - nd f c b + 1 by omega]
      exact this
end
