section
/-- f goes round with N -/
def PER (f : Nat → Int32) (N : Nat) : Prop := ∀ i, f (i + N) = f i
theorem fre_sh {f : Nat → Int32} {N a e : Nat} (hp : PER f N) (h : FRE f a e) : FRE f (a + N) (e + N) := fun i j h1 h2 h3 => by
  have := h (i - N) (j - N) (by omega) (by omega) (by omega)
  rw [← hp (i - N), ← hp (j - N), show i - N + N = i by omega, show j - N + N = j by omega] at this
  exact this
theorem fre_hs {f : Nat → Int32} {N a e : Nat} (hp : PER f N) (h : FRE f (a + N) (e + N)) : FRE f a e := fun i j h1 h2 h3 => by
  have := h (i + N) (j + N) (by omega) (by omega) (by omega)
  rw [hp, hp] at this
  exact this
theorem dv_sh {f : Nat → Int32} {N b : Nat} (hp : PER f N) : ∀ (k a : Nat), dv f b k a → dv f (b + N) k (a + N) := by
  intro k
  induction k with
  | zero => intro a h; exact Nat.add_le_add_right h N
  | succ k ih =>
    intro a h
    obtain ⟨e, h1, h2, h3⟩ := h
    exact ⟨e + N, by omega, fre_sh hp h2, ih e h3⟩
theorem dv_hs {f : Nat → Int32} {N b : Nat} (hp : PER f N) : ∀ (k a : Nat), dv f (b + N) k (a + N) → dv f b k a := by
  intro k
  induction k with
  | zero => intro a h; exact Nat.le_of_add_le_add_right h
  | succ k ih =>
    intro a h
    obtain ⟨e, h1, h2, h3⟩ := h
    obtain ⟨e', rfl⟩ : ∃ e', e = e' + N := ⟨e - N, by omega⟩
    exact ⟨e', by omega, fre_hs hp h2, ih e' h3⟩
/-- the fewest groups are k, a is the first step that begins so -/
def MIN (f : Nat → Int32) (N a k : Nat) : Prop := a < N ∧ nd f a (a + N) = k ∧ (∀ s, s < N → k ≤ nd f s (s + N)) ∧ ∀ s, s < a → k < nd f s (s + N)
/-- no cut lies before a on the ring -/
theorem cut_late {f : Nat → Int32} {N a k : Nat} (hp : PER f N) (hm : MIN f N a k) {s : Nat} (h1 : N ≤ s) (h2 : s < a + N) : nd f s (a + N) = nd f (s - 1) (a + N) := by
  obtain ⟨ha, hk, hk2, hk3⟩ := hm
  apply Classical.byContradiction
  intro hd
  have hmo := nd_mono (f := f) (a := s - 1) (a' := s) (b := a + N) (by omega) (by omega)
  obtain ⟨c, c1, c2, c3, c4, c5, c6⟩ := cut_all (f := f) (a := a) (b := a + N) (s - a) (by omega)
  rw [show a + 1 + (s - a) = s + 1 by omega] at c2 c3 c5
  rw [show s + 1 - 1 = s by omega] at c3
  have hcs : c = s := by
    rcases Nat.lt_or_ge c s with h | h
    · have := nd_mono (f := f) (a := c) (a' := s - 1) (b := a + N) (by omega) (by omega)
      omega
    · omega
  subst hcs
  have d1 := nd_dv f (a := c) (b := a + N) (by omega)
  have d2 := dv_sh hp _ _ c4
  have d3 := dv_cat d2 _ c (by omega) d1
  have hms := nd_mono (f := f) (a := a) (a' := c) (b := a + N) c1 (by omega)
  rw [hk, show nd f c (a + N) + (k - nd f c (a + N)) = k by omega] at d3
  have d4 := d3
  rw [show c = c - N + N by omega, show c - N + N + N = (c - N + N) + N by omega] at d4
  have d5 := dv_hs hp _ _ d4
  have hkp : 1 ≤ k := by rw [← hk]; exact nd_pos _ _ _
  have := nd_le (f := f) (by omega) hkp d5
  have := hk3 (c - N) (by omega)
  omega
theorem nd_last {f : Nat → Int32} {N a k : Nat} (hp : PER f N) (hm : MIN f N a k) : nd f (N - 1) (a + N) = 1 := by
  have ha := hm.1
  have h : ∀ d, N - 1 + d < a + N → nd f (N - 1 + d) (a + N) = nd f (N - 1) (a + N) := by
    intro d
    induction d with
    | zero => intro _; rfl
    | succ d ih =>
      intro hd
      have := cut_late hp hm (s := N - 1 + (d + 1)) (by omega) hd
      rw [this, show N - 1 + (d + 1) - 1 = N - 1 + d by omega]
      exact ih (by omega)
  have h1 := h a (by omega)
  rw [← h1]
  have h2 : nd f (N - 1 + a) (a + N) ≤ 1 := nd_le (by omega) (by omega) ⟨a + N, by omega, fre_one f (by omega), Nat.le_refl _⟩
  have := nd_pos f (N - 1 + a) (a + N)
  omega
/-- the class's cuts -/
def Cb (f : Nat → Int32) (N a : Nat) (s : Nat) : Bool := decide (a ≤ s ∧ (s = a ∨ nd f s (a + N) < nd f (s - 1) (a + N)))
/-- so many with T from a on -/
def cnt (T : Nat → Bool) (a : Nat) : Nat → Nat
  | 0 => 0
  | n + 1 => cnt T a n + (if T (a + n) then 1 else 0)
theorem cnt_add (T : Nat → Bool) (a m : Nat) : ∀ n, cnt T a (m + n) = cnt T a m + cnt T (a + m) n := by
  intro n
  induction n with
  | zero => rfl
  | succ n ih =>
    rw [← Nat.add_assoc, cnt, ih, cnt, Nat.add_assoc a m n, Nat.add_assoc]
theorem cnt_cons (T : Nat → Bool) (a n : Nat) : cnt T a (n + 1) = (if T a then 1 else 0) + cnt T (a + 1) n := by
  rw [Nat.add_comm n 1, cnt_add, cnt, cnt, Nat.zero_add, Nat.add_zero]
theorem cnt_congr {T T' : Nat → Bool} {a : Nat} : ∀ n, (∀ i, a ≤ i → i < a + n → T i = T' i) → cnt T a n = cnt T' a n := by
  intro n
  induction n with
  | zero => intro _; rfl
  | succ n ih =>
    intro h
    rw [cnt, cnt, ih (fun i h1 h2 => h i h1 (by omega)), h (a + n) (by omega) (by omega)]
theorem cnt_none {T : Nat → Bool} {a : Nat} : ∀ n, (∀ i, a ≤ i → i < a + n → T i = false) → cnt T a n = 0 := by
  intro n
  induction n with
  | zero => intro _; rfl
  | succ n ih =>
    intro h
    rw [cnt, ih (fun i h1 h2 => h i h1 (by omega)), h (a + n) (by omega) (by omega)]
    rfl
/-- T, as the ring sees it -/
def rg (N : Nat) (T : Nat → Bool) (i : Nat) : Bool := T (i % N)
theorem rg_lt {N : Nat} (T : Nat → Bool) {i : Nat} (h : i < N) : rg N T i = T i := by unfold rg; rw [Nat.mod_eq_of_lt h]
theorem rg_add {N : Nat} (T : Nat → Bool) (i : Nat) : rg N T (i + N) = rg N T i := by unfold rg; rw [Nat.add_mod_right]
theorem cnt_sh {N : Nat} (T : Nat → Bool) (a : Nat) : ∀ n, cnt (rg N T) (a + N) n = cnt (rg N T) a n := by
  intro n
  induction n with
  | zero => rfl
  | succ n ih => rw [cnt, cnt, ih, show a + N + n = a + n + N by omega, rg_add]
theorem cnt_win {N : Nat} (T : Nat → Bool) (a : Nat) : cnt (rg N T) a N = cnt (rg N T) 0 N := by
  have h1 := cnt_add (rg N T) 0 a N
  have h2 := cnt_add (rg N T) 0 N a
  have h3 := cnt_sh (N := N) T 0 a
  rw [Nat.zero_add] at h1 h2 h3
  rw [Nat.add_comm N a] at h2
  omega
theorem cnt_rg {N : Nat} (T : Nat → Bool) : cnt (rg N T) 0 N = cnt T 0 N := cnt_congr N (fun i _ h => rg_lt T (by omega))
/-- cuts T divide the ring, seen from t -/
def VT (f : Nat → Int32) (N : Nat) (T : Nat → Bool) (t : Nat) : Prop := T t = true ∧ ∀ i j, t ≤ i → i < j → j < t + N → (∀ m, i < m → m ≤ j → rg N T m = false) → f i &&& f j = 0
theorem vt_rot {f : Nat → Int32} {N : Nat} {T : Nat → Bool} {t0 t1 : Nat} (hp : PER f N) (h : VT f N T t0) (h0 : t0 ≤ t1) (h1 : t1 < N) (hT : T t1 = true) : VT f N T t1 := by
  refine ⟨hT, fun i j a1 a2 a3 a4 => ?_⟩
  rcases Nat.lt_or_ge j (t0 + N) with hj | hj
  · exact h.2 i j (by omega) a2 hj a4
  · rcases Nat.lt_or_ge i (t0 + N) with hi | hi
    · have := a4 (t0 + N) hi hj
      rw [rg_add, rg_lt T (by omega), h.1] at this
      cases this
    · have := h.2 (i - N) (j - N) (by omega) (by omega) (by omega) (fun m m1 m2 => by rw [← rg_add]; exact a4 (m + N) (by omega) (by omega))
      rw [← hp (i - N), ← hp (j - N), show i - N + N = i by omega, show j - N + N = j by omega] at this
      exact this
theorem vt_dv {f : Nat → Int32} {N : Nat} {T : Nat → Bool} {t b : Nat} (h : VT f N T t) (hb : b ≤ t + N) : ∀ (n c i : Nat), i + n = b → c < i → t ≤ c → (∀ m, c < m → m < i → rg N T m = false) → dv f b (1 + cnt (rg N T) i n) c := by
  intro n
  induction n with
  | zero =>
    intro c i hi hc ht hn
    refine ⟨i, by omega, fun x y h1 h2 h3 => h.2 x y (by omega) h2 (by omega) (fun m m1 m2 => hn m (by omega) (by omega)), ?_⟩
    show b ≤ i
    omega
  | succ n ih =>
    intro c i hi hc ht hn
    rw [cnt_cons]
    cases hT : rg N T i
    · rw [if_neg (by decide), Nat.zero_add]
      exact ih c (i + 1) (by omega) (by omega) ht (fun m m1 m2 => by
        rcases Nat.lt_or_ge m i with h9 | h9
        · exact hn m m1 h9
        · rw [show m = i by omega]; exact hT)
    · rw [if_pos rfl, Nat.add_comm 1 (1 + _)]
      refine ⟨i, by omega, fun x y h1 h2 h3 => h.2 x y (by omega) h2 (by omega) (fun m m1 m2 => hn m (by omega) (by omega)), ?_⟩
      exact ih i (i + 1) (by omega) (by omega) (by omega) (fun m m1 m2 => by omega)
theorem vt_dv1 {f : Nat → Int32} {N : Nat} {T : Nat → Bool} {t s b : Nat} (h : VT f N T t) (hb : b ≤ t + N) (hs : t ≤ s) (hsb : s < b) (hT : rg N T s = true) : dv f b (cnt (rg N T) s (b - s)) s := by
  have := vt_dv h hb (b - s - 1) s (s + 1) (by omega) (by omega) hs (fun m m1 m2 => by omega)
  rw [show b - s = b - s - 1 + 1 by omega, cnt_cons, hT, if_pos rfl]
  exact this
theorem vt_nd {f : Nat → Int32} {N : Nat} {T : Nat → Bool} {t s b : Nat} (h : VT f N T t) (hb : b ≤ t + N) (hs : t ≤ s) (hsb : s < b) (hT : rg N T s = true) : nd f s b ≤ cnt (rg N T) s (b - s) := by
  refine nd_le (by omega) ?_ (vt_dv1 h hb hs hsb hT)
  rw [show b - s = b - s - 1 + 1 by omega, cnt_cons, hT, if_pos rfl]
  omega
theorem vt_min {f : Nat → Int32} {N a k : Nat} {T : Nat → Bool} {t : Nat} (hm : MIN f N a k) (h : VT f N T t) (ht : t < N) : k ≤ cnt T 0 N := by
  have h1 := vt_nd h (b := t + N) (s := t) (by omega) (by omega) (by omega) (by rw [rg_lt T ht]; exact h.1)
  rw [show t + N - t = N by omega, cnt_win, cnt_rg] at h1
  have := hm.2.2.1 t ht
  omega
theorem vt_ge {f : Nat → Int32} {N a k : Nat} {T : Nat → Bool} {t0 t : Nat} (hp : PER f N) (hm : MIN f N a k) (h : VT f N T t0) (hk : cnt T 0 N = k) (h0 : t0 ≤ t) (ht : t < N) (hT : T t = true) : a ≤ t := by
  have hv := vt_rot hp h h0 ht hT
  have h1 := vt_nd hv (b := t + N) (s := t) (by omega) (by omega) (by omega) (by rw [rg_lt T ht]; exact hT)
  rw [show t + N - t = N by omega, cnt_win, cnt_rg] at h1
  rcases Nat.lt_or_ge t a with h9 | h9
  · have := hm.2.2.2 t h9
    omega
  · exact h9
theorem cb_cnt {f : Nat → Int32} {N a k : Nat} (hm : MIN f N a k) : ∀ d, a + 1 + d ≤ a + N → cnt (Cb f N a) a (1 + d) + nd f (a + d) (a + N) = k + 1 := by
  intro d
  induction d with
  | zero =>
    intro h
    have e : Cb f N a a = true := by unfold Cb; rw [decide_eq_true_eq]; exact ⟨Nat.le_refl a, Or.inl rfl⟩
    show cnt (Cb f N a) a (0 + 1) + nd f a (a + N) = k + 1
    rw [cnt, cnt, Nat.add_zero, e, hm.2.1]
    simp
    omega
  | succ d ih =>
    intro h
    have h1 := ih (by omega)
    rw [← Nat.add_assoc, cnt]
    have hmo := nd_mono (f := f) (a := a + d) (a' := a + d + 1) (b := a + N) (by omega) (by omega)
    have hst := nd_step (f := f) (a := a + d) (b := a + N) (by omega)
    have e1 : a + (1 + d) = a + d + 1 := by omega
    have e2 : a + (d + 1) = a + d + 1 := by omega
    rw [e1, e2]
    by_cases hc : nd f (a + d + 1) (a + N) < nd f (a + d) (a + N)
    · have e : Cb f N a (a + d + 1) = true := by unfold Cb; rw [decide_eq_true_eq]; exact ⟨by omega, Or.inr hc⟩
      rw [e, if_pos rfl]
      omega
    · have e : Cb f N a (a + d + 1) = false := by unfold Cb; rw [decide_eq_false_iff_not]; rintro ⟨_, h9 | h9⟩; omega; exact hc h9
      rw [e, if_neg (by decide)]
      omega
theorem cb_low {f : Nat → Int32} {N a s : Nat} (h : s < a) : Cb f N a s = false := by unfold Cb; rw [decide_eq_false_iff_not]; omega
theorem cb_a {f : Nat → Int32} {N a : Nat} : Cb f N a a = true := by unfold Cb; rw [decide_eq_true_eq]; exact ⟨Nat.le_refl a, Or.inl rfl⟩
theorem cb_all {f : Nat → Int32} {N a k : Nat} (hp : PER f N) (hm : MIN f N a k) : cnt (Cb f N a) 0 N = k := by
  have ha := hm.1
  have h1 := cb_cnt hm (N - 1 - a) (by omega)
  rw [show a + (N - 1 - a) = N - 1 by omega, nd_last hp hm] at h1
  have h2 := cnt_add (Cb f N a) 0 a (N - a)
  rw [show a + (N - a) = N by omega, Nat.zero_add, cnt_none a (fun i _ h => cb_low (by omega)), show N - a = 1 + (N - 1 - a) by omega] at h2
  omega
/-- the class's cuts divide the ring -/
theorem cb_vt {f : Nat → Int32} {N a k : Nat} (hp : PER f N) (hm : MIN f N a k) : VT f N (Cb f N a) a := by
  have ha := hm.1
  refine ⟨cb_a, fun i j h1 h2 h3 h4 => ?_⟩
  obtain ⟨c, c1, c2, c3, c4, c5, c6⟩ := cut_all (f := f) (a := a) (b := a + N) (j - a) (by omega)
  rw [show a + 1 + (j - a) = j + 1 by omega] at c2 c5
  have hci : c ≤ i := by
    apply Classical.byContradiction
    intro h9
    have hr := h4 c (by omega) (by omega)
    rcases c6 with h | h
    · omega
    · rcases Nat.lt_or_ge c N with h8 | h8
      · rw [rg_lt _ h8] at hr
        have : Cb f N a c = true := by unfold Cb; rw [decide_eq_true_eq]; exact ⟨c1, Or.inr h⟩
        rw [this] at hr
        cases hr
      · have := cut_late hp hm h8 (by omega)
        omega
  exact c5 i j hci h2 (by omega)
/-- other cuts, as few, are behind -/
theorem cb_lex {f : Nat → Int32} {N a k p : Nat} {T : Nat → Bool} {t0 : Nat} (hp : PER f N) (hm : MIN f N a k) (h : VT f N T t0) (h0 : ∀ t, T t = true → t0 ≤ t) (hk : cnt T 0 N = k) (hpN : p < N) (hq : ∀ q, q < p → T q = Cb f N a q) (hTp : T p = true) : Cb f N a p = true := by
  have hge := vt_ge hp hm h hk (h0 p hTp) hpN hTp
  rcases Nat.lt_or_ge a p with hap | hap
  · have hTa : T a = true := by rw [hq a hap]; exact cb_a
    have hva := vt_rot hp h (h0 a hTa) (by omega) hTa
    have h1 := vt_nd hva (b := a + N) (s := p) (by omega) hge (by omega) (by rw [rg_lt T hpN]; exact hTp)
    have h2 := cnt_add (rg N T) a (p - a) (a + N - p)
    rw [show p - a + (a + N - p) = N by omega, show a + (p - a) = p by omega, cnt_win, cnt_rg, hk] at h2
    have h3 : cnt (rg N T) a (p - a) = cnt (Cb f N a) a (p - a) := cnt_congr _ (fun i i1 i2 => by rw [rg_lt T (by omega), hq i (by omega)])
    have h4 := cb_cnt hm (p - a - 1) (by omega)
    rw [show 1 + (p - a - 1) = p - a by omega, show a + (p - a - 1) = p - 1 by omega] at h4
    have h5 := nd_pos f (p - 1) (a + N)
    unfold Cb
    rw [decide_eq_true_eq]
    exact ⟨hge, Or.inr (by omega)⟩
  · rw [show p = a by omega]
    exact cb_a
end
