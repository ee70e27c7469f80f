section
/-- the first number from j on, d of them, with p; else -1 -/
def sp_fst (p : Nat → Bool) : Nat → Nat → Int32
  | 0, _ => -1
  | d + 1, j => if p j then nI j else sp_fst p d (j + 1)
theorem ml_first {b : Int32 → Option (Int32 ⊕ (Unit ⊕ Int32))} {p : Nat → Bool} {N : Nat} (h1 : ∀ j, j < N → b (nI j) = if p j then some (.inr (.inr (nI j))) else some (.inl (nI (j + 1)))) (h2 : b (nI N) = some (.inr (.inl ()))) : ∀ (d j : Nat), j + d = N → ∃ rr, bq_loop (bq_u1 b) (nI j) = some rr ∧ bq_or1 rr (fun _ => some (-1)) (fun r => some r) = some (sp_fst p d j) := by
  intro d
  induction d with
  | zero =>
    intro j hj
    have : j = N := by omega
    subst this
    exact ⟨_, ml_done h2, rfl⟩
  | succ d ih =>
    intro j hj
    have h := h1 j (by omega)
    rw [sp_fst]
    cases hp : p j
    · rw [hp] at h
      obtain ⟨rr, g1, g2⟩ := ih (j + 1) (by omega)
      exact ⟨rr, ml_step h g1, g2⟩
    · rw [hp] at h
      exact ⟨_, ml_done h, rfl⟩
theorem sp_fst_congr {p q : Nat → Bool} : ∀ (d j : Nat), (∀ i, j ≤ i → i < j + d → p i = q i) → sp_fst p d j = sp_fst q d j := by
  intro d
  induction d with
  | zero => intro j _; rfl
  | succ d ih =>
    intro j h
    rw [sp_fst, sp_fst, h j (by omega) (by omega), ih (j + 1) (fun i h1 h2 => h i (by omega) (by omega))]
theorem sp_fst_none {p : Nat → Bool} : ∀ (d j : Nat), (∀ i, j ≤ i → i < j + d → p i = false) → sp_fst p d j = -1 := by
  intro d
  induction d with
  | zero => intro j _; rfl
  | succ d ih =>
    intro j h
    rw [sp_fst, h j (by omega) (by omega)]
    exact ih (j + 1) (fun i h1 h2 => h i (by omega) (by omega))
/-- what is out before step i -/
def sp_ob (P M : Nat → Int32) : Nat → Int32
  | 0 => 0
  | i + 1 => (sp_ob P M i ||| P i) &&& (M i ^^^ (-1))
theorem sp_ob_congr {P M P' M' : Nat → Int32} : ∀ (n : Nat), (∀ i, i < n → P i = P' i ∧ M i = M' i) → sp_ob P M n = sp_ob P' M' n := by
  intro n
  induction n with
  | zero => intro _; rfl
  | succ n ih =>
    intro h
    rw [sp_ob, sp_ob, ih (fun i hi => h i (by omega)), (h n (by omega)).1, (h n (by omega)).2]
theorem mr_outBehind {M P : Nat → Int32} {i : Nat} (hi : i ≤ 16) : mX8_outBehind M P (nI i) = some (sp_ob P M i) := by
  have h : bq_loop (bq_u2 (bX8_outBehind_4 M P (nI i))) (0, 0) = some (sp_ob P M i) := by
    refine ml_run (fun j => (nI j, sp_ob P M j)) i (fun j hj => ?_) ?_
    · rw [me_u2]
      unfold bX8_outBehind_4
      rw [if_neg (mq_nle hj (by omega)), me_ci _ (by omega) (by omega), me_ci _ (by omega) (by omega), me_let, me_let, nI_clamp (by omega), nI_1]
      rfl
    · rw [me_u2]
      unfold bX8_outBehind_4
      rw [if_pos (mq_rfl _)]
  unfold mX8_outBehind
  rw [h]
  rfl
/-- the ends of a step are reached when so much is out -/
def sp_er (P M Z : Nat → Int32) (o : Int32) (i : Nat) : Bool := decide (Z i = 0) && decide (P i &&& (o ^^^ (-1)) = 0) && decide (M i &&& o = 0)
theorem sp_er_ite (P M Z : Nat → Int32) (o : Int32) (i : Nat) : (if Z i = 0 then (if P i &&& (o ^^^ (-1)) = 0 then (if M i &&& o = 0 then some (1 : Int32) else some 0) else some 0) else some 0) = some (if sp_er P M Z o i then 1 else 0) := by
  unfold sp_er
  by_cases a : Z i = 0
  · by_cases b : P i &&& (o ^^^ (-1)) = 0
    · by_cases c : M i &&& o = 0
      · rw [if_pos a, if_pos b, if_pos c, decide_eq_true a, decide_eq_true b, decide_eq_true c]; rfl
      · rw [if_pos a, if_pos b, if_neg c, decide_eq_true a, decide_eq_true b, decide_eq_false c]; rfl
    · rw [if_pos a, if_neg b, decide_eq_true a, decide_eq_false b]; rfl
  · rw [if_neg a, decide_eq_false a]; rfl
theorem me_ends {M Z P : Nat → Int32} {i : Nat} (hi : i < 16) (o : Int32) : mX5_endsReached M Z P (nI i) o = some (if sp_er P M Z o i then 1 else 0) := by
  unfold mX5_endsReached
  rw [me_ci _ hi (by omega), me_ci _ hi (by omega), me_ci _ hi (by omega), nI_clamp (by omega), sp_er_ite, me_bd, me_cbi]
/-- the clash of a move -/
def sp_clp (N : Nat) (P M Z : Nat → Int32) (i c j : Nat) : Bool := ((bt (P i) c && bt (M j) c) || (bt (M i) c && bt (P j) c)) && sp_er P M Z (sp_ob P M i) (mp_bf N j)
def sp_clash (N : Nat) (P M Z : Nat → Int32) (i c : Nat) : Int32 := sp_fst (sp_clp N P M Z i c) N 0
theorem me_clash {sq M ob Z P : Nat → Int32} {N i c : Nat} (hq : sq 0 = nI N) (h0 : 0 < N) (hN : N ≤ 16) (hi : i < N) (hc : c < 6) (hob : ob i = sp_ob P M i) (hd : ∀ i, i < N → ∀ c, c < 6 → ¬ (bt (P i) c = true ∧ bt (M i) c = true)) : mX5_firstClash sq M ob Z P (nI i) (nI c) = some (sp_clash N P M Z i c) := by
  have hdi := hd i hi c hc
  have hl : ∀ v1 : Bool, (v1 = true ↔ bt (P i) c = true) → (v1 = false → bt (M i) c = true) → ∃ rr, bq_loop (bq_u1 (bX5_firstClash_33 sq M ob Z P (nI i) (nI c) (if v1 then 1 else 0))) 0 = some rr ∧ bq_or1 rr (fun _ => some (-1)) (fun r => some r) = some (sp_clash N P M Z i c) := by
    intro v1 hv1 hv2
    refine ml_first (p := sp_clp N P M Z i c) (N := N) (fun j hj => ?_) ?_ N 0 (by omega)
    · unfold bX5_firstClash_33
      rw [hq, if_neg (mq_nle hj (by omega)), me_ci _ (by omega) (by omega), me_ci _ (by omega) (by omega), nI_clamp (by omega)]
      have hb := mp_bf_lt h0 hj
      have hbody : ∀ (x : Int32) (B : Bool), B = bt x c → (bq_bd (mX7_holds x (nI c)) (fun v4 => if v4 = 0 then (bq_let (nI j + 1) (fun v5 => some (.inl v5))) else (bq_bd (mX5_stepBefore sq (nI j)) (fun v6 => bq_ci (nI i) 16 (bq_bd (mX5_endsReached M Z P v6 (ob (nI i : Int32).toNatClampNeg)) (fun v7 => if v7 = 0 then (bq_let (nI j + 1) (fun v8 => some (.inl v8))) else (some (.inr (.inr (nI j)))))))))) = (if (B && sp_er P M Z (sp_ob P M i) (mp_bf N j)) = true then some (Sum.inr (Sum.inr (nI j))) else some (Sum.inl (nI (j + 1))) : Option (Int32 ⊕ (Unit ⊕ Int32))) := by
        intro x B hB
        rw [me_holds _ (by omega), me_bd, ← hB, nI_1, me_let]
        cases B
        · rfl
        · rw [if_neg (by decide), me_stepBefore hq h0 hN (by omega), me_bd, me_ci _ (by omega) (by omega), nI_clamp (by omega), hob, me_ends (by omega), me_bd, Bool.true_and]
          cases sp_er P M Z (sp_ob P M i) (mp_bf N j) <;> rfl
      cases v1 with
      | true =>
        rw [if_pos rfl, if_neg (by decide), me_bd, hbody (M j) (bt (M j) c) rfl]
        have hp := hv1.mp rfl
        have hm : bt (M i) c = false := Bool.eq_false_iff.mpr (fun h9 => hdi ⟨hp, h9⟩)
        unfold sp_clp
        rw [hp, hm, Bool.true_and, Bool.false_and, Bool.or_false]
      | false =>
        rw [if_pos (by decide), me_bd, hbody (P j) (bt (P j) c) rfl]
        have hp : bt (P i) c = false := Bool.eq_false_iff.mpr (fun h9 => by have := hv1.mpr h9; cases this)
        have hm := hv2 rfl
        unfold sp_clp
        rw [hp, hm, Bool.true_and, Bool.false_and, Bool.false_or]
    · unfold bX5_firstClash_33
      rw [hq, if_pos (mq_rfl _)]
  unfold mX5_firstClash
  rw [me_ci _ (by omega) (by omega), nI_clamp (by omega), me_holds _ (by omega), me_bd, me_let]
  cases hp : bt (P i) c
  · rw [if_pos (by decide), me_ci _ (by omega) (by omega), me_holds _ (by omega), me_bd]
    cases hm : bt (M i) c
    · rw [if_pos (by decide)]
      unfold sp_clash
      rw [sp_fst_none N 0 (fun j _ _ => by unfold sp_clp; rw [hp, hm]; rfl)]
    · rw [if_neg (by decide)]
      obtain ⟨rr, g1, g2⟩ := hl false (by rw [hp]) (fun _ => hm)
      have g1' : bq_loop (bq_u1 (bX5_firstClash_33 sq M ob Z P (nI i) (nI c) 0)) 0 = some rr := g1
      show bq_bd (bq_loop (bq_u1 (bX5_firstClash_33 sq M ob Z P (nI i) (nI c) 0)) 0) _ = _
      rw [g1', me_bd, g2]
  · rw [if_pos rfl, if_neg (by decide)]
    obtain ⟨rr, g1, g2⟩ := hl true (by rw [hp]) (fun h => by cases h)
    have g1' : bq_loop (bq_u1 (bX5_firstClash_33 sq M ob Z P (nI i) (nI c) 1)) 0 = some rr := g1
    show bq_bd (bq_loop (bq_u1 (bX5_firstClash_33 sq M ob Z P (nI i) (nI c) 1)) 0) _ = _
    rw [g1', me_bd, g2]
theorem mr_clash {tr M Z P : Nat → Int32} {N i c : Nat} (ht : tr 4 = nI N) (h0 : 0 < N) (hN : N ≤ 16) (hi : i < N) (hc : c < 6) (hd : ∀ i, i < N → ∀ c, c < 6 → ¬ (bt (P i) c = true ∧ bt (M i) c = true)) : mX8_clashOf tr M P Z (nI i) (nI c) = some (sp_clash N P M Z i c) := by
  have hl : ∃ rr, bq_loop (bq_u1 (bX8_clashOf_9 tr M P Z (nI i) (nI c) (sp_ob P M i))) 0 = some rr ∧ bq_or1 rr (fun _ => some (-1)) (fun r => some r) = some (sp_clash N P M Z i c) := by
    refine ml_first (p := sp_clp N P M Z i c) (N := N) (fun j hj => ?_) ?_ N 0 (by omega)
    · unfold bX8_clashOf_9
      have hb := mp_bf_lt h0 hj
      rw [ht, if_neg (mq_nle hj (by omega)), me_before ht h0 hN (by omega), me_bd, me_ci _ (by omega) (by omega), me_ci _ (by omega) (by omega), me_ci _ (by omega) (by omega), nI_clamp (by omega), sp_er_ite, me_bd, me_dirOf _ _ (by omega) (by omega), me_bd, me_dirOf _ _ (by omega) (by omega), me_bd, me_bd, me_let, nI_1]
      have h1 := hd i hi c hc
      have h2 := hd j hj c hc
      unfold sp_clp
      revert h1 h2
      generalize bt (P i) c = a1
      generalize bt (M i) c = a2
      generalize bt (P j) c = b1
      generalize bt (M j) c = b2
      generalize sp_er P M Z (sp_ob P M i) (mp_bf N j) = e
      intro h1 h2
      cases a1 <;> cases a2 <;> cases b1 <;> cases b2 <;> cases e <;> first | rfl | exact absurd ⟨rfl, rfl⟩ h1 | exact absurd ⟨rfl, rfl⟩ h2
    · unfold bX8_clashOf_9
      rw [ht, if_pos (mq_rfl _)]
  unfold mX8_clashOf
  rw [mr_outBehind (by omega), me_bd]
  obtain ⟨rr, g1, g2⟩ := hl
  rw [g1, me_bd, g2]
def sp_cac (g : Nat → Int32) (a : Int32) : Nat → Int32
  | 0 => a
  | n + 1 => if g n < 0 then sp_cac g a n else sp_cac g a n + 1
def sp_call (g : Nat → Nat → Int32) : Nat → Int32
  | 0 => 0
  | n + 1 => sp_cac (g n) (sp_call g n) 6
theorem me_clashes {sq M ob Z P : Nat → Int32} {N : Nat} (hq : sq 0 = nI N) (h0 : 0 < N) (hN : N ≤ 16) (hob : ∀ i, i < N → ob i = sp_ob P M i) (hd : ∀ i, i < N → ∀ c, c < 6 → ¬ (bt (P i) c = true ∧ bt (M i) c = true)) : mX7_clashes sq M ob Z P = some (sp_call (sp_clash N P M Z) N) := by
  have hin : ∀ i, i < N → ∀ a, bq_loop (bq_u2 (bX7_clashes_24 sq M ob Z P (nI i))) (0, a) = some (sp_cac (sp_clash N P M Z i) a 6) := by
    intro i hi a
    refine ml_run (fun j => (nI j, sp_cac (sp_clash N P M Z i) a j)) 6 (fun j hj => ?_) ?_
    · rw [me_u2]
      unfold bX7_clashes_24
      rw [if_neg (mq_6 hj), me_clash hq h0 hN hi hj (hob i hi) hd, me_bd, me_let, me_let, nI_1]
      rfl
    · rw [me_u2]
      unfold bX7_clashes_24
      rw [if_pos (by decide)]
  have h : bq_loop (bq_u2 (bX7_clashes_8 sq M ob Z P)) (0, 0) = some (sp_call (sp_clash N P M Z) N) := by
    refine ml_run (fun j => (nI j, sp_call (sp_clash N P M Z) j)) N (fun j hj => ?_) ?_
    · rw [me_u2]
      unfold bX7_clashes_8
      rw [hq, if_neg (mq_nle hj (by omega)), hin j hj, me_bd, me_let, nI_1]
      rfl
    · rw [me_u2]
      unfold bX7_clashes_8
      rw [hq, if_pos (mq_rfl _)]
  unfold mX7_clashes mX7_checkSequence
  rw [hq, if_neg (nI_ne0 h0 (by omega)), me_bd, h, me_bd]
theorem mr_clashes {tr M Z P : Nat → Int32} {N : Nat} (ht : tr 4 = nI N) (h0 : 0 < N) (hN : N ≤ 16) (hd : ∀ i, i < N → ∀ c, c < 6 → ¬ (bt (P i) c = true ∧ bt (M i) c = true)) : mX8_clashes tr M P Z = some (sp_call (sp_clash N P M Z) N, upd tr 3 0) := by
  have ht1 : upd tr 3 0 4 = nI N := ht
  have hin : ∀ i, i < N → ∀ a, bq_loop (bq_u2 (bX8_clashes_32 M P Z (upd tr 3 0) (nI i))) (0, a) = some (sp_cac (sp_clash N P M Z i) a 6) := by
    intro i hi a
    refine ml_run (fun j => (nI j, sp_cac (sp_clash N P M Z i) a j)) 6 (fun j hj => ?_) ?_
    · rw [me_u2]
      unfold bX8_clashes_32
      rw [if_neg (mq_6 hj), mr_clash ht1 h0 hN hi hj hd, me_bd, me_let, me_let, me_let, nI_1, sp_cac]
      by_cases h : sp_clash N P M Z i j < 0
      · rw [if_pos h, if_pos h, mq_add0]
      · rw [if_neg h, if_neg h]
    · rw [me_u2]
      unfold bX8_clashes_32
      rw [if_pos (by decide)]
  have h : bq_loop (bq_u2 (bX8_clashes_22 M P Z (upd tr 3 0))) (0, 0) = some (sp_call (sp_clash N P M Z) N) := by
    refine ml_run (fun j => (nI j, sp_call (sp_clash N P M Z) j)) N (fun j hj => ?_) ?_
    · rw [me_u2]
      unfold bX8_clashes_22
      rw [ht1, if_neg (mq_nle hj (by omega)), hin j hj, me_bd, me_let, nI_1]
      rfl
    · rw [me_u2]
      unfold bX8_clashes_22
      rw [ht1, if_pos (mq_rfl _)]
  unfold mX8_clashes
  rw [me_let, ht1, if_neg (nI_ne0 h0 (by omega)), h, me_bd]
-- valves
theorem mq_bits6 {x : Int32} (h : ∀ c, c < 32 → bt x c = true → c < 6) : ∃ k, k < 64 ∧ x = nI k := by
  refine ⟨(sp_bits (bt x) 6).toBitVec.toNat, ?_, ?_⟩
  · unfold sp_bits sp_bits sp_bits sp_bits sp_bits sp_bits sp_bits
    generalize bt x 0 = a0
    generalize bt x 1 = a1
    generalize bt x 2 = a2
    generalize bt x 3 = a3
    generalize bt x 4 = a4
    generalize bt x 5 = a5
    revert a0 a1 a2 a3 a4 a5
    decide +kernel
  · have e : x = sp_bits (bt x) 6 := by
      refine b_ext (fun i hi => ?_)
      rw [sp_bits_bt _ _ (by omega) _ hi]
      rcases Nat.lt_or_ge i 6 with h6 | h6
      · rw [decide_eq_true h6, Bool.true_and]
      · rw [decide_eq_false (by omega), Bool.false_and]
        exact Bool.eq_false_iff.mpr (fun h9 => by have := h i hi h9; omega)
    generalize sp_bits (bt x) 6 = y at e
    subst e
    apply Int32.toBitVec_inj.mp
    show x.toBitVec = BitVec.ofNat 32 x.toBitVec.toNat
    rw [BitVec.ofNat_toNat, BitVec.setWidth_eq]
def sp_pc (x : Int32) : Nat → Int32
  | 0 => 0
  | n + 1 => sp_pc x n + ((x >>> (nI n &&& 31)) &&& 1)
theorem mr_countOf (x : Int32) : mX8_countOf x = some (sp_pc x 16) := by
  have h : bq_loop (bq_u2 (bX8_countOf_4 x)) (0, 0) = some (sp_pc x 16) := by
    refine ml_run (fun j => (nI j, sp_pc x j)) 16 (fun j hj => ?_) ?_
    · rw [me_u2]
      unfold bX8_countOf_4
      have h16 : ¬ (16 : Int32) ≤ nI j := mq_nle (a := 16) hj (by omega)
      rw [if_neg h16, me_let, me_let, nI_1]
      rfl
    · rw [me_u2]
      unfold bX8_countOf_4
      rw [if_pos (by decide)]
  unfold mX8_countOf
  rw [h]
  rfl
def sp_bc (x0 : Int32) : Int32 :=
  let v1 := (x0 - ((((x0 : Int32).toUInt32 >>> ((1 : Int32).toUInt32 &&& Int32.toUInt32 31)).toInt32) &&& 1431655765))
  let v2 := ((v1 &&& 858993459) + ((((v1 : Int32).toUInt32 >>> ((2 : Int32).toUInt32 &&& Int32.toUInt32 31)).toInt32) &&& 858993459))
  let v3 := ((v2 + (((v2 : Int32).toUInt32 >>> ((4 : Int32).toUInt32 &&& Int32.toUInt32 31)).toInt32)) &&& 252645135)
  let v4 := (v3 + (((v3 : Int32).toUInt32 >>> ((8 : Int32).toUInt32 &&& Int32.toUInt32 31)).toInt32))
  let v5 := (v4 + (((v4 : Int32).toUInt32 >>> ((16 : Int32).toUInt32 &&& Int32.toUInt32 31)).toInt32))
  v5 &&& 63
theorem me_bc (x : Int32) : mJ6_bitCount_0f7a4 x = some (sp_bc x) := rfl
theorem sp_bc_pc : ∀ k, k < 64 → sp_bc (nI k) = sp_pc (nI k) 16 := by decide +kernel
def sp_vo (me : Nat) (N G : Nat) : Int32 := if me = 1 then nI G - 1 else if me = 2 then nI N else 0
def sp_vs (P : Nat → Int32) (N G me : Nat) : Int32 := sp_pc (sp_or (fun _ => true) P N) 16 + sp_vo me N G
theorem me_movingC {sq M P : Nat → Int32} {N : Nat} (hq : sq 0 = nI N) (hN : N ≤ 16) : mX5_movingCylinders sq M P = some (sp_or (fun _ => true) (fun i => P i ||| M i) N) := by
  have h : bq_loop (bq_u2 (bX5_movingCylinders_4 sq M P)) (0, 0) = some (sp_or (fun _ => true) (fun i => P i ||| M i) N) := by
    refine ml_run (fun j => (nI j, sp_or (fun _ => true) (fun i => P i ||| M i) j)) N (fun j hj => ?_) ?_
    · rw [me_u2]
      unfold bX5_movingCylinders_4
      rw [hq, if_neg (mq_nle hj (by omega)), me_movesIn _ _ (by omega), me_bd, me_let, me_let, nI_1]
      rfl
    · rw [me_u2]
      unfold bX5_movingCylinders_4
      rw [hq, if_pos (mq_rfl _)]
  unfold mX5_movingCylinders
  rw [h]
  rfl
theorem me_valves {sq M P : Nat → Int32} {N G me : Nat} (hq : sq 0 = nI N) (hg : sq 5 = nI G) (hN : N ≤ 16) (hme : me < 3) (hb : ∀ i, i < N → ∀ c, c < 32 → (bt (P i) c = true ∨ bt (M i) c = true) → c < 6) (hm : ∀ i, i < N → ∀ c, c < 6 → bt (M i) c = true → ∃ j, j < N ∧ bt (P j) c = true) : mX7_countValves sq M P (nI me) = some (sp_vs P N G me) := by
  have e : sp_or (fun _ => true) (fun i => P i ||| M i) N = sp_or (fun _ => true) P N := by
    refine b_ext (fun c hc => ?_)
    rw [Bool.eq_iff_iff, sp_or_bt, sp_or_bt]
    constructor
    · rintro ⟨i, h1, h2, h3⟩
      rw [b_or, Bool.or_eq_true] at h3
      rcases h3 with h3 | h3
      · exact ⟨i, h1, rfl, h3⟩
      · obtain ⟨j, h4, h5⟩ := hm i h1 c (hb i h1 c hc (Or.inr h3)) h3
        exact ⟨j, h4, rfl, h5⟩
    · rintro ⟨i, h1, h2, h3⟩
      exact ⟨i, h1, rfl, by rw [b_or, h3]; rfl⟩
  obtain ⟨k, hk, ek⟩ := mq_bits6 (x := sp_or (fun _ => true) P N) (sp_or_6 (fun i hi c hc h => hb i hi c hc (Or.inl h)))
  unfold mX7_countValves
  rw [me_movingC hq hN, me_bd, e, me_bc, me_bd]
  unfold sp_vs
  rw [ek, sp_bc_pc k hk, hg, hq]
  unfold sp_vo
  rcases (by omega : me = 0 ∨ me = 1 ∨ me = 2) with rfl | rfl | rfl
  · rw [if_pos (by decide), if_neg (by decide), if_neg (by decide), mq_add0]
  · rw [if_neg (by decide), me_let, if_pos (by decide), if_pos rfl]
  · rw [if_neg (by decide), me_let, if_neg (by decide), if_neg (by decide), if_pos rfl]
theorem mr_valves {tr P : Nat → Int32} {N G me : Nat} (ht : tr 4 = nI N) (hg : tr 8 = nI G) (hN : N ≤ 16) (hme : me < 3) : mX8_valvesOf tr P (nI me) = some (sp_vs P N G me) := by
  have h : bq_loop (bq_u2 (bX8_valvesOf_4 tr P)) (0, 0) = some (sp_or (fun _ => true) P N) := by
    refine ml_run (fun j => (nI j, sp_or (fun _ => true) P j)) N (fun j hj => ?_) ?_
    · rw [me_u2]
      unfold bX8_valvesOf_4
      rw [ht, if_neg (mq_nle hj (by omega)), me_ci _ (by omega) (by omega), me_let, me_let, nI_1, nI_clamp (by omega)]
      rfl
    · rw [me_u2]
      unfold bX8_valvesOf_4
      rw [ht, if_pos (mq_rfl _)]
  unfold mX8_valvesOf
  rw [h, me_bd, mr_countOf, me_bd, me_let, hg, ht]
  unfold sp_vs sp_vo
  rcases (by omega : me = 0 ∨ me = 1 ∨ me = 2) with rfl | rfl | rfl
  · rw [if_neg (by decide), if_neg (by decide), if_neg (by decide), if_neg (by decide)]
  · rw [if_pos (by decide), if_pos rfl]
  · rw [if_neg (by decide), if_pos (by decide), if_neg (by decide), if_pos rfl]
end
