/-- the steps whose commands are on -/
def sp_on (me N G : Nat) (gos : Nat → Int32) (cf : Nat → Nat) (cm : Nat → Bool) (start : Bool) (ac : Option Nat) : Nat → Bool :=
  if me = 0 then sp_rd cm start N else if me = 1 then sp_con gos cf (sp_rd cm start N) (sp_ca G (ac.getD 0) cf (sp_rd cm start N)) else fun i => decide (sp_st N start cm ac = some i)
/-- what is active then -/
def sp_nac (me N G : Nat) (cf : Nat → Nat) (cm : Nat → Bool) (start : Bool) (ac : Option Nat) : Option Nat :=
  if me = 0 then ac else if me = 1 then some (sp_ca G (ac.getD 0) cf (sp_rd cm start N)) else sp_st N start cm ac
/-- what may be active -/
def AV (me N G : Nat) (ac : Option Nat) : Prop := me = 0 ∨ (me = 1 ∧ ∃ a, ac = some a ∧ a < G) ∨ (me = 2 ∧ ∀ a, ac = some a → a < N)
theorem av_nac {me N G : Nat} {cf : Nat → Nat} {cm : Nat → Bool} {start : Bool} {ac : Option Nat} (h0 : 0 < N) (h : AV me N G ac) : AV me N G (sp_nac me N G cf cm start ac) := by
  unfold AV sp_nac at *
  rcases h with h | ⟨h, a, rfl, ha⟩ | ⟨h, ha⟩
  · left; exact h
  · subst h
    right; left
    exact ⟨rfl, _, rfl, sp_ca_lt ha⟩
  · subst h
    right; right
    exact ⟨rfl, sp_st_lt h0 ha⟩
theorem rd_congr {N : Nat} {cm cm' : Nat → Bool} {start : Bool} (h0 : 0 < N) (h : ∀ i, i < N → cm i = cm' i) : ∀ i, i < N → sp_rd cm start N i = sp_rd cm' start N i := by
  intro i hi
  unfold sp_rd
  rw [h _ (mp_bf_lt h0 hi)]
theorem ca_congr {N G a : Nat} {cf : Nat → Nat} {rd rd' : Nat → Bool} (ha : a < G) (hc : ∀ g, g < G → cf g < N) (h : ∀ i, i < N → rd i = rd' i) : sp_ca G a cf rd = sp_ca G a cf rd' := by
  unfold sp_ca
  rw [h _ (hc _ (sp_nx_lt ha))]
theorem st_congr {N : Nat} {cm cm' : Nat → Bool} {start : Bool} {ac : Option Nat} (hac : ∀ a, ac = some a → a < N) (h : ∀ i, i < N → cm i = cm' i) : sp_st N start cm ac = sp_st N start cm' ac := by
  cases ac with
  | none => rfl
  | some a => rw [sp_st_some, sp_st_some, h a (hac a rfl)]
theorem on_congr {me N G : Nat} {gos gos' : Nat → Int32} {cf : Nat → Nat} {cm cm' : Nat → Bool} {start : Bool} {ac : Option Nat} (h0 : 0 < N) (hA : AV me N G ac) (hc : ∀ g, g < G → cf g < N) (hg : ∀ i, i < N → gos i = gos' i) (h : ∀ i, i < N → cm i = cm' i) : (∀ i, i < N → sp_on me N G gos cf cm start ac i = sp_on me N G gos' cf cm' start ac i) ∧ sp_nac me N G cf cm start ac = sp_nac me N G cf cm' start ac := by
  have hrd := rd_congr (start := start) h0 h
  unfold sp_on sp_nac
  rcases hA with rfl | ⟨rfl, a, rfl, ha⟩ | ⟨rfl, ha⟩
  · exact ⟨fun i hi => hrd i hi, rfl⟩
  · have e := ca_congr ha hc hrd
    simp only [Nat.one_ne_zero, if_false, if_true, Option.getD_some]
    rw [e]
    refine ⟨fun i hi => ?_, rfl⟩
    unfold sp_con
    rw [hg i hi, hrd i hi]
  · have e := st_congr (start := start) ha h
    simp only [(by decide : ¬ 2 = 0), (by decide : ¬ 2 = 1), if_false]
    rw [e]
    exact ⟨fun i _ => rfl, rfl⟩
theorem onc_congr {t P M Z : Nat → Int32} {on on' : Nat → Bool} {N : Nat} (h : ∀ i, i < N → on i = on' i) : sp_onc t P M Z on N = sp_onc t P M Z on' N := by
  unfold sp_onc
  rw [sp_or_congr (P' := P) N (fun i hi => ⟨h i hi, rfl⟩), sp_or_congr (P' := M) N (fun i hi => ⟨h i hi, rfl⟩), sp_bits_congr N (fun i hi => by rw [h i hi])]
theorem me_decide {sq cu gos cir : Nat → Int32} (M Z P : Nat → Int32) {me N G : Nat} {cf : Nat → Nat} {cm : Nat → Bool} {start : Bool} {ac : Option Nat} (hq : sq 0 = nI N) (h0 : 0 < N) (hN : N ≤ 16) (hg : sq 5 = nI G) (hG : G ≤ 16) (hc : ∀ g, g < G → cu g = nI (cf g) ∧ cf g < N) (hA : AV me N G ac) (hm : cir 0 = nI me) (ha : cir 1 = sp_ai ac) :
    mX0_decide cir sq cu gos M Z P (sp_bits cm N) (if start then 1 else 0) = some (upd (sp_onc (upd cir 1 (sp_ai (sp_nac me N G cf cm start ac))) P M Z (sp_on me N G gos cf cm start ac) N) 5 (if sp_ai (sp_nac me N G cf cm start ac) = sp_ai ac then 0 else 1)) := by
  have hu : upd cir 1 (sp_ai ac) = cir := by
    funext k
    unfold upd
    by_cases h : k = 1
    · rw [if_pos h, h, ha]
    · rw [if_neg h]
  obtain ⟨x, hx1, hx2⟩ := me_ready (p1 := sq) (cm := cm) (start := start) hq h0 hN
  have hc0 : sp_cir cir 0 0 0 0 = nI me := hm
  have key : (if sp_cir cir 0 0 0 0 = 0 then (bq_bd (mX0_readySteps sq (sp_bits cm N) (if start then 1 else 0)) (fun v7 => bq_bd (mX0_decideDirect (sp_cir cir 0 0 0) sq M Z P v7) (fun t_8 => some t_8))) else (if sp_cir cir 0 0 0 0 = 1 then (bq_bd (mX0_readySteps sq (sp_bits cm N) (if start then 1 else 0)) (fun v5 => bq_bd (mX0_decideCascade (sp_cir cir 0 0 0) sq cu gos M Z P v5) (fun t_6 => some t_6))) else (bq_bd (mX0_decideStepper (sp_cir cir 0 0 0) sq M Z P (sp_bits cm N) (if start then 1 else 0)) (fun t_4 => some t_4)))) = some (sp_onc (upd cir 1 (sp_ai (sp_nac me N G cf cm start ac))) P M Z (sp_on me N G gos cf cm start ac) N) := by
    rw [hc0]
    unfold sp_on sp_nac
    rcases hA with rfl | ⟨rfl, a, rfl, hl⟩ | ⟨rfl, hl⟩
    · rw [if_pos (show nI 0 = 0 from rfl), hx1, me_bd, me_direct cir M Z P hq hN, me_bd]
      simp only [if_true]
      rw [hu, onc_congr hx2]
    · rw [if_neg (show ¬ nI 1 = 0 by decide), if_pos (show nI 1 = 1 from rfl), hx1, me_bd, me_cascade cir M Z P hq hN hg hG hl ha hc, me_bd]
      simp only [Nat.one_ne_zero, if_false, if_true, Option.getD_some]
      rw [ca_congr hl (fun g h => (hc g h).2) hx2]
      congr 1
      apply onc_congr
      intro i hi
      unfold sp_con
      rw [hx2 i hi]
    · rw [if_neg (show ¬ nI 2 = 0 by decide), if_neg (show ¬ nI 2 = 1 by decide), me_stepper cir M Z P hq h0 hN ha hl, me_bd]
      simp only [(by decide : ¬ 2 = 0), (by decide : ¬ 2 = 1), if_false]
  unfold mX0_decide
  rw [me_let, me_allOff, me_bd, key, me_bd, ha]
  have h1 : sp_onc (upd cir 1 (sp_ai (sp_nac me N G cf cm start ac))) P M Z (sp_on me N G gos cf cm start ac) N 1 = sp_ai (sp_nac me N G cf cm start ac) := rfl
  rw [h1, me_let, me_cb, me_let]
  by_cases h : sp_ai (sp_nac me N G cf cm start ac) = sp_ai ac
  · rw [if_pos h]; exact Or.inl rfl
  · rw [if_neg h]; exact Or.inr rfl
theorem mr_decides {t Mr ct Pr Zr st r gos : Nat → Int32} {me N G : Nat} {cf : Nat → Nat} {start : Bool} {ac : Option Nat} (ht : t 4 = nI N) (h0 : 0 < N) (hN : N ≤ 16) (hg : t 8 = nI G) (hG : G ≤ 16) (hd : ∀ i, i < N → ∀ c, c < 6 → ¬ (bt (Pr i) c = true ∧ bt (Mr i) c = true)) (hs : r 2 = if start then 1 else 0) (hA : AV me N G ac) (hm : r 1 = nI me) (ha : r 3 = sp_ai ac) (hc : ∀ g, g < G → ct g = nI (cf g) ∧ cf g < N) (hgf : ∀ i, i < N → mX8_groupFor t ct (nI i) = some (gos i)) :
    mX8_decides t Mr ct Pr Zr st r = some (sp_bits (sp_on me N G gos cf (sp_rcm Pr Mr Zr st r) start ac) N, upd r 3 (sp_ai (sp_nac me N G cf (sp_rcm Pr Mr Zr st r) start ac))) := by
  have hu : upd r 3 (sp_ai ac) = r := by
    funext k
    unfold upd
    by_cases h : k = 3
    · rw [if_pos h, h, ha]
    · rw [if_neg h]
  unfold sp_on sp_nac
  rcases hA with rfl | ⟨rfl, a, rfl, hl⟩ | ⟨rfl, hl⟩
  · rw [mr_decides0 ht h0 hN hd hs hm]
    simp only [if_true]
    rw [hu]
  · rw [mr_decides1 ht h0 hN hg hG hd hs hm ha hl hc hgf]
    simp only [Nat.one_ne_zero, if_false, if_true, Option.getD_some]
    rfl
  · rw [mr_decides2 ht h0 hN hd hs hm ha hl]
    simp only [(by decide : ¬ 2 = 0), (by decide : ¬ 2 = 1), if_false]
