/-! gain, best, brings -/
section BESTS
variable {Ca : pp_M → pp_M → Prop} {σ μ ν : pp_M} {G : Nat → Nat → Int} {W pk tp : Nat → Nat}
theorem opt_ex (G : Nat → Nat → Int) (W : Nat → Nat) (bt L : Nat) : ∃ b, OPT G W bt L b := by
  have key : ∀ n, ∃ b, b < n + 1 ∧ fe W bt L b ∧ ∀ d, d < n + 1 → fe W bt L d → be G W b d := by
    intro n
    induction n with
    | zero => exact ⟨0, by omega, fe_0 W bt L, fun d hd _ => by
        have : d = 0 := by omega
        subst this
        exact Or.inr ⟨rfl, Or.inr ⟨rfl, Nat.le_refl _⟩⟩⟩
    | succ n ih =>
      obtain ⟨b, b1, b2, b3⟩ := ih
      by_cases c : fe W bt L (n + 1) ∧ ¬ be G W b (n + 1)
      · refine ⟨n + 1, by omega, c.1, fun d hd hf => ?_⟩
        by_cases e : d = n + 1
        · subst e; exact Or.inr ⟨rfl, Or.inr ⟨rfl, Nat.le_refl _⟩⟩
        · have h1 := b3 d (by omega) hf
          have h2 := c.2
          unfold be at h1 h2 ⊢
          omega
      · refine ⟨b, by omega, b2, fun d hd hf => ?_⟩
        by_cases e : d = n + 1
        · subst e
          exact Classical.byContradiction (fun q => c ⟨hf, q⟩)
        · exact b3 d (by omega) hf
  obtain ⟨b, b1, b2, b3⟩ := key 15624
  exact ⟨b, b1, b2, b3⟩
noncomputable def optC (G : Nat → Nat → Int) (W : Nat → Nat) (bt L : Nat) : Nat := Classical.choose (opt_ex G W bt L)
theorem optC_ok (G : Nat → Nat → Int) (W : Nat → Nat) (bt L : Nat) : OPT G W bt L (optC G W bt L) := Classical.choose_spec (opt_ex G W bt L)
theorem optC_eq {bt L b : Nat} (h : OPT G W bt L b) : b = optC G W bt L := opt_uniq h (optC_ok G W bt L)
theorem opt_sc' {bt L c : Nat} {s : Int} (hs : 0 < s) (h : OPT G W bt L c) : OPT (fun t k => G t k * s) W bt L c := by
  refine ⟨h.1, h.2.1, fun d hd hf => ?_⟩
  have := h.2.2 d hd hf
  unfold be at this ⊢
  rw [pg_sc, pg_sc]
  rcases this with q | ⟨q, r⟩
  · exact Or.inl (Int.mul_lt_mul_of_pos_right q hs)
  · exact Or.inr ⟨by rw [q], r⟩
def Lm (μ : pp_M) : Nat := (μ.1 40 7).toInt.toNat
theorem Lm_ok (hI : Inv μ) : μ.1 40 7 = nI (Lm μ) ∧ 1 ≤ Lm μ ∧ Lm μ ≤ 100 := by
  have h := hI.2.2.2.2.2.2.2.2.2.2.1
  unfold bd at h
  unfold Lm
  obtain ⟨j, hj, e⟩ := q_of (x := μ.1 40 7) (n := 100) (by omega) h.2
  rw [e] at h ⊢
  rw [nI_toInt (by omega)] at h ⊢
  exact ⟨rfl, by omega, by omega⟩
theorem Lm_K (hB : Base σ μ) (hI : Inv μ) : σ.1 0 12 = nI (Lm μ) := by rw [hB.2.2.2.2.2.2.2.2.2.2.2.2.1, (Lm_ok hI).1]
theorem row_fr (h : fr sM μ ν) : rowL ν = rowL μ := by
  unfold rowL
  rw [(h 40 19 (by unfold sM; omega)).1, show ν.1 53 = μ.1 53 from funext fun i => (h 53 i (by unfold sM; omega)).1]
/-- looking at the row, from any scratch -/
theorem m_looksR (hI : Inv μ) (hf : fr sM μ ν) : ∃ ν', f_X9_looksAtRow ν = some ν' ∧ fr Lk ν ν' ∧ GM ν' μ (rowL μ) := by
  obtain ⟨ν', g1, g2, g3, g4, g5⟩ := m_looks (inv_fr hI hf)
  rw [row_fr hf] at g3 g5
  refine ⟨ν', g1, g2, fun t ht k hk => ?_, g3, fr_tr hf (Lk_sM g2), (rowL_len hI).1, rowL_mem hI⟩
  have := (g5 t ht 0 (Nat.zero_le _) k hk).1
  rw [this, List.drop_zero, wv_fr hf]
/-- the best pack, and its gain without a thing -/
noncomputable def bC (μ : pp_M) (bt : Nat) : Nat := optC (gn μ (rowL μ)) (Wt μ) bt (Lm μ)
noncomputable def bP (μ : pp_M) (i : Nat) : Nat := (dgs 6 (bC μ 6)).getD i 0
noncomputable def bG (μ : pp_M) (bt : Nat) : Int := pg (gn μ (rowL μ)) 0 (dgs 6 (bC μ bt))
theorem pkF_getD (bt : Nat) : ∀ (p : List Nat) (t i : Nat), pkF bt t p → p.getD i 0 ≤ 4
  | [], _, _, _ => by show 0 ≤ 4; omega
  | k :: p, t, 0, h => h.1
  | k :: p, t, i + 1, h => pkF_getD bt p (t + 1) i h.2.2
theorem bP_le (μ : pp_M) (i : Nat) : bP μ i ≤ 4 := pkF_getD 6 _ 0 i (dgs_ok 6 _ (by omega))
theorem bG_bd (hI : Inv μ) (bt : Nat) : -6000000000000 ≤ bG μ bt * 16 ^ (7 - (rowL μ).length) ∧ bG μ bt * 16 ^ (7 - (rowL μ).length) ≤ 6000000000000 := by
  have h := pg_bd (G := GS μ (rowL μ)) (fun t ht k hk => GS_bd hI (rowL_len hI).1 (rowL_mem hI) ht hk) 6 (bC μ bt) (by omega)
  have e : pg (GS μ (rowL μ)) 0 (dgs 6 (bC μ bt)) = bG μ bt * 16 ^ (7 - (rowL μ).length) := pg_sc (gn μ (rowL μ)) (16 ^ (7 - (rowL μ).length)) _ 0
  rw [e] at h
  exact h
theorem sc_bd {x B : Int} {n : Nat} (h : -B ≤ x * 16 ^ n ∧ x * 16 ^ n ≤ B) : -B ≤ x ∧ x ≤ B := by
  have hp : (1 : Int) ≤ 16 ^ n := Int.pow_pos (by decide)
  generalize (16 : Int) ^ n = p at h hp
  constructor
  · rcases Int.le_total 0 x with hx | hx
    · have := Int.mul_le_mul_of_nonneg_left hp hx
      omega
    · have := Int.mul_le_mul_of_nonpos_left hx hp
      omega
  · rcases Int.le_total 0 x with hx | hx
    · have := Int.mul_le_mul_of_nonneg_left hp hx
      omega
    · have := Int.mul_le_mul_of_nonpos_left hx hp
      omega
theorem s_pos (n : Nat) : (0 : Int) < 16 ^ n := Int.pow_pos (by decide)
/-- the class's most gain is the best pack's -/
theorem dM_bG (hI : Inv μ) {bt : Nat} {tp : Nat → Nat} (h : pkOk (GS μ (rowL μ)) (Wt μ) bt tp) : dM (GS μ (rowL μ)) (Wt μ) tp 6 (Lm μ) = bG μ bt * 16 ^ (7 - (rowL μ).length) := by
  have o := opt_sc' (s_pos (7 - (rowL μ).length)) (optC_ok (gn μ (rowL μ)) (Wt μ) bt (Lm μ))
  have := opt_gain (G := GS μ (rowL μ)) h o
  rw [← this]
  exact pg_sc (gn μ (rowL μ)) (16 ^ (7 - (rowL μ).length)) _ 0
theorem wb_m1 : ∀ t, t < 6 → (nI t = (-1 : Int32) ↔ t = 6) := fun t ht => ⟨fun q => by
    have := congrArg Int32.toInt q
    rw [nI_toInt (by omega), show (-1 : Int32).toInt = -1 from rfl] at this
    omega, fun q => by omega⟩
theorem wb_nI {b : Nat} (hb : b < 6) : ∀ t, t < 6 → (nI t = nI b ↔ t = b) := fun t ht => nI_eqI (by omega) (by omega)
theorem kMost (hI : Inv μ) (hG : GK σ (GS μ (rowL μ)) (Wt μ) (pkS μ (rowL μ))) (hz : zK σ) {bt : Nat} {wb : Int32} (hwb : ∀ t, t < 6 → (nI t = wb ↔ t = bt)) : ∃ σ', f_X5_mostGain σ (nI (Lm μ)) wb = some (lI (bG μ bt * 16 ^ (7 - (rowL μ).length)), σ') ∧ fr (P30 0 606) σ σ' := by
  have hp := pkOk_S hI (rowL μ)
  have ho : pkOk (GS μ (rowL μ)) (Wt μ) bt (fun t => if t = bt then 0 else pkS μ (rowL μ) t) := fun t ht => by
    obtain ⟨q1, q2, q3, q4, q5⟩ := hp t ht
    refine ⟨q1, q2, ?_, fun e => if_pos e, fun k hk e h => ?_⟩
    · show (if t = bt then 0 else pkS μ (rowL μ) t) ≤ 4
      split
      · omega
      · exact q3
    · have e2 : (if t = bt then 0 else pkS μ (rowL μ) t) = pkS μ (rowL μ) t := if_neg e
      show GS μ (rowL μ) t k ≤ GS μ (rowL μ) t (if t = bt then 0 else pkS μ (rowL μ) t)
      have h' : (if t = bt then 0 else pkS μ (rowL μ) t) < k := h
      rw [e2] at h' ⊢
      exact q5 k hk (by omega) h'
  obtain ⟨σ', g1, g2, g3⟩ := k_mostGain hG hz (L := Lm μ) (bt := bt) (wb := wb) (tp := fun t => if t = bt then 0 else pkS μ (rowL μ) t) (fun t ht => ⟨(ho t ht).2.2.1, (ho t ht).2.1⟩) (Lm_ok hI).2.2 hwb (fun t ht => rfl)
  rw [dM_bG hI ho] at g1
  exact ⟨σ', g1, g2⟩
theorem kBest (hI : Inv μ) (hG : GK σ (GS μ (rowL μ)) (Wt μ) (pkS μ (rowL μ))) (hz : zK σ) : ∃ σ', f_X5_chooseBest σ (nI (Lm μ)) = some σ' ∧ fr PP σ σ' ∧ ∀ i, i < 6 → σ'.1 32 i = nI (bP μ i) := by
  obtain ⟨σ', b, g1, g2, g3, g4, g5, g6⟩ := k_chooseBest hG hz (pkOk_S hI (rowL μ)) (Lm_ok hI).2.2
  have e : pc b = bC μ 6 := optC_eq (opt_sc (s_pos (7 - (rowL μ).length)) g3)
  refine ⟨σ', g1, g5, fun i hi => ?_⟩
  rw [g6 i hi]
  unfold bP
  rw [← e, g4]
theorem mPacks (hI : Inv μ) (hM : GM ν μ (rowL μ)) {bt : Nat} {wb : Int32} (hwb : ∀ t, t < 6 → (nI t = wb ↔ t = bt)) : ∃ ν', f_X9_packs ν wb = some ν' ∧ fr PQ ν ν' ∧ ν'.2 40 28 = lI (bG μ bt) ∧ ∀ t, t < 6 → ν'.1 59 t = nI ((dgs 6 (bC μ bt)).getD t 0) := by
  obtain ⟨ν', b, g1, g2, g3, g4, g5⟩ := m_packs hI hwb (Lm_ok hI).2.2 hM (by rw [(hM.2.2.1 40 7 (by unfold sM; omega)).1, (Lm_ok hI).1])
  have e : b = bC μ bt := optC_eq g3
  rw [e] at g4 g5
  exact ⟨ν', g1, g2, g4, g5⟩
theorem PQ_sM {μ μ' : pp_M} (h : fr PQ μ μ') : fr sM μ μ' := NP_sM (PQ_NP h)
theorem zK_fr {σ σ' : pp_M} (h : zK σ) (hf : fr sK σ σ') : zK σ' := fun i h1 h2 => by rw [(hf 30 i (by unfold sK; omega)).2]; exact h i h1 h2
/-- the pack as a list -/
def pkL (μ : pp_M) : List Nat := (List.range 6).map (fun i => (μ.1 54 i).toInt.toNat)
theorem pkL_ok (hI : Inv μ) : (pkL μ).length = 6 ∧ ∀ i, i < 6 → μ.1 54 i = nI ((pkL μ).getD i 0) ∧ (pkL μ).getD i 0 ≤ 4 := by
  refine ⟨by unfold pkL; rw [List.length_map, List.length_range], fun i hi => ?_⟩
  have h := hI.2.2.2.2.2.2.2.2.1 i hi
  unfold bd at h
  have eg : (pkL μ).getD i 0 = (μ.1 54 i).toInt.toNat := by
    rw [List.getD_eq_getElem?_getD]
    unfold pkL
    rw [List.getElem?_map, List.getElem?_range (by omega)]
    rfl
  rw [eg]
  obtain ⟨j, hj, ej⟩ := q_of (x := μ.1 54 i) (n := 4) (by omega) h.2
  rw [ej] at h ⊢
  rw [nI_toInt (by omega)] at h ⊢
  exact ⟨rfl, by omega⟩
theorem m_gN8 (hI : Inv μ) {fs : List Nat} (hM : GM ν μ fs) : ∀ (q : List Nat) (t n : Nat) (acc : Int), t + q.length = 6 → q.length < n → (∀ i, i < q.length → ν.1 54 (t + i) = nI (q.getD i 0) ∧ q.getD i 0 ≤ 4) → f_X9_gainNow_8 n ν (lI acc) (nI t) = some (lI (acc + pg (gn μ fs) t q), ν) := by
  intro q
  induction q with
  | nil =>
    intro t n acc ht hn' hq
    rw [List.length_nil] at ht hn'
    obtain ⟨n, rfl⟩ : ∃ n', n = n' + 1 := ⟨n - 1, by omega⟩
    have : t = 6 := by omega
    subst this
    show f_X9_gainNow_8_B (f_X9_gainNow_8 n) _ _ _ = _
    unfold f_X9_gainNow_8_B pg
    rw [if_neg (show ¬ nI 6 < (6 : Int32) from q_nlt 6), Int.add_zero]
  | cons k q ih =>
    intro t n acc ht hn' hq
    rw [List.length_cons] at ht hn'
    obtain ⟨n, rfl⟩ : ∃ n', n = n' + 1 := ⟨n - 1, by omega⟩
    have h0 := hq 0 (by rw [List.length_cons]; omega)
    rw [Nat.add_zero] at h0
    have e0 : (k :: q).getD 0 0 = k := rfl
    rw [e0] at h0
    have i1 : pp_ix (nI t) 6 := q_ix (by omega) (by omega)
    show f_X9_gainNow_8_B (f_X9_gainNow_8 n) _ _ _ = _
    unfold f_X9_gainNow_8_B
    rw [if_pos (show nI t < (6 : Int32) from nI_lt (b := 6) (by omega) (by omega)), if_pos i1, q_cl (k := t) (by omega), h0.1, m_gainOf hI hM (by omega) (by omega), Option.bind_some, lI_add, nI_1]
    rw [ih (t + 1) n (acc + gn μ fs t k) (by omega) (by omega) (fun i hi => by
      have := hq (i + 1) (by rw [List.length_cons]; omega)
      rw [show t + (i + 1) = t + 1 + i by omega] at this
      exact this)]
    show some (lI (acc + gn μ fs t k + pg (gn μ fs) (t + 1) q), ν) = some (lI (acc + (gn μ fs t k + pg (gn μ fs) (t + 1) q)), ν)
    rw [Int.add_assoc]
def pG (μ : pp_M) : Int := pg (gn μ (rowL μ)) 0 (pkL μ)
theorem m_gainNow (hI : Inv μ) (hf : fr sM μ ν) : ∃ ν', f_X9_gainNow ν = some (lI (pG μ), ν') ∧ fr sM μ ν' := by
  obtain ⟨ν', g1, g2, g3⟩ := m_looksR hI hf
  refine ⟨ν', ?_, g3.2.2.1⟩
  unfold f_X9_gainNow
  rw [g1, Option.bind_some]
  have := m_gN8 hI g3 (pkL μ) 0 100000 0 (by rw [(pkL_ok hI).1]) (by rw [(pkL_ok hI).1]; omega) (fun i hi => by
    rw [Nat.zero_add, (g3.2.2.1 54 i (by unfold sM; omega)).1]
    exact (pkL_ok hI).2 i (by rw [(pkL_ok hI).1] at hi; exact hi))
  rw [Int.zero_add] at this
  exact this
theorem k_gainPack (hB : Base σ μ) (hI : Inv μ) (hG : GK σ (GS μ (rowL μ)) (Wt μ) (pkS μ (rowL μ))) : f_X5_gainOf σ 35 0 6 = some (lI (pG μ * 16 ^ (7 - (rowL μ).length)), σ) := by
  have := k_gainOf hG (tk := 35) (o := 0) (nn := 6) (q := pkL μ) (by omega) (by omega) (pkL_ok hI).1 (fun i hi => by
    rw [Nat.zero_add, hB.2.2.2.2.2.2.2.2.2.2.1 i hi]
    exact (pkL_ok hI).2 i hi)
  rw [this]
  have e : pg (GS μ (rowL μ)) 0 (pkL μ) = pG μ * 16 ^ (7 - (rowL μ).length) := pg_sc (gn μ (rowL μ)) (16 ^ (7 - (rowL μ).length)) _ 0
  rw [e]
theorem pgL_bd (hG : ∀ t, t < 6 → ∀ k, k < 5 → -1000000000000 ≤ G t k ∧ G t k ≤ 1000000000000) : ∀ (q : List Nat) (t : Nat), t + q.length = 6 → (∀ i, i < q.length → q.getD i 0 ≤ 4) → -(1000000000000 * (q.length : Int)) ≤ pg G t q ∧ pg G t q ≤ 1000000000000 * (q.length : Int)
  | [], _, _, _ => ⟨Int.le_refl _, Int.le_refl _⟩
  | k :: q, t, ht, hq => by
    rw [List.length_cons] at ht
    have ih := pgL_bd hG q (t + 1) (by omega) (fun i hi => hq (i + 1) (by rw [List.length_cons]; omega))
    have g := hG t (by omega) k (by have : k ≤ 4 := hq 0 (by rw [List.length_cons]; omega); omega)
    show -(1000000000000 * ((q.length + 1 : Nat) : Int)) ≤ G t k + pg G (t + 1) q ∧ G t k + pg G (t + 1) q ≤ 1000000000000 * ((q.length + 1 : Nat) : Int)
    generalize pg G (t + 1) q = x at ih ⊢
    generalize G t k = y at g ⊢
    omega
theorem pG_bd (hI : Inv μ) : -6000000000000 ≤ pG μ * 16 ^ (7 - (rowL μ).length) ∧ pG μ * 16 ^ (7 - (rowL μ).length) ≤ 6000000000000 := by
  have h := pgL_bd (G := GS μ (rowL μ)) (fun t ht k hk => GS_bd hI (rowL_len hI).1 (rowL_mem hI) ht hk) (pkL μ) 0 (by rw [(pkL_ok hI).1]) (fun i hi => ((pkL_ok hI).2 i (by rw [(pkL_ok hI).1] at hi; exact hi)).2)
  have e : pg (GS μ (rowL μ)) 0 (pkL μ) = pG μ * 16 ^ (7 - (rowL μ).length) := pg_sc (gn μ (rowL μ)) (16 ^ (7 - (rowL μ).length)) _ 0
  rw [e, (pkL_ok hI).1] at h
  exact h
theorem m_row16 (hI : Inv μ) (hf : fr sM μ ν) : f_X9_sixteen ν (ν.1 40 19) = some (lI (16 ^ (rowL μ).length), ν) := by
  rw [(hf 40 19 (by unfold sM; omega)).1, ← (rowL_len hI).2, m_sixteen (rowL_len hI).1]
/-- a mean of the row, in lowest terms on both sides -/
theorem both_low (hI : Inv μ) {z : Int} (w : Int32) (h : -6000000000000 * 2 ≤ z * 16 ^ (7 - (rowL μ).length) ∧ z * 16 ^ (7 - (rowL μ).length) ≤ 6000000000000 * 2) : f_X8_term σ (lI (z * 16 ^ (7 - (rowL μ).length))) (268435456 : Int64) w = some (lowI z (16 ^ (rowL μ).length) w, σ) ∧ f_X9_lowest ν (lI z) (lI (16 ^ (rowL μ).length)) w = some (lowI z (16 ^ (rowL μ).length) w, ν) := by
  have h2 := sc_bd (B := 12000000000000) h
  exact ⟨k_termU w (rowL_len hI).1 (by omega) (by omega), m_lowU w (rowL_len hI).1 (by omega) (by omega)⟩
theorem h_gain (hCa : CaOk Ca) (a1 : Int32) (h : Rel Ca σ μ) : ∃ (r : Int64) (σ' μ' : pp_M), f_X8_gain σ a1 = some (r, σ') ∧ f_X9_gain μ a1 = some (r, μ') ∧ Rel Ca σ' μ' := by
  unfold f_X8_gain f_X9_gain
  rw [m_in, k_isTerm, Option.bind_some, Option.bind_some]
  by_cases c1 : wi a1 0 1 = 0
  · rw [if_pos c1, if_pos c1]; exact ⟨_, _, _, rfl, rfl, h⟩
  rw [if_neg c1, if_neg c1]
  obtain ⟨σ1, g1, g2, g3⟩ := k_weighUp h.1 h.2.1
  obtain ⟨ν1, d1, d2⟩ := m_gainNow h.2.1 (fr_rf (σ := μ))
  have bl := both_low (σ := σ1) (ν := ν1) h.2.1 (z := pG μ) a1 (by have := pG_bd h.2.1; omega)
  rw [g1, Option.bind_some, k_gainPack (base_fr h.1 (WU_sK g2) fr_rf) h.2.1 g3, Option.bind_some, bl.1, Option.bind_some, d1, Option.bind_some, m_row16 h.2.1 d2, Option.bind_some, bl.2]
  exact ⟨_, _, _, rfl, rfl, rel_scratch hCa h (WU_sK g2) d2⟩
def sN (a b : Nat → Nat) : Nat → Nat
  | 0 => 0
  | n + 1 => sN a b n + a n * b n
theorem wS_nI {p w : Nat → Int32} {a b : Nat → Nat} : ∀ n, (∀ i, i < n → p i = nI (a i) ∧ w i = nI (b i)) → wS p w n = nI (sN a b n)
  | 0, _ => rfl
  | n + 1, h => by
    show wS p w n + p n * w n = nI (sN a b n + a n * b n)
    rw [wS_nI n (fun i hi => h i (by omega)), (h n (by omega)).1, (h n (by omega)).2, pk_mul, nI_add]
theorem m_bN25 {a : Nat → Nat} (ha : ∀ i, i < 6 → ν.1 59 i = nI (a i) ∧ ν.1 42 i = nI (W i)) : ∀ d t n, t + d = 6 → d < n → f_X9_bestNow_25 n ν (nI (sN a W t)) (nI t) = some (nI (sN a W 6), ν) := by
  intro d
  induction d with
  | zero =>
    intro t n ht hn
    obtain ⟨n, rfl⟩ : ∃ n', n = n' + 1 := ⟨n - 1, by omega⟩
    have : t = 6 := by omega
    subst this
    show f_X9_bestNow_25_B (f_X9_bestNow_25 n) _ _ _ = _
    unfold f_X9_bestNow_25_B
    rw [if_neg (show ¬ nI 6 < (6 : Int32) from q_nlt 6)]
  | succ d ih =>
    intro t n ht hn
    obtain ⟨n, rfl⟩ : ∃ n', n = n' + 1 := ⟨n - 1, by omega⟩
    show f_X9_bestNow_25_B (f_X9_bestNow_25 n) _ _ _ = _
    unfold f_X9_bestNow_25_B f_X9_weightOf
    have i1 : pp_ix (nI t) 6 := q_ix (by omega) (by omega)
    rw [if_pos (show nI t < (6 : Int32) from nI_lt (b := 6) (by omega) (by omega)), if_pos i1, if_pos i1, q_cl (k := t) (by omega), (ha t (by omega)).1, (ha t (by omega)).2, Option.bind_some, pk_mul, nI_add, nI_1]
    exact ih (t + 1) n (by omega) (by omega)
/-- the best pack's number of a thing, or its weight -/
theorem m_bestNow (hI : Inv μ) (hf : fr sM μ ν) (a1 : Int32) : ∃ ν', fr sM μ ν' ∧ (a1 = -1 → f_X9_bestNow ν a1 = some (nI (sN (bP μ) (Wt μ) 6), ν')) ∧ (∀ t, t < 6 → a1 = nI t → f_X9_bestNow ν a1 = some (nI (bP μ t), ν')) := by
  obtain ⟨ν1, g1, g2, g3⟩ := m_looksR hI hf
  obtain ⟨ν2, d1, d2, d3, d4⟩ := mPacks hI g3 (bt := 6) wb_m1
  have h2 : fr sM μ ν2 := fr_tr g3.2.2.1 (PQ_sM d2)
  refine ⟨ν2, h2, fun e => ?_, fun t ht e => ?_⟩
  · unfold f_X9_bestNow
    rw [g1, Option.bind_some, d1, Option.bind_some, if_pos e]
    exact m_bN25 (fun i hi => ⟨d4 i hi, by rw [(h2 42 i (by unfold sM; omega)).1, (Wt_ok hI hi).1]⟩) 6 0 100000 (by omega) (by omega)
  · unfold f_X9_bestNow
    have i1 : pp_ix (nI t) 6 := q_ix (by omega) (by omega)
    rw [g1, Option.bind_some, d1, Option.bind_some, e, if_neg (fun q => by have := (wb_m1 t ht).mp q; omega), if_pos i1, q_cl (k := t) (by omega), d4 t ht]
    rfl
theorem k_nOW (hB : Base σ μ) (hI : Inv μ) {tk : Nat} {a : Nat → Nat} (ha : ∀ i, i < 6 → σ.1 tk i = nI (a i)) (a1 : Int32) : (a1 = -1 → f_X8_numberOrWeight σ tk 0 6 a1 = some (nI (sN a (Wt μ) 6), σ)) ∧ (∀ t, t < 6 → a1 = nI t → f_X8_numberOrWeight σ tk 0 6 a1 = some (nI (a t), σ)) := by
  refine ⟨fun e => ?_, fun t ht e => ?_⟩
  · unfold f_X8_numberOrWeight
    rw [if_pos e, k_weightOf tk 0 6 (by omega) (by omega), Option.bind_some, wS_nI (a := a) (b := Wt μ) 6 (fun i hi => ⟨by rw [Nat.zero_add]; exact ha i hi, by rw [hB.1 i hi 1 (by omega)]; exact (Wt_ok hI hi).1⟩)]
  · unfold f_X8_numberOrWeight
    have i1 : pp_ix (nI t) 6 := q_ix (by omega) (by omega)
    rw [e, if_neg (fun q => by have := (wb_m1 t ht).mp q; omega), if_pos i1, q_cl (k := t) (by omega), Nat.zero_add, ha t ht]
theorem wi_m1 {a1 : Int32} (h : ¬ wi a1 (-1) 5 = 0) : a1 = -1 ∨ ∃ t, t < 6 ∧ a1 = nI t := by
  have := wi_0 h
  rw [show (-1 : Int32).toInt = -1 from rfl, show (5 : Int32).toInt = 5 from rfl] at this
  by_cases c : a1.toInt = -1
  · exact Or.inl (Int32.toInt_inj.mp (by rw [c]; rfl))
  · obtain ⟨t, ht, e⟩ := q_of (x := a1) (n := 5) (by omega) (by omega)
    exact Or.inr ⟨t, by omega, e⟩
theorem wi_m1' {a1 : Int32} (h : wi a1 (-1) 5 = 0) : a1 ≠ -1 ∧ wi a1 0 5 = 0 := by
  refine ⟨fun e => ?_, ?_⟩
  · rw [e] at h; exact absurd h (by decide)
  · apply Classical.byContradiction
    intro q
    have := wi_0 q
    have h1 := wi_1 (v := a1) (lo := -1) (hi := 5) (by rw [show (0 : Int32).toInt = 0 from rfl] at this; show (-1 : Int) ≤ _; omega) this.2
    rw [h1] at h
    exact absurd h (by decide)
theorem wi_t {t : Nat} (h : t < 6) : ¬ wi (nI t) 0 5 = 0 := by
  rw [wi_1 (by rw [nI_toInt (by omega)]; show (0 : Int) ≤ _; omega) (by rw [nI_toInt (by omega)]; show _ ≤ (5 : Int); omega)]
  decide
theorem h_best (hCa : CaOk Ca) (a1 : Int32) (h : Rel Ca σ μ) : ∃ (r : Int32) (σ' μ' : pp_M), f_X8_best σ a1 = some (r, σ') ∧ f_X9_best μ a1 = some (r, μ') ∧ Rel Ca σ' μ' := by
  have hI := h.2.1
  unfold f_X8_best f_X9_best f_X9_best_12
  rw [k_within, m_isThing]
  simp only [Option.bind_some]
  by_cases c1 : wi a1 (-1) 5 = 0
  · have := wi_m1' c1
    rw [if_pos c1, if_neg this.1, if_pos this.2]
    exact ⟨_, _, _, rfl, rfl, h⟩
  rw [if_neg c1]
  obtain ⟨σ1, g1, g2, g3⟩ := k_weighUp h.1 hI
  have hB1 := base_fr h.1 (WU_sK g2) fr_rf
  obtain ⟨σ2, d1, d2, d3⟩ := kBest hI g3 (zK_fr h.2.2.2.2 (WU_sK g2))
  have hB2 := base_fr hB1 (PP_sK d2) fr_rf
  obtain ⟨ν, e1, e2, e3⟩ := m_bestNow hI (fr_rf (σ := μ)) a1
  have kn := k_nOW hB2 hI d3 a1
  rw [g1, Option.bind_some, Lm_K hB1 hI, d1, Option.bind_some]
  have rel := rel_scratch hCa h (fr_tr (WU_sK g2) (PP_sK d2)) e1
  rcases wi_m1 c1 with e | ⟨t, ht, e⟩
  · rw [if_pos e, kn.1 e, e2 e]
    exact ⟨_, _, _, rfl, rfl, rel⟩
  · rw [if_neg (fun q => by rw [e] at q; have := (wb_m1 t ht).mp q; omega), if_neg (by rw [e]; exact wi_t ht), kn.2 t ht e, e3 t ht e]
    exact ⟨_, _, _, rfl, rfl, rel⟩
theorem m_bringsNow (hI : Inv μ) (hM : GM ν μ (rowL μ)) {b : Nat} (hb : b < 6) : ∃ ν', f_X9_bringsNow ν (nI b) = some (lI (bG μ 6 - bG μ b), ν') ∧ fr PQ ν ν' := by
  obtain ⟨ν1, d1, d2, d3, d4⟩ := mPacks hI hM (bt := 6) wb_m1
  obtain ⟨ν2, e1, e2, e3, e4⟩ := mPacks hI (GM_fr hM (PQ_NP d2)) (bt := b) (wb_nI hb)
  refine ⟨ν2, ?_, fr_tr d2 e2⟩
  unfold f_X9_bringsNow
  rw [d1, Option.bind_some, e1, Option.bind_some, d3, e3, lI_sub]
theorem h_brings (hCa : CaOk Ca) (a1 a2 : Int32) (h : Rel Ca σ μ) : ∃ (r : Int64) (σ' μ' : pp_M), f_X8_brings σ a1 a2 = some (r, σ') ∧ f_X9_brings μ a1 a2 = some (r, μ') ∧ Rel Ca σ' μ' := by
  have hI := h.2.1
  unfold f_X8_brings f_X9_brings
  rw [k_isThing, m_isThing, Option.bind_some, Option.bind_some]
  by_cases c1 : wi a1 0 5 = 0
  · rw [if_pos c1, if_pos c1]; exact ⟨_, _, _, rfl, rfl, h⟩
  rw [if_neg c1, if_neg c1, k_isTerm, m_in, Option.bind_some, Option.bind_some]
  by_cases c2 : wi a2 0 1 = 0
  · rw [if_pos c2, if_pos c2]; exact ⟨_, _, _, rfl, rfl, h⟩
  rw [if_neg c2, if_neg c2]
  obtain ⟨t, ht, rfl⟩ := wi_of (n := 5) rfl c1
  have ht6 : t < 6 := by omega
  obtain ⟨σ1, g1, g2, g3⟩ := k_weighUp h.1 hI
  have hB1 := base_fr h.1 (WU_sK g2) fr_rf
  have hz1 := zK_fr h.2.2.2.2 (WU_sK g2)
  obtain ⟨σ2, d1, d2⟩ := kMost hI g3 hz1 (bt := 6) wb_m1
  have f2 := P30_PP d2 (by omega)
  have hB2 := base_fr hB1 (PP_sK f2) fr_rf
  obtain ⟨σ3, e1, e2⟩ := kMost hI (GK_fr g3 f2) (zK_fr hz1 (PP_sK f2)) (bt := t) (wb_nI ht6)
  have f3 := P30_PP e2 (by omega)
  obtain ⟨ν1, u1, u2, u3⟩ := m_looksR hI (fr_rf (σ := μ))
  obtain ⟨ν2, v1, v2⟩ := m_bringsNow hI u3 ht6
  have fm : fr sM μ ν2 := fr_tr u3.2.2.1 (PQ_sM v2)
  have b1 := bG_bd hI 6
  have b2 := bG_bd hI t
  have es : bG μ 6 * 16 ^ (7 - (rowL μ).length) - bG μ t * 16 ^ (7 - (rowL μ).length) = (bG μ 6 - bG μ t) * 16 ^ (7 - (rowL μ).length) := (Int.sub_mul _ _ _).symm
  have bl := both_low (σ := σ3) (ν := ν2) hI (z := bG μ 6 - bG μ t) a2 (by rw [← es]; omega)
  have l1 := Lm_K hB1 hI
  have l2 := Lm_K hB2 hI
  rw [g1, Option.bind_some, l1, d1, Option.bind_some, l2, e1, Option.bind_some, lI_sub, es, bl.1, Option.bind_some, u1, Option.bind_some, v1, Option.bind_some, m_row16 hI fm, Option.bind_some, bl.2]
  exact ⟨_, _, _, rfl, rfl, rel_scratch hCa h (fr_tr (WU_sK g2) (fr_tr (PP_sK f2) (PP_sK f3))) fm⟩
end BESTS
