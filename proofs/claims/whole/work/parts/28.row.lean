/-! row, pack -/
section ROWPACK
variable {Ca : pp_M → pp_M → Prop} {σ μ : pp_M}
/-- a table whose first n are another's -/
def cpF (w s : Nat → Int32) (n : Nat) : Nat → Int32 := fun j => if j < n then s j else w j
theorem cpF_S (w s : Nat → Int32) (n : Nat) : (fun j => if j = n then s n else cpF w s n j) = cpF w s (n + 1) := funext fun j => by
  unfold cpF
  by_cases e : j = n
  · rw [if_pos e, if_pos (by omega), e]
  · rw [if_neg e]
    by_cases e2 : j < n
    · rw [if_pos e2, if_pos (by omega)]
    · rw [if_neg e2, if_neg (by omega)]
theorem cpF_0 (w s : Nat → Int32) : cpF w s 0 = w := funext fun j => if_neg (by omega)
/-- masks of farms -/
def pcnt (m : Nat) : Nat := m % 2 + m / 2 % 2 + m / 4 % 2 + m / 8 % 2 + m / 16 % 2 + m / 32 % 2 + m / 64 % 2
theorem mask_step : ∀ m, m < 128 → ∀ f, f < 7 → ((nI (2 * m) >>> (nI (f + 1) &&& 31)) &&& (1 : Int32) = 1) ∨ ∃ m', m' < 128 ∧ (nI (2 * m) ||| ((1 : Int32) <<< (nI (f + 1) &&& 31))) = nI (2 * m') ∧ pcnt m' = pcnt m + 1 := by
  have h : ∀ m, m < 128 → ∀ f, f < 7 → ((nI (2 * m) >>> (nI (f + 1) &&& 31)) &&& (1 : Int32) = 1) ∨ (m ||| 2 ^ f < 128 ∧ (nI (2 * m) ||| ((1 : Int32) <<< (nI (f + 1) &&& 31))) = nI (2 * (m ||| 2 ^ f)) ∧ pcnt (m ||| 2 ^ f) = pcnt m + 1) := by decide +kernel
  intro m hm f hf
  rcases h m hm f hf with h | h
  · exact Or.inl h
  · exact Or.inr ⟨_, h⟩
theorem pcnt_le (m : Nat) : pcnt m ≤ 7 := by unfold pcnt; omega
theorem farm_of {x : Int32} (h : ¬ wi x 1 7 = 0) : ∃ f, f < 7 ∧ x = nI (f + 1) := by
  obtain ⟨h1, h2⟩ := wi_0 h
  have h1' : (1 : Int) ≤ x.toInt := h1
  have h2' : x.toInt ≤ 7 := h2
  obtain ⟨j, hj, rfl⟩ := q_of (x := x) (n := 7) (by omega) h2'
  rw [nI_toInt (by omega)] at h1'
  exact ⟨j - 1, by omega, congrArg nI (by omega)⟩
/-- more than seven cannot be a row -/
theorem m_rowMany {k s : Nat} (hk : k < 4) (hs : s ≤ 40) (h7 : 7 < s) (h68 : μ.1 68 k = nI s) : ∀ (m b n : Nat) (ms : Nat), b + m = 8 → m < n → ms < 128 → pcnt ms = b → f_X9_row_29 n μ (nI k) (nI (2 * ms)) (nI b) = some (-3, μ)
  | 0, b, n + 1, ms, hb, _, hm, hp => by
    have := pcnt_le ms
    omega
  | m + 1, b, n + 1, ms, hb, hn, hm, hp => by
    show f_X9_row_29_B (f_X9_row_29 n) _ _ _ _ = _
    unfold f_X9_row_29_B
    have i1 : pp_ix (nI k) 4 := q_ix (by omega) (by omega)
    have j1 : (nI k).toNatClampNeg = k := q_cl (by omega)
    have c1 : nI b < nI s := nI_lt (by omega) (by omega)
    have i2 := q_40 hk (show b < 40 by omega)
    simp only [if_pos i1, j1, h68, if_pos c1, if_pos i2.1, i2.2, m_isFarm, Option.bind_some]
    by_cases c2 : wi (μ.1 69 (k * 40 + b)) 1 7 = 0
    · rw [if_pos c2]
    rw [if_neg c2]
    obtain ⟨f, hf, e⟩ := farm_of c2
    rw [e]
    rcases mask_step ms hm f hf with g | ⟨m', g1, g2, g3⟩
    · rw [if_pos g]
    · by_cases c3 : (nI (2 * ms) >>> (nI (f + 1) &&& 31)) &&& (1 : Int32) = 1
      · rw [if_pos c3]
      · rw [if_neg c3, g2, nI_1]
        exact m_rowMany hk hs h7 h68 m (b + 1) n m' (by omega) (by omega) g1 (by omega)
/-- the two checks agree -/
theorem row_same (h : Base σ μ) {k s : Nat} (hk : k < 4) (hs : s ≤ 7) (h68 : μ.1 68 k = nI s) : ∀ (m b n n' : Nat) (ms : Int32), b + m = s → m < n → m < n' → (f_X8_areFarms_12 n σ 18 (k * 40) 40 (nI s) ms (nI b) = some (1, σ) ∧ f_X9_row_29 n' μ (nI k) ms (nI b) = f_X9_row_98 100000 (ppS μ 40 19 (nI s)) (nI k) 0 ∧ ∀ i, b ≤ i → i < s → bd (μ.1 69 (k * 40 + i)) 1 7) ∨ (f_X8_areFarms_12 n σ 18 (k * 40) 40 (nI s) ms (nI b) = some (0, σ) ∧ f_X9_row_29 n' μ (nI k) ms (nI b) = some (-3, μ))
  | 0, b, n + 1, n' + 1, ms, hb, _, _ => by
    have : b = s := by omega
    subst this
    left
    have i1 : pp_ix (nI k) 4 := q_ix (by omega) (by omega)
    have j1 : (nI k).toNatClampNeg = k := q_cl (by omega)
    have c1 : ¬ nI b < nI b := fun q => absurd (q_lt32.mp q) (by omega)
    refine ⟨?_, ?_, fun i h1 h2 => by omega⟩
    · show f_X8_areFarms_12_B (f_X8_areFarms_12 n) _ _ _ _ _ _ _ = _
      unfold f_X8_areFarms_12_B
      rw [if_neg c1]
    · show f_X9_row_29_B (f_X9_row_29 n') _ _ _ _ = _
      unfold f_X9_row_29_B
      simp only [if_pos i1, j1, h68, if_neg c1]
  | m + 1, b, n + 1, n' + 1, ms, hb, hn, hn' => by
    have e1 : f_X8_areFarms_12 (n + 1) σ 18 (k * 40) 40 (nI s) ms (nI b) = f_X8_areFarms_12_B (f_X8_areFarms_12 n) σ 18 (k * 40) 40 (nI s) ms (nI b) := rfl
    have e2 : f_X9_row_29 (n' + 1) μ (nI k) ms (nI b) = f_X9_row_29_B (f_X9_row_29 n') μ (nI k) ms (nI b) := rfl
    rw [e1, e2]
    unfold f_X8_areFarms_12_B f_X9_row_29_B
    have i1 : pp_ix (nI k) 4 := q_ix (by omega) (by omega)
    have j1 : (nI k).toNatClampNeg = k := q_cl (by omega)
    have c1 : nI b < nI s := nI_lt (by omega) (by omega)
    have i2 := q_40 hk (show b < 40 by omega)
    have i3 : pp_ix (nI b) 40 := q_ix (by omega) (by omega)
    have j3 : (nI b).toNatClampNeg = b := q_cl (by omega)
    have e18 : σ.1 18 (k * 40 + b) = μ.1 69 (k * 40 + b) := h.2.2.2.2.2.2.2.1 _ (by omega)
    simp only [if_pos i1, j1, h68, if_pos c1, if_pos i2.1, i2.2, m_isFarm, k_isFarm, if_pos i3, j3, e18, Option.bind_some]
    by_cases c2 : wi (μ.1 69 (k * 40 + b)) 1 7 = 0
    · rw [if_pos c2, if_pos c2]; exact Or.inr ⟨rfl, rfl⟩
    rw [if_neg c2, if_neg c2]
    by_cases c3 : (ms >>> (μ.1 69 (k * 40 + b) &&& 31)) &&& (1 : Int32) = 1
    · rw [if_pos c3, if_pos c3]; exact Or.inr ⟨rfl, rfl⟩
    rw [if_neg c3, if_neg c3, nI_1]
    rcases row_same h hk hs h68 m (b + 1) n n' (ms ||| ((1 : Int32) <<< (μ.1 69 (k * 40 + b) &&& 31))) (by omega) (by omega) (by omega) with ⟨g1, g2, g3⟩ | g
    · refine Or.inl ⟨g1, g2, fun i h1 h2 => ?_⟩
      by_cases e : i = b
      · rw [e]; exact wi_0 c2
      · exact g3 i (by omega) h2
    · exact Or.inr g
theorem k_row61 {k s : Nat} (hk : k < 4) (hs : s ≤ 7) (w : Nat → Int32) : ∀ (m b n : Nat), b + m = s → m < n → f_X8_row_61 n (ppF σ 34 (cpF w (fun i => σ.1 18 (k * 40 + i)) b)) (nI k) (nI s) (nI b) = some (nI s, ppS (ppF σ 34 (cpF w (fun i => σ.1 18 (k * 40 + i)) s)) 0 10 (nI s))
  | 0, b, n + 1, hb, _ => by
    have : b = s := by omega
    subst this
    show f_X8_row_61_B (f_X8_row_61 n) _ _ _ _ = _
    unfold f_X8_row_61_B
    rw [if_neg (fun q => absurd (q_lt32.mp q) (by omega))]
  | m + 1, b, n + 1, hb, hn => by
    show f_X8_row_61_B (f_X8_row_61 n) _ _ _ _ = _
    unfold f_X8_row_61_B
    have i1 : pp_ix (nI k) 4 := q_ix (by omega) (by omega)
    have j1 : (nI k).toNatClampNeg = k := q_cl (by omega)
    have c1 : nI b < nI s := nI_lt (by omega) (by omega)
    have i3 : pp_ix (nI b) 40 := q_ix (by omega) (by omega)
    have i4 : pp_ix (nI b) 7 := q_ix (by omega) (by omega)
    have j3 : (nI b).toNatClampNeg = b := q_cl (by omega)
    have e18 : ∀ w, (ppF σ 34 w).1 18 (k * 40 + b) = σ.1 18 (k * 40 + b) := fun w => pF_ot (by omega)
    simp only [if_pos i1, j1, if_pos c1, if_pos i3, if_pos i4, j3, e18, pF_S, nI_1]
    rw [show (fun j => if j = b then σ.1 18 (k * 40 + b) else cpF w (fun i => σ.1 18 (k * 40 + i)) b j) = cpF w (fun i => σ.1 18 (k * 40 + i)) (b + 1) from cpF_S w (fun i => σ.1 18 (k * 40 + i)) b]
    exact k_row61 hk hs w m (b + 1) n (by omega) (by omega)
theorem m_row98 {k s : Nat} (hk : k < 4) (hs : s ≤ 7) (h19 : μ.1 40 19 = nI s) (w : Nat → Int32) : ∀ (m b n : Nat), b + m = s → m < n → f_X9_row_98 n (ppF μ 53 (cpF w (fun i => μ.1 69 (k * 40 + i)) b)) (nI k) (nI b) = some (nI s, ppF μ 53 (cpF w (fun i => μ.1 69 (k * 40 + i)) s))
  | 0, b, n + 1, hb, _ => by
    have : b = s := by omega
    subst this
    show f_X9_row_98_B (f_X9_row_98 n) _ _ _ = _
    unfold f_X9_row_98_B
    have e19 : ∀ w, (ppF μ 53 w).1 40 19 = nI b := fun w => by rw [pF_ot (by omega), h19]
    rw [e19, if_neg (fun q => absurd (q_lt32.mp q) (by omega))]
  | m + 1, b, n + 1, hb, hn => by
    show f_X9_row_98_B (f_X9_row_98 n) _ _ _ = _
    unfold f_X9_row_98_B
    have c1 : nI b < nI s := nI_lt (by omega) (by omega)
    have i2 := q_40 hk (show b < 40 by omega)
    have i4 : pp_ix (nI b) 7 := q_ix (by omega) (by omega)
    have j3 : (nI b).toNatClampNeg = b := q_cl (by omega)
    have e19 : ∀ w, (ppF μ 53 w).1 40 19 = nI s := fun w => by rw [pF_ot (by omega), h19]
    have e69 : ∀ w, (ppF μ 53 w).1 69 (k * 40 + b) = μ.1 69 (k * 40 + b) := fun w => pF_ot (by omega)
    simp only [e19, if_pos c1, if_pos i2.1, i2.2, if_pos i4, j3, e69, pF_S, nI_1]
    rw [show (fun j => if j = b then μ.1 69 (k * 40 + b) else cpF w (fun i => μ.1 69 (k * 40 + i)) b j) = cpF w (fun i => μ.1 69 (k * 40 + i)) (b + 1) from cpF_S w (fun i => μ.1 69 (k * 40 + i)) b]
    exact m_row98 hk hs h19 w m (b + 1) n (by omega) (by omega)
theorem base_row (h : Base σ μ) (x : Int32) (w w' : Nat → Int32) (hw : ∀ i, i < 7 → w i = w' i) : Base (ppS (ppF σ 34 w) 0 10 x) (ppF (ppS μ 40 19 x) 53 w') := by
  have k : ∀ t i, ¬ (t = 34 ∨ (t = 0 ∧ i = 10)) → (ppS (ppF σ 34 w) 0 10 x).1 t i = σ.1 t i := fun t i q => by rw [qs_ne (by omega), pF_ot (by omega)]
  have m : ∀ t i, ¬ (t = 53 ∨ (t = 40 ∧ i = 19)) → (ppF (ppS μ 40 19 x) 53 w').1 t i = μ.1 t i := fun t i q => by rw [pF_ot (by omega), qs_ne (by omega)]
  obtain ⟨b1, b2, b3, b4, b5, ⟨b6, b6'⟩, b7, b8, b9, ⟨b10, b10'⟩, b11, b12, b12', b12''⟩ := h
  refine ⟨?_, ?_, ?_, ?_, ?_, ⟨?_, ?_⟩, ?_, ?_, ?_, ⟨?_, ?_⟩, ?_, ?_, ?_, ?_⟩
  · intro t ht w hw; rw [k 3 (t * 6 + w) (by omega), m (41 + w) (t) (by omega)]; exact b1 t ht w hw
  · intro t ht l hl; rw [k 3 (t * 6 + (3 + l)) (by omega), m (44) (3 * t + l) (by omega)]; exact b2 t ht l hl
  · intro i hi; rw [k 6 (i) (by omega), m (45) (i) (by omega)]; exact b3 i hi
  · intro i hi; rw [k 11 (i) (by omega), m (47) (i) (by omega)]; exact b4 i hi
  · intro t ht; rw [k 12 (t) (by omega), m (48) (t) (by omega)]; exact b5 t ht
  · rw [k 13 (5) (by omega), m (40) (11) (by omega)]; exact b6
  · intro i hi; rw [k 14 (i) (by omega), m (49) (i) (by omega)]; exact b6' i hi
  · intro s hs; rw [k 19 (s) (by omega), k 20 (s) (by omega), m (66) (s) (by omega), m (67) (s) (by omega), m (68) (s) (by omega)]; exact b7 s hs
  · intro i hi; rw [k 18 (i) (by omega), m (69) (i) (by omega)]; exact b8 i hi
  · rw [k 16 (3) (by omega), m (40) (47) (by omega)]; exact b9
  · rw [qs_same, pF_ot (t := 53) (a := 40) (by omega), qs_same]
  · intro i hi; rw [qs_tok (t := 0) (a := 34) (by omega), pF_rd, pF_rd]; exact hw i hi
  · intro t ht; rw [k 35 (t) (by omega), m (54) (t) (by omega)]; exact b11 t ht
  · rw [k 0 (11) (by omega), m (40) (6) (by omega)]; exact b12
  · rw [k 0 (12) (by omega), m (40) (7) (by omega)]; exact b12'
  · rw [k 0 (13) (by omega), m (40) (8) (by omega)]; exact b12''
theorem inv_row (h : Inv μ) (x : Int32) (w' : Nat → Int32) (hx : bd x 0 7) (hw : ∀ i : Nat, (i : Int) < x.toInt → bd (w' i) 1 7) : Inv (ppF (ppS μ 40 19 x) 53 w') := by
  have m : ∀ t i, ¬ (t = 53 ∨ (t = 40 ∧ i = 19)) → (ppF (ppS μ 40 19 x) 53 w').1 t i = μ.1 t i := fun t i q => by rw [pF_ot (by omega), qs_ne (by omega)]
  obtain ⟨i1, i2, ⟨i3, i3'⟩, i4, i5, i6, i7, ⟨i8, i8'⟩, i9, i10, i10', i10''⟩ := h
  refine ⟨?_, ?_, ⟨?_, ?_⟩, ?_, ?_, ?_, ?_, ⟨?_, ?_⟩, ?_, ?_, ?_, ?_⟩
  · intro t ht; rw [m (41) (t) (by omega), m (42) (t) (by omega), m (43) (t) (by omega)]; exact i1 t ht
  · intro i hi; rw [m (44) (i) (by omega)]; exact i2 i hi
  · intro i hi; rw [m (45) (i) (by omega)]; exact i3 i hi
  · intro a b ha hb; rw [m (45) (8 * a + b) (by omega), m (45) (8 * b + a) (by omega)]; exact i3' a b ha hb
  · intro i hi; rw [m (47) (i) (by omega)]; exact i4 i hi
  · intro t ht; rw [m (48) (t) (by omega)]; exact i5 t ht
  · rw [m (40) (11) (by omega)]; exact i6
  · intro s hs; rw [m (67) (s) (by omega), m (68) (s) (by omega)]; exact i7 s hs
  · rw [pF_ot (t := 53) (a := 40) (by omega), qs_same]; exact hx
  · intro i hi; rw [pF_ot (t := 53) (a := 40) (by omega), qs_same] at hi; rw [pF_rd]; exact hw i hi
  · intro t ht; rw [m (54) (t) (by omega)]; exact i9 t ht
  · rw [m (40) (6) (by omega)]; exact i10
  · rw [m (40) (7) (by omega)]; exact i10'
  · rw [m (40) (8) (by omega)]; exact i10''
theorem h_row (hCa : CaOk Ca) (a1 : Int32) (h : Rel Ca σ μ) : ∃ (r : Int32) (σ' μ' : pp_M), f_X8_row σ a1 = some (r, σ') ∧ f_X9_row μ a1 = some (r, μ') ∧ Rel Ca σ' μ' := by
  unfold f_X8_row f_X9_row
  simp only [k_isSheet, m_isSheet, Option.bind_some]
  by_cases c1 : wi a1 0 3 = 0
  · simp only [if_pos c1]; exact ⟨_, _, _, rfl, rfl, h⟩
  simp only [if_neg c1]
  obtain ⟨k, hk, rfl⟩ := wi_of (n := 3) rfl c1
  have hk4 : k < 4 := by omega
  have i1 : pp_ix (nI k) 4 := q_ix (by omega) (by omega)
  have j1 : (nI k).toNatClampNeg = k := q_cl (by omega)
  rcases sh_cases h hk4 with ⟨g1, g2, g3⟩ | ⟨g1, g2⟩
  · have n1 : ¬ μ.1 66 k = 0 := by rw [g1]; decide
    simp only [k_isLost hk4, if_neg g3, Option.bind_some, if_pos i1, j1, if_neg n1, ite_true]
    have hb := (h.2.1.2.2.2.2.2.2.1 k hk4).1
    obtain ⟨s, hs, es⟩ := q_of (x := μ.1 68 k) (n := 40) hb.1 hb.2
    rw [g2, es]
    unfold f_X8_areFarms
    by_cases c2 : 7 < s
    · rw [if_pos (show (7 : Int32) < nI s from by rw [show (7 : Int32) = nI 7 from rfl]; exact nI_lt (by omega) (by omega))]
      have := m_rowMany hk4 hs c2 es 8 0 100000 0 rfl (by omega) (by omega) rfl
      rw [show (0 : Int32) = nI (2 * 0) from rfl, this]
      exact ⟨_, _, _, rfl, rfl, h⟩
    · rw [if_neg (show ¬ (7 : Int32) < nI s from fun q => by rw [q_lt32, nI_toInt (by omega), show (7 : Int32).toInt = 7 from rfl] at q; omega)]
      rcases row_same h.1 hk4 (show s ≤ 7 by omega) es s 0 100000 100000 0 (by omega) (by omega) (by omega) with ⟨e1, e2, e3⟩ | ⟨e1, e2⟩
      · rw [show f_X8_areFarms_12 100000 σ 18 (k * 40) 40 (nI s) 0 0 = some (1, σ) from e1, show f_X9_row_29 100000 μ (nI k) 0 0 = _ from e2]
        simp only [Option.bind_some]
        rw [if_neg (by decide)]
        have p1 := k_row61 (σ := σ) hk4 (show s ≤ 7 by omega) (σ.1 34) s 0 100000 (by omega) (by omega)
        have p2 := m_row98 (μ := ppS μ 40 19 (nI s)) hk4 (show s ≤ 7 by omega) (qs_same _ _ _ _) ((ppS μ 40 19 (nI s)).1 53) s 0 100000 (by omega) (by omega)
        rw [cpF_0, pF_id] at p1 p2
        rw [show f_X8_row_61 100000 σ (nI k) (nI s) 0 = _ from p1, show f_X9_row_98 100000 (ppS μ 40 19 (nI s)) (nI k) 0 = _ from p2]
        refine ⟨_, _, _, rfl, rfl, rel_keep hCa h (base_row h.1 _ _ _ (fun i hi => ?_)) (inv_row h.2.1 _ _ ?_ (fun i hi => ?_)) (fr_tr (pF_fr (fun i => by unfold nK; omega)) (fr_S (by unfold nK; omega))) (fr_tr (fr_S (by unfold nM; omega)) (pF_fr (fun i => by unfold nM; omega)))⟩
        · unfold cpF
          by_cases c : i < s
          · rw [if_pos c, if_pos c]
            show σ.1 18 (k * 40 + i) = (ppS μ 40 19 (nI s)).1 69 (k * 40 + i)
            rw [qs_tok (t := 40) (a := 69) (by omega)]; exact h.1.2.2.2.2.2.2.2.1 _ (by omega)
          · rw [if_neg c, if_neg c, qs_tok (t := 40) (a := 53) (by omega)]; exact h.1.2.2.2.2.2.2.2.2.2.1.2 i hi
        · unfold bd; rw [nI_toInt (by omega)]; omega
        · rw [nI_toInt (by omega)] at hi
          unfold cpF
          rw [if_pos (by omega)]
          show bd ((ppS μ 40 19 (nI s)).1 69 (k * 40 + i)) 1 7
          rw [qs_tok (t := 40) (a := 69) (by omega)]
          exact e3 i (by omega) (by omega)
      · rw [show f_X8_areFarms_12 100000 σ 18 (k * 40) 40 (nI s) 0 0 = some (0, σ) from e1, show f_X9_row_29 100000 μ (nI k) 0 0 = _ from e2]
        simp only [Option.bind_some, if_true]
        exact ⟨_, _, _, rfl, rfl, h⟩
  · simp only [k_isLost hk4, if_pos g2, Option.bind_some, if_pos i1, j1, if_pos g1, f_X7_found, f_X9_meets]
    rw [if_neg (by decide)]
    exact ⟨_, _, _, rfl, rfl, rel_found hCa h 1⟩

end ROWPACK
