/-! pack -/
section PACK
variable {Ca : pp_M → pp_M → Prop} {σ μ : pp_M}
/-- a sum of products -/
def wS (p w : Nat → Int32) : Nat → Int32
  | 0 => 0
  | n + 1 => wS p w n + p n * w n
theorem wS_cong {p w p' w' : Nat → Int32} : ∀ n, (∀ i, i < n → p i = p' i ∧ w i = w' i) → wS p w n = wS p' w' n
  | 0, _ => rfl
  | n + 1, h => by
    show wS p w n + _ = wS p' w' n + _
    rw [wS_cong n (fun i hi => h i (by omega)), (h n (by omega)).1, (h n (by omega)).2]
theorem q_lt6 {b : Nat} (h : b < 6) : nI b < (6 : Int32) := nI_lt (b := 6) h (by omega)
theorem q_nlt (s : Nat) : ¬ nI s < nI s := fun q => absurd (q_lt32.mp q) (by omega)
theorem k_wOf (t oo nn : Nat) (hn : 6 ≤ nn) (hn2 : nn < 2 ^ 31) : ∀ (m b n : Nat), b + m = 6 → m < n → f_X1_weightOf_4 n σ t oo nn (wS (fun i => σ.1 t (oo + i)) (fun i => σ.1 3 (i * 6 + 1)) b) (nI b) = some (wS (fun i => σ.1 t (oo + i)) (fun i => σ.1 3 (i * 6 + 1)) 6, σ)
  | 0, b, n + 1, hb, _ => by
    have : b = 6 := by omega
    subst this
    show f_X1_weightOf_4_B (f_X1_weightOf_4 n) _ _ _ _ _ _ = _
    unfold f_X1_weightOf_4_B
    rw [if_neg (show ¬ nI 6 < (6 : Int32) from q_nlt 6)]
  | m + 1, b, n + 1, hb, hn => by
    show f_X1_weightOf_4_B (f_X1_weightOf_4 n) _ _ _ _ _ _ = _
    unfold f_X1_weightOf_4_B
    have c1 := q_lt6 (show b < 6 by omega)
    have i1 : pp_ix (nI b) nn := q_ix (by omega) hn2
    have i2 : pp_ix (nI b) 6 := q_ix (by omega) (by omega)
    have j1 : (nI b).toNatClampNeg = b := q_cl (by omega)
    simp only [if_pos c1, if_pos i1, if_pos i2, j1, nI_1]
    exact k_wOf t oo nn (by assumption) hn2 m (b + 1) n (by omega) (by omega)
theorem k_weightOf (t oo nn : Nat) (hn : 6 ≤ nn) (hn2 : nn < 2 ^ 31) : f_X1_weightOf σ t oo nn = some (wS (fun i => σ.1 t (oo + i)) (fun i => σ.1 3 (i * 6 + 1)) 6, σ) := k_wOf t oo nn hn hn2 6 0 100000 rfl (by omega)
theorem m_pW : ∀ (m b n : Nat), b + m = 6 → m < n → f_X9_packWeight_4 n μ (wS (μ.1 54) (μ.1 42) b) (nI b) = some (wS (μ.1 54) (μ.1 42) 6, μ)
  | 0, b, n + 1, hb, _ => by
    have : b = 6 := by omega
    subst this
    show f_X9_packWeight_4_B (f_X9_packWeight_4 n) _ _ _ = _
    unfold f_X9_packWeight_4_B
    rw [if_neg (show ¬ nI 6 < (6 : Int32) from q_nlt 6)]
  | m + 1, b, n + 1, hb, hn => by
    show f_X9_packWeight_4_B (f_X9_packWeight_4 n) _ _ _ = _
    unfold f_X9_packWeight_4_B
    have c1 := q_lt6 (show b < 6 by omega)
    have i2 : pp_ix (nI b) 6 := q_ix (by omega) (by omega)
    have j1 : (nI b).toNatClampNeg = b := q_cl (by omega)
    simp only [if_pos c1, if_pos i2, j1, nI_1]
    exact m_pW m (b + 1) n (by omega) (by omega)
theorem m_packWeight (μ : pp_M) : f_X9_packWeight μ = some (wS (μ.1 54) (μ.1 42) 6, μ) := m_pW 6 0 100000 rfl (by omega)
theorem pack_same (h : Base σ μ) {k : Nat} (hk : k < 4) : ∀ (m b n n' : Nat), b + m = 6 → m < n → m < n' → (f_X8_pack_65 n σ (k * 40) (nI b) = f_X8_pack_93 100000 σ (k * 40) 0 ∧ f_X9_pack_44 n' μ (nI k) (nI b) = f_X9_pack_80 100000 μ (nI k) 0 ∧ ∀ i, b ≤ i → i < 6 → bd (μ.1 69 (k * 40 + i)) 0 4) ∨ (f_X8_pack_65 n σ (k * 40) (nI b) = some (-3, σ) ∧ f_X9_pack_44 n' μ (nI k) (nI b) = some (-3, μ))
  | 0, b, n + 1, n' + 1, hb, _, _ => by
    have : b = 6 := by omega
    subst this
    left
    refine ⟨?_, ?_, fun i h1 h2 => by omega⟩
    · show f_X8_pack_65_B (f_X8_pack_65 n) _ _ _ = _
      unfold f_X8_pack_65_B
      rw [if_neg (show ¬ nI 6 < (6 : Int32) from q_nlt 6)]
    · show f_X9_pack_44_B (f_X9_pack_44 n') _ _ _ = _
      unfold f_X9_pack_44_B
      rw [if_neg (show ¬ nI 6 < (6 : Int32) from q_nlt 6)]
  | m + 1, b, n + 1, n' + 1, hb, hn, hn' => by
    have e1 : f_X8_pack_65 (n + 1) σ (k * 40) (nI b) = f_X8_pack_65_B (f_X8_pack_65 n) σ (k * 40) (nI b) := rfl
    have e2 : f_X9_pack_44 (n' + 1) μ (nI k) (nI b) = f_X9_pack_44_B (f_X9_pack_44 n') μ (nI k) (nI b) := rfl
    rw [e1, e2]
    unfold f_X8_pack_65_B f_X9_pack_44_B
    have c1 := q_lt6 (show b < 6 by omega)
    have i2 := q_40 hk (show b < 40 by omega)
    have i3 : pp_ix (nI b) 40 := q_ix (by omega) (by omega)
    have j3 : (nI b).toNatClampNeg = b := q_cl (by omega)
    have e18 : σ.1 18 (k * 40 + b) = μ.1 69 (k * 40 + b) := h.2.2.2.2.2.2.2.1 _ (by omega)
    simp only [if_pos c1, if_pos i2.1, i2.2, k_within, m_in, if_pos i3, j3, e18, Option.bind_some]
    by_cases c2 : wi (μ.1 69 (k * 40 + b)) 0 4 = 0
    · rw [if_pos c2, if_pos c2]; exact Or.inr ⟨rfl, rfl⟩
    rw [if_neg c2, if_neg c2, nI_1]
    rcases pack_same h hk m (b + 1) n n' (by omega) (by omega) (by omega) with ⟨g1, g2, g3⟩ | g
    · refine Or.inl ⟨g1, g2, fun i h1 h2 => ?_⟩
      by_cases e : i = b
      · rw [e]; exact wi_0 c2
      · exact g3 i (by omega) h2
    · exact Or.inr g
theorem k_pack93 {k : Nat} (hk : k < 4) (w : Nat → Int32) : ∀ (m b n : Nat), b + m = 6 → m < n → f_X8_pack_93 n (ppF σ 35 (cpF w (fun i => σ.1 18 (k * 40 + i)) b)) (k * 40) (nI b) = (f_X1_weightOf (ppF σ 35 (cpF w (fun i => σ.1 18 (k * 40 + i)) 6)) 35 0 6).bind fun x => some (x.1, x.2)
  | 0, b, n + 1, hb, _ => by
    have : b = 6 := by omega
    subst this
    show f_X8_pack_93_B (f_X8_pack_93 n) _ _ _ = _
    unfold f_X8_pack_93_B
    rw [if_neg (show ¬ nI 6 < (6 : Int32) from q_nlt 6)]
  | m + 1, b, n + 1, hb, hn => by
    show f_X8_pack_93_B (f_X8_pack_93 n) _ _ _ = _
    unfold f_X8_pack_93_B
    have c1 := q_lt6 (show b < 6 by omega)
    have i3 : pp_ix (nI b) 40 := q_ix (by omega) (by omega)
    have i4 : pp_ix (nI b) 6 := q_ix (by omega) (by omega)
    have j3 : (nI b).toNatClampNeg = b := q_cl (by omega)
    have e18 : ∀ w, (ppF σ 35 w).1 18 (k * 40 + b) = σ.1 18 (k * 40 + b) := fun w => pF_ot (by omega)
    simp only [if_pos c1, if_pos i3, if_pos i4, j3, e18, pF_S, nI_1]
    rw [show (fun j => if j = b then σ.1 18 (k * 40 + b) else cpF w (fun i => σ.1 18 (k * 40 + i)) b j) = cpF w (fun i => σ.1 18 (k * 40 + i)) (b + 1) from cpF_S w (fun i => σ.1 18 (k * 40 + i)) b]
    exact k_pack93 hk w m (b + 1) n (by omega) (by omega)
theorem m_pack80 {k : Nat} (hk : k < 4) (w : Nat → Int32) : ∀ (m b n : Nat), b + m = 6 → m < n → f_X9_pack_80 n (ppF μ 54 (cpF w (fun i => μ.1 69 (k * 40 + i)) b)) (nI k) (nI b) = (f_X9_packWeight (ppF μ 54 (cpF w (fun i => μ.1 69 (k * 40 + i)) 6))).bind fun x => some (x.1, x.2)
  | 0, b, n + 1, hb, _ => by
    have : b = 6 := by omega
    subst this
    show f_X9_pack_80_B (f_X9_pack_80 n) _ _ _ = _
    unfold f_X9_pack_80_B
    rw [if_neg (show ¬ nI 6 < (6 : Int32) from q_nlt 6)]
  | m + 1, b, n + 1, hb, hn => by
    show f_X9_pack_80_B (f_X9_pack_80 n) _ _ _ = _
    unfold f_X9_pack_80_B
    have c1 := q_lt6 (show b < 6 by omega)
    have i2 := q_40 hk (show b < 40 by omega)
    have i4 : pp_ix (nI b) 6 := q_ix (by omega) (by omega)
    have j3 : (nI b).toNatClampNeg = b := q_cl (by omega)
    have e69 : ∀ w, (ppF μ 54 w).1 69 (k * 40 + b) = μ.1 69 (k * 40 + b) := fun w => pF_ot (by omega)
    simp only [if_pos c1, if_pos i2.1, i2.2, if_pos i4, j3, e69, pF_S, nI_1]
    rw [show (fun j => if j = b then μ.1 69 (k * 40 + b) else cpF w (fun i => μ.1 69 (k * 40 + i)) b j) = cpF w (fun i => μ.1 69 (k * 40 + i)) (b + 1) from cpF_S w (fun i => μ.1 69 (k * 40 + i)) b]
    exact m_pack80 hk w m (b + 1) n (by omega) (by omega)
theorem base_pack (h : Base σ μ) (w w' : Nat → Int32) (hw : ∀ i, i < 6 → w i = w' i) : Base (ppF σ 35 w) (ppF μ 54 w') := by
  have k : ∀ t i, ¬ t = 35 → (ppF σ 35 w).1 t i = σ.1 t i := fun t i q => pF_ot q
  have m : ∀ t i, ¬ t = 54 → (ppF μ 54 w').1 t i = μ.1 t i := fun t i q => pF_ot q
  obtain ⟨b1, b2, b3, b4, b5, ⟨b6, b6'⟩, b7, b8, b9, ⟨b10, b10'⟩, b11, b12, b12', b12''⟩ := h
  refine ⟨?_, ?_, ?_, ?_, ?_, ⟨?_, ?_⟩, ?_, ?_, ?_, ⟨?_, ?_⟩, ?_, ?_, ?_, ?_⟩
  · intro t ht w hw; rw [k 3 (t * 6 + w) (by omega), m (41 + w) (t) (by omega)]; exact b1 t ht w hw
  · intro t ht l hl; rw [k 3 (t * 6 + (3 + l)) (by omega), m (44) (3 * t + l) (by omega)]; exact b2 t ht l hl
  · intro i hi; rw [k 6 (i) (by omega), m (45) (i) (by omega)]; exact b3 i hi
  · intro i hi; rw [k 11 (i) (by omega), m (47) (i) (by omega)]; exact b4 i hi
  · intro t ht; rw [k 12 (t) (by omega), m (48) (t) (by omega)]; exact b5 t ht
  · rw [k 13 (5) (by omega), m (40) (11) (by omega)]; exact b6
  · intro i hi; rw [k 14 (i) (by omega), m (49) (i) (by omega)]; exact b6' i hi
  · intro s hs; rw [k 19 (s) (by omega), k 20 (s) (by omega), m (66) (s) (by omega), m (67) (s) (by omega), m (68) (s) (by omega)]; exact b7 s hs
  · intro i hi; rw [k 18 (i) (by omega), m (69) (i) (by omega)]; exact b8 i hi
  · rw [k 16 (3) (by omega), m (40) (47) (by omega)]; exact b9
  · rw [k 0 (10) (by omega), m (40) (19) (by omega)]; exact b10
  · intro i hi; rw [k 34 (i) (by omega), m (53) (i) (by omega)]; exact b10' i hi
  · intro t ht; rw [pF_rd, pF_rd]; exact hw t ht
  · rw [k 0 (11) (by omega), m (40) (6) (by omega)]; exact b12
  · rw [k 0 (12) (by omega), m (40) (7) (by omega)]; exact b12'
  · rw [k 0 (13) (by omega), m (40) (8) (by omega)]; exact b12''
theorem inv_pack (h : Inv μ) (w' : Nat → Int32) (hw : ∀ i, i < 6 → bd (w' i) 0 4) : Inv (ppF μ 54 w') := by
  have m : ∀ t i, ¬ t = 54 → (ppF μ 54 w').1 t i = μ.1 t i := fun t i q => pF_ot q
  obtain ⟨i1, i2, ⟨i3, i3'⟩, i4, i5, i6, i7, ⟨i8, i8'⟩, i9, i10, i10', i10''⟩ := h
  refine ⟨?_, ?_, ⟨?_, ?_⟩, ?_, ?_, ?_, ?_, ⟨?_, ?_⟩, ?_, ?_, ?_, ?_⟩
  · intro t ht; rw [m (41) (t) (by omega), m (42) (t) (by omega), m (43) (t) (by omega)]; exact i1 t ht
  · intro i hi; rw [m (44) (i) (by omega)]; exact i2 i hi
  · intro i hi; rw [m (45) (i) (by omega)]; exact i3 i hi
  · intro a b ha hb; rw [m (45) (8 * a + b) (by omega), m (45) (8 * b + a) (by omega)]; exact i3' a b ha hb
  · intro i hi; rw [m (47) (i) (by omega)]; exact i4 i hi
  · intro t ht; rw [m (48) (t) (by omega)]; exact i5 t ht
  · rw [m (40) (11) (by omega)]; exact i6
  · intro s hs; rw [m (67) (s) (by omega), m (68) (s) (by omega)]; exact i7 s hs
  · rw [m (40) (19) (by omega)]; exact i8
  · intro i hi; rw [m 40 19 (by omega)] at hi; rw [m (53) (i) (by omega)]; exact i8' i hi
  · intro t ht; rw [pF_rd]; exact hw t ht
  · rw [m (40) (6) (by omega)]; exact i10
  · rw [m (40) (7) (by omega)]; exact i10'
  · rw [m (40) (8) (by omega)]; exact i10''
theorem h_pack (hCa : CaOk Ca) (a1 : Int32) (h : Rel Ca σ μ) : ∃ (r : Int32) (σ' μ' : pp_M), f_X8_pack σ a1 = some (r, σ') ∧ f_X9_pack μ a1 = some (r, μ') ∧ Rel Ca σ' μ' := by
  unfold f_X8_pack f_X9_pack
  simp only [k_isSheet, m_isSheet, Option.bind_some]
  by_cases c1 : wi a1 0 3 = 0
  · simp only [if_pos c1]; exact ⟨_, _, _, rfl, rfl, h⟩
  simp only [if_neg c1]
  obtain ⟨k, hk, rfl⟩ := wi_of (n := 3) rfl c1
  have hk4 : k < 4 := by omega
  have i1 : pp_ix (nI k) 4 := q_ix (by omega) (by omega)
  have j1 : (nI k).toNatClampNeg = k := q_cl (by omega)
  rcases sh_cases h hk4 with ⟨g1, g2, g3⟩ | ⟨g1, g2⟩
  · have n1 : ¬ μ.1 66 k = 0 := by rw [g1]; decide
    simp only [k_isLost hk4, if_neg g3, Option.bind_some, if_pos i1, j1, if_neg n1, ite_true, f_X7_found, f_X9_meets]
    simp only [g2]
    by_cases c2 : μ.1 68 k < 6
    · simp only [if_pos c2]
      exact ⟨_, _, _, rfl, rfl, rel_found hCa h 2⟩
    · simp only [if_neg c2]
      rcases pack_same h.1 hk4 6 0 100000 100000 rfl (by omega) (by omega) with ⟨e1, e2, e3⟩ | ⟨e1, e2⟩
      · rw [show f_X8_pack_65 100000 σ (k * 40) 0 = _ from e1, show f_X9_pack_44 100000 μ (nI k) 0 = _ from e2]
        have p1 := k_pack93 (σ := σ) hk4 (σ.1 35) 6 0 100000 rfl (by omega)
        have p2 := m_pack80 (μ := μ) hk4 (μ.1 54) 6 0 100000 rfl (by omega)
        rw [cpF_0, pF_id] at p1 p2
        rw [show f_X8_pack_93 100000 σ (k * 40) 0 = _ from p1, show f_X9_pack_80 100000 μ (nI k) 0 = _ from p2, m_packWeight, k_weightOf 35 0 6 (by omega) (by omega)]
        have hw : ∀ i, i < 6 → cpF (σ.1 35) (fun i => σ.1 18 (k * 40 + i)) 6 i = cpF (μ.1 54) (fun i => μ.1 69 (k * 40 + i)) 6 i := fun i hi => by
          unfold cpF
          rw [if_pos hi, if_pos hi]
          exact h.1.2.2.2.2.2.2.2.1 _ (by omega)
        refine ⟨_, _, _, rfl, ?_, rel_keep hCa h (base_pack h.1 _ _ hw) (inv_pack h.2.1 _ (fun i hi => ?_)) (pF_fr (fun i => by unfold nK; omega)) (pF_fr (fun i => by unfold nM; omega))⟩
        · simp only [Option.bind_some]
          rw [wS_cong 6 (fun i hi => ?_)]
          refine ⟨?_, ?_⟩
          · rw [show 0 + i = i by omega, pF_rd, pF_rd]; exact (hw i hi).symm
          · rw [pF_ot (t := 54) (a := 42) (by omega), pF_ot (t := 35) (a := 3) (by omega)]; exact (h.1.1 i hi 1 (by omega)).symm
        · unfold cpF
          rw [if_pos hi]
          exact e3 i (by omega) hi
      · rw [show f_X8_pack_65 100000 σ (k * 40) 0 = _ from e1, show f_X9_pack_44 100000 μ (nI k) 0 = _ from e2]
        exact ⟨_, _, _, rfl, rfl, h⟩
  · simp only [k_isLost hk4, if_pos g2, Option.bind_some, if_pos i1, j1, if_pos g1, f_X7_found, f_X9_meets]
    rw [if_neg (by decide)]
    exact ⟨_, _, _, rfl, rfl, rel_found hCa h 1⟩
end PACK
