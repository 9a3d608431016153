/-! copy -/
section COPY
variable {Ca : pp_M → pp_M → Prop} {σ μ : pp_M}
theorem q_add64 (a b : Int32) : (a.toInt64 + b.toInt64).toInt = a.toInt + b.toInt := by
  have ha := q_rng a
  have hb := q_rng b
  rw [Int64.toInt_add, Int32.toInt_toInt64, Int32.toInt_toInt64]
  exact Int.bmod_eq_of_le (by omega) (by omega)
theorem q_neg (a : Int32) : a < 0 ↔ a.toInt < 0 := q_lt32
theorem k_hasItems {k s : Nat} (hk : k < 4) (hs : s ≤ 40) (h20 : σ.1 20 k = nI s) (a2 a3 : Int32) : f_X7_hasItems σ (nI k) a2 a3 = some (if 0 ≤ a2.toInt ∧ 0 ≤ a3.toInt ∧ a2.toInt + a3.toInt ≤ s then 1 else 0, σ) := by
  unfold f_X7_hasItems
  have i1 : pp_ix (nI k) 4 := q_ix (by omega) (by omega)
  have j1 : (nI k).toNatClampNeg = k := q_cl (by omega)
  simp only [if_pos i1, j1, h20]
  by_cases c1 : a2 < 0
  · rw [if_pos c1, if_neg (by rw [q_neg] at c1; omega)]
  by_cases c2 : a3 < 0
  · rw [if_neg c1, if_pos c2, if_neg (by rw [q_neg] at c2; omega)]
  rw [if_neg c1, if_neg c2]
  rw [q_neg] at c1 c2
  have e1 : (nI s).toInt = s := nI_toInt (by omega)
  by_cases c3 : nI s < a2
  · rw [if_pos c3, if_neg (by rw [q_lt32, e1] at c3; omega)]
  rw [if_neg c3]
  rw [q_lt32, e1] at c3
  obtain ⟨p, hp, rfl⟩ := q_of (x := a2) (n := s) (by omega) (by omega)
  have e2 : (nI p).toInt = p := nI_toInt (by omega)
  rw [q_sub hp, e2]
  by_cases c4 : nI (s - p) < a3
  · rw [if_pos c4, if_neg (by rw [q_lt32, nI_toInt (by omega)] at c4; omega)]
  · rw [if_neg c4, if_pos (by rw [q_lt32, nI_toInt (by omega)] at c4; omega)]
theorem q_40b {k p b : Nat} (hk : k < 4) (hb : p + b < 40) : pp_ix ((40 : Int32) * nI k + nI p + nI b) 160 ∧ ((40 : Int32) * nI k + nI p + nI b).toNatClampNeg = k * 40 + p + b := by
  have e : (40 : Int32) * nI k + nI p + nI b = nI (k * 40 + p + b) := by
    rw [show (40 : Int32) = nI 40 from rfl, pk_mul, nI_add, nI_add, Nat.mul_comm]
  rw [e]
  exact ⟨q_ix (by omega) (by omega), q_cl (by omega)⟩
theorem m_copy157 {k q s : Nat} (hk : k < 4) (hq : q + s ≤ 40) (w : Nat → Int32) : ∀ (m b n : Nat), b + m = s → m < n → f_X9_copy_157 n (ppF μ 69 (rgF w (k * 40 + q) (μ.1 70) b)) (nI k) (nI q) (nI s) (nI b) = some (1, ppF μ 69 (rgF w (k * 40 + q) (μ.1 70) s))
  | 0, b, n + 1, hb, _ => by
    have : b = s := by omega
    subst this
    show f_X9_copy_157_B (f_X9_copy_157 n) _ _ _ _ _ = _
    unfold f_X9_copy_157_B
    rw [if_neg (q_nlt b)]
  | m + 1, b, n + 1, hb, hn => by
    show f_X9_copy_157_B (f_X9_copy_157 n) _ _ _ _ _ = _
    unfold f_X9_copy_157_B
    have c1 : nI b < nI s := nI_lt (by omega) (by omega)
    have i2 := q_40b hk (show q + b < 40 by omega)
    have i3 : pp_ix (nI b) 40 := q_ix (by omega) (by omega)
    have j3 : (nI b).toNatClampNeg = b := q_cl (by omega)
    have e70 : ∀ w, (ppF μ 69 w).1 70 b = μ.1 70 b := fun w => pF_ot (by omega)
    simp only [if_pos c1, if_pos i2.1, i2.2, if_pos i3, j3, e70, pF_S, nI_1]
    rw [show (fun j => if j = k * 40 + q + b then μ.1 70 b else rgF w (k * 40 + q) (μ.1 70) b j) = _ from rgF_S w (k * 40 + q) (μ.1 70) b]
    exact m_copy157 hk hq w m (b + 1) n (by omega) (by omega)
theorem m_copy120 {k p s : Nat} (hk : k < 4) (hp : p + s ≤ 40) (a3 a4 : Int32) (w : Nat → Int32) : ∀ (m b n : Nat), b + m = s → m < n → f_X9_copy_120 n (ppF μ 70 (cpF w (fun i => μ.1 69 (k * 40 + p + i)) b)) (nI k) (nI p) a3 a4 (nI s) (nI b) = f_X9_copy_157 100000 (ppF μ 70 (cpF w (fun i => μ.1 69 (k * 40 + p + i)) s)) a3 a4 (nI s) 0
  | 0, b, n + 1, hb, _ => by
    have : b = s := by omega
    subst this
    show f_X9_copy_120_B (f_X9_copy_120 n) _ _ _ _ _ _ _ = _
    unfold f_X9_copy_120_B
    rw [if_neg (q_nlt b)]
  | m + 1, b, n + 1, hb, hn => by
    show f_X9_copy_120_B (f_X9_copy_120 n) _ _ _ _ _ _ _ = _
    unfold f_X9_copy_120_B
    have c1 : nI b < nI s := nI_lt (by omega) (by omega)
    have i2 := q_40b hk (show p + b < 40 by omega)
    have i3 : pp_ix (nI b) 40 := q_ix (by omega) (by omega)
    have j3 : (nI b).toNatClampNeg = b := q_cl (by omega)
    have e69 : ∀ w, (ppF μ 70 w).1 69 (k * 40 + p + b) = μ.1 69 (k * 40 + p + b) := fun w => pF_ot (by omega)
    simp only [if_pos c1, if_pos i2.1, i2.2, if_pos i3, j3, e69, pF_S, nI_1]
    rw [show (fun j => if j = b then μ.1 69 (k * 40 + p + b) else cpF w (fun i => μ.1 69 (k * 40 + p + i)) b j) = _ from cpF_S w (fun i => μ.1 69 (k * 40 + p + i)) b]
    exact m_copy120 hk hp a3 a4 w m (b + 1) n (by omega) (by omega)
theorem k_ppC (k1 k3 p q n : Nat) : ppC σ 18 (k1 * 40) 18 (k3 * 40) p q n = ppF σ 18 (rgF (σ.1 18) (k3 * 40 + q) (fun i => σ.1 18 (k1 * 40 + p + i)) n) := by
  unfold ppC ppF rgF
  refine Prod.ext (funext fun a => funext fun b => ?_) rfl
  show (if a = 18 ∧ k3 * 40 + q ≤ b ∧ b < k3 * 40 + q + n then σ.1 18 (k1 * 40 + p + (b - (k3 * 40 + q))) else σ.1 a b) = if a = 18 then (if k3 * 40 + q ≤ b ∧ b < k3 * 40 + q + n then σ.1 18 (k1 * 40 + p + (b - (k3 * 40 + q))) else σ.1 18 b) else σ.1 a b
  by_cases h1 : a = 18
  · by_cases h2 : k3 * 40 + q ≤ b ∧ b < k3 * 40 + q + n
    · rw [if_pos ⟨h1, h2⟩, if_pos h1, if_pos h2]
    · rw [if_neg (fun z => h2 z.2), if_pos h1, if_neg h2, h1]
  · rw [if_neg (fun z => h1 z.1), if_neg h1]
theorem base_copy (h : Base σ μ) (w v w' : Nat → Int32) (hw : ∀ i, i < 160 → w i = w' i) : Base (ppF σ 18 w) (ppF (ppF μ 70 v) 69 w') := by
  have k : ∀ t i, ¬ t = 18 → (ppF σ 18 w).1 t i = σ.1 t i := fun t i q => pF_ot q
  have m : ∀ t i, ¬ (t = 69 ∨ t = 70) → (ppF (ppF μ 70 v) 69 w').1 t i = μ.1 t i := fun t i q => by rw [pF_ot (by omega), pF_ot (by omega)]
  obtain ⟨b1, b2, b3, b4, b5, ⟨b6, b6'⟩, b7, b8, b9, ⟨b10, b10'⟩, b11, b12, b12', b12''⟩ := h
  refine ⟨?_, ?_, ?_, ?_, ?_, ⟨?_, ?_⟩, ?_, ?_, ?_, ⟨?_, ?_⟩, ?_, ?_, ?_, ?_⟩
  · intro t ht w hw; rw [k 3 (t * 6 + w) (by omega), m (41 + w) (t) (by omega)]; exact b1 t ht w hw
  · intro t ht l hl; rw [k 3 (t * 6 + (3 + l)) (by omega), m (44) (3 * t + l) (by omega)]; exact b2 t ht l hl
  · intro i hi; rw [k 6 (i) (by omega), m (45) (i) (by omega)]; exact b3 i hi
  · intro i hi; rw [k 11 (i) (by omega), m (47) (i) (by omega)]; exact b4 i hi
  · intro t ht; rw [k 12 (t) (by omega), m (48) (t) (by omega)]; exact b5 t ht
  · rw [k 13 (5) (by omega), m (40) (11) (by omega)]; exact b6
  · intro i hi; rw [k 14 (i) (by omega), m (49) (i) (by omega)]; exact b6' i hi
  · intro s hs; rw [k 19 (s) (by omega), k 20 (s) (by omega), m (66) (s) (by omega), m (67) (s) (by omega), m (68) (s) (by omega)]; exact b7 s hs
  · intro i hi; rw [pF_rd, pF_rd]; exact hw i hi
  · rw [k 16 (3) (by omega), m (40) (47) (by omega)]; exact b9
  · rw [k 0 (10) (by omega), m (40) (19) (by omega)]; exact b10
  · intro i hi; rw [k 34 (i) (by omega), m (53) (i) (by omega)]; exact b10' i hi
  · intro t ht; rw [k 35 (t) (by omega), m (54) (t) (by omega)]; exact b11 t ht
  · rw [k 0 (11) (by omega), m (40) (6) (by omega)]; exact b12
  · rw [k 0 (12) (by omega), m (40) (7) (by omega)]; exact b12'
  · rw [k 0 (13) (by omega), m (40) (8) (by omega)]; exact b12''
theorem inv_copy (h : Inv μ) (v w' : Nat → Int32) : Inv (ppF (ppF μ 70 v) 69 w') := by
  have m : ∀ t i, ¬ (t = 69 ∨ t = 70) → (ppF (ppF μ 70 v) 69 w').1 t i = μ.1 t i := fun t i q => by rw [pF_ot (by omega), pF_ot (by omega)]
  obtain ⟨i1, i2, ⟨i3, i3'⟩, i4, i5, i6, i7, ⟨i8, i8'⟩, i9, i10, i10', i10''⟩ := h
  refine ⟨?_, ?_, ⟨?_, ?_⟩, ?_, ?_, ?_, ?_, ⟨?_, ?_⟩, ?_, ?_, ?_, ?_⟩
  · intro t ht; rw [m (41) (t) (by omega), m (42) (t) (by omega), m (43) (t) (by omega)]; exact i1 t ht
  · intro i hi; rw [m (44) (i) (by omega)]; exact i2 i hi
  · intro i hi; rw [m (45) (i) (by omega)]; exact i3 i hi
  · intro a b ha hb; rw [m (45) (8 * a + b) (by omega), m (45) (8 * b + a) (by omega)]; exact i3' a b ha hb
  · intro i hi; rw [m (47) (i) (by omega)]; exact i4 i hi
  · intro t ht; rw [m (48) (t) (by omega)]; exact i5 t ht
  · rw [m (40) (11) (by omega)]; exact i6
  · intro s hs; rw [m (67) (s) (by omega), m (68) (s) (by omega)]; exact i7 s hs
  · rw [m (40) (19) (by omega)]; exact i8
  · intro i hi; rw [m 40 19 (by omega)] at hi; rw [m (53) (i) (by omega)]; exact i8' i hi
  · intro t ht; rw [m (54) (t) (by omega)]; exact i9 t ht
  · rw [m (40) (6) (by omega)]; exact i10
  · rw [m (40) (7) (by omega)]; exact i10'
  · rw [m (40) (8) (by omega)]; exact i10''
theorem h_copy (hCa : CaOk Ca) (a1 a2 a3 a4 a5 : Int32) (h : Rel Ca σ μ) : ∃ (r : Int32) (σ' μ' : pp_M), f_X8_copy σ a1 a2 a3 a4 a5 = some (r, σ') ∧ f_X9_copy μ a1 a2 a3 a4 a5 = some (r, μ') ∧ Rel Ca σ' μ' := by
  unfold f_X8_copy f_X9_copy f_X8_copy_107 f_X8_copy_39 f_X9_copy_111 f_X9_copy_35
  simp only [k_isSheet, m_isSheet, Option.bind_some, f_X7_found, f_X9_meets]
  by_cases c1 : wi a1 0 3 = 0
  · simp only [if_pos c1]; exact ⟨_, _, _, rfl, rfl, h⟩
  by_cases c2 : wi a3 0 3 = 0
  · simp only [if_neg c1, if_pos c2]; exact ⟨_, _, _, rfl, rfl, h⟩
  simp only [if_neg c1, if_neg c2]
  obtain ⟨k, hk, rfl⟩ := wi_of (n := 3) rfl c1
  obtain ⟨l, hl, rfl⟩ := wi_of (n := 3) rfl c2
  have hk4 : k < 4 := by omega
  have hl4 : l < 4 := by omega
  have i1 : pp_ix (nI k) 4 := q_ix (by omega) (by omega)
  have j1 : (nI k).toNatClampNeg = k := q_cl (by omega)
  have i2 : pp_ix (nI l) 4 := q_ix (by omega) (by omega)
  have j2 : (nI l).toNatClampNeg = l := q_cl (by omega)
  have z1 : ¬ (1 : Int32) = 0 := by decide
  rcases sh_cases h hk4 with ⟨g1, g2, g3⟩ | ⟨g1, g2⟩
  · have n1 : ¬ μ.1 66 k = 0 := by rw [g1]; decide
    rcases sh_cases h hl4 with ⟨f1, f2, f3⟩ | ⟨f1, f2⟩
    · have n2 : ¬ μ.1 66 l = 0 := by rw [f1]; decide
      simp only [k_isLost hk4, k_isLost hl4, if_neg g3, if_neg f3, Option.bind_some, if_pos i1, j1, if_pos i2, j2, if_neg n1, if_neg n2, ite_true]
      rw [(h.1.2.2.2.2.2.2.1 k hk4).1, (h.1.2.2.2.2.2.2.1 l hl4).1]
      by_cases c3 : μ.1 67 k = μ.1 67 l
      · simp only [if_pos c3]
        have hb1 := (h.2.1.2.2.2.2.2.2.1 k hk4).1
        have hb2 := (h.2.1.2.2.2.2.2.2.1 l hl4).1
        obtain ⟨s, hs, es⟩ := q_of (x := μ.1 68 k) (n := 40) hb1.1 hb1.2
        obtain ⟨t, ht, et⟩ := q_of (x := μ.1 68 l) (n := 40) hb2.1 hb2.2
        simp only [k_hasItems hk4 hs (g2.trans es), k_hasItems hl4 ht (f2.trans et), Option.bind_some, es, et]
        have ls : ∀ v : Nat, v ≤ 40 → ((nI v).toInt64 < a2.toInt64 + a5.toInt64 ↔ (v : Int) < a2.toInt + a5.toInt) := fun v hv => by
          rw [q_lt64, q_add64, Int32.toInt_toInt64, nI_toInt (by omega)]
        have ls2 : ∀ v : Nat, v ≤ 40 → ((nI v).toInt64 < a4.toInt64 + a5.toInt64 ↔ (v : Int) < a4.toInt + a5.toInt) := fun v hv => by
          rw [q_lt64, q_add64, Int32.toInt_toInt64, nI_toInt (by omega)]
        simp only [ls s hs, ls2 t ht, q_neg]
        have bad := rel_found hCa h 2
        by_cases d1 : a2.toInt < 0
        · simp only [if_pos d1, if_neg (show ¬ (0 ≤ a2.toInt ∧ 0 ≤ a5.toInt ∧ a2.toInt + a5.toInt ≤ s) by omega), ite_true]
          exact ⟨_, _, _, rfl, rfl, bad⟩
        by_cases d3 : a5.toInt < 0
        · simp only [if_neg d1, if_pos d3, if_neg (show ¬ (0 ≤ a2.toInt ∧ 0 ≤ a5.toInt ∧ a2.toInt + a5.toInt ≤ s) by omega), ite_true, ite_self]
          exact ⟨_, _, _, rfl, rfl, bad⟩
        by_cases d4 : (s : Int) < a2.toInt + a5.toInt
        · simp only [if_neg d1, if_neg d3, if_pos d4, if_neg (show ¬ (0 ≤ a2.toInt ∧ 0 ≤ a5.toInt ∧ a2.toInt + a5.toInt ≤ s) by omega), ite_true, ite_self]
          exact ⟨_, _, _, rfl, rfl, bad⟩
        simp only [if_neg d1, if_neg d3, if_neg d4, if_pos (show 0 ≤ a2.toInt ∧ 0 ≤ a5.toInt ∧ a2.toInt + a5.toInt ≤ s by omega), if_neg z1]
        by_cases d2 : a4.toInt < 0
        · simp only [if_pos d2, if_neg (show ¬ (0 ≤ a4.toInt ∧ 0 ≤ a5.toInt ∧ a4.toInt + a5.toInt ≤ t) by omega), ite_true]
          exact ⟨_, _, _, rfl, rfl, bad⟩
        by_cases d5 : (t : Int) < a4.toInt + a5.toInt
        · simp only [if_neg d2, if_pos d5, if_neg (show ¬ (0 ≤ a4.toInt ∧ 0 ≤ a5.toInt ∧ a4.toInt + a5.toInt ≤ t) by omega), ite_true]
          exact ⟨_, _, _, rfl, rfl, bad⟩
        simp only [if_neg d2, if_neg d5, if_pos (show 0 ≤ a4.toInt ∧ 0 ≤ a5.toInt ∧ a4.toInt + a5.toInt ≤ t by omega), if_neg z1]
        obtain ⟨p, hp, rfl⟩ := q_of (x := a2) (n := 40) (by omega) (by omega)
        obtain ⟨q, hq, rfl⟩ := q_of (x := a4) (n := 40) (by omega) (by omega)
        obtain ⟨r, hr, rfl⟩ := q_of (x := a5) (n := 40) (by omega) (by omega)
        rw [nI_toInt (by omega), nI_toInt (by omega)] at d4 d5
        have y1 : (nI p).toNatClampNeg = p := q_cl (by omega)
        have y2 : (nI q).toNatClampNeg = q := q_cl (by omega)
        have y3 : (nI r).toNatClampNeg = r := q_cl (by omega)
        have nn : ∀ v : Nat, v ≤ 40 → ¬ nI v < 0 := fun v hv z => by rw [q_neg, nI_toInt (by omega)] at z; omega
        have ok : pp_cpOk (nI p) (nI q) (nI r) 40 40 := ⟨nn p hp, nn q hq, nn r hr, by rw [y1, y3]; omega, by rw [y2, y3]; omega⟩
        rw [if_pos ok, y1, y2, y3, k_ppC]
        have p1 := m_copy120 (μ := μ) hk4 (p := p) (s := r) (by omega) (nI l) (nI q) (μ.1 70) r 0 100000 (by omega) (by omega)
        rw [cpF_0, pF_id] at p1
        have p2 := m_copy157 (μ := ppF μ 70 (cpF (μ.1 70) (fun i => μ.1 69 (k * 40 + p + i)) r)) hl4 (q := q) (s := r) (by omega) ((ppF μ 70 (cpF (μ.1 70) (fun i => μ.1 69 (k * 40 + p + i)) r)).1 69) r 0 100000 (by omega) (by omega)
        rw [rgF_0, pF_id] at p2
        rw [show f_X9_copy_120 100000 μ (nI k) (nI p) (nI l) (nI q) (nI r) 0 = _ from p1, show f_X9_copy_157 100000 (ppF μ 70 (cpF (μ.1 70) (fun i => μ.1 69 (k * 40 + p + i)) r)) (nI l) (nI q) (nI r) 0 = _ from p2]
        refine ⟨_, _, _, rfl, rfl, rel_keep hCa h (base_copy h.1 _ _ _ (fun i hi => ?_)) (inv_copy h.2.1 _ _) (pF_fr (fun i => by unfold nK; omega)) (fr_tr (pF_fr (fun i => by unfold nM; omega)) (pF_fr (fun i => by unfold nM; omega)))⟩
        have hb8 : ∀ i, i < 160 → σ.1 18 i = μ.1 69 i := h.1.2.2.2.2.2.2.2.1
        unfold rgF
        by_cases c : l * 40 + q ≤ i ∧ i < l * 40 + q + r
        · rw [if_pos c, if_pos c, pF_rd]
          unfold cpF
          rw [if_pos (by omega)]
          exact hb8 _ (by omega)
        · rw [if_neg c, if_neg c, pF_ot (t := 70) (a := 69) (by omega)]
          exact hb8 i hi
      · simp only [if_neg c3]
        exact ⟨_, _, _, rfl, rfl, rel_found hCa h 4⟩
    · simp only [k_isLost hk4, k_isLost hl4, if_neg g3, if_pos f2, Option.bind_some, if_pos i1, j1, if_pos i2, j2, if_neg n1, if_pos f1, if_neg z1, ite_true]
      exact ⟨_, _, _, rfl, rfl, rel_found hCa h 1⟩
  · simp only [k_isLost hk4, if_pos g2, Option.bind_some, if_pos i1, j1, if_pos g1, if_neg z1]
    exact ⟨_, _, _, rfl, rfl, rel_found hCa h 1⟩
end COPY
