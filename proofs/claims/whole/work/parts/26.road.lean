/-! the WAYS of the reference; road, way -/
section WAYS2
variable {Ca : pp_M → pp_M → Prop} {σ μ : pp_M}
theorem q_d8 {k : Nat} (hk : k < 64) : nI k / (8 : Int32) = nI (k / 8) := pk_div (d := 8) (by omega) (by omega) (by omega)
theorem q_r8 {k : Nat} (hk : k < 64) : nI k - nI k / (8 : Int32) * (8 : Int32) = nI (k % 8) := pk_rem (d := 8) (by omega) (by omega) (by omega)
theorem m_w66 (k58 : pp_M → Int32 → Option pp_M) (w : Nat → Int32) {o : Nat} (ho : o < 8) : ∀ (m k n : Nat), k + m = 64 → m < n → f_X9_laysWays_66 k58 n (ppF μ 46 (fwR o w k)) (nI o) (nI k) = k58 (ppF μ 46 (fwR o w 64)) (nI (o + 1))
  | 0, k, n + 1, hb, _ => by
    have : k = 64 := by omega
    subst this
    show f_X9_laysWays_66_B k58 (f_X9_laysWays_66 k58 n) _ _ _ = _
    unfold f_X9_laysWays_66_B
    rw [if_neg (show ¬ nI 64 < (64 : Int32) by decide), nI_1]
  | m + 1, k, n + 1, hb, hn => by
    show f_X9_laysWays_66_B k58 (f_X9_laysWays_66 k58 n) _ _ _ = _
    unfold f_X9_laysWays_66_B f_X9_laysWays_127
    have hk : k < 64 := by omega
    have c1 : nI k < (64 : Int32) := nI_lt (b := 64) (by omega) (by omega)
    have e1 : nI k / (8 : Int32) * (8 : Int32) + nI o = nI (k / 8 * 8 + o) := by rw [q_d8 hk, show (8 : Int32) = nI 8 from rfl, pk_mul, nI_add]
    have e2 : (8 : Int32) * nI o + (nI k - nI k / (8 : Int32) * (8 : Int32)) = nI (8 * o + k % 8) := by rw [q_r8 hk, show (8 : Int32) = nI 8 from rfl, pk_mul, nI_add]
    have i1 : pp_ix (nI (k / 8 * 8 + o)) 64 := q_ix (by omega) (by omega)
    have i2 : pp_ix (nI (8 * o + k % 8)) 64 := q_ix (by omega) (by omega)
    have i3 : pp_ix (nI k) 64 := q_ix (by omega) (by omega)
    have j1 : (nI (k / 8 * 8 + o)).toNatClampNeg = k / 8 * 8 + o := q_cl (by omega)
    have j2 : (nI (8 * o + k % 8)).toNatClampNeg = 8 * o + k % 8 := q_cl (by omega)
    have j3 : (nI k).toNatClampNeg = k := q_cl (by omega)
    simp only [e1, e2, if_pos c1, if_pos i1, if_pos i2, if_pos i3, j1, j2, j3, pF_rd, pF_S, nI_1]
    have fin : ∀ x, x = (if fwR o w k (k / 8 * 8 + o) + fwR o w k (8 * o + k % 8) < fwR o w k k then fwR o w k (k / 8 * 8 + o) + fwR o w k (8 * o + k % 8) else fwR o w k k) → f_X9_laysWays_66 k58 n (ppF μ 46 (fun j => if j = k then x else fwR o w k j)) (nI o) (nI (k + 1)) = k58 (ppF μ 46 (fwR o w 64)) (nI (o + 1)) := fun x hx => by
      rw [hx]
      exact m_w66 k58 w ho m (k + 1) n (by omega) (by omega)
    by_cases c2 : fwR o w k (k / 8 * 8 + o) + fwR o w k (8 * o + k % 8) < fwR o w k k
    · rw [if_pos c2]
      exact fin _ (if_pos c2).symm
    · rw [if_neg c2]
      exact fin _ (if_neg c2).symm
theorem m_w58 (w : Nat → Int32) : ∀ (m o n : Nat), o + m = 8 → m < n → f_X9_laysWays_58 n (ppF μ 46 (fwB w o)) (nI o) = some (ppF μ 46 (fwB w 8))
  | 0, o, n + 1, hb, _ => by
    have : o = 8 := by omega
    subst this
    show f_X9_laysWays_58_B (f_X9_laysWays_58 n) _ _ = _
    unfold f_X9_laysWays_58_B
    rw [if_neg (show ¬ nI 8 < (8 : Int32) by decide)]
  | m + 1, o, n + 1, hb, hn => by
    show f_X9_laysWays_58_B (f_X9_laysWays_58 n) _ _ = _
    unfold f_X9_laysWays_58_B
    have c1 : nI o < (8 : Int32) := nI_lt (b := 8) (by omega) (by omega)
    rw [if_pos c1]
    have h1 := m_w66 (μ := μ) (f_X9_laysWays_58 n) (fwB w o) (o := o) (by omega) 64 0 100000 rfl (by omega)
    have e0 : fwR o (fwB w o) 0 = fwB w o := rfl
    rw [e0] at h1
    rw [show (0 : Int32) = nI 0 from rfl, h1]
    exact m_w58 w m (o + 1) n (by omega) (by omega)
theorem m_w2 (w : Nat → Int32) : ∀ (m k n : Nat), k + m = 64 → m < n → f_X9_laysWays_2 n (ppF μ 46 (fwI (μ.1 45) w k)) (nI k) = some (ppF μ 46 (fwB (fwI (μ.1 45) w 64) 8))
  | 0, k, n + 1, hb, _ => by
    have : k = 64 := by omega
    subst this
    show f_X9_laysWays_2_B (f_X9_laysWays_2 n) _ _ = _
    unfold f_X9_laysWays_2_B
    rw [if_neg (show ¬ nI 64 < (64 : Int32) by decide)]
    exact m_w58 (fwI (μ.1 45) w 64) 8 0 100000 rfl (by omega)
  | m + 1, k, n + 1, hb, hn => by
    show f_X9_laysWays_2_B (f_X9_laysWays_2 n) _ _ = _
    unfold f_X9_laysWays_2_B f_X9_laysWays_49
    have hk : k < 64 := by omega
    have c1 : nI k < (64 : Int32) := nI_lt (b := 64) (by omega) (by omega)
    have i3 : pp_ix (nI k) 64 := q_ix (by omega) (by omega)
    have j3 : (nI k).toNatClampNeg = k := q_cl (by omega)
    have e45 : (ppF μ 46 (fwI (μ.1 45) w k)).1 45 k = μ.1 45 k := pF_ot (by omega)
    have fin : ∀ x, x = fw0 (μ.1 45) k → f_X9_laysWays_2 n (ppF μ 46 (fun j => if j = k then x else fwI (μ.1 45) w k j)) (nI (k + 1)) = some (ppF μ 46 (fwB (fwI (μ.1 45) w 64) 8)) := fun x hx => by
      rw [hx, fwI_S]
      exact m_w2 w m (k + 1) n (by omega) (by omega)
    simp only [if_pos c1, if_pos i3, j3, e45, pF_S, nI_1]
    rw [q_r8 hk, q_d8 hk]
    by_cases c2 : nI (k / 8) = nI (k % 8)
    · rw [if_pos c2]
      refine fin _ ?_
      rw [nI_eq (by omega) (by omega)] at c2
      unfold fw0
      rw [if_pos c2]
    · rw [if_neg c2]
      rw [nI_eq (by omega) (by omega)] at c2
      by_cases c3 : 0 < μ.1 45 k
      · rw [if_pos c3]
        refine fin _ ?_
        unfold fw0
        rw [if_neg c2, if_pos c3]
      · rw [if_neg c3]
        refine fin _ ?_
        unfold fw0
        rw [if_neg c2, if_neg c3]
theorem m_laysWays (μ : pp_M) : ∃ w, f_X9_laysWays μ = some (ppF μ 46 w) ∧ ∀ i, i < 64 → w i = fw (μ.1 45) i := by
  refine ⟨fwB (fwI (μ.1 45) (μ.1 46) 64) 8, ?_, fun i hi => fwB_cong (fun j hj => if_pos hj) 8 (by omega) i hi⟩
  have h := m_w2 (μ := μ) (μ.1 46) 64 0 100000 rfl (by omega)
  have e : ppF μ 46 (fwI (μ.1 45) (μ.1 46) 0) = μ := by
    have : fwI (μ.1 45) (μ.1 46) 0 = μ.1 46 := funext fun j => if_neg (by omega)
    rw [this, pF_id]
  rw [e] at h
  exact h
theorem q_8 {a b : Nat} (ha : a < 8) (hb : b < 8) : pp_ix ((8 : Int32) * nI a + nI b) 64 ∧ ((8 : Int32) * nI a + nI b).toNatClampNeg = 8 * a + b := by
  have e : (8 : Int32) * nI a + nI b = nI (8 * a + b) := by
    rw [show (8 : Int32) = nI 8 from rfl, pk_mul, nI_add]
  rw [e]
  exact ⟨q_ix (by omega) (by omega), q_cl (by omega)⟩
theorem h_way (hCa : CaOk Ca) (a1 a2 : Int32) (h : Rel Ca σ μ) : ∃ (r : Int32) (σ' μ' : pp_M), f_X8_way σ a1 a2 = some (r, σ') ∧ f_X9_way μ a1 a2 = some (r, μ') ∧ Rel Ca σ' μ' := by
  unfold f_X8_way f_X9_way
  obtain ⟨w, e1, e2⟩ := m_laysWays μ
  simp only [k_isPlace, m_isPlace, Option.bind_some, e1]
  by_cases c1 : wi a1 0 7 = 0
  · simp only [if_pos c1]; exact ⟨_, _, _, rfl, rfl, h⟩
  by_cases c2 : wi a2 0 7 = 0
  · simp only [if_neg c1, if_pos c2]; exact ⟨_, _, _, rfl, rfl, h⟩
  simp only [if_neg c1, if_neg c2]
  obtain ⟨a, ha, rfl⟩ := wi_of (n := 7) rfl c1
  obtain ⟨b, hb, rfl⟩ := wi_of (n := 7) rfl c2
  have i1 : pp_ix (nI a) 8 := q_ix (by omega) (by omega)
  have i2 : pp_ix (nI b) 8 := q_ix (by omega) (by omega)
  have i3 := q_8 (show a < 8 by omega) (show b < 8 by omega)
  have j1 : (nI a).toNatClampNeg = a := q_cl (by omega)
  have j2 : (nI b).toNatClampNeg = b := q_cl (by omega)
  simp only [if_pos i1, if_pos i2, if_pos i3.1, i3.2, j1, j2, pF_rd]
  refine ⟨_, _, _, rfl, ?_, rel_scratch hCa h fr_rf (pF_fr (w := w) (t := 46) (fun i => Or.inl rfl))⟩
  rw [h.2.2.1 (a * 8 + b) (by omega), show a * 8 + b = 8 * a + b by omega, e2 (8 * a + b) (by omega)]
theorem fr_base (h : Base σ μ) {σ' : pp_M} (h1 : fr (fun t i => t = 8 ∨ t = 36) σ σ') : Base σ' μ := by
  have k : ∀ t i, ¬ (t = 8 ∨ t = 36) → σ'.1 t i = σ.1 t i := fun t i q => (h1 t i q).1
  obtain ⟨b1, b2, b3, b4, b5, ⟨b6, b6'⟩, b7, b8, b9, ⟨b10, b10'⟩, b11, b12, b12', b12''⟩ := h
  refine ⟨fun t ht w hw => ?_, fun t ht l hl => ?_, fun i hi => ?_, fun i hi => ?_, fun t ht => ?_, ⟨?_, fun i hi => ?_⟩, fun s hs => ?_, fun i hi => ?_, ?_, ⟨?_, fun i hi => ?_⟩, fun t ht => ?_, ?_, ?_, ?_⟩
  · rw [k 3 _ (by omega)]; exact b1 t ht w hw
  · rw [k 3 _ (by omega)]; exact b2 t ht l hl
  · rw [k 6 _ (by omega)]; exact b3 i hi
  · rw [k 11 _ (by omega)]; exact b4 i hi
  · rw [k 12 _ (by omega)]; exact b5 t ht
  · rw [k 13 _ (by omega)]; exact b6
  · rw [k 14 _ (by omega)]; exact b6' i hi
  · rw [k 19 _ (by omega), k 20 _ (by omega)]; exact b7 s hs
  · rw [k 18 _ (by omega)]; exact b8 i hi
  · rw [k 16 _ (by omega)]; exact b9
  · rw [k 0 _ (by omega)]; exact b10
  · rw [k 34 _ (by omega)]; exact b10' i hi
  · rw [k 35 _ (by omega)]; exact b11 t ht
  · rw [k 0 _ (by omega)]; exact b12
  · rw [k 0 _ (by omega)]; exact b12'
  · rw [k 0 _ (by omega)]; exact b12''
theorem base_road (h : Base σ μ) (p q : Nat) (x : Int32) : Base (ppS (ppS σ 6 p x) 6 q x) (ppS (ppS μ 45 p x) 45 q x) := by
  obtain ⟨b1, b2, b3, b4, b5, ⟨b6, b6'⟩, b7, b8, b9, ⟨b10, b10'⟩, b11, b12, b12', b12''⟩ := h
  refine ⟨fun t ht w hw => by rw [qs_tok (t := 6) (a := 3) (b := t * 6 + w) (by omega), qs_tok (t := 6) (a := 3) (b := t * 6 + w) (by omega), qs_tok (t := 45) (a := 41 + w) (b := t) (by omega), qs_tok (t := 45) (a := 41 + w) (b := t) (by omega)]; exact b1 t ht w hw, fun t ht l hl => by rw [qs_tok (t := 6) (a := 3) (b := t * 6 + (3 + l)) (by omega), qs_tok (t := 6) (a := 3) (b := t * 6 + (3 + l)) (by omega), qs_tok (t := 45) (a := 44) (b := 3 * t + l) (by omega), qs_tok (t := 45) (a := 44) (b := 3 * t + l) (by omega)]; exact b2 t ht l hl, ?_, fun i hi => by rw [qs_tok (t := 6) (a := 11) (b := i) (by omega), qs_tok (t := 6) (a := 11) (b := i) (by omega), qs_tok (t := 45) (a := 47) (b := i) (by omega), qs_tok (t := 45) (a := 47) (b := i) (by omega)]; exact b4 i hi, fun t ht => by rw [qs_tok (t := 6) (a := 12) (b := t) (by omega), qs_tok (t := 6) (a := 12) (b := t) (by omega), qs_tok (t := 45) (a := 48) (b := t) (by omega), qs_tok (t := 45) (a := 48) (b := t) (by omega)]; exact b5 t ht, ⟨by rw [qs_tok (t := 6) (a := 13) (b := 5) (by omega), qs_tok (t := 6) (a := 13) (b := 5) (by omega), qs_tok (t := 45) (a := 40) (b := 11) (by omega), qs_tok (t := 45) (a := 40) (b := 11) (by omega)]; exact b6, fun i hi => by rw [qs_tok (t := 6) (a := 14) (b := i) (by omega), qs_tok (t := 6) (a := 14) (b := i) (by omega), qs_tok (t := 45) (a := 49) (b := i) (by omega), qs_tok (t := 45) (a := 49) (b := i) (by omega)]; exact b6' i hi⟩, fun s hs => by rw [qs_tok (t := 6) (a := 19) (b := s) (by omega), qs_tok (t := 6) (a := 19) (b := s) (by omega), qs_tok (t := 6) (a := 20) (b := s) (by omega), qs_tok (t := 6) (a := 20) (b := s) (by omega), qs_tok (t := 45) (a := 66) (b := s) (by omega), qs_tok (t := 45) (a := 66) (b := s) (by omega), qs_tok (t := 45) (a := 67) (b := s) (by omega), qs_tok (t := 45) (a := 67) (b := s) (by omega), qs_tok (t := 45) (a := 68) (b := s) (by omega), qs_tok (t := 45) (a := 68) (b := s) (by omega)]; exact b7 s hs, fun i hi => by rw [qs_tok (t := 6) (a := 18) (b := i) (by omega), qs_tok (t := 6) (a := 18) (b := i) (by omega), qs_tok (t := 45) (a := 69) (b := i) (by omega), qs_tok (t := 45) (a := 69) (b := i) (by omega)]; exact b8 i hi, by rw [qs_tok (t := 6) (a := 16) (b := 3) (by omega), qs_tok (t := 6) (a := 16) (b := 3) (by omega), qs_tok (t := 45) (a := 40) (b := 47) (by omega), qs_tok (t := 45) (a := 40) (b := 47) (by omega)]; exact b9, ⟨by rw [qs_tok (t := 6) (a := 0) (b := 10) (by omega), qs_tok (t := 6) (a := 0) (b := 10) (by omega), qs_tok (t := 45) (a := 40) (b := 19) (by omega), qs_tok (t := 45) (a := 40) (b := 19) (by omega)]; exact b10, fun i hi => by rw [qs_tok (t := 6) (a := 34) (b := i) (by omega), qs_tok (t := 6) (a := 34) (b := i) (by omega), qs_tok (t := 45) (a := 53) (b := i) (by omega), qs_tok (t := 45) (a := 53) (b := i) (by omega)]; exact b10' i hi⟩, fun t ht => by rw [qs_tok (t := 6) (a := 35) (b := t) (by omega), qs_tok (t := 6) (a := 35) (b := t) (by omega), qs_tok (t := 45) (a := 54) (b := t) (by omega), qs_tok (t := 45) (a := 54) (b := t) (by omega)]; exact b11 t ht, by rw [qs_tok (t := 6) (a := 0) (b := 11) (by omega), qs_tok (t := 6) (a := 0) (b := 11) (by omega), qs_tok (t := 45) (a := 40) (b := 6) (by omega), qs_tok (t := 45) (a := 40) (b := 6) (by omega)]; exact b12, by rw [qs_tok (t := 6) (a := 0) (b := 12) (by omega), qs_tok (t := 6) (a := 0) (b := 12) (by omega), qs_tok (t := 45) (a := 40) (b := 7) (by omega), qs_tok (t := 45) (a := 40) (b := 7) (by omega)]; exact b12', by rw [qs_tok (t := 6) (a := 0) (b := 13) (by omega), qs_tok (t := 6) (a := 0) (b := 13) (by omega), qs_tok (t := 45) (a := 40) (b := 8) (by omega), qs_tok (t := 45) (a := 40) (b := 8) (by omega)]; exact b12''⟩
  · intro i hi
    by_cases e : i = q
    · subst e; rw [qs_same, qs_same]
    · rw [qs_ne (t := 6) (i := q) (a := 6) (b := i) (fun z => e z.2), qs_ne (t := 45) (i := q) (a := 45) (b := i) (fun z => e z.2)]
      by_cases e2 : i = p
      · subst e2; rw [qs_same, qs_same]
      · rw [qs_ne (fun z => e2 z.2), qs_ne (fun z => e2 z.2)]; exact b3 i hi
theorem inv_road (h : Inv μ) {a0 b0 : Nat} (ha0 : a0 < 8) (hb0 : b0 < 8) (x : Int32) (hx : bd x 0 60) : Inv (ppS (ppS μ 45 (8 * a0 + b0) x) 45 (8 * b0 + a0) x) := by
  obtain ⟨i1, i2, ⟨i3, i3'⟩, i4, i5, i6, i7, ⟨i8, i8'⟩, i9, i10, i10', i10''⟩ := h
  refine ⟨fun t ht => by rw [qs_tok (t := 45) (a := 41) (b := t) (by omega), qs_tok (t := 45) (a := 41) (b := t) (by omega), qs_tok (t := 45) (a := 42) (b := t) (by omega), qs_tok (t := 45) (a := 42) (b := t) (by omega), qs_tok (t := 45) (a := 43) (b := t) (by omega), qs_tok (t := 45) (a := 43) (b := t) (by omega)]; exact i1 t ht, fun i hi => by rw [qs_tok (t := 45) (a := 44) (b := i) (by omega), qs_tok (t := 45) (a := 44) (b := i) (by omega)]; exact i2 i hi, ⟨?_, ?_⟩, fun i hi => by rw [qs_tok (t := 45) (a := 47) (b := i) (by omega), qs_tok (t := 45) (a := 47) (b := i) (by omega)]; exact i4 i hi, fun t ht => by rw [qs_tok (t := 45) (a := 48) (b := t) (by omega), qs_tok (t := 45) (a := 48) (b := t) (by omega)]; exact i5 t ht, by rw [qs_tok (t := 45) (a := 40) (b := 11) (by omega), qs_tok (t := 45) (a := 40) (b := 11) (by omega)]; exact i6, fun s hs => by rw [qs_tok (t := 45) (a := 67) (b := s) (by omega), qs_tok (t := 45) (a := 67) (b := s) (by omega), qs_tok (t := 45) (a := 68) (b := s) (by omega), qs_tok (t := 45) (a := 68) (b := s) (by omega)]; exact i7 s hs, ⟨by rw [qs_tok (t := 45) (a := 40) (b := 19) (by omega), qs_tok (t := 45) (a := 40) (b := 19) (by omega)]; exact i8, fun i hi => by rw [qs_tok (t := 45) (a := 40) (b := 19) (by omega), qs_tok (t := 45) (a := 40) (b := 19) (by omega)] at hi; rw [qs_tok (t := 45) (a := 53) (b := i) (by omega), qs_tok (t := 45) (a := 53) (b := i) (by omega)]; exact i8' i hi⟩, fun t ht => by rw [qs_tok (t := 45) (a := 54) (b := t) (by omega), qs_tok (t := 45) (a := 54) (b := t) (by omega)]; exact i9 t ht, by rw [qs_tok (t := 45) (a := 40) (b := 6) (by omega), qs_tok (t := 45) (a := 40) (b := 6) (by omega)]; exact i10, by rw [qs_tok (t := 45) (a := 40) (b := 7) (by omega), qs_tok (t := 45) (a := 40) (b := 7) (by omega)]; exact i10', by rw [qs_tok (t := 45) (a := 40) (b := 8) (by omega), qs_tok (t := 45) (a := 40) (b := 8) (by omega)]; exact i10''⟩
  · intro i hi
    by_cases e : i = 8 * b0 + a0
    · subst e; rw [qs_same]; exact hx
    · rw [qs_ne (fun z => e z.2)]
      by_cases e2 : i = 8 * a0 + b0
      · subst e2; rw [qs_same]; exact hx
      · rw [qs_ne (fun z => e2 z.2)]; exact i3 i hi
  · intro a b ha hb
    have rdv : ∀ c d, c < 8 → d < 8 → (ppS (ppS μ 45 (8 * a0 + b0) x) 45 (8 * b0 + a0) x).1 45 (8 * c + d) = if (c = b0 ∧ d = a0) ∨ (c = a0 ∧ d = b0) then x else μ.1 45 (8 * c + d) := fun c d hc hd => by
      by_cases e : 8 * c + d = 8 * b0 + a0
      · rw [e, qs_same, if_pos (by omega)]
      · rw [qs_ne (fun z => e z.2)]
        by_cases e2 : 8 * c + d = 8 * a0 + b0
        · rw [e2, qs_same, if_pos (by omega)]
        · rw [qs_ne (fun z => e2 z.2), if_neg (by omega)]
    rw [rdv a b ha hb, rdv b a hb ha]
    by_cases e : (a = b0 ∧ b = a0) ∨ (a = a0 ∧ b = b0)
    · rw [if_pos e, if_pos (by omega)]
    · rw [if_neg e, if_neg (by omega)]
      exact i3' a b ha hb
theorem h_road (a1 a2 a3 : Int32) (h : Rel Ca σ μ) : ∃ (r : Int32) (σ' μ' : pp_M), f_X8_road σ a1 a2 a3 = some (r, σ') ∧ f_X9_road μ a1 a2 a3 = some (r, μ') ∧ Rel Ca σ' μ' := by
  unfold f_X8_road f_X9_road f_X2_build
  simp only [k_isPlace, m_isPlace, k_within, m_in, Option.bind_some]
  by_cases c1 : wi a1 0 7 = 0
  · simp only [if_pos c1]; exact ⟨_, _, _, rfl, rfl, h⟩
  by_cases c2 : wi a2 0 7 = 0
  · simp only [if_neg c1, if_pos c2]; exact ⟨_, _, _, rfl, rfl, h⟩
  by_cases c3 : a1 = a2
  · simp only [if_neg c1, if_neg c2, if_pos c3]; exact ⟨_, _, _, rfl, rfl, h⟩
  by_cases c4 : wi a3 0 60 = 0
  · simp only [if_neg c1, if_neg c2, if_neg c3, if_pos c4]; exact ⟨_, _, _, rfl, rfl, h⟩
  simp only [if_neg c1, if_neg c2, if_neg c3, if_neg c4]
  obtain ⟨a, ha, rfl⟩ := wi_of (n := 7) rfl c1
  obtain ⟨b, hb, rfl⟩ := wi_of (n := 7) rfl c2
  have i1 : pp_ix (nI a) 8 := q_ix (by omega) (by omega)
  have i2 : pp_ix (nI b) 8 := q_ix (by omega) (by omega)
  have i3 := q_8 (show a < 8 by omega) (show b < 8 by omega)
  have i4 := q_8 (show b < 8 by omega) (show a < 8 by omega)
  have j1 : (nI a).toNatClampNeg = a := q_cl (by omega)
  have j2 : (nI b).toNatClampNeg = b := q_cl (by omega)
  obtain ⟨w, e1, e2⟩ := k_findWays (ppS (ppS σ 6 (a * 8 + b) a3) 6 (b * 8 + a) a3)
  simp only [if_pos i1, if_pos i2, if_pos i3.1, if_pos i4.1, i3.2, i4.2, j1, j2, e1, Option.bind_some, f_X6_forget]
  have hb0 := base_road h.1 (8 * a + b) (8 * b + a) a3
  rw [show a * 8 + b = 8 * a + b by omega, show b * 8 + a = 8 * b + a by omega] at *
  refine ⟨_, _, _, rfl, by rw [h.1.2.2.1 (8 * a + b) (by omega)], rel_forget (fr_base hb0 (fr_tr (pF_fr (fun i => Or.inl rfl)) (fr_S (Or.inr rfl)))) (inv_road h.2.1 (by omega) (by omega) a3 (wi_0 c4)) (fun i hi => ?_) (qs_same _ _ _ _) h.2.2.2.2⟩
  rw [qs_tok (t := 36) (a := 8) (by omega), pF_rd, e2 i hi]
  have ec : ∀ j, j < 64 → (ppS (ppS σ 6 (8 * a + b) a3) 6 (8 * b + a) a3).1 6 j = (ppS (ppS μ 45 (8 * a + b) a3) 45 (8 * b + a) a3).1 45 j := hb0.2.2.1
  exact fwB_cong (fun j hj => by unfold fw0; rw [ec j hj]) 8 (by omega) i hi
end WAYS2
