/-! sheets -/
section SHEETS
variable {Ca : pp_M → pp_M → Prop} {σ μ : pp_M}
theorem base_found (h : Base σ μ) (x : Int32) : Base (ppS σ 16 3 x) (ppS μ 40 47 x) := by
  obtain ⟨b1, b2, b3, b4, b5, ⟨b6, b6'⟩, b7, b8, b9, ⟨b10, b10'⟩, b11, b12, b12', b12''⟩ := h
  refine ⟨fun t ht w hw => by rw [qs_tok (t := 16) (a := 3) (b := t * 6 + w) (by omega), qs_tok (t := 40) (a := 41 + w) (b := t) (by omega)]; exact b1 t ht w hw, fun t ht l hl => by rw [qs_tok (t := 16) (a := 3) (b := t * 6 + (3 + l)) (by omega), qs_tok (t := 40) (a := 44) (b := 3 * t + l) (by omega)]; exact b2 t ht l hl, fun i hi => by rw [qs_tok (t := 16) (a := 6) (b := i) (by omega), qs_tok (t := 40) (a := 45) (b := i) (by omega)]; exact b3 i hi, fun i hi => by rw [qs_tok (t := 16) (a := 11) (b := i) (by omega), qs_tok (t := 40) (a := 47) (b := i) (by omega)]; exact b4 i hi, fun t ht => by rw [qs_tok (t := 16) (a := 12) (b := t) (by omega), qs_tok (t := 40) (a := 48) (b := t) (by omega)]; exact b5 t ht, ⟨by rw [qs_tok (t := 16) (a := 13) (b := 5) (by omega), qs_ne (t := 40) (i := 47) (a := 40) (b := 11) (by omega)]; exact b6, fun i hi => by rw [qs_tok (t := 16) (a := 14) (b := i) (by omega), qs_tok (t := 40) (a := 49) (b := i) (by omega)]; exact b6' i hi⟩, fun s hs => by rw [qs_tok (t := 16) (a := 19) (b := s) (by omega), qs_tok (t := 16) (a := 20) (b := s) (by omega), qs_tok (t := 40) (a := 66) (b := s) (by omega), qs_tok (t := 40) (a := 67) (b := s) (by omega), qs_tok (t := 40) (a := 68) (b := s) (by omega)]; exact b7 s hs, fun i hi => by rw [qs_tok (t := 16) (a := 18) (b := i) (by omega), qs_tok (t := 40) (a := 69) (b := i) (by omega)]; exact b8 i hi, ?_, ⟨by rw [qs_tok (t := 16) (a := 0) (b := 10) (by omega), qs_ne (t := 40) (i := 47) (a := 40) (b := 19) (by omega)]; exact b10, fun i hi => by rw [qs_tok (t := 16) (a := 34) (b := i) (by omega), qs_tok (t := 40) (a := 53) (b := i) (by omega)]; exact b10' i hi⟩, fun t ht => by rw [qs_tok (t := 16) (a := 35) (b := t) (by omega), qs_tok (t := 40) (a := 54) (b := t) (by omega)]; exact b11 t ht, by rw [qs_tok (t := 16) (a := 0) (b := 11) (by omega), qs_ne (t := 40) (i := 47) (a := 40) (b := 6) (by omega)]; exact b12, by rw [qs_tok (t := 16) (a := 0) (b := 12) (by omega), qs_ne (t := 40) (i := 47) (a := 40) (b := 7) (by omega)]; exact b12', by rw [qs_tok (t := 16) (a := 0) (b := 13) (by omega), qs_ne (t := 40) (i := 47) (a := 40) (b := 8) (by omega)]; exact b12''⟩
  · rw [qs_same, qs_same]
theorem inv_found (h : Inv μ) (x : Int32) : Inv (ppS μ 40 47 x) := by
  obtain ⟨i1, i2, ⟨i3, i3'⟩, i4, i5, i6, i7, ⟨i8, i8'⟩, i9, i10, i10', i10''⟩ := h
  refine ⟨fun t ht => by rw [qs_tok (t := 40) (a := 41) (b := t) (by omega), qs_tok (t := 40) (a := 42) (b := t) (by omega), qs_tok (t := 40) (a := 43) (b := t) (by omega)]; exact i1 t ht, fun i hi => by rw [qs_tok (t := 40) (a := 44) (b := i) (by omega)]; exact i2 i hi, ⟨fun i hi => by rw [qs_tok (t := 40) (a := 45) (b := i) (by omega)]; exact i3 i hi, fun a b ha hb => by rw [qs_tok (t := 40) (a := 45) (b := 8 * a + b) (by omega), qs_tok (t := 40) (a := 45) (b := 8 * b + a) (by omega)]; exact i3' a b ha hb⟩, fun i hi => by rw [qs_tok (t := 40) (a := 47) (b := i) (by omega)]; exact i4 i hi, fun t ht => by rw [qs_tok (t := 40) (a := 48) (b := t) (by omega)]; exact i5 t ht, by rw [qs_ne (t := 40) (i := 47) (a := 40) (b := 11) (by omega)]; exact i6, fun s hs => by rw [qs_tok (t := 40) (a := 67) (b := s) (by omega), qs_tok (t := 40) (a := 68) (b := s) (by omega)]; exact i7 s hs, ⟨by rw [qs_ne (t := 40) (i := 47) (a := 40) (b := 19) (by omega)]; exact i8, fun i hi => by rw [qs_ne (t := 40) (i := 47) (a := 40) (b := 19) (by omega)] at hi; rw [qs_tok (t := 40) (a := 53) (b := i) (by omega)]; exact i8' i hi⟩, fun t ht => by rw [qs_tok (t := 40) (a := 54) (b := t) (by omega)]; exact i9 t ht, by rw [qs_ne (t := 40) (i := 47) (a := 40) (b := 6) (by omega)]; exact i10, by rw [qs_ne (t := 40) (i := 47) (a := 40) (b := 7) (by omega)]; exact i10', by rw [qs_ne (t := 40) (i := 47) (a := 40) (b := 8) (by omega)]; exact i10''⟩

theorem rel_found (hCa : CaOk Ca) (h : Rel Ca σ μ) (x : Int32) : Rel Ca (ppS σ 16 3 x) (ppS μ 40 47 x) := rel_keep hCa h (base_found h.1 x) (inv_found h.2.1 x) (fr_S (by unfold nK; omega)) (fr_S (by unfold nM; omega))
theorem sh_cases (h : Rel Ca σ μ) {k : Nat} (hk : k < 4) : (μ.1 66 k = 1 ∧ σ.1 20 k = μ.1 68 k ∧ ¬ σ.1 20 k = -1) ∨ (μ.1 66 k = 0 ∧ σ.1 20 k = -1) := by
  rcases (h.1.2.2.2.2.2.2.1 k hk).2 with ⟨h1, h2⟩ | h1
  · refine Or.inl ⟨h1, h2, fun q => ?_⟩
    have h3 := (h.2.1.2.2.2.2.2.2.1 k hk).1.1
    rw [← h2, q] at h3
    exact absurd h3 (by decide)
  · exact Or.inr h1
theorem k_isLost {k : Nat} (hk : k < 4) : f_X7_isLost σ (nI k) = some (if σ.1 20 k = -1 then 1 else 0, σ) := by
  unfold f_X7_isLost
  rw [if_pos (q_ix hk (by omega)), q_cl (by omega)]
  split <;> rfl
/-- what stands against an item -/
theorem sh_find (h : Rel Ca σ μ) {k : Nat} (hk : k < 4) (a2 a3 : Int32) : ∃ v : Int32, f_X7_findingAt σ (nI k) a2 a3 = some (v, σ) ∧ f_X9_lacks μ (nI k) a2 a3 = some (v, μ) ∧ ((v = 0 ∧ μ.1 66 k = 1 ∧ ∃ j : Nat, a3 = nI j ∧ (j : Int) < (μ.1 68 k).toInt ∧ j < 40) ∨ (¬ v = 0 ∧ 0 < v)) := by
  unfold f_X7_findingAt f_X9_lacks
  have i1 : pp_ix (nI k) 4 := q_ix hk (by omega)
  have i2 : (nI k).toNatClampNeg = k := q_cl (by omega)
  have n1 : ¬ (1 : Int32) = 0 := by decide
  simp only [k_isLost hk, Option.bind_some, if_pos i1, i2]
  have hb := (h.2.1.2.2.2.2.2.2.1 k hk).1
  have hf := (h.1.2.2.2.2.2.2.1 k hk).1
  rcases sh_cases h hk with ⟨h1, h2, h3⟩ | ⟨h1, h2⟩
  · simp only [if_neg h3, h1, if_neg n1, hf, if_pos]
    by_cases c1 : μ.1 67 k = a2
    · simp only [if_pos c1, k_within, m_in, h2, Option.bind_some]
      by_cases c2 : wi a3 0 (μ.1 68 k - 1) = 0
      · simp only [if_pos c2]
        exact ⟨2, rfl, rfl, Or.inr ⟨by decide, by decide⟩⟩
      · simp only [if_neg c2]
        refine ⟨0, rfl, rfl, Or.inl ⟨rfl, trivial, ?_⟩⟩
        obtain ⟨d1, d2⟩ := wi_0 c2
        obtain ⟨e1, e2⟩ := hb
        obtain ⟨m, hm, he⟩ := q_of (n := 40) e1 (by omega)
        rw [he] at d2 ⊢
        rw [nI_toInt (by omega)]
        have d3 : (nI m - 1 : Int32).toInt = (m : Int) - 1 := pk_sub_toInt (b := 1) (by omega) (by omega)
        rw [d3] at d2
        have d1' : 0 ≤ a3.toInt := d1
        obtain ⟨j, hj, rfl⟩ := q_of (n := 40) d1' (by omega)
        rw [nI_toInt (by omega)] at d2
        exact ⟨j, rfl, by omega, by omega⟩
    · simp only [if_neg c1]
      exact ⟨3, rfl, rfl, Or.inr ⟨by decide, by decide⟩⟩
  · simp only [h2, h1, if_pos, if_neg n1]
    exact ⟨1, rfl, rfl, Or.inr ⟨by decide, by decide⟩⟩
theorem q_40 {k j : Nat} (hk : k < 4) (hj : j < 40) : pp_ix ((40 : Int32) * nI k + nI j) 160 ∧ ((40 : Int32) * nI k + nI j).toNatClampNeg = k * 40 + j := by
  have e : (40 : Int32) * nI k + nI j = nI (k * 40 + j) := by
    rw [show (40 : Int32) = nI 40 from rfl, pk_mul, nI_add, Nat.mul_comm]
  rw [e]
  exact ⟨q_ix (by omega) (by omega), q_cl (by omega)⟩
theorem h_get (hCa : CaOk Ca) (a1 a2 a3 : Int32) (h : Rel Ca σ μ) : ∃ (r : Int32) (σ' μ' : pp_M), f_X8_get σ a1 a2 a3 = some (r, σ') ∧ f_X9_get μ a1 a2 a3 = some (r, μ') ∧ Rel Ca σ' μ' := by
  unfold f_X8_get f_X9_get
  rw [k_isSheet, m_isSheet]
  simp only [Option.bind_some]
  by_cases c1 : wi a1 0 3 = 0
  · rw [if_pos c1, if_pos c1]; exact ⟨_, _, _, rfl, rfl, h⟩
  · rw [if_neg c1, if_neg c1, k_isForm, m_in]
    simp only [Option.bind_some]
    by_cases c2 : wi a2 0 2 = 0
    · rw [if_pos c2, if_pos c2]; exact ⟨_, _, _, rfl, rfl, h⟩
    · rw [if_neg c2, if_neg c2]
      obtain ⟨k, hk, rfl⟩ := wi_of (n := 3) rfl c1
      obtain ⟨v, e1, e2, hv⟩ := sh_find h (k := k) (by omega) a2 a3
      rw [e1, e2]
      simp only [Option.bind_some]
      rcases hv with ⟨hv, h66, j, rfl, -, hj⟩ | ⟨hv, hv2⟩
      · have n1 : ¬ 0 < v := by rw [hv]; decide
        have i1 : pp_ix (nI k) 4 := q_ix (by omega) (by omega)
        have i2 : pp_ix (nI j) 40 := q_ix hj (by omega)
        have i3 := (q_40 (show k < 4 by omega) hj)
        have i4 : (nI k).toNatClampNeg = k := q_cl (by omega)
        have i5 : (nI j).toNatClampNeg = j := q_cl (by omega)
        simp only [if_pos hv, if_neg n1, if_pos i1, if_pos i2, if_pos i3.1, i3.2, i4, i5]
        exact ⟨_, _, _, rfl, by rw [h.1.2.2.2.2.2.2.2.1 (k * 40 + j) (by omega)], h⟩
      · simp only [if_neg hv, if_pos hv2]
        exact ⟨_, _, _, rfl, rfl, rel_found hCa h v⟩
theorem base_item (h : Base σ μ) (k : Nat) (x : Int32) : Base (ppS σ 18 k x) (ppS μ 69 k x) := by
  obtain ⟨b1, b2, b3, b4, b5, ⟨b6, b6'⟩, b7, b8, b9, ⟨b10, b10'⟩, b11, b12, b12', b12''⟩ := h
  refine ⟨fun t ht w hw => by rw [qs_tok (t := 18) (a := 3) (b := t * 6 + w) (by omega), qs_tok (t := 69) (a := 41 + w) (b := t) (by omega)]; exact b1 t ht w hw, fun t ht l hl => by rw [qs_tok (t := 18) (a := 3) (b := t * 6 + (3 + l)) (by omega), qs_tok (t := 69) (a := 44) (b := 3 * t + l) (by omega)]; exact b2 t ht l hl, fun i hi => by rw [qs_tok (t := 18) (a := 6) (b := i) (by omega), qs_tok (t := 69) (a := 45) (b := i) (by omega)]; exact b3 i hi, fun i hi => by rw [qs_tok (t := 18) (a := 11) (b := i) (by omega), qs_tok (t := 69) (a := 47) (b := i) (by omega)]; exact b4 i hi, fun t ht => by rw [qs_tok (t := 18) (a := 12) (b := t) (by omega), qs_tok (t := 69) (a := 48) (b := t) (by omega)]; exact b5 t ht, ⟨by rw [qs_tok (t := 18) (a := 13) (b := 5) (by omega), qs_tok (t := 69) (a := 40) (b := 11) (by omega)]; exact b6, fun i hi => by rw [qs_tok (t := 18) (a := 14) (b := i) (by omega), qs_tok (t := 69) (a := 49) (b := i) (by omega)]; exact b6' i hi⟩, fun s hs => by rw [qs_tok (t := 18) (a := 19) (b := s) (by omega), qs_tok (t := 18) (a := 20) (b := s) (by omega), qs_tok (t := 69) (a := 66) (b := s) (by omega), qs_tok (t := 69) (a := 67) (b := s) (by omega), qs_tok (t := 69) (a := 68) (b := s) (by omega)]; exact b7 s hs, ?_, by rw [qs_tok (t := 18) (a := 16) (b := 3) (by omega), qs_tok (t := 69) (a := 40) (b := 47) (by omega)]; exact b9, ⟨by rw [qs_tok (t := 18) (a := 0) (b := 10) (by omega), qs_tok (t := 69) (a := 40) (b := 19) (by omega)]; exact b10, fun i hi => by rw [qs_tok (t := 18) (a := 34) (b := i) (by omega), qs_tok (t := 69) (a := 53) (b := i) (by omega)]; exact b10' i hi⟩, fun t ht => by rw [qs_tok (t := 18) (a := 35) (b := t) (by omega), qs_tok (t := 69) (a := 54) (b := t) (by omega)]; exact b11 t ht, by rw [qs_tok (t := 18) (a := 0) (b := 11) (by omega), qs_tok (t := 69) (a := 40) (b := 6) (by omega)]; exact b12, by rw [qs_tok (t := 18) (a := 0) (b := 12) (by omega), qs_tok (t := 69) (a := 40) (b := 7) (by omega)]; exact b12', by rw [qs_tok (t := 18) (a := 0) (b := 13) (by omega), qs_tok (t := 69) (a := 40) (b := 8) (by omega)]; exact b12''⟩
  · intro i hi
    by_cases e : i = k
    · subst e; rw [qs_same, qs_same]
    · rw [qs_ne (fun q => e q.2), qs_ne (fun q => e q.2)]; exact b8 i hi
theorem inv_item (h : Inv μ) (k : Nat) (x : Int32) : Inv (ppS μ 69 k x) := by
  obtain ⟨i1, i2, ⟨i3, i3'⟩, i4, i5, i6, i7, ⟨i8, i8'⟩, i9, i10, i10', i10''⟩ := h
  refine ⟨fun t ht => by rw [qs_tok (t := 69) (a := 41) (b := t) (by omega), qs_tok (t := 69) (a := 42) (b := t) (by omega), qs_tok (t := 69) (a := 43) (b := t) (by omega)]; exact i1 t ht, fun i hi => by rw [qs_tok (t := 69) (a := 44) (b := i) (by omega)]; exact i2 i hi, ⟨fun i hi => by rw [qs_tok (t := 69) (a := 45) (b := i) (by omega)]; exact i3 i hi, fun a b ha hb => by rw [qs_tok (t := 69) (a := 45) (b := 8 * a + b) (by omega), qs_tok (t := 69) (a := 45) (b := 8 * b + a) (by omega)]; exact i3' a b ha hb⟩, fun i hi => by rw [qs_tok (t := 69) (a := 47) (b := i) (by omega)]; exact i4 i hi, fun t ht => by rw [qs_tok (t := 69) (a := 48) (b := t) (by omega)]; exact i5 t ht, by rw [qs_tok (t := 69) (a := 40) (b := 11) (by omega)]; exact i6, fun s hs => by rw [qs_tok (t := 69) (a := 67) (b := s) (by omega), qs_tok (t := 69) (a := 68) (b := s) (by omega)]; exact i7 s hs, ⟨by rw [qs_tok (t := 69) (a := 40) (b := 19) (by omega)]; exact i8, fun i hi => by rw [qs_tok (t := 69) (a := 40) (b := 19) (by omega)] at hi; rw [qs_tok (t := 69) (a := 53) (b := i) (by omega)]; exact i8' i hi⟩, fun t ht => by rw [qs_tok (t := 69) (a := 54) (b := t) (by omega)]; exact i9 t ht, by rw [qs_tok (t := 69) (a := 40) (b := 6) (by omega)]; exact i10, by rw [qs_tok (t := 69) (a := 40) (b := 7) (by omega)]; exact i10', by rw [qs_tok (t := 69) (a := 40) (b := 8) (by omega)]; exact i10''⟩

theorem rel_item (hCa : CaOk Ca) (h : Rel Ca σ μ) (k : Nat) (x : Int32) : Rel Ca (ppS σ 18 k x) (ppS μ 69 k x) := rel_keep hCa h (base_item h.1 k x) (inv_item h.2.1 k x) (fr_S (by unfold nK; omega)) (fr_S (by unfold nM; omega))
theorem sh_lay (hCa : CaOk Ca) (h : Rel Ca σ μ) {k j : Nat} (hk : k < 4) (hj : j < 40) (x : Int32) : ∃ σ' μ', f_X7_lay σ (nI k) (nI j) x = some σ' ∧ f_X9_keep μ (nI k) (nI j) x = some μ' ∧ Rel Ca σ' μ' ∧ fr (fun t _ => t = 18) σ σ' ∧ fr (fun t _ => t = 69) μ μ' := by
  unfold f_X7_lay f_X9_keep
  have hf := (h.1.2.2.2.2.2.2.1 k hk).1
  obtain ⟨q1, q2⟩ := q_40 hk hj
  have i1 : pp_ix (nI k) 4 := q_ix hk (by omega)
  have i2 : pp_ix (nI j) 40 := q_ix hj (by omega)
  have i4 : (nI k).toNatClampNeg = k := q_cl (by omega)
  have i5 : (nI j).toNatClampNeg = j := q_cl (by omega)
  simp only [if_pos i1, if_pos i2, if_pos q1, i4, i5, hf, q2]
  by_cases c1 : μ.1 67 k = 0
  · simp only [if_pos c1]
    exact ⟨_, _, rfl, rfl, rel_item hCa h _ _, fr_S rfl, fr_S rfl⟩
  · simp only [if_neg c1]
    by_cases c2 : μ.1 67 k = 1
    · simp only [if_pos c2]
      exact ⟨_, _, rfl, rfl, rel_item hCa h _ _, fr_S rfl, fr_S rfl⟩
    · simp only [if_neg c2]
      exact ⟨_, _, rfl, rfl, rel_item hCa h _ _, fr_S rfl, fr_S rfl⟩
theorem h_put (hCa : CaOk Ca) (a1 a2 a3 a4 : Int32) (h : Rel Ca σ μ) : ∃ (r : Int32) (σ' μ' : pp_M), f_X8_put σ a1 a2 a3 a4 = some (r, σ') ∧ f_X9_put μ a1 a2 a3 a4 = some (r, μ') ∧ Rel Ca σ' μ' := by
  unfold f_X8_put f_X9_put
  rw [k_isSheet, m_isSheet]
  simp only [Option.bind_some]
  by_cases c1 : wi a1 0 3 = 0
  · rw [if_pos c1, if_pos c1]; exact ⟨_, _, _, rfl, rfl, h⟩
  · rw [if_neg c1, if_neg c1, k_isForm, m_in]
    simp only [Option.bind_some]
    by_cases c2 : wi a2 0 2 = 0
    · rw [if_pos c2, if_pos c2]; exact ⟨_, _, _, rfl, rfl, h⟩
    · rw [if_neg c2, if_neg c2]
      obtain ⟨k, hk, rfl⟩ := wi_of (n := 3) rfl c1
      obtain ⟨v, e1, e2, hv⟩ := sh_find h (k := k) (by omega) a2 a3
      rw [e1, e2]
      simp only [Option.bind_some]
      rcases hv with ⟨hv, h66, j, rfl, -, hj⟩ | ⟨hv, hv2⟩
      · have n1 : ¬ 0 < v := by rw [hv]; decide
        simp only [if_pos hv, if_neg n1]
        obtain ⟨σ', μ', g1, g2, g3, -, -⟩ := sh_lay hCa h (k := k) (by omega) hj a4
        rw [g1, g2]
        exact ⟨_, _, _, rfl, rfl, g3⟩
      · simp only [if_neg hv, if_pos hv2]
        exact ⟨_, _, _, rfl, rfl, rel_found hCa h v⟩
theorem base_lose (h : Base σ μ) (k : Nat) : Base (ppS σ 20 k (-1)) (ppS μ 66 k 0) := by
  obtain ⟨b1, b2, b3, b4, b5, ⟨b6, b6'⟩, b7, b8, b9, ⟨b10, b10'⟩, b11, b12, b12', b12''⟩ := h
  refine ⟨fun t ht w hw => by rw [qs_tok (t := 20) (a := 3) (b := t * 6 + w) (by omega), qs_tok (t := 66) (a := 41 + w) (b := t) (by omega)]; exact b1 t ht w hw, fun t ht l hl => by rw [qs_tok (t := 20) (a := 3) (b := t * 6 + (3 + l)) (by omega), qs_tok (t := 66) (a := 44) (b := 3 * t + l) (by omega)]; exact b2 t ht l hl, fun i hi => by rw [qs_tok (t := 20) (a := 6) (b := i) (by omega), qs_tok (t := 66) (a := 45) (b := i) (by omega)]; exact b3 i hi, fun i hi => by rw [qs_tok (t := 20) (a := 11) (b := i) (by omega), qs_tok (t := 66) (a := 47) (b := i) (by omega)]; exact b4 i hi, fun t ht => by rw [qs_tok (t := 20) (a := 12) (b := t) (by omega), qs_tok (t := 66) (a := 48) (b := t) (by omega)]; exact b5 t ht, ⟨by rw [qs_tok (t := 20) (a := 13) (b := 5) (by omega), qs_tok (t := 66) (a := 40) (b := 11) (by omega)]; exact b6, fun i hi => by rw [qs_tok (t := 20) (a := 14) (b := i) (by omega), qs_tok (t := 66) (a := 49) (b := i) (by omega)]; exact b6' i hi⟩, ?_, fun i hi => by rw [qs_tok (t := 20) (a := 18) (b := i) (by omega), qs_tok (t := 66) (a := 69) (b := i) (by omega)]; exact b8 i hi, by rw [qs_tok (t := 20) (a := 16) (b := 3) (by omega), qs_tok (t := 66) (a := 40) (b := 47) (by omega)]; exact b9, ⟨by rw [qs_tok (t := 20) (a := 0) (b := 10) (by omega), qs_tok (t := 66) (a := 40) (b := 19) (by omega)]; exact b10, fun i hi => by rw [qs_tok (t := 20) (a := 34) (b := i) (by omega), qs_tok (t := 66) (a := 53) (b := i) (by omega)]; exact b10' i hi⟩, fun t ht => by rw [qs_tok (t := 20) (a := 35) (b := t) (by omega), qs_tok (t := 66) (a := 54) (b := t) (by omega)]; exact b11 t ht, by rw [qs_tok (t := 20) (a := 0) (b := 11) (by omega), qs_tok (t := 66) (a := 40) (b := 6) (by omega)]; exact b12, by rw [qs_tok (t := 20) (a := 0) (b := 12) (by omega), qs_tok (t := 66) (a := 40) (b := 7) (by omega)]; exact b12', by rw [qs_tok (t := 20) (a := 0) (b := 13) (by omega), qs_tok (t := 66) (a := 40) (b := 8) (by omega)]; exact b12''⟩
  · intro s hs
    by_cases e : s = k
    · subst e
      rw [qs_same, qs_same, qs_tok (t := 20) (a := 19) (by omega), qs_tok (t := 66) (a := 67) (by omega)]
      exact ⟨(b7 s hs).1, Or.inr ⟨rfl, rfl⟩⟩
    · rw [qs_ne (t := 20) (a := 20) (fun q => e q.2), qs_ne (t := 66) (a := 66) (fun q => e q.2), qs_tok (t := 20) (a := 19) (by omega), qs_tok (t := 66) (a := 67) (by omega), qs_tok (t := 66) (a := 68) (by omega)]
      exact b7 s hs
theorem inv_lose (h : Inv μ) (k : Nat) : Inv (ppS μ 66 k 0) := by
  obtain ⟨i1, i2, ⟨i3, i3'⟩, i4, i5, i6, i7, ⟨i8, i8'⟩, i9, i10, i10', i10''⟩ := h
  refine ⟨fun t ht => by rw [qs_tok (t := 66) (a := 41) (b := t) (by omega), qs_tok (t := 66) (a := 42) (b := t) (by omega), qs_tok (t := 66) (a := 43) (b := t) (by omega)]; exact i1 t ht, fun i hi => by rw [qs_tok (t := 66) (a := 44) (b := i) (by omega)]; exact i2 i hi, ⟨fun i hi => by rw [qs_tok (t := 66) (a := 45) (b := i) (by omega)]; exact i3 i hi, fun a b ha hb => by rw [qs_tok (t := 66) (a := 45) (b := 8 * a + b) (by omega), qs_tok (t := 66) (a := 45) (b := 8 * b + a) (by omega)]; exact i3' a b ha hb⟩, fun i hi => by rw [qs_tok (t := 66) (a := 47) (b := i) (by omega)]; exact i4 i hi, fun t ht => by rw [qs_tok (t := 66) (a := 48) (b := t) (by omega)]; exact i5 t ht, by rw [qs_tok (t := 66) (a := 40) (b := 11) (by omega)]; exact i6, fun s hs => by rw [qs_tok (t := 66) (a := 67) (b := s) (by omega), qs_tok (t := 66) (a := 68) (b := s) (by omega)]; exact i7 s hs, ⟨by rw [qs_tok (t := 66) (a := 40) (b := 19) (by omega)]; exact i8, fun i hi => by rw [qs_tok (t := 66) (a := 40) (b := 19) (by omega)] at hi; rw [qs_tok (t := 66) (a := 53) (b := i) (by omega)]; exact i8' i hi⟩, fun t ht => by rw [qs_tok (t := 66) (a := 54) (b := t) (by omega)]; exact i9 t ht, by rw [qs_tok (t := 66) (a := 40) (b := 6) (by omega)]; exact i10, by rw [qs_tok (t := 66) (a := 40) (b := 7) (by omega)]; exact i10', by rw [qs_tok (t := 66) (a := 40) (b := 8) (by omega)]; exact i10''⟩

theorem h_lose (hCa : CaOk Ca) (a1 : Int32) (h : Rel Ca σ μ) : ∃ (r : Int32) (σ' μ' : pp_M), f_X8_lose σ a1 = some (r, σ') ∧ f_X9_lose μ a1 = some (r, μ') ∧ Rel Ca σ' μ' := by
  unfold f_X8_lose f_X9_lose
  rw [k_isSheet, m_isSheet]
  simp only [Option.bind_some]
  by_cases c1 : wi a1 0 3 = 0
  · rw [if_pos c1, if_pos c1]; exact ⟨_, _, _, rfl, rfl, h⟩
  · rw [if_neg c1, if_neg c1]
    obtain ⟨k, hk, rfl⟩ := wi_of (n := 3) rfl c1
    have i1 : pp_ix (nI k) 4 := q_ix (by omega) (by omega)
    have i4 : (nI k).toNatClampNeg = k := q_cl (by omega)
    have n1 : ¬ (1 : Int32) = 0 := by decide
    simp only [k_isLost (show k < 4 by omega), Option.bind_some, if_pos i1, i4]
    rcases sh_cases h (k := k) (by omega) with ⟨h1, h2, h3⟩ | ⟨h1, h2⟩
    · have h3' : ¬ μ.1 68 k = -1 := by rw [← h2]; exact h3
      simp only [if_neg h3', if_pos, h1, if_neg n1, h2]
      exact ⟨_, _, _, rfl, by rw [qs_tok (t := 66) (a := 68) (by omega)], rel_keep hCa h (base_lose h.1 k) (inv_lose h.2.1 k) (fr_S (by unfold nK; omega)) (fr_S (by unfold nM; omega))⟩
    · simp only [h2, h1, if_pos, if_neg n1]
      exact ⟨_, _, _, rfl, rfl, rel_found hCa h 1⟩
end SHEETS
