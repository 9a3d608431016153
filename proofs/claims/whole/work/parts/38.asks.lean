/-! ask, value, trust -/
section ASKS
variable {Ca : pp_M → pp_M → Prop} {σ μ ν : pp_M}
def P55 (a b : Nat) (t i : Nat) : Prop := t = 55 ∧ a ≤ i ∧ i < b
theorem m_lk10 : ∀ (m b N n : Nat) (ν : pp_M), b + m = N → N ≤ 7 → m < n → ν.1 40 19 = nI N → ∃ ν', f_X9_looksAtRow_10 n ν (nI b) = (f_X9_laysWorth ν').bind (fun x => some x) ∧ fr (P55 b N) ν ν' ∧ ∀ i, b ≤ i → i < N → ν'.1 55 i = ν.1 53 i
  | 0, b, N, n + 1, ν, hb, hN, _, hm => by
    refine ⟨ν, ?_, fr_rf, fun j h1 h2 => by omega⟩
    show f_X9_looksAtRow_10_B (f_X9_looksAtRow_10 n) _ _ = _
    unfold f_X9_looksAtRow_10_B
    rw [hm, if_neg (q_nl (by omega) (by omega))]
  | m + 1, b, N, n + 1, ν, hb, hN, hn, hm => by
    have i1 : pp_ix (nI b) 7 := q_ix (by omega) (by omega)
    have hfr : fr (P55 b N) ν (ppS ν 55 b (ν.1 53 b)) := fr_S ⟨rfl, by omega, by omega⟩
    obtain ⟨ν', g1, g2, g3⟩ := m_lk10 m (b + 1) N n (ppS ν 55 b (ν.1 53 b)) (by omega) hN (by omega) hm
    refine ⟨ν', ?_, fr_tr hfr (fr_mono g2 (fun x i q => by unfold P55 at q ⊢; omega)), fun j h1 h2 => ?_⟩
    · show f_X9_looksAtRow_10_B (f_X9_looksAtRow_10 n) _ _ = _
      unfold f_X9_looksAtRow_10_B
      rw [hm, if_pos (nI_lt (by omega) (by omega)), if_pos i1, (q_cl (k := b) (by omega)), nI_1]
      exact g1
    · by_cases e : j = b
      · subst e
        rw [(g2 55 _ (by unfold P55; omega)).1, qs_same]
      · rw [g3 j (by omega) h2, qs_tok (by omega)]
/-- what looking at a row writes -/
def Lk (t i : Nat) : Prop := (t = 40 ∧ i = 22) ∨ t = 55 ∨ t = 56 ∨ t = 57
theorem Lk_sM {μ μ' : pp_M} (h : fr Lk μ μ') : fr sM μ μ' := fr_mono h (fun t i q => by unfold Lk at q; unfold sM; omega)
theorem VS_mu {L : List Nat} {t i : Nat} (h : fr sM μ ν) {ρ : pp_M} (hv : VS ν L t i ρ) : VS μ L t i ρ := fun k hk => by
  have := hv k hk
  refine ⟨by rw [this.1, wv_fr h], fun h1 h2 => ?_⟩
  rw [this.2 h1 h2, drop_cons h1]
  show nI (bestA (avI ν (wv ν t (L.drop (i + 1))) (L.drop (i + 1)).length (L.getD i 0) t k)).2 = nI (bestA (avI μ (wv μ t (L.drop (i + 1))) (L.drop (i + 1)).length (L.getD i 0) t k)).2
  rw [av_fr h, show wv ν t (L.drop (i + 1)) = wv μ t (L.drop (i + 1)) from funext (wv_fr h t _)]
theorem m_looks (hI : Inv μ) : ∃ ν, f_X9_looksAtRow μ = some ν ∧ fr Lk μ ν ∧ ν.1 40 22 = nI (rowL μ).length ∧ isRow (ν.1 55) 0 (rowL μ) ∧ ∀ u, u < 6 → ∀ i, i ≤ (rowL μ).length → VS μ (rowL μ) u i ν := by
  have hl := rowL_len hI
  have h0 : fr Lk μ (ppS μ 40 22 (μ.1 40 19)) := fr_S (Or.inl ⟨rfl, rfl⟩)
  obtain ⟨ν1, g1, g2, g3⟩ := m_lk10 (rowL μ).length 0 (rowL μ).length 100000 (ppS μ 40 22 (μ.1 40 19)) (by omega) hl.1 (by omega) (by rw [(qs_ne (by omega)), hl.2])
  have h1 : fr Lk μ ν1 := fr_tr h0 (fr_mono g2 (fun t i q => by unfold P55 at q; unfold Lk; omega))
  have m1 : ν1.1 40 22 = nI (rowL μ).length := by rw [(g2 40 22 (by unfold P55; omega)).1, qs_same, hl.2]
  have r1 : isRow (ν1.1 55) 0 (rowL μ) := fun i hi => by
    rw [Nat.zero_add, g3 i (by omega) hi, qs_tok (by omega), (rowL_at hI hi).1]
  obtain ⟨ν2, d1, d2, d3⟩ := m_laysWorth (inv_fr hI (Lk_sM h1)) hl.1 (rowL_mem hI) m1 r1
  refine ⟨ν2, ?_, fr_tr h1 (fr_mono d2 (fun t i q => by unfold P56 at q; unfold Lk; omega)), ?_, fun i hi => ?_, fun u hu i hi => VS_mu (Lk_sM h1) (d3 u hu i hi)⟩
  · unfold f_X9_looksAtRow
    rw [show f_X9_looksAtRow_10 100000 (ppS μ 40 22 (μ.1 40 19)) 0 = _ from g1, d1]
    rfl
  · rw [(d2 40 22 (by unfold P56; omega)).1]; exact m1
  · rw [(d2 55 _ (by unfold P56; omega)).1]; exact r1 i hi
theorem wv_rg (hI : Inv μ) {t k : Nat} {fs : List Nat} (ht : t < 6) (hk : k < 5) (hr : fs.length ≤ 7) (ha : ∀ g ∈ fs, g < 8) : -200000000000 ≤ wv μ t fs k * 16 ^ (7 - fs.length) ∧ wv μ t fs k * 16 ^ (7 - fs.length) ≤ 200000000000 := by
  have h := wv_bd hI ht fs ha k
  have e : (16 : Int) ^ fs.length * 16 ^ (7 - fs.length) = 268435456 := by
    rw [← Int.pow_add, show fs.length + (7 - fs.length) = 7 by omega]
    rfl
  have hp : (0 : Int) ≤ 16 ^ (7 - fs.length) := Int.pow_nonneg (by decide)
  have h1 := Int.mul_le_mul_of_nonneg_right h.1 hp
  have h2 := Int.mul_le_mul_of_nonneg_right h.2 hp
  have e2 : ∀ z : Int, (99 * (z * 16 ^ fs.length)) * 16 ^ (7 - fs.length) = 99 * (z * 268435456) := fun z => by rw [Int.mul_assoc, Int.mul_assoc, e]
  rw [Int.neg_mul, e2] at h1
  rw [e2] at h2
  omega
theorem un_sc {x : Int} {n : Nat} (h : -200000000000 ≤ x * 16 ^ n ∧ x * 16 ^ n ≤ 200000000000) : -200000000000 ≤ x ∧ x ≤ 200000000000 := by
  have hp : (1 : Int) ≤ 16 ^ n := Int.pow_pos (by decide)
  generalize (16 : Int) ^ n = p at h hp
  constructor
  · rcases Int.le_total 0 x with hx | hx
    · omega
    · have := Int.mul_le_mul_of_nonpos_left hx hp
      omega
  · rcases Int.le_total 0 x with hx | hx
    · have := Int.mul_le_mul_of_nonneg_left hp hx
      omega
    · omega
theorem row_in (hB : Base σ μ) (hI : Inv μ) : ∃ N, N ≤ 7 ∧ N = (rowL μ).length ∧ σ.1 0 10 = nI N ∧ μ.1 40 19 = nI N := ⟨_, (rowL_len hI).1, rfl, (rowL_K hB hI).2, (rowL_len hI).2.symm⟩
theorem wi_nI {v : Int32} {N : Nat} (hN : N < 2 ^ 31) (h : ¬ wi v 0 (nI N) = 0) : ∃ j : Nat, j ≤ N ∧ v = nI j := wi_of (nI_toInt hN) h
theorem wi_nI1 {v : Int32} {N : Nat} (hN : N < 2 ^ 31) (h : ¬ wi v 0 (nI N - 1) = 0) : ∃ j : Nat, j < N ∧ v = nI j := by
  rcases Nat.eq_zero_or_pos N with e | e
  · subst e
    have := wi_0 h
    rw [show (nI 0 - 1 : Int32).toInt = -1 from rfl, show (0 : Int32).toInt = 0 from rfl] at this
    omega
  · obtain ⟨M, rfl⟩ : ∃ M, N = M + 1 := ⟨N - 1, by omega⟩
    rw [nI_s1] at h
    obtain ⟨j, hj, ej⟩ := wi_nI (by omega) h
    exact ⟨j, by omega, ej⟩
theorem wi_nIf {v : Int32} {a b : Nat} (ha : a < 2 ^ 31) (hb : b < 2 ^ 31) (h : ¬ wi v (nI a) (nI b) = 0) : ∃ j : Nat, a ≤ j ∧ j ≤ b ∧ v = nI j := by
  have := wi_0 h
  rw [nI_toInt ha, nI_toInt hb] at this
  obtain ⟨j, hj, rfl⟩ := q_of (x := v) (n := b) (by omega) this.2
  rw [nI_toInt (by omega)] at this
  exact ⟨j, by omega, hj, rfl⟩
theorem h_ask (hCa : CaOk Ca) (a1 a2 a3 : Int32) (h : Rel Ca σ μ) : ∃ (r : Int32) (σ' μ' : pp_M), f_X8_ask σ a1 a2 a3 = some (r, σ') ∧ f_X9_ask μ a1 a2 a3 = some (r, μ') ∧ Rel Ca σ' μ' := by
  obtain ⟨N, hN7, hNe, hNK, hNM⟩ := row_in h.1 h.2.1
  unfold f_X8_ask f_X9_ask
  simp only [k_isThing, m_isThing, k_within, m_in, Option.bind_some, hNK, hNM]
  by_cases c1 : wi a1 0 5 = 0
  · simp only [if_pos c1]; exact ⟨_, _, _, rfl, rfl, h⟩
  by_cases c2 : wi a2 0 (nI N - 1) = 0
  · simp only [if_neg c1, if_pos c2]; exact ⟨_, _, _, rfl, rfl, h⟩
  by_cases c3 : wi a3 1 4 = 0
  · simp only [if_neg c1, if_neg c2, if_pos c3]; exact ⟨_, _, _, rfl, rfl, h⟩
  simp only [if_neg c1, if_neg c2, if_neg c3]
  obtain ⟨t, ht, rfl⟩ := wi_of (n := 5) rfl c1
  obtain ⟨i, hi, rfl⟩ := wi_nI1 (by omega) c2
  obtain ⟨k', hk0, hk1, rfl⟩ := wi_nIf (a := 1) (b := 4) (by omega) (by omega) c3
  obtain ⟨k, rfl⟩ : ∃ k, k' = k + 1 := ⟨k' - 1, by omega⟩
  obtain ⟨σ', g1, g2, g3⟩ := k_along h.1 h.2.1
  obtain ⟨ν, d1, d2, d3, d4, d5⟩ := m_looks h.2.1
  rw [hNK] at g1
  have i1 : pp_ix (nI i) 7 := q_ix (by omega) (by omega)
  have e1 : (5 : Int32) * ((8 : Int32) * nI t + nI i) + nI (k + 1) = nI (5 * (8 * t + i) + (k + 1)) := by rw [c5I, c8I, pk_mul, nI_add, pk_mul, nI_add]
  have i2 : pp_ix (nI (5 * (8 * t + i) + (k + 1))) 240 := q_ix (by omega) (by omega)
  have s1 : σ'.1 0 10 = nI N := by rw [(g2 0 10 (by unfold P23; omega)).1]; exact hNK
  have s2 : σ'.1 34 i = nI ((rowL μ).getD i 0) := by
    rw [(g2 34 i (by unfold P23; omega)).1]
    have := (rowL_K h.1 h.2.1).1 i (by omega)
    rw [Nat.zero_add] at this
    exact this
  have hl : ((rowL μ).drop (i + 1)).length = N - (i + 1) := by rw [List.length_drop]; omega
  have hw := g3 (N - (i + 1)) (by omega)
  rw [show (rowL μ).length - (N - (i + 1)) = i + 1 by omega] at hw
  have kb := k_bestLevel (base_23 h.1 g2) h.2.1 (f := (rowL μ).getD i 0) (t := t) (k := k) (fs := (rowL μ).drop (i + 1)) (rowL_at h.2.1 (by omega)).2.2 (by omega) (by omega) (by omega) (fun g hg => rowL_mem h.2.1 g (List.mem_of_mem_drop hg)) hw
  rw [hl, show N - (i + 1) + 1 = N - i by omega, ← drop_cons (by omega)] at kb
  have hv := (d5 t (by omega) i (by omega) (k + 1) (by omega)).2 (by omega) (by omega)
  simp only [g1, d1, Option.bind_some, if_pos i1, (q_cl (k := i) (by omega)), s1, s2, pk_sub (show i ≤ N by omega), kb, f_X9_spot, e1, if_pos i2, (q_cl (k := 5 * (8 * t + i) + (k + 1)) (by omega)), hv]
  exact ⟨_, _, _, rfl, rfl, rel_scratch hCa h (P23_sK g2) (Lk_sM d2)⟩
theorem h_value (hCa : CaOk Ca) (a1 a2 a3 a4 : Int32) (h : Rel Ca σ μ) : ∃ (r : Int64) (σ' μ' : pp_M), f_X8_value σ a1 a2 a3 a4 = some (r, σ') ∧ f_X9_value μ a1 a2 a3 a4 = some (r, μ') ∧ Rel Ca σ' μ' := by
  obtain ⟨N, hN7, hNe, hNK, hNM⟩ := row_in h.1 h.2.1
  unfold f_X8_value f_X9_value
  simp only [k_isThing, m_isThing, k_within, m_in, k_isNumber, k_isTerm, Option.bind_some, hNK, hNM, f_X8_value_34, f_X9_value_38, f_X8_refusal, f_X9_no]
  by_cases c1 : wi a1 0 5 = 0
  · simp only [if_pos c1]; exact ⟨_, _, _, rfl, rfl, h⟩
  by_cases c2 : wi a2 0 (nI N) = 0
  · simp only [if_neg c1, if_pos c2]; exact ⟨_, _, _, rfl, rfl, h⟩
  by_cases c3 : wi a3 0 4 = 0
  · simp only [if_neg c1, if_neg c2, if_pos c3]; exact ⟨_, _, _, rfl, rfl, h⟩
  by_cases c4 : wi a4 0 1 = 0
  · simp only [if_neg c1, if_neg c2, if_neg c3, if_pos c4]; exact ⟨_, _, _, rfl, rfl, h⟩
  simp only [if_neg c1, if_neg c2, if_neg c3, if_neg c4]
  obtain ⟨t, ht, rfl⟩ := wi_of (n := 5) rfl c1
  obtain ⟨i, hi, rfl⟩ := wi_nI (by omega) c2
  obtain ⟨k, hk, rfl⟩ := wi_of (n := 4) rfl c3
  obtain ⟨σ', g1, g2, g3⟩ := k_along h.1 h.2.1
  obtain ⟨ν, d1, d2, d3, d4, d5⟩ := m_looks h.2.1
  rw [hNK] at g1
  have e1 : (5 : Int32) * ((8 : Int32) * nI t + nI i) + nI k = nI (5 * (8 * t + i) + k) := by rw [c5I, c8I, pk_mul, nI_add, pk_mul, nI_add]
  have e2 : nI t * (5 : Int32) + nI k = nI (t * 5 + k) := by rw [c5I, pk_mul, nI_add]
  have i1 : pp_ix (nI (N - i)) 8 := q_ix (by omega) (by omega)
  have i2 : pp_ix (nI (5 * (8 * t + i) + k)) 240 := q_ix (by omega) (by omega)
  have i3 : pp_ix (nI (t * 5 + k)) 30 := q_ix (by omega) (by omega)
  have s1 : σ'.1 0 10 = nI N := by rw [(g2 0 10 (by unfold P23; omega)).1]; exact hNK
  have s2 : ν.1 40 19 = nI N := by rw [(d2 40 19 (by unfold Lk; omega)).1]; exact hNM
  have hl : ((rowL μ).drop i).length = N - i := by rw [List.length_drop]; omega
  have hw := g3 (N - i) (by omega) t (by omega) k (by omega)
  rw [show (rowL μ).length - (N - i) = i by omega, hl] at hw
  have hv := (d5 t (by omega) i (by omega) k (by omega)).1
  have rg := wv_rg h.2.1 (t := t) (k := k) (fs := (rowL μ).drop i) (by omega) (by omega) (by omega) (fun g hg => rowL_mem h.2.1 g (List.mem_of_mem_drop hg))
  rw [hl] at rg
  have rg2 := un_sc rg
  simp only [g1, d1, Option.bind_some, s1, pk_sub (show i ≤ N by omega), if_pos i1, (q_cl (k := N - i) (by omega)), e2, if_pos i3, (q_cl (k := t * 5 + k) (by omega)), hw, f_X9_spot, e1, if_pos i2, (q_cl (k := 5 * (8 * t + i) + k) (by omega)), hv, s2]
  rw [k_termU a4 (by omega) (by omega) (by omega), m_sixteen (by omega)]
  simp only [Option.bind_some]
  rw [m_lowU a4 (by omega) (by omega) (by omega)]
  exact ⟨_, _, _, rfl, rfl, rel_scratch hCa h (P23_sK g2) (Lk_sM d2)⟩
theorem h_trust (hCa : CaOk Ca) (a1 a2 a3 a4 a5 : Int32) (h : Rel Ca σ μ) : ∃ (r : Int32) (σ' μ' : pp_M), f_X8_trust σ a1 a2 a3 a4 a5 = some (r, σ') ∧ f_X9_trust μ a1 a2 a3 a4 a5 = some (r, μ') ∧ Rel Ca σ' μ' := by
  obtain ⟨N, hN7, hNe, hNK, hNM⟩ := row_in h.1 h.2.1
  unfold f_X8_trust f_X9_trust
  simp only [k_isThing, m_isThing, k_within, m_in, k_isLevel, Option.bind_some, hNK, hNM]
  by_cases c1 : wi a1 0 5 = 0
  · simp only [if_pos c1]; exact ⟨_, _, _, rfl, rfl, h⟩
  by_cases c2 : wi a2 0 (nI N - 1) = 0
  · simp only [if_neg c1, if_pos c2]; exact ⟨_, _, _, rfl, rfl, h⟩
  by_cases c3 : wi a3 1 4 = 0
  · simp only [if_neg c1, if_neg c2, if_pos c3]; exact ⟨_, _, _, rfl, rfl, h⟩
  by_cases c4 : wi a4 0 2 = 0
  · simp only [if_neg c1, if_neg c2, if_neg c3, if_pos c4]; exact ⟨_, _, _, rfl, rfl, h⟩
  by_cases c5 : wi a5 0 16 = 0
  · simp only [if_neg c1, if_neg c2, if_neg c3, if_neg c4, if_pos c5]; exact ⟨_, _, _, rfl, rfl, h⟩
  simp only [if_neg c1, if_neg c2, if_neg c3, if_neg c4, if_neg c5]
  obtain ⟨t, ht, rfl⟩ := wi_of (n := 5) rfl c1
  obtain ⟨i, hi, rfl⟩ := wi_nI1 (by omega) c2
  obtain ⟨k', hk0, hk1, rfl⟩ := wi_nIf (a := 1) (b := 4) (by omega) (by omega) c3
  obtain ⟨k, rfl⟩ : ∃ k, k' = k + 1 := ⟨k' - 1, by omega⟩
  obtain ⟨l, hlv, rfl⟩ := wi_of (n := 2) rfl c4
  obtain ⟨q, hq, rfl⟩ := wi_of (n := 16) rfl c5
  obtain ⟨σ', g1, g2, g3⟩ := k_along h.1 h.2.1
  obtain ⟨ν, d1, d2, d3, d4, d5⟩ := m_looks h.2.1
  rw [hNK] at g1
  have e1 : (5 : Int32) * ((8 : Int32) * nI t + nI i) + nI (k + 1) = nI (5 * (8 * t + i) + (k + 1)) := by rw [c5I, c8I, pk_mul, nI_add, pk_mul, nI_add]
  have e1' : (5 : Int32) * ((8 : Int32) * nI t + nI (i + 1)) + nI k = nI (5 * (8 * t + (i + 1)) + k) := by rw [c5I, c8I, pk_mul, nI_add, pk_mul, nI_add]
  have e2 : nI t * (5 : Int32) + nI (k + 1) = nI (t * 5 + (k + 1)) := by rw [c5I, pk_mul, nI_add]
  have e2' : nI (t * 5 + (k + 1)) - (1 : Int32) = nI (t * 5 + k) := nI_s1 _
  have e3 : (3 : Int32) + nI l = nI (3 + l) := by rw [c3I, nI_add]
  have e4 : (3 : Int32) * nI t + nI l = nI (3 * t + l) := by rw [c3I, pk_mul, nI_add]
  obtain ⟨M, hM⟩ : ∃ M, N - i = M + 1 := ⟨N - i - 1, by omega⟩
  have sb : nI N - (1 : Int32) - nI i = nI M := by rw [c1I, pk_sub (by omega), pk_sub (by omega)]; exact congrArg nI (by omega)
  have i0 : pp_ix (nI t) 6 := q_ix (by omega) (by omega)
  have i1 : pp_ix (nI (M + 1)) 8 := q_ix (by omega) (by omega)
  have i1' : pp_ix (nI M) 8 := q_ix (by omega) (by omega)
  have i2 : pp_ix (nI (5 * (8 * t + i) + (k + 1))) 240 := q_ix (by omega) (by omega)
  have i2' : pp_ix (nI (5 * (8 * t + (i + 1)) + k)) 240 := q_ix (by omega) (by omega)
  have i3 : pp_ix (nI (t * 5 + (k + 1))) 30 := q_ix (by omega) (by omega)
  have i3' : pp_ix (nI (t * 5 + k)) 30 := q_ix (by omega) (by omega)
  have i4 : pp_ix (nI (3 + l)) 6 := q_ix (by omega) (by omega)
  have i5 : pp_ix (nI (3 * t + l)) 18 := q_ix (by omega) (by omega)
  have s1 : σ'.1 0 10 = nI N := by rw [(g2 0 10 (by unfold P23; omega)).1]; exact hNK
  have s2 : ν.1 40 19 = nI N := by rw [(d2 40 19 (by unfold Lk; omega)).1]; exact hNM
  have s3 : σ'.1 3 (t * 6 + (3 + l)) = μ.1 44 (3 * t + l) := by rw [(g2 3 _ (by unfold P23; omega)).1]; exact h.1.2.1 t (by omega) l (by omega)
  have s4 : ν.1 44 (3 * t + l) = μ.1 44 (3 * t + l) := (d2 44 _ (by unfold Lk; omega)).1
  have hl : ((rowL μ).drop i).length = M + 1 := by rw [List.length_drop]; omega
  have hl' : ((rowL μ).drop (i + 1)).length = M := by rw [List.length_drop]; omega
  have hw := g3 (M + 1) (by omega) t (by omega) (k + 1) (by omega)
  rw [show (rowL μ).length - (M + 1) = i by omega, hl] at hw
  have hw' := g3 M (by omega) t (by omega) k (by omega)
  rw [show (rowL μ).length - M = i + 1 by omega, hl'] at hw'
  have hv := (d5 t (by omega) i (by omega) (k + 1) (by omega)).1
  have hv' := (d5 t (by omega) (i + 1) (by omega) k (by omega)).1
  have hp := h.2.1.2.1 (3 * t + l) (by omega)
  obtain ⟨p, hp2, ep⟩ := q_of (x := μ.1 44 (3 * t + l)) (n := 99) hp.1 hp.2
  have hqp : q * p ≤ 16 * 99 := Nat.mul_le_mul hq hp2
  have hM6 : M ≤ 6 := by omega
  have hM7 : M ≤ 7 := by omega
  have hiN : i ≤ N := by omega
  simp only [g1, d1, Option.bind_some, s1, s2, sb, pk_sub (show i ≤ N by omega), hM, nI_s1, if_pos i0, (q_cl (k := t) (by omega)), e3, if_pos i4, (q_cl (k := 3 + l) (by omega)), if_pos i1, (q_cl (k := M + 1) (by omega)), if_pos i1', (q_cl (k := M) (by omega)), e2, e2', if_pos i3, (q_cl (k := t * 5 + (k + 1)) (by omega)), if_pos i3', (q_cl (k := t * 5 + k) (by omega)), s3, hw, hw', e4, if_pos i5, (q_cl (k := 3 * t + l) (by omega)), m_sixteen (show M ≤ 7 by omega), f_X9_spot, nI_1, e1, e1', if_pos i2, (q_cl (k := 5 * (8 * t + i) + (k + 1)) (by omega)), if_pos i2', (q_cl (k := 5 * (8 * t + (i + 1)) + k) (by omega)), hv, hv', s4, ep, pk_mul]
  have rg := wv_rg h.2.1 (t := t) (k := k + 1) (fs := (rowL μ).drop i) (by omega) (by omega) (by omega) (fun g hg => rowL_mem h.2.1 g (List.mem_of_mem_drop hg))
  have rg' := wv_rg h.2.1 (t := t) (k := k) (fs := (rowL μ).drop (i + 1)) (by omega) (by omega) (by omega) (fun g hg => rowL_mem h.2.1 g (List.mem_of_mem_drop hg))
  rw [hl] at rg
  rw [hl'] at rg'
  have rel : Rel Ca σ' ν := rel_scratch hCa h (P23_sK g2) (Lk_sM d2)
  have e7 : 7 - (M + 1) = 6 - M := by clear rg rg'; omega
  have hq2 : q < 2 ^ 31 := by clear rg rg'; omega
  have hp3 : p < 2 ^ 31 := by clear rg rg'; omega
  have hqp3 : q * p < 2 ^ 31 := by clear rg rg'; omega
  rw [e7] at rg ⊢
  have hps : (0 : Int) < 16 ^ (6 - M) := Int.pow_pos (by decide)
  have ra := un_sc rg
  clear hw hw' hv hv' g1 d1 g3 d5 hl hl'
  generalize wv μ t ((rowL μ).drop i) (k + 1) = x at rg ra ⊢
  generalize wv μ t ((rowL μ).drop (i + 1)) k = v at rg' ⊢
  rw [lI_nI hqp3, lI_nI hq2, lI_nI hp3, show (16777216 : Int64) = lI 16777216 from rfl, show (16 : Int64) = lI 16 from rfl, lI_mul, lI_add, lI_mul, lI_mul, lI_mul, lI_add]
  have ek : ((q * p : Nat) : Int) * 16777216 + v * 16 ^ (7 - M) = ((q : Int) * ((p : Int) * 16 ^ M) + 16 * v) * 16 ^ (6 - M) := by
    have e6 : (16777216 : Int) = 16 ^ M * 16 ^ (6 - M) := by
      rw [← Int.pow_add, show M + (6 - M) = 6 by clear rg rg' ra; omega]
      rfl
    rw [e6, s16 hM6, Int.add_mul, Int.natCast_mul]
    generalize (16 : Int) ^ (6 - M) = S
    generalize (16 : Int) ^ M = u
    rw [Int.mul_assoc, Int.mul_assoc, Int.mul_assoc, Int.mul_comm 16 v, Int.mul_assoc]
  rw [ek]
  have rg2 : -200000000000 ≤ ((q : Int) * ((p : Int) * 16 ^ M) + 16 * v) * 16 ^ (6 - M) ∧ ((q : Int) * ((p : Int) * 16 ^ M) + 16 * v) * 16 ^ (6 - M) ≤ 230000000000 := by
    rw [← ek]
    generalize v * 16 ^ (7 - M) = vv at rg' ⊢
    omega
  have hps1 : (1 : Int) ≤ 16 ^ (6 - M) := hps
  generalize ((q : Int) * ((p : Int) * 16 ^ M) + 16 * v) = y at rg2 ⊢
  generalize (16 : Int) ^ (6 - M) = S at rg rg2 hps hps1 ⊢
  clear hqp hqp3 ek rg'
  have ry : -230000000000 ≤ y ∧ y ≤ 230000000000 := by
    constructor
    · rcases Int.le_total 0 y with hx | hx
      · omega
      · have := Int.mul_le_mul_of_nonpos_left hx hps1
        omega
    · rcases Int.le_total 0 y with hx | hx
      · have := Int.mul_le_mul_of_nonneg_left hps1 hx
        omega
      · omega
  by_cases c : x < y
  · rw [if_pos ((lI_lt (by omega) (by omega) (by omega) (by omega)).mpr (Int.mul_lt_mul_of_pos_right c hps)), if_pos ((lI_lt (by omega) (by omega) (by omega) (by omega)).mpr c)]
    exact ⟨_, _, _, rfl, rfl, rel⟩
  · rw [if_neg (fun q => c (Int.lt_of_mul_lt_mul_right ((lI_lt (by omega) (by omega) (by omega) (by omega)).mp q) (Int.le_of_lt hps))), if_neg (fun q => c ((lI_lt (by omega) (by omega) (by omega) (by omega)).mp q))]
    exact ⟨_, _, _, rfl, rfl, rel⟩
end ASKS
