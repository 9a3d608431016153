/-! the values along a row in the reference -/
section WORTH
variable {Ca : pp_M → pp_M → Prop} {σ μ ν : pp_M}
theorem ch_fr (h : fr sM μ ν) : chI ν = chI μ := by
  funext f t l
  unfold chI
  rw [(h 48 t (by unfold sM; omega)).1, (h 47 _ (by unfold sM; omega)).1]
theorem pr_fr (h : fr sM μ ν) : prI ν = prI μ := by
  funext t l
  unfold prI
  rw [(h 44 _ (by unfold sM; omega)).1]
theorem cs_fr (h : fr sM μ ν) : csI ν = csI μ := by
  funext t
  unfold csI
  rw [(h 41 t (by unfold sM; omega)).1, (h 43 t (by unfold sM; omega)).1]
theorem av_fr (h : fr sM μ ν) : avI ν = avI μ := by
  funext W n f t k l
  unfold avI
  rw [ch_fr h, pr_fr h]
theorem wv_fr (h : fr sM μ ν) (t : Nat) : ∀ (fs : List Nat) (k : Nat), wv ν t fs k = wv μ t fs k
  | [], k => by show (k : Int) * csI ν t = k * csI μ t; rw [cs_fr h]
  | f :: fs, 0 => rfl
  | f :: fs, k + 1 => by
    show (bestA (avI ν (wv ν t fs) fs.length f t (k + 1))).1 = (bestA (avI μ (wv μ t fs) fs.length f t (k + 1))).1
    rw [av_fr h, show wv ν t fs = wv μ t fs from funext (wv_fr h t fs)]
theorem m_sixteen {n : Nat} (h : n ≤ 7) : f_X9_sixteen μ (nI n) = some (lI (16 ^ n), μ) := by
  have : n = 0 ∨ n = 1 ∨ n = 2 ∨ n = 3 ∨ n = 4 ∨ n = 5 ∨ n = 6 ∨ n = 7 := by omega
  rcases this with rfl | rfl | rfl | rfl | rfl | rfl | rfl | rfl <;> rfl
def P56 (a b : Nat) (t i : Nat) : Prop := (t = 56 ∨ t = 57) ∧ a ≤ i ∧ i < b
theorem P56_sM {a b : Nat} {μ μ' : pp_M} (h : fr (P56 a b) μ μ') : fr sM μ μ' := fr_mono h (fun t i q => by unfold P56 at q; unfold sM; omega)
theorem av_rg7 (hI : Inv μ) {f t k l : Nat} {fs : List Nat} (hf : f < 8) (ht : t < 6) (hk : k < 4) (hr : fs.length ≤ 6) (ha : ∀ g ∈ fs, g < 8) : -200000000000 ≤ avI μ (wv μ t fs) fs.length f t (k + 1) l ∧ avI μ (wv μ t fs) fs.length f t (k + 1) l ≤ 200000000000 := by
  have h := av_rg (l := l) hI hf ht hk hr ha
  have hp : (1 : Int) ≤ 16 ^ (6 - fs.length) := Int.pow_pos (by decide)
  generalize avI μ (wv μ t fs) fs.length f t (k + 1) l = x at h ⊢
  generalize (16 : Int) ^ (6 - fs.length) = p at h hp
  constructor
  · rcases Int.le_total 0 x with hx | hx
    · omega
    · have := Int.mul_le_mul_of_nonpos_left hx hp
      omega
  · rcases Int.le_total 0 x with hx | hx
    · have := Int.mul_le_mul_of_nonneg_left hp hx
      omega
    · omega
theorem stA_lv {A : Nat → Int} {l b : Nat} (hl : l < 4) (hb : b < 4) : (stA A l (A b, b)).2 < 4 ∧ stA A l (A b, b) = (A (stA A l (A b, b)).2, (stA A l (A b, b)).2) := by
  unfold stA
  by_cases c : A l < (A b, b).1
  · rw [if_pos c]; exact ⟨hb, rfl⟩
  · rw [if_neg c]; exact ⟨hl, rfl⟩
theorem m_143 (k2 : pp_M → Int32 → Option pp_M) (k58 : pp_M → Int32 → Int32 → Option pp_M) (k89 : pp_M → Int32 → Int32 → Int64 → Int32 → Option pp_M) (hI : Inv μ) (hν : fr sM μ ν) {f t i k : Nat} {fs : List Nat} (hf : f < 8) (ht : t < 6) (hk : k < 4) (hr : fs.length ≤ 6) (ha : ∀ g ∈ fs, g < 8) (hi : i < 7) (hlk : ν.1 55 i = nI f) (n l : Nat) (hl : l < 3) (b : Nat) (hb : b < 4) :
    f_X9_laysWorth_143 k2 k58 k89 (n + 1) ν (nI t) (nI i) (lI (16 ^ fs.length)) (nI (k + 1)) (lI (wv μ t fs (k + 1))) (lI (wv μ t fs k)) (lI (avI μ (wv μ t fs) fs.length f t (k + 1) b)) (nI b) (nI l) = f_X9_laysWorth_143 k2 k58 k89 n ν (nI t) (nI i) (lI (16 ^ fs.length)) (nI (k + 1)) (lI (wv μ t fs (k + 1))) (lI (wv μ t fs k)) (lI (stA (avI μ (wv μ t fs) fs.length f t (k + 1)) l (avI μ (wv μ t fs) fs.length f t (k + 1) b, b)).1) (nI (stA (avI μ (wv μ t fs) fs.length f t (k + 1)) l (avI μ (wv μ t fs) fs.length f t (k + 1) b, b)).2) (nI l + (-1 : Int32)) := by
  show f_X9_laysWorth_143_B k2 k58 k89 (f_X9_laysWorth_143 k2 k58 k89 n) _ _ _ _ _ _ _ _ _ _ = _
  unfold f_X9_laysWorth_143_B f_X9_laysWorth_212
  have i1 : pp_ix (nI i) 7 := q_ix (by omega) (by omega)
  have j1 : (nI i).toNatClampNeg = i := q_cl (by omega)
  have e1 : (3 : Int32) * nI t + nI l = nI (3 * t + l) := by rw [c3I, pk_mul, nI_add]
  have i2 : pp_ix (nI (3 * t + l)) 18 := q_ix (by omega) (by omega)
  have j2 : (nI (3 * t + l)).toNatClampNeg = 3 * t + l := q_cl (by omega)
  rw [if_neg (nI_nneg (by omega))]
  simp only [if_pos i1, j1, hlk]
  rw [m_chance (inv_fr hI hν) hf ht hl, ch_fr hν]
  have hc := ch_bd hI hf ht hl
  have x1 : (nI (chI μ f t l).toNat).toInt64 = lI (chI μ f t l) := by rw [lI_nI (by omega)]; congr 1; omega
  simp only [Option.bind_some, e1, if_pos i2, j2, x1]
  rw [lI_i2l, show (16 : Int64) = lI 16 from rfl, lI_mul, lI_add, lI_mul, lI_sub, lI_mul, lI_add]
  have ee : chI μ f t l * ((ν.1 44 (3 * t + l)).toInt * 16 ^ fs.length + wv μ t fs k) + (16 - chI μ f t l) * wv μ t fs (k + 1) = avI μ (wv μ t fs) fs.length f t (k + 1) l := by
    unfold avI
    rw [if_pos hl, Nat.add_sub_cancel, ← pr_fr hν]
    rfl
  rw [ee]
  unfold stA
  have r1 := av_rg7 (l := l) hI hf ht hk hr ha
  have r2 := av_rg7 (l := b) hI hf ht hk hr ha
  by_cases c : avI μ (wv μ t fs) fs.length f t (k + 1) l < avI μ (wv μ t fs) fs.length f t (k + 1) b
  · rw [if_pos ((lI_lt (by omega) (by omega) (by omega) (by omega)).mpr c), if_pos c]
  · rw [if_neg (fun q => c ((lI_lt (by omega) (by omega) (by omega) (by omega)).mp q)), if_neg c]
theorem m_143e (k2 : pp_M → Int32 → Option pp_M) (k58 : pp_M → Int32 → Int32 → Option pp_M) (k89 : pp_M → Int32 → Int32 → Int64 → Int32 → Option pp_M) (hI : Inv μ) (hν : fr sM μ ν) {f t i k : Nat} {fs : List Nat} (hf : f < 8) (ht : t < 6) (hk : k < 4) (hr : fs.length ≤ 6) (ha : ∀ g ∈ fs, g < 8) (hi : i < 7) (hlk : ν.1 55 i = nI f) (N : Nat) (hN : 3 < N) :
    f_X9_laysWorth_143 k2 k58 k89 N ν (nI t) (nI i) (lI (16 ^ fs.length)) (nI (k + 1)) (lI (wv μ t fs (k + 1))) (lI (wv μ t fs k)) ((16 : Int64) * lI (wv μ t fs (k + 1))) (3 : Int32) (2 : Int32) = k89 (ppS (ppT ν 56 (5 * (8 * t + i) + (k + 1)) (lI (wv μ t (f :: fs) (k + 1)))) 57 (5 * (8 * t + i) + (k + 1)) (nI (lv μ t (f :: fs) (k + 1)))) (nI t) (nI i) (lI (16 ^ fs.length)) (nI (k + 1 + 1)) := by
  have e3 : (16 : Int64) * lI (wv μ t fs (k + 1)) = lI (avI μ (wv μ t fs) fs.length f t (k + 1) 3) := by
    rw [show (16 : Int64) = lI 16 from rfl, lI_mul]
    unfold avI
    rw [if_neg (by omega)]
  have q1 := stA_lv (A := avI μ (wv μ t fs) fs.length f t (k + 1)) (l := 2) (b := 3) (by omega) (by omega)
  have q2 := stA_lv (A := avI μ (wv μ t fs) fs.length f t (k + 1)) (l := 1) (by omega) q1.1
  have q3 := stA_lv (A := avI μ (wv μ t fs) fs.length f t (k + 1)) (l := 0) (by omega) q2.1
  rw [e3]
  obtain ⟨n, rfl⟩ : ∃ n, N = n + 1 + 1 + 1 + 1 := ⟨N - 4, by omega⟩
  rw [show (3 : Int32) = nI 3 from rfl, show (2 : Int32) = nI 2 from rfl]
  rw [m_143 k2 k58 k89 hI hν hf ht hk hr ha hi hlk _ 2 (by omega) 3 (by omega), congrArg Prod.fst q1.2, show nI 2 + (-1 : Int32) = nI 1 from rfl]
  rw [m_143 k2 k58 k89 hI hν hf ht hk hr ha hi hlk _ 1 (by omega) _ q1.1, congrArg Prod.fst q2.2, show nI 1 + (-1 : Int32) = nI 0 from rfl]
  rw [m_143 k2 k58 k89 hI hν hf ht hk hr ha hi hlk _ 0 (by omega) _ q2.1]
  show f_X9_laysWorth_143_B k2 k58 k89 (f_X9_laysWorth_143 k2 k58 k89 n) _ _ _ _ _ _ _ _ _ _ = _
  unfold f_X9_laysWorth_143_B f_X9_spot
  have e1 : (5 : Int32) * ((8 : Int32) * nI t + nI i) + nI (k + 1) = nI (5 * (8 * t + i) + (k + 1)) := by rw [c5I, c8I, pk_mul, nI_add, pk_mul, nI_add]
  have i2 : pp_ix (nI (5 * (8 * t + i) + (k + 1))) 240 := q_ix (by omega) (by omega)
  have j2 : (nI (5 * (8 * t + i) + (k + 1))).toNatClampNeg = 5 * (8 * t + i) + (k + 1) := q_cl (by omega)
  rw [if_pos (show nI 0 + (-1 : Int32) < 0 by decide), ← q2.2, ← q1.2]
  simp only [Option.bind_some, e1, if_pos i2, j2, nI_1]
  rfl
theorem m_89 (k2 : pp_M → Int32 → Option pp_M) (k58 : pp_M → Int32 → Int32 → Option pp_M) (hI : Inv μ) {f t i : Nat} {fs : List Nat} (hf : f < 8) (ht : t < 6) (hr : fs.length ≤ 6) (ha : ∀ g ∈ fs, g < 8) (hi : i < 7) : ∀ (m b n : Nat) (ν : pp_M), b + m = 4 → m < n → fr sM μ ν → ν.1 55 i = nI f → (∀ j, j < 5 → ν.2 56 (5 * (8 * t + (i + 1)) + j) = lI (wv μ t fs j)) → ∃ ν', f_X9_laysWorth_89 k2 k58 n ν (nI t) (nI i) (lI (16 ^ fs.length)) (nI (b + 1)) = k58 ν' (nI t) (nI i + (-1 : Int32)) ∧ fr (P56 (5 * (8 * t + i) + (b + 1)) (5 * (8 * t + i) + 5)) ν ν' ∧ ∀ j, b + 1 ≤ j → j < 5 → ν'.2 56 (5 * (8 * t + i) + j) = lI (wv μ t (f :: fs) j) ∧ ν'.1 57 (5 * (8 * t + i) + j) = nI (lv μ t (f :: fs) j)
  | 0, b, n + 1, ν, hb, _, _, _, _ => by
    have : b = 4 := by omega
    subst this
    refine ⟨ν, ?_, fr_rf, fun j h1 h2 => by omega⟩
    show f_X9_laysWorth_89_B k2 k58 (f_X9_laysWorth_89 k2 k58 n) _ _ _ _ _ = _
    unfold f_X9_laysWorth_89_B
    rw [if_neg (show ¬ nI 5 < (5 : Int32) from q_nlt 5)]
  | m + 1, b, n + 1, ν, hb, hn, hν, hlk, hv => by
    have hfr : fr (P56 (5 * (8 * t + i) + (b + 1)) (5 * (8 * t + i) + 5)) ν (ppS (ppT ν 56 (5 * (8 * t + i) + (b + 1)) (lI (wv μ t (f :: fs) (b + 1)))) 57 (5 * (8 * t + i) + (b + 1)) (nI (lv μ t (f :: fs) (b + 1)))) := fr_tr (fr_T ⟨Or.inl rfl, by omega, by omega⟩) (fr_S ⟨Or.inr rfl, by omega, by omega⟩)
    obtain ⟨ν', g1, g2, g3⟩ := m_89 k2 k58 hI hf ht hr ha hi m (b + 1) n _ (by omega) (by omega) (fr_tr hν (P56_sM hfr)) (by rw [(hfr 55 i (by unfold P56; omega)).1]; exact hlk) (fun j hj => by rw [(hfr 56 _ (by unfold P56; omega)).2]; exact hv j hj)
    refine ⟨ν', ?_, fr_tr hfr (fr_mono g2 (fun x i q => by unfold P56 at q ⊢; omega)), fun j h1 h2 => ?_⟩
    · show f_X9_laysWorth_89_B k2 k58 (f_X9_laysWorth_89 k2 k58 n) _ _ _ _ _ = _
      unfold f_X9_laysWorth_89_B f_X9_spot
      have e1 : (5 : Int32) * ((8 : Int32) * nI t + nI (i + 1)) + nI (b + 1) = nI (5 * (8 * t + (i + 1)) + (b + 1)) := by rw [c5I, c8I, pk_mul, nI_add, pk_mul, nI_add]
      have e2 : (5 : Int32) * ((8 : Int32) * nI t + nI (i + 1)) + nI b = nI (5 * (8 * t + (i + 1)) + b) := by rw [c5I, c8I, pk_mul, nI_add, pk_mul, nI_add]
      have i1 : pp_ix (nI (5 * (8 * t + (i + 1)) + (b + 1))) 240 := q_ix (by omega) (by omega)
      have i2 : pp_ix (nI (5 * (8 * t + (i + 1)) + b)) 240 := q_ix (by omega) (by omega)
      have j1 : (nI (5 * (8 * t + (i + 1)) + (b + 1))).toNatClampNeg = 5 * (8 * t + (i + 1)) + (b + 1) := q_cl (by omega)
      have j2 : (nI (5 * (8 * t + (i + 1)) + b)).toNatClampNeg = 5 * (8 * t + (i + 1)) + b := q_cl (by omega)
      rw [if_pos (show nI (b + 1) < (5 : Int32) from nI_lt (b := 5) (by omega) (by omega))]
      simp only [Option.bind_some, nI_1, nI_s1, e1, e2, if_pos i1, if_pos i2, j1, j2, hv (b + 1) (by omega), hv b (by omega)]
      rw [m_143e k2 k58 (f_X9_laysWorth_89 k2 k58 n) hI hν hf ht (show b < 4 by omega) hr ha hi hlk 100000 (by omega)]
      exact g1
    · by_cases e : j = b + 1
      · subst e
        have := g2 56 (5 * (8 * t + i) + (b + 1)) (by unfold P56; omega)
        have h57 := g2 57 (5 * (8 * t + i) + (b + 1)) (by unfold P56; omega)
        refine ⟨this.2.trans ?_, h57.1.trans ?_⟩
        · rw [qs_2, qt_same]
        · rw [qs_same]
      · exact g3 j (by omega) h2
/-- what the reference's tables hold for thing t at place i of a row -/
def VS (μ : pp_M) (L : List Nat) (t i : Nat) (ν : pp_M) : Prop := ∀ k, k < 5 → ν.2 56 (5 * (8 * t + i) + k) = lI (wv μ t (L.drop i) k) ∧ (i < L.length → 1 ≤ k → ν.1 57 (5 * (8 * t + i) + k) = nI (lv μ t (L.drop i) k))
theorem VS_fr {a b t i : Nat} {L : List Nat} {ν ν' : pp_M} (h : VS μ L t i ν) (hf : fr (P56 a b) ν ν') (hd : 5 * (8 * t + i) + 5 ≤ a ∨ b ≤ 5 * (8 * t + i)) : VS μ L t i ν' := fun k hk => by
  rw [(hf 56 _ (by unfold P56; omega)).2, (hf 57 _ (by unfold P56; omega)).1]
  exact h k hk
theorem m_58 (k2 : pp_M → Int32 → Option pp_M) (hI : Inv μ) {t : Nat} {L : List Nat} (ht : t < 6) (hL : L.length ≤ 7) (ha : ∀ g ∈ L, g < 8) : ∀ (c n : Nat) (ν : pp_M), c ≤ L.length → c < n → fr sM μ ν → ν.1 40 22 = nI L.length → isRow (ν.1 55) 0 L → (∀ i, c ≤ i → i ≤ L.length → VS μ L t i ν) → ∃ ν', f_X9_laysWorth_58 k2 n ν (nI t) (nI c + (-1 : Int32)) = k2 ν' (nI (t + 1)) ∧ fr (P56 (40 * t) (40 * t + 5 * c)) ν ν' ∧ ∀ i, i ≤ L.length → VS μ L t i ν'
  | 0, n + 1, ν, _, _, hν, hm, hR, hv => by
    refine ⟨ν, ?_, fr_rf, fun i hi => hv i (by omega) hi⟩
    show f_X9_laysWorth_58_B k2 (f_X9_laysWorth_58 k2 n) _ _ _ = _
    unfold f_X9_laysWorth_58_B
    rw [if_pos (show nI 0 + (-1 : Int32) < 0 by decide), nI_1]
  | i + 1, n + 1, ν, hc, hn, hν, hm, hR, hv => by
    have hl : (L.drop (i + 1)).length = L.length - (i + 1) := List.length_drop
    have hlk : ν.1 55 i = nI (L.getD i 0) := by have := hR i (by omega); rw [Nat.zero_add] at this; exact this
    have e1 : (5 : Int32) * ((8 : Int32) * nI t + nI i) + (0 : Int32) = nI (5 * (8 * t + i)) := by rw [c5I, c8I, pk_mul, nI_add, pk_mul, Int32.add_zero]
    have i1 : pp_ix (nI (5 * (8 * t + i))) 240 := q_ix (by omega) (by omega)
    have j1 : (nI (5 * (8 * t + i))).toNatClampNeg = 5 * (8 * t + i) := q_cl (by omega)
    have hfr : fr (P56 (5 * (8 * t + i)) (5 * (8 * t + i) + 5)) ν (ppT ν 56 (5 * (8 * t + i)) 0) := fr_T ⟨Or.inl rfl, by omega, by omega⟩
    obtain ⟨ν1, g1, g2, g3⟩ := m_89 k2 (f_X9_laysWorth_58 k2 n) hI (f := L.getD i 0) (fs := L.drop (i + 1)) (ha _ (getD_mem (by omega))) ht (by omega) (fun g hg => ha g (List.mem_of_mem_drop hg)) (show i < 7 by omega) 4 0 100000 (ppT ν 56 (5 * (8 * t + i)) 0) (by omega) (by omega) (fr_tr hν (P56_sM hfr)) hlk (fun j hj => by
      rw [(hfr 56 _ (by unfold P56; omega)).2]
      exact (hv (i + 1) (by omega) (by omega) j hj).1)
    rw [← drop_cons (show i < L.length by omega)] at g3
    have hfr1 : fr (P56 (5 * (8 * t + i)) (5 * (8 * t + i) + 5)) ν ν1 := fr_tr hfr (fr_mono g2 (fun x i q => by unfold P56 at q ⊢; omega))
    obtain ⟨ν', d1, d2, d3⟩ := m_58 k2 hI ht hL ha i n ν1 (by omega) (by omega) (fr_tr hν (P56_sM hfr1)) (by rw [(hfr1 40 22 (by unfold P56; omega)).1]; exact hm) (fun j hj => by rw [(hfr1 55 _ (by unfold P56; omega)).1]; exact hR j hj) (fun j h1 h2 => by
      by_cases e : j = i
      · subst e
        intro k hk
        by_cases e0 : k = 0
        · subst e0
          refine ⟨?_, fun _ h => by omega⟩
          rw [(g2 56 _ (by unfold P56; omega)).2, Nat.add_zero, qt_same, drop_cons (show j < L.length by omega)]
          rfl
        · exact ⟨(g3 k (by omega) hk).1, fun _ _ => (g3 k (by omega) hk).2⟩
      · exact VS_fr (hv j (by omega) h2) hfr1 (by omega))
    refine ⟨ν', ?_, fr_tr (fr_mono hfr1 (fun x i q => by unfold P56 at q ⊢; omega)) (fr_mono d2 (fun x i q => by unfold P56 at q ⊢; omega)), d3⟩
    show f_X9_laysWorth_58_B k2 (f_X9_laysWorth_58 k2 n) _ _ _ = _
    unfold f_X9_laysWorth_58_B f_X9_spot
    rw [nI_m1, if_neg (nI_nneg (by omega)), hm, c1I, pk_sub (by omega), pk_sub (by omega), m_sixteen (by omega)]
    simp only [Option.bind_some, e1, if_pos i1, j1]
    rw [show L.length - 1 - i = (L.drop (i + 1)).length by omega]
    rw [show f_X9_laysWorth_89 k2 (f_X9_laysWorth_58 k2 n) 100000 (ppT ν 56 (5 * (8 * t + i)) 0) (nI t) (nI i) (lI (16 ^ (L.drop (i + 1)).length)) (nI 1) = _ from g1]
    exact d1
theorem m_10 (k2 : pp_M → Int32 → Option pp_M) (hI : Inv μ) {t : Nat} {L : List Nat} (ht : t < 6) (hL : L.length ≤ 7) : ∀ (m b n : Nat) (ν : pp_M), b + m = 5 → m < n → fr sM μ ν → ν.1 40 22 = nI L.length → ∃ ν', f_X9_laysWorth_10 k2 n ν (nI t) (nI b) = f_X9_laysWorth_58 k2 100000 ν' (nI t) (nI L.length + (-1 : Int32)) ∧ fr (P56 (5 * (8 * t + L.length) + b) (5 * (8 * t + L.length) + 5)) ν ν' ∧ ∀ k, b ≤ k → k < 5 → ν'.2 56 (5 * (8 * t + L.length) + k) = lI (wv μ t [] k)
  | 0, b, n + 1, ν, hb, _, hν, hm => by
    have : b = 5 := by omega
    subst this
    refine ⟨ν, ?_, fr_rf, fun j h1 h2 => by omega⟩
    show f_X9_laysWorth_10_B k2 (f_X9_laysWorth_10 k2 n) _ _ _ = _
    unfold f_X9_laysWorth_10_B
    rw [if_neg (show ¬ nI 5 < (5 : Int32) from q_nlt 5), hm, Int32.sub_eq_add_neg]
  | m + 1, b, n + 1, ν, hb, hn, hν, hm => by
    have e1 : (5 : Int32) * ((8 : Int32) * nI t + nI L.length) + nI b = nI (5 * (8 * t + L.length) + b) := by rw [c5I, c8I, pk_mul, nI_add, pk_mul, nI_add]
    have i1 : pp_ix (nI (5 * (8 * t + L.length) + b)) 240 := q_ix (by omega) (by omega)
    have j1 : (nI (5 * (8 * t + L.length) + b)).toNatClampNeg = 5 * (8 * t + L.length) + b := q_cl (by omega)
    have i2 : pp_ix (nI t) 6 := q_ix (by omega) (by omega)
    have j2 : (nI t).toNatClampNeg = t := q_cl (by omega)
    have hb1 := (hI.1 t (by omega)).1
    have hb3 := (hI.1 t (by omega)).2.2
    unfold bd at hb1 hb3
    have ex : (nI b * (ν.1 41 t - ν.1 43 t)).toInt64 = lI (wv μ t [] b) := by
      rw [lI_i2l, (hν 41 t (by unfold sM; omega)).1, (hν 43 t (by unfold sM; omega)).1, Int32.toInt_mul, Int32.toInt_sub, nI_toInt (by omega)]
      have e2 : ((μ.1 41 t).toInt - (μ.1 43 t).toInt).bmod (2 ^ 32) = csI μ t := Int.bmod_eq_of_le (by omega) (by omega)
      rw [e2]
      have hcs : -99 ≤ csI μ t ∧ csI μ t ≤ 99 := by unfold csI; omega
      have : b = 0 ∨ b = 1 ∨ b = 2 ∨ b = 3 ∨ b = 4 := by omega
      congr 1
      show Int.bmod ((b : Int) * csI μ t) (2 ^ 32) = (b : Int) * csI μ t
      rcases this with rfl | rfl | rfl | rfl | rfl <;> exact Int.bmod_eq_of_le (by omega) (by omega)
    have hfr : fr (P56 (5 * (8 * t + L.length) + b) (5 * (8 * t + L.length) + 5)) ν (ppT ν 56 (5 * (8 * t + L.length) + b) (lI (wv μ t [] b))) := fr_T ⟨Or.inl rfl, by omega, by omega⟩
    obtain ⟨ν', g1, g2, g3⟩ := m_10 k2 hI ht hL m (b + 1) n _ (by omega) (by omega) (fr_tr hν (P56_sM hfr)) (by rw [(hfr 40 22 (by unfold P56; omega)).1]; exact hm)
    refine ⟨ν', ?_, fr_tr hfr (fr_mono g2 (fun x i q => by unfold P56 at q ⊢; omega)), fun j h1 h2 => ?_⟩
    · show f_X9_laysWorth_10_B k2 (f_X9_laysWorth_10 k2 n) _ _ _ = _
      unfold f_X9_laysWorth_10_B f_X9_spot
      rw [if_pos (show nI b < (5 : Int32) from nI_lt (b := 5) (by omega) (by omega)), hm]
      simp only [Option.bind_some, e1, if_pos i1, if_pos i2, j1, j2, nI_1, ex]
      exact g1
    · by_cases e : j = b
      · subst e
        rw [(g2 56 _ (by unfold P56; omega)).2, qt_same]
      · exact g3 j (by omega) h2
theorem m_lw2 (hI : Inv μ) {L : List Nat} (hL : L.length ≤ 7) (ha : ∀ g ∈ L, g < 8) : ∀ (m t n : Nat) (ν : pp_M), t + m = 6 → m < n → fr sM μ ν → ν.1 40 22 = nI L.length → isRow (ν.1 55) 0 L → ∃ ν', f_X9_laysWorth_2 n ν (nI t) = some ν' ∧ fr (P56 (40 * t) 240) ν ν' ∧ ∀ u, t ≤ u → u < 6 → ∀ i, i ≤ L.length → VS μ L u i ν'
  | 0, t, n + 1, ν, hb, _, hν, hm, hR => by
    have : t = 6 := by omega
    subst this
    refine ⟨ν, ?_, fr_rf, fun j h1 h2 => by omega⟩
    show f_X9_laysWorth_2_B (f_X9_laysWorth_2 n) _ _ = _
    unfold f_X9_laysWorth_2_B
    rw [if_neg (show ¬ nI 6 < (6 : Int32) from q_nlt 6)]
  | m + 1, t, n + 1, ν, hb, hn, hν, hm, hR => by
    obtain ⟨ν1, g1, g2, g3⟩ := m_10 (f_X9_laysWorth_2 n) hI (show t < 6 by omega) hL 5 0 100000 ν (by omega) (by omega) hν hm
    obtain ⟨ν2, d1, d2, d3⟩ := m_58 (f_X9_laysWorth_2 n) hI (show t < 6 by omega) hL ha L.length 100000 ν1 (by omega) (by omega) (fr_tr hν (P56_sM g2)) (by rw [(g2 40 22 (by unfold P56; omega)).1]; exact hm) (fun j hj => by rw [(g2 55 _ (by unfold P56; omega)).1]; exact hR j hj) (fun i h1 h2 k hk => by
      have : i = L.length := by omega
      subst this
      refine ⟨?_, fun h => by omega⟩
      rw [g3 k (by omega) hk, List.drop_length])
    have hfr : fr (P56 (40 * t) (40 * t + 40)) ν ν2 := fr_tr (fr_mono g2 (fun x i q => by unfold P56 at q ⊢; omega)) (fr_mono d2 (fun x i q => by unfold P56 at q ⊢; omega))
    obtain ⟨ν', e1, e2, e3⟩ := m_lw2 hI hL ha m (t + 1) n ν2 (by omega) (by omega) (fr_tr hν (P56_sM hfr)) (by rw [(hfr 40 22 (by unfold P56; omega)).1]; exact hm) (fun j hj => by rw [(hfr 55 _ (by unfold P56; omega)).1]; exact hR j hj)
    refine ⟨ν', ?_, fr_tr (fr_mono hfr (fun x i q => by unfold P56 at q ⊢; omega)) (fr_mono e2 (fun x i q => by unfold P56 at q ⊢; omega)), fun u h1 h2 i hi => ?_⟩
    · show f_X9_laysWorth_2_B (f_X9_laysWorth_2 n) _ _ = _
      unfold f_X9_laysWorth_2_B
      rw [if_pos (show nI t < (6 : Int32) from nI_lt (b := 6) (by omega) (by omega))]
      rw [show f_X9_laysWorth_10 (f_X9_laysWorth_2 n) 100000 ν (nI t) 0 = _ from g1, d1]
      exact e1
    · by_cases e : u = t
      · subst e
        exact VS_fr (d3 i hi) e2 (by omega)
      · exact e3 u (by omega) h2 i hi
theorem m_laysWorth (hI : Inv μ) {L : List Nat} (hL : L.length ≤ 7) (ha : ∀ g ∈ L, g < 8) (hm : μ.1 40 22 = nI L.length) (hR : isRow (μ.1 55) 0 L) : ∃ ν', f_X9_laysWorth μ = some ν' ∧ fr (P56 0 240) μ ν' ∧ ∀ u, u < 6 → ∀ i, i ≤ L.length → VS μ L u i ν' := by
  obtain ⟨ν', g1, g2, g3⟩ := m_lw2 hI hL ha 6 0 100000 μ (by omega) (by omega) fr_rf hm hR
  exact ⟨ν', g1, g2, fun u hu i hi => g3 u (by omega) hu i hi⟩
end WORTH
