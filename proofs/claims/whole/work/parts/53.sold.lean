/-! sold -/
section SOLD
variable {Ca : pp_M → pp_M → Prop} {σ μ ν : pp_M}
/-- one farm more -/
def sJ (c : Int) (k : Nat) (J : Nat → Int) (i : Nat) : Int := if k < i then 0 else J i * (if i = k then 16 else 16 - c) + (if 0 < i then J (i - 1) * c else 0)
def JJ (μ : pp_M) (t l k : Nat) (R : List Nat) : Nat → Nat → Int
  | 0 => fun i => if i = 0 then 1 else 0
  | m + 1 => sJ (chI μ (R.getD m 0) t l) k (JJ μ t l k R m)
theorem mul_rg {x y a b : Int} (hx : 0 ≤ x ∧ x ≤ a) (hy : 0 ≤ y ∧ y ≤ b) (ha : 0 ≤ a) : 0 ≤ x * y ∧ x * y ≤ a * b := ⟨Int.mul_nonneg hx.1 hy.1, Int.mul_le_mul hx.2 hy.2 hy.1 ha⟩
theorem JJ_bd (hI : Inv μ) {t l k : Nat} {R : List Nat} (ht : t < 6) (hl : l < 3) (hR : ∀ g ∈ R, g < 8) : ∀ m, m ≤ R.length → ∀ i, 0 ≤ JJ μ t l k R m i ∧ JJ μ t l k R m i ≤ 32 ^ m ∧ (k < i → JJ μ t l k R m i = 0)
  | 0, _, i => by
    show 0 ≤ (if i = 0 then (1 : Int) else 0) ∧ (if i = 0 then (1 : Int) else 0) ≤ 1 ∧ (k < i → (if i = 0 then (1 : Int) else 0) = 0)
    by_cases c : i = 0
    · rw [if_pos c]; exact ⟨by decide, by decide, fun h => by omega⟩
    · rw [if_neg c]; exact ⟨by decide, by decide, fun _ => rfl⟩
  | m + 1, hm, i => by
    have ih := JJ_bd hI (k := k) ht hl hR m (by omega)
    have hc := ch_bd hI (hR _ (getD_mem (show m < R.length by omega))) ht hl
    have hp : (0 : Int) ≤ 32 ^ m := Int.pow_nonneg (by decide)
    show 0 ≤ sJ (chI μ (R.getD m 0) t l) k (JJ μ t l k R m) i ∧ sJ (chI μ (R.getD m 0) t l) k (JJ μ t l k R m) i ≤ 32 ^ (m + 1) ∧ (k < i → sJ (chI μ (R.getD m 0) t l) k (JJ μ t l k R m) i = 0)
    generalize chI μ (R.getD m 0) t l = c at hc
    unfold sJ
    rw [Int.pow_succ]
    by_cases c1 : k < i
    · rw [if_pos c1]
      exact ⟨by decide, by omega, fun _ => rfl⟩
    · rw [if_neg c1]
      have s1 : 0 ≤ (if i = k then (16 : Int) else 16 - c) ∧ (if i = k then (16 : Int) else 16 - c) ≤ 16 := by split <;> omega
      have m1 := mul_rg ⟨(ih i).1, (ih i).2.1⟩ s1 hp
      have m2 := mul_rg ⟨(ih (i - 1)).1, (ih (i - 1)).2.1⟩ hc hp
      generalize JJ μ t l k R m i * (if i = k then (16 : Int) else 16 - c) = x at m1
      generalize JJ μ t l k R m (i - 1) * c = y at m2
      generalize (32 : Int) ^ m = p at m1 m2 hp
      refine ⟨?_, ?_, fun h => absurd h c1⟩
      · split <;> omega
      · split <;> omega
def P24 (t i : Nat) : Prop := t = 24
theorem P24_sK {σ σ' : pp_M} (h : fr P24 σ σ') : fr sK σ σ' := fr_mono h (fun t i q => by unfold P24 at q; unfold sK; omega)
theorem k_se66 (k37 : pp_M → Int32 → Int32 → Int32 → Nat → Nat → Nat → Int32 → Int32 → Option pp_M) {a1 a3 a5 : Int32} {tk o nn k m : Nat} {c P : Int} {J : Nat → Int} (hk : k ≤ 4) (hc : 0 ≤ c ∧ c ≤ 16) (hJ : ∀ i, 0 ≤ J i ∧ J i * P ≤ 40000000000) (hP : 0 ≤ P) : ∀ b n σ, b ≤ k → b < n → (∀ i, b < i → i < 5 → σ.2 24 i = lI (sJ c k J i * P)) → σ.2 24 b = lI (J b * (if b = k then 16 else 16 - c) * P) → (∀ i, i < b → σ.2 24 i = lI (J i * (16 * P))) → ∃ σ', f_X0_sell_66 k37 n σ a1 (nI k) a3 tk o nn a5 (nI m) (lI c) (nI b + (-1 : Int32)) = k37 σ' a1 (nI k) a3 tk o nn a5 (nI (m + 1)) ∧ fr P24 σ σ' ∧ ∀ i, i < 5 → σ'.2 24 i = lI (sJ c k J i * P) := by
  intro b
  induction b with
  | zero =>
    intro n σ hb hn h1 h2 h3
    obtain ⟨n, rfl⟩ : ∃ n', n = n' + 1 := ⟨n - 1, by omega⟩
    refine ⟨σ, ?_, fr_rf, fun i hi => ?_⟩
    · show f_X0_sell_66_B k37 (f_X0_sell_66 k37 n) _ _ _ _ _ _ _ _ _ _ _ = _
      unfold f_X0_sell_66_B
      rw [if_pos (show nI 0 + (-1 : Int32) < 0 by decide), nI_1]
    · cases i with
      | zero =>
        rw [h2]
        unfold sJ
        rw [if_neg (show ¬ k < 0 by omega), if_neg (show ¬ 0 < 0 by omega), Int.add_zero]
      | succ i => exact h1 (i + 1) (by omega) hi
  | succ j ih =>
    intro n σ hb hn h1 h2 h3
    obtain ⟨n, rfl⟩ : ∃ n', n = n' + 1 := ⟨n - 1, by omega⟩
    have hjk : j < k := by omega
    have hJj := hJ j
    have hjp : 0 ≤ J j * P := Int.mul_nonneg hJj.1 hP
    have hjc := mul_rg (x := J j * P) (y := c) (a := 40000000000) (b := 16) ⟨hjp, hJj.2⟩ hc (by decide)
    have ebuy : (lI (J j * (16 * P)) * lI c) / (16 : Int64) = lI (J j * c * P) := by
      rw [lI_mul, show J j * (16 * P) * c = 16 * (J j * P * c) by
        rw [Int.mul_comm 16 P, ← Int.mul_assoc, Int.mul_assoc (J j * P) 16 c, Int.mul_comm 16 c, ← Int.mul_assoc, Int.mul_comm _ 16], lI_div16 (by omega) (by omega), Int.mul_assoc (J j) P c, Int.mul_comm P c, ← Int.mul_assoc]
    have e1 : nI j + (1 : Int32) = nI (j + 1) := nI_1 j
    have i1 : pp_ix (nI j) 5 := q_ix (by omega) (by omega)
    have i2 : pp_ix (nI (j + 1)) 5 := q_ix (by omega) (by omega)
    have v1 : σ.2 24 (j + 1) + lI (J j * c * P) = lI (sJ c k J (j + 1) * P) := by
      rw [h2, lI_add]
      congr 1
      unfold sJ
      rw [if_neg (show ¬ k < j + 1 by omega), if_pos (show 0 < j + 1 by omega), Nat.add_sub_cancel, Int.add_mul]
    have v2 : lI (J j * (16 * P)) - lI (J j * c * P) = lI (J j * (if j = k then 16 else 16 - c) * P) := by
      rw [lI_sub, if_neg (show ¬ j = k by omega)]
      congr 1
      rw [Int.mul_sub, Int.sub_mul, Int.mul_assoc (J j) 16 P]
    obtain ⟨σ', g1, g2, g3⟩ := ih n (ppT (ppT σ 24 (j + 1) (lI (sJ c k J (j + 1) * P))) 24 j (lI (J j * (if j = k then 16 else 16 - c) * P))) (by omega) (by omega) (fun i hi hi5 => by
      rw [qt_ne (by omega)]
      by_cases e : i = j + 1
      · rw [e, qt_same]
      · rw [qt_ne (by omega)]; exact h1 i (by omega) hi5) (by rw [qt_same]) (fun i hi => by
      rw [qt_ne (by omega), qt_ne (by omega)]; exact h3 i (by omega))
    refine ⟨σ', ?_, fr_tr (fr_tr (fr_T rfl) (fr_T rfl)) g2, g3⟩
    show f_X0_sell_66_B k37 (f_X0_sell_66 k37 n) _ _ _ _ _ _ _ _ _ _ _ = _
    unfold f_X0_sell_66_B
    rw [nI_m1, if_neg (nI_nneg (by omega)), e1, if_pos i1, if_pos i2, q_cl (k := j) (by omega), q_cl (k := j + 1) (by omega), h3 j (by omega), ebuy, v1, qt_ne (show ¬ (24 = 24 ∧ j = j + 1) by omega), h3 j (by omega), v2]
    exact g1
theorem k_se37 (hI : Inv μ) {t l k : Nat} {R : List Nat} {tk o nn : Nat} (htk : tk ≠ 24) (ht : t < 6) (hl : l < 3) (hk : k ≤ 4) (hR7 : R.length ≤ 7) (hnn : R.length ≤ nn) (hn2 : nn < 2 ^ 31) (hR : ∀ g ∈ R, g < 8) : ∀ d m n σ, m + d = R.length → d < n → Base σ μ → isRow (σ.1 tk) o R → (∀ i, i < 5 → σ.2 24 i = lI (JJ μ t l k R m i * 16 ^ (7 - m))) → ∃ σ', f_X0_sell_37 n σ (nI t) (nI k) (nI l) tk o nn (nI R.length) (nI m) = some σ' ∧ fr P24 σ σ' ∧ ∀ i, i < 5 → σ'.2 24 i = lI (JJ μ t l k R R.length i * 16 ^ (7 - R.length)) := by
  intro d
  induction d with
  | zero =>
    intro m n σ hm hn hB hrow hJ
    obtain ⟨n, rfl⟩ : ∃ n', n = n' + 1 := ⟨n - 1, by omega⟩
    have : m = R.length := by omega
    subst this
    refine ⟨σ, ?_, fr_rf, hJ⟩
    show f_X0_sell_37_B (f_X0_sell_37 n) _ _ _ _ _ _ _ _ _ = _
    unfold f_X0_sell_37_B
    rw [if_neg (q_nlt _)]
  | succ d ih =>
    intro m n σ hm hn hB hrow hJ
    obtain ⟨n, rfl⟩ : ∃ n', n = n' + 1 := ⟨n - 1, by omega⟩
    have hf8 : R.getD m 0 < 8 := hR _ (getD_mem (by omega))
    have hc := ch_bd hI hf8 ht hl
    have jb := JJ_bd hI (k := k) ht hl hR m (by omega)
    have s7 : (16 : Int) ^ (7 - m) = 16 * 16 ^ (6 - m) := s16 (by omega)
    have hP : (0 : Int) ≤ 16 ^ (6 - m) := Int.pow_nonneg (by decide)
    have hJP : ∀ i, JJ μ t l k R m i * 16 ^ (6 - m) ≤ 40000000000 := fun i => by
      have h1 := Int.mul_le_mul_of_nonneg_right (jb i).2.1 hP
      have h2 : (32 : Int) ^ m * 16 ^ (6 - m) ≤ 40000000000 := by
        have : m = 0 ∨ m = 1 ∨ m = 2 ∨ m = 3 ∨ m = 4 ∨ m = 5 ∨ m = 6 := by omega
        rcases this with rfl | rfl | rfl | rfl | rfl | rfl | rfl <;> decide
      exact Int.le_trans h1 h2
    obtain ⟨σ1, g1, g2, g3⟩ := k_se66 (f_X0_sell_37 n) (a1 := nI t) (a3 := nI l) (a5 := nI R.length) (tk := tk) (o := o) (nn := nn) (m := m) (J := JJ μ t l k R m) hk hc (fun i => ⟨(jb i).1, hJP i⟩) hP k 100000 σ (Nat.le_refl _) (by omega) (fun i h1 h2 => by
      rw [hJ i h2, (jb i).2.2 h1, Int.zero_mul]
      unfold sJ
      rw [if_pos h1, Int.zero_mul]) (by rw [hJ k (by omega), if_pos rfl, s7, Int.mul_assoc]) (fun i hi => by rw [hJ i (by omega), s7])
    obtain ⟨σ', d1, d2, d3⟩ := ih (m + 1) n σ1 (by omega) (by omega) (base_fr hB (P24_sK g2) fr_rf) (fun i hi => by rw [(g2 tk _ htk).1]; exact hrow i hi) (fun i hi => by
      rw [g3 i hi, show 7 - (m + 1) = 6 - m by omega]
      rfl)
    refine ⟨σ', ?_, fr_tr g2 d2, d3⟩
    show f_X0_sell_37_B (f_X0_sell_37 n) _ _ _ _ _ _ _ _ _ = _
    unfold f_X0_sell_37_B
    have i1 : pp_ix (nI m) nn := q_ix (by omega) hn2
    have x1 : (nI (chI μ (R.getD m 0) t l).toNat).toInt64 = lI (chI μ (R.getD m 0) t l) := by rw [lI_nI (by omega)]; exact congrArg lI (Int.toNat_of_nonneg hc.1)
    rw [if_pos (nI_lt (by omega) (by omega)), if_pos i1, q_cl (k := m) (by omega), hrow m (by omega), k_chance hB hI hf8 ht hl, Option.bind_some, x1, Int32.sub_eq_add_neg]
    rw [show f_X0_sell_66 (f_X0_sell_37 n) 100000 (nI (chI μ (R.getD m 0) t l).toNat, σ).2 (nI t) (nI k) (nI l) tk o nn (nI R.length) (nI m) (lI (chI μ (R.getD m 0) t l)) (nI k + -1) = _ from g1]
    exact d1
theorem k_se3 {a1 a2 a3 a5 : Int32} {tk o nn : Nat} : ∀ d i n σ, i + d = 5 → d < n → (∀ j, j < i → σ.2 24 j = lI (if j = 0 then 268435456 else 0)) → ∃ σ', f_X0_sell_3 n σ a1 a2 a3 tk o nn a5 (nI i) = f_X0_sell_37 100000 σ' a1 a2 a3 tk o nn a5 0 ∧ fr P24 σ σ' ∧ ∀ j, j < 5 → σ'.2 24 j = lI (if j = 0 then 268435456 else 0) := by
  intro d
  induction d with
  | zero =>
    intro i n σ hi hn h0
    obtain ⟨n, rfl⟩ : ∃ n', n = n' + 1 := ⟨n - 1, by omega⟩
    have : i = 5 := by omega
    subst this
    refine ⟨σ, ?_, fr_rf, h0⟩
    show f_X0_sell_3_B (f_X0_sell_3 n) _ _ _ _ _ _ _ _ _ = _
    unfold f_X0_sell_3_B
    rw [if_neg (show ¬ nI 5 < (5 : Int32) from q_nlt 5)]
  | succ d ih =>
    intro i n σ hi hn h0
    obtain ⟨n, rfl⟩ : ∃ n', n = n' + 1 := ⟨n - 1, by omega⟩
    obtain ⟨σ', g1, g2, g3⟩ := ih (i + 1) n (ppT σ 24 i (lI (if i = 0 then 268435456 else 0))) (by omega) (by omega) (fun j hj => by
      by_cases c : j = i
      · rw [c, qt_same]
      · rw [qt_ne (fun q => c q.2)]; exact h0 j (by omega))
    refine ⟨σ', ?_, fr_tr (fr_T rfl) g2, g3⟩
    show f_X0_sell_3_B (f_X0_sell_3 n) _ _ _ _ _ _ _ _ _ = _
    unfold f_X0_sell_3_B f_X0_sell_27
    have i1 : pp_ix (nI i) 5 := q_ix (by omega) (by omega)
    rw [if_pos (show nI i < (5 : Int32) from nI_lt (b := 5) (by omega) (by omega)), if_pos i1, if_pos i1, q_cl (k := i) (by omega), nI_1]
    by_cases c : i = 0
    · subst c
      rw [if_pos (show nI 0 = (0 : Int32) from rfl)]
      exact g1
    · rw [if_neg c] at g1
      rw [if_neg (show ¬ nI i = (0 : Int32) from fun q => c ((nI_eqI (b := 0) (by omega) (by omega)).mp q))]
      exact g1
theorem k_sell (hB : Base σ μ) (hI : Inv μ) {t l k : Nat} (ht : t < 6) (hl : l < 3) (hk : k ≤ 4) : ∃ σ', f_X0_sell σ (nI t) (nI k) (nI l) 34 0 7 (σ.1 0 10) = some σ' ∧ fr P24 σ σ' ∧ ∀ i, i < 5 → σ'.2 24 i = lI (JJ μ t l k (rowL μ) (rowL μ).length i * 16 ^ (7 - (rowL μ).length)) := by
  have hl7 := (rowL_len hI).1
  obtain ⟨σ1, g1, g2, g3⟩ := k_se3 (a1 := nI t) (a2 := nI k) (a3 := nI l) (a5 := nI (rowL μ).length) (tk := 34) (o := 0) (nn := 7) 5 0 100000 σ (by omega) (by omega) (fun j hj => by omega)
  obtain ⟨σ', d1, d2, d3⟩ := k_se37 hI (R := rowL μ) (tk := 34) (o := 0) (nn := 7) (by omega) ht hl hk hl7 hl7 (by omega) (rowL_mem hI) (rowL μ).length 0 100000 σ1 (by omega) (by omega) (base_fr hB (P24_sK g2) fr_rf) (fun i hi => by rw [(g2 34 _ (by unfold P24; omega)).1]; exact (rowL_K hB hI).1 i hi) (fun i hi => by
    rw [g3 i hi]
    show lI (if i = 0 then 268435456 else 0) = lI ((if i = 0 then (1 : Int) else 0) * 16 ^ 7)
    by_cases c : i = 0
    · rw [if_pos c, if_pos c]; rfl
    · rw [if_neg c, if_neg c]; rfl)
  refine ⟨σ', ?_, fr_tr g2 d2, d3⟩
  unfold f_X0_sell
  rw [(rowL_K hB hI).2, show f_X0_sell_3 100000 σ (nI t) (nI k) (nI l) 34 0 7 (nI (rowL μ).length) 0 = _ from g1]
  exact d1
def mJ (J : Nat → Int) : Nat → Int
  | 0 => 0
  | n + 1 => mJ J n + (n : Int) * J n
theorem mJ_sc (J : Nat → Int) (s : Int) : ∀ n, mJ (fun i => J i * s) n = mJ J n * s
  | 0 => (Int.zero_mul s).symm
  | n + 1 => by
    show mJ (fun i => J i * s) n + (n : Int) * (J n * s) = (mJ J n + (n : Int) * J n) * s
    rw [mJ_sc J s n, Int.add_mul, Int.mul_assoc]
theorem k_mS4 {J : Nat → Int} (hJ : ∀ i, i < 5 → σ.2 24 i = lI (J i)) : ∀ d j n, j + d = 5 → d < n → f_X0_meanSold_4 n σ (lI (mJ J j)) (nI j) = some (lI (mJ J 5), σ) := by
  intro d
  induction d with
  | zero =>
    intro j n hj hn
    obtain ⟨n, rfl⟩ : ∃ n', n = n' + 1 := ⟨n - 1, by omega⟩
    have : j = 5 := by omega
    subst this
    show f_X0_meanSold_4_B (f_X0_meanSold_4 n) _ _ _ = _
    unfold f_X0_meanSold_4_B
    rw [if_neg (show ¬ nI 5 < (5 : Int32) from q_nlt 5)]
  | succ d ih =>
    intro j n hj hn
    obtain ⟨n, rfl⟩ : ∃ n', n = n' + 1 := ⟨n - 1, by omega⟩
    show f_X0_meanSold_4_B (f_X0_meanSold_4 n) _ _ _ = _
    unfold f_X0_meanSold_4_B
    have i1 : pp_ix (nI j) 5 := q_ix (by omega) (by omega)
    rw [if_pos (show nI j < (5 : Int32) from nI_lt (b := 5) (by omega) (by omega)), if_pos i1, q_cl (k := j) (by omega), hJ j (by omega), lI_nI (by omega), lI_mul, lI_add, nI_1]
    exact ih (j + 1) n (by omega) (by omega)
theorem mJ_1 (J : Nat → Int) : mJ J 1 = 0 := by
  show 0 + ((0 : Nat) : Int) * J 0 = 0
  rw [Int.natCast_zero, Int.zero_mul]
  rfl
theorem k_meanSold {J : Nat → Int} (hJ : ∀ i, i < 5 → σ.2 24 i = lI (J i)) : f_X0_meanSold σ = some (lI (mJ J 5), σ) := by
  have := k_mS4 hJ 4 1 100000 (by omega) (by omega)
  rw [mJ_1] at this
  exact this
/-- the reference, one farm -/
def P58 (t i : Nat) : Prop := t = 58
theorem P58_sM {μ μ' : pp_M} (h : fr P58 μ μ') : fr sM μ μ' := fr_mono h (fun t i q => by unfold P58 at q; unfold sM; omega)
theorem m_so114 (k86 : pp_M → Int32 → Int32 → Int32 → Int32 → Int32 → Int32 → Option (Int64 × pp_M)) {a1 a3 a4 a5 : Int32} {k m : Nat} {c : Int} {J : Nat → Int} (hk : k ≤ 4) : ∀ b n ν, b ≤ 5 → b < n → (∀ i, b ≤ i → i < 5 → ν.2 58 i = lI (sJ c k J i)) → (∀ i, i < b → ν.2 58 i = lI (J i)) → ∃ ν', f_X9_sold_114 k86 n ν a1 (nI k) a3 a4 a5 (nI m) (lI c) (nI b + (-1 : Int32)) = k86 ν' a1 (nI k) a3 a4 a5 (nI (m + 1)) ∧ fr P58 ν ν' ∧ ∀ i, i < 5 → ν'.2 58 i = lI (sJ c k J i) := by
  intro b
  induction b with
  | zero =>
    intro n ν hb hn h1 h2
    obtain ⟨n, rfl⟩ : ∃ n', n = n' + 1 := ⟨n - 1, by omega⟩
    refine ⟨ν, ?_, fr_rf, fun i hi => h1 i (by omega) hi⟩
    show f_X9_sold_114_B k86 (f_X9_sold_114 k86 n) _ _ _ _ _ _ _ _ _ = _
    unfold f_X9_sold_114_B
    rw [if_pos (show nI 0 + (-1 : Int32) < 0 by decide), nI_1]
  | succ j ih =>
    intro n ν hb hn h1 h2
    obtain ⟨n, rfl⟩ : ∃ n', n = n' + 1 := ⟨n - 1, by omega⟩
    obtain ⟨ν', g1, g2, g3⟩ := ih n (ppT ν 58 j (lI (sJ c k J j))) (by omega) (by omega) (fun i h3 h4 => by
      by_cases e : i = j
      · rw [e, qt_same]
      · rw [qt_ne (by omega)]; exact h1 i (by omega) h4) (fun i hi => by rw [qt_ne (by omega)]; exact h2 i (by omega))
    refine ⟨ν', ?_, fr_tr (fr_T rfl) g2, g3⟩
    have key : ∀ st : Int, (st = if j = k then 16 else 16 - c) → f_X9_sold_137 k86 (f_X9_sold_114 k86 n) ν a1 (nI k) a3 a4 a5 (nI m) (lI c) (nI j) (lI st) = k86 ν' a1 (nI k) a3 a4 a5 (nI (m + 1)) := fun st hst => by
      unfold f_X9_sold_137 f_X9_sold_186 f_X9_sold_187
      have i1 : pp_ix (nI j) 5 := q_ix (by omega) (by omega)
      by_cases c1 : k < j
      · have ev : sJ c k J j = 0 := by unfold sJ; rw [if_pos c1]
        rw [ev] at g1
        rw [if_pos (nI_lt c1 (by omega)), if_pos i1, q_cl (k := j) (by omega)]
        exact g1
      · rw [if_neg (q_nl (by omega) (by omega))]
        simp only [if_pos i1, q_cl (k := j) (show j < 2 ^ 31 by omega), h2 j (show j < j + 1 by omega)]
        cases j with
        | zero =>
          have ev : sJ c k J 0 = J 0 * st := by
            unfold sJ
            rw [if_neg c1, if_neg (show ¬ 0 < 0 by omega), hst, Int.add_zero]
          rw [ev] at g1
          rw [if_neg (show ¬ (0 : Int32) < nI 0 by decide), lI_mul, show (0 : Int64) = lI 0 from rfl, lI_add, Int.add_zero]
          exact g1
        | succ j =>
          have i2 : pp_ix (nI j) 5 := q_ix (by omega) (by omega)
          have ev : sJ c k J (j + 1) = J (j + 1) * st + J j * c := by
            unfold sJ
            rw [if_neg c1, if_pos (show 0 < j + 1 by omega), hst, Nat.add_sub_cancel]
          rw [ev] at g1
          rw [if_pos (show (0 : Int32) < nI (j + 1) from nI_lt (a := 0) (by omega) (by omega)), nI_s1, if_pos i2, q_cl (k := j) (by omega), h2 j (by omega), lI_mul, lI_mul, lI_add]
          exact g1
    show f_X9_sold_114_B k86 (f_X9_sold_114 k86 n) _ _ _ _ _ _ _ _ _ = _
    unfold f_X9_sold_114_B
    rw [nI_m1, if_neg (nI_nneg (by omega))]
    by_cases c2 : j = k
    · rw [if_pos (by rw [c2]), show (16 : Int64) = lI 16 from rfl]
      exact key 16 (by rw [if_pos c2])
    · rw [if_neg (fun q => c2 ((nI_eqI (by omega) (by omega)).mp q)), show (16 : Int64) = lI 16 from rfl, lI_sub]
      exact key (16 - c) (by rw [if_neg c2])
theorem m_so86 (hI : Inv μ) {t l k : Nat} {a4 a5 : Int32} (ht : t < 6) (hl : l < 3) (hk : k ≤ 4) : ∀ d m n ν, m + d = (rowL μ).length → d < n → fr sM μ ν → (∀ i, i < 5 → ν.2 58 i = lI (JJ μ t l k (rowL μ) m i)) → ∃ ν', f_X9_sold_86 n ν (nI t) (nI k) (nI l) a4 a5 (nI m) = f_X9_sold_206 100000 ν' a4 a5 (0 : Int64) (1 : Int32) ∧ fr P58 ν ν' ∧ ∀ i, i < 5 → ν'.2 58 i = lI (JJ μ t l k (rowL μ) (rowL μ).length i) := by
  have hl7 := (rowL_len hI).1
  intro d
  induction d with
  | zero =>
    intro m n ν hm hn hν hJ
    obtain ⟨n, rfl⟩ : ∃ n', n = n' + 1 := ⟨n - 1, by omega⟩
    have : m = (rowL μ).length := by omega
    subst this
    refine ⟨ν, ?_, fr_rf, hJ⟩
    show f_X9_sold_86_B (f_X9_sold_86 n) _ _ _ _ _ _ _ = _
    unfold f_X9_sold_86_B
    rw [(hν 40 19 (by unfold sM; omega)).1, ← (rowL_len hI).2, if_neg (q_nlt _)]
  | succ d ih =>
    intro m n ν hm hn hν hJ
    obtain ⟨n, rfl⟩ : ∃ n', n = n' + 1 := ⟨n - 1, by omega⟩
    have hm7 : m < (rowL μ).length := by omega
    have hf8 := (rowL_at hI hm7).2.2
    have hc := ch_bd hI hf8 ht hl
    obtain ⟨ν1, g1, g2, g3⟩ := m_so114 (f_X9_sold_86 n) (a1 := nI t) (a3 := nI l) (a4 := a4) (a5 := a5) (m := m) (c := chI μ ((rowL μ).getD m 0) t l) (J := JJ μ t l k (rowL μ) m) hk 5 100000 ν (by omega) (by omega) (fun i h1 h2 => by omega) hJ
    obtain ⟨ν', d1, d2, d3⟩ := ih (m + 1) n ν1 (by omega) (by omega) (fr_tr hν (P58_sM g2)) (fun i hi => g3 i hi)
    refine ⟨ν', ?_, fr_tr g2 d2, d3⟩
    show f_X9_sold_86_B (f_X9_sold_86 n) _ _ _ _ _ _ _ = _
    unfold f_X9_sold_86_B
    have i1 : pp_ix (nI m) 7 := q_ix (by omega) (by omega)
    have x1 : (nI (chI μ ((rowL μ).getD m 0) t l).toNat).toInt64 = lI (chI μ ((rowL μ).getD m 0) t l) := by rw [lI_nI (by omega)]; exact congrArg lI (Int.toNat_of_nonneg hc.1)
    have x2 : ν.1 53 m = nI ((rowL μ).getD m 0) := by rw [(hν 53 m (by unfold sM; omega)).1, (rowL_at hI hm7).1]
    rw [(hν 40 19 (by unfold sM; omega)).1, ← (rowL_len hI).2, if_pos (nI_lt hm7 (by omega)), if_pos i1, q_cl (k := m) (by omega), x2, m_chance (inv_fr hI hν) hf8 ht hl, Option.bind_some, ch_fr hν, x1]
    rw [show f_X9_sold_114 (f_X9_sold_86 n) 100000 (nI (chI μ ((rowL μ).getD m 0) t l).toNat, ν).2 (nI t) (nI k) (nI l) a4 a5 (nI m) (lI (chI μ ((rowL μ).getD m 0) t l)) 4 = _ from g1]
    exact d1
theorem m_so54 {a1 a2 a3 a4 a5 : Int32} : ∀ d i n ν, i + d = 5 → d < n → (∀ j, j < i → ν.2 58 j = lI (if j = 0 then 1 else 0)) → ∃ ν', f_X9_sold_54 n ν a1 a2 a3 a4 a5 (nI i) = f_X9_sold_86 100000 ν' a1 a2 a3 a4 a5 0 ∧ fr P58 ν ν' ∧ ∀ j, j < 5 → ν'.2 58 j = lI (if j = 0 then 1 else 0) := by
  intro d
  induction d with
  | zero =>
    intro i n ν hi hn h0
    obtain ⟨n, rfl⟩ : ∃ n', n = n' + 1 := ⟨n - 1, by omega⟩
    have : i = 5 := by omega
    subst this
    refine ⟨ν, ?_, fr_rf, h0⟩
    show f_X9_sold_54_B (f_X9_sold_54 n) _ _ _ _ _ _ _ = _
    unfold f_X9_sold_54_B
    rw [if_neg (show ¬ nI 5 < (5 : Int32) from q_nlt 5)]
  | succ d ih =>
    intro i n ν hi hn h0
    obtain ⟨n, rfl⟩ : ∃ n', n = n' + 1 := ⟨n - 1, by omega⟩
    obtain ⟨ν', g1, g2, g3⟩ := ih (i + 1) n (ppT ν 58 i (lI (if i = 0 then 1 else 0))) (by omega) (by omega) (fun j hj => by
      by_cases c : j = i
      · rw [c, qt_same]
      · rw [qt_ne (fun q => c q.2)]; exact h0 j (by omega))
    refine ⟨ν', ?_, fr_tr (fr_T rfl) g2, g3⟩
    show f_X9_sold_54_B (f_X9_sold_54 n) _ _ _ _ _ _ _ = _
    unfold f_X9_sold_54_B f_X9_sold_76
    have i1 : pp_ix (nI i) 5 := q_ix (by omega) (by omega)
    rw [if_pos (show nI i < (5 : Int32) from nI_lt (b := 5) (by omega) (by omega)), if_pos i1, if_pos i1, q_cl (k := i) (by omega), nI_1]
    by_cases c : i = 0
    · subst c
      rw [if_pos (show nI 0 = (0 : Int32) from rfl)]
      exact g1
    · rw [if_neg c] at g1
      rw [if_neg (show ¬ nI i = (0 : Int32) from fun q => c ((nI_eqI (b := 0) (by omega) (by omega)).mp q))]
      exact g1
theorem m_so206 {J : Nat → Int} (hJ : ∀ i, i < 5 → ν.2 58 i = lI (J i)) (a4 a5 : Int32) : ∀ d j n, j + d = 5 → d < n → f_X9_sold_206 n ν a4 a5 (lI (mJ J j)) (nI j) = f_X9_sold_206 1 ν a4 a5 (lI (mJ J 5)) (nI 5) := by
  intro d
  induction d with
  | zero =>
    intro j n hj hn
    obtain ⟨n, rfl⟩ : ∃ n', n = n' + 1 := ⟨n - 1, by omega⟩
    have : j = 5 := by omega
    subst this
    show f_X9_sold_206_B (f_X9_sold_206 n) _ _ _ _ _ = f_X9_sold_206_B (f_X9_sold_206 0) _ _ _ _ _
    unfold f_X9_sold_206_B
    rw [if_neg (show ¬ nI 5 < (5 : Int32) from q_nlt 5), if_neg (show ¬ nI 5 < (5 : Int32) from q_nlt 5)]
  | succ d ih =>
    intro j n hj hn
    obtain ⟨n, rfl⟩ : ∃ n', n = n' + 1 := ⟨n - 1, by omega⟩
    rw [← ih (j + 1) n (by omega) (by omega)]
    show f_X9_sold_206_B (f_X9_sold_206 n) _ _ _ _ _ = _
    unfold f_X9_sold_206_B
    have i1 : pp_ix (nI j) 5 := q_ix (by omega) (by omega)
    rw [if_pos (show nI j < (5 : Int32) from nI_lt (b := 5) (by omega) (by omega)), if_pos i1, q_cl (k := j) (by omega), hJ j (by omega), lI_nI (by omega), lI_mul, lI_add, nI_1]
    rfl
theorem so_bd (hI : Inv μ) {t l k : Nat} (ht : t < 6) (hl : l < 3) {z : Int} (h : (∃ i, z = JJ μ t l k (rowL μ) (rowL μ).length i) ∨ z = mJ (JJ μ t l k (rowL μ) (rowL μ).length) 5) : 0 ≤ z * 16 ^ (7 - (rowL μ).length) ∧ z * 16 ^ (7 - (rowL μ).length) ≤ 400000000000 := by
  have hl7 := (rowL_len hI).1
  have jb := JJ_bd hI (k := k) ht hl (rowL_mem hI) (rowL μ).length (Nat.le_refl _)
  have hP : (0 : Int) ≤ 16 ^ (7 - (rowL μ).length) := Int.pow_nonneg (by decide)
  have h2 : (32 : Int) ^ (rowL μ).length * 16 ^ (7 - (rowL μ).length) ≤ 40000000000 := by
    generalize (rowL μ).length = m at hl7
    have : m = 0 ∨ m = 1 ∨ m = 2 ∨ m = 3 ∨ m = 4 ∨ m = 5 ∨ m = 6 ∨ m = 7 := by omega
    rcases this with rfl | rfl | rfl | rfl | rfl | rfl | rfl | rfl <;> decide
  have key : ∀ i, 0 ≤ JJ μ t l k (rowL μ) (rowL μ).length i * 16 ^ (7 - (rowL μ).length) ∧ JJ μ t l k (rowL μ) (rowL μ).length i * 16 ^ (7 - (rowL μ).length) ≤ 40000000000 := fun i => ⟨Int.mul_nonneg (jb i).1 hP, Int.le_trans (Int.mul_le_mul_of_nonneg_right (jb i).2.1 hP) h2⟩
  rcases h with ⟨i, rfl⟩ | rfl
  · have := key i
    omega
  · rw [← mJ_sc]
    have e : mJ (fun i => JJ μ t l k (rowL μ) (rowL μ).length i * 16 ^ (7 - (rowL μ).length)) 5 = 0 + ((0 : Nat) : Int) * (JJ μ t l k (rowL μ) (rowL μ).length 0 * 16 ^ (7 - (rowL μ).length)) + ((1 : Nat) : Int) * (JJ μ t l k (rowL μ) (rowL μ).length 1 * 16 ^ (7 - (rowL μ).length)) + ((2 : Nat) : Int) * (JJ μ t l k (rowL μ) (rowL μ).length 2 * 16 ^ (7 - (rowL μ).length)) + ((3 : Nat) : Int) * (JJ μ t l k (rowL μ) (rowL μ).length 3 * 16 ^ (7 - (rowL μ).length)) + ((4 : Nat) : Int) * (JJ μ t l k (rowL μ) (rowL μ).length 4 * 16 ^ (7 - (rowL μ).length)) := rfl
    rw [e]
    have k0 := key 0
    have k1 := key 1
    have k2 := key 2
    have k3 := key 3
    have k4 := key 4
    generalize JJ μ t l k (rowL μ) (rowL μ).length 0 * 16 ^ (7 - (rowL μ).length) = x0 at k0 ⊢
    generalize JJ μ t l k (rowL μ) (rowL μ).length 1 * 16 ^ (7 - (rowL μ).length) = x1 at k1 ⊢
    generalize JJ μ t l k (rowL μ) (rowL μ).length 2 * 16 ^ (7 - (rowL μ).length) = x2 at k2 ⊢
    generalize JJ μ t l k (rowL μ) (rowL μ).length 3 * 16 ^ (7 - (rowL μ).length) = x3 at k3 ⊢
    generalize JJ μ t l k (rowL μ) (rowL μ).length 4 * 16 ^ (7 - (rowL μ).length) = x4 at k4 ⊢
    omega
theorem h_sold (hCa : CaOk Ca) (a1 a2 a3 a4 a5 : Int32) (h : Rel Ca σ μ) : ∃ (r : Int64) (σ' μ' : pp_M), f_X8_sold σ a1 a2 a3 a4 a5 = some (r, σ') ∧ f_X9_sold μ a1 a2 a3 a4 a5 = some (r, μ') ∧ Rel Ca σ' μ' := by
  have hI := h.2.1
  unfold f_X8_sold f_X9_sold
  rw [k_isThing, m_isThing, Option.bind_some, Option.bind_some]
  by_cases c1 : wi a1 0 5 = 0
  · rw [if_pos c1, if_pos c1]; exact ⟨_, _, _, rfl, rfl, h⟩
  rw [if_neg c1, if_neg c1, k_isNumber, m_in, Option.bind_some, Option.bind_some]
  by_cases c2 : wi a2 0 4 = 0
  · rw [if_pos c2, if_pos c2]; exact ⟨_, _, _, rfl, rfl, h⟩
  rw [if_neg c2, if_neg c2, k_isLevel, m_in, Option.bind_some, Option.bind_some]
  by_cases c3 : wi a3 0 2 = 0
  · rw [if_pos c3, if_pos c3]; exact ⟨_, _, _, rfl, rfl, h⟩
  rw [if_neg c3, if_neg c3, k_within, m_in, Option.bind_some, Option.bind_some]
  by_cases c4 : wi a4 (-1) 4 = 0
  · rw [if_pos c4, if_pos c4]; exact ⟨_, _, _, rfl, rfl, h⟩
  rw [if_neg c4, if_neg c4, k_isTerm, m_in, Option.bind_some, Option.bind_some]
  by_cases c5 : wi a5 0 1 = 0
  · rw [if_pos c5, if_pos c5]; exact ⟨_, _, _, rfl, rfl, h⟩
  rw [if_neg c5, if_neg c5]
  obtain ⟨t, ht, rfl⟩ := wi_of (n := 5) rfl c1
  obtain ⟨k, hk, rfl⟩ := wi_of (n := 4) rfl c2
  obtain ⟨l, hl, rfl⟩ := wi_of (n := 2) rfl c3
  have ht6 : t < 6 := by omega
  have hl3 : l < 3 := by omega
  have hl7 := (rowL_len hI).1
  obtain ⟨σ1, g1, g2, g3⟩ := k_sell h.1 hI ht6 hl3 hk
  obtain ⟨ν1, d1, d2, d3⟩ := m_so54 (a1 := nI t) (a2 := nI k) (a3 := nI l) (a4 := a4) (a5 := a5) 5 0 100000 μ (by omega) (by omega) (fun j hj => by omega)
  obtain ⟨ν2, e1, e2, e3⟩ := m_so86 hI (a4 := a4) (a5 := a5) ht6 hl3 hk (rowL μ).length 0 100000 ν1 (by omega) (by omega) (P58_sM d2) (fun i hi => by rw [d3 i hi]; rfl)
  have fm : fr sM μ ν2 := fr_tr (P58_sM d2) (P58_sM e2)
  have u := m_so206 e3 a4 a5 4 1 100000 (by omega) (by omega)
  rw [mJ_1] at u
  rw [g1, Option.bind_some, show f_X9_sold_54 100000 μ (nI t) (nI k) (nI l) a4 a5 0 = _ from d1, show f_X9_sold_86 100000 ν1 (nI t) (nI k) (nI l) a4 a5 0 = _ from e1, show f_X9_sold_206 100000 ν2 a4 a5 0 1 = _ from u]
  have rel : Rel Ca σ1 ν2 := rel_scratch hCa h (P24_sK g2) fm
  have fin : ∀ z : Int, 0 ≤ z * 16 ^ (7 - (rowL μ).length) ∧ z * 16 ^ (7 - (rowL μ).length) ≤ 400000000000 → f_X8_sold_89 σ1 a5 (lI (z * 16 ^ (7 - (rowL μ).length))) = some (lowI z (16 ^ (rowL μ).length) a5, σ1) ∧ f_X9_sold_252 ν2 a5 (lI z) = some (lowI z (16 ^ (rowL μ).length) a5, ν2) := fun z hz => by
    have bl := both_low (σ := σ1) (ν := ν2) hI (z := z) a5 (by omega)
    unfold f_X8_sold_89 f_X9_sold_252
    rw [bl.1, Option.bind_some, m_row16 hI fm, Option.bind_some, bl.2, Option.bind_some]
    exact ⟨rfl, rfl⟩
  show ∃ (r : Int64) (σ' μ' : pp_M), _ ∧ f_X9_sold_206_B (f_X9_sold_206 0) ν2 a4 a5 (lI (mJ (JJ μ t l k (rowL μ) (rowL μ).length) 5)) (nI 5) = _ ∧ _
  unfold f_X9_sold_206_B
  rw [if_neg (show ¬ nI 5 < (5 : Int32) from q_nlt 5)]
  by_cases c6 : a4 = (-1 : Int32)
  · have hz := so_bd hI (k := k) ht6 hl3 (Or.inr rfl)
    have hm := k_meanSold (σ := σ1) (J := fun i => JJ μ t l k (rowL μ) (rowL μ).length i * 16 ^ (7 - (rowL μ).length)) g3
    rw [mJ_sc] at hm
    rw [if_pos c6, if_pos c6, hm, Option.bind_some, (fin _ hz).1, (fin _ hz).2]
    exact ⟨_, _, _, rfl, rfl, rel⟩
  · obtain ⟨j, hj, rfl⟩ : ∃ j : Nat, j ≤ 4 ∧ a4 = nI j := by
      have := wi_0 c4
      rw [show (-1 : Int32).toInt = -1 from rfl, show (4 : Int32).toInt = 4 from rfl] at this
      have hne : a4.toInt ≠ -1 := fun q => c6 (Int32.toInt_inj.mp (by rw [q]; rfl))
      exact q_of (x := a4) (n := 4) (by omega) (by omega)
    have i1 : pp_ix (nI j) 5 := q_ix (by omega) (by omega)
    have hz := so_bd hI (k := k) ht6 hl3 (Or.inl ⟨j, rfl⟩)
    rw [if_neg c6, if_neg c6, if_pos i1, if_pos i1, q_cl (k := j) (by omega), g3 j (by omega), e3 j (by omega), (fin _ hz).1, (fin _ hz).2]
    exact ⟨_, _, _, rfl, rfl, rel⟩
end SOLD
