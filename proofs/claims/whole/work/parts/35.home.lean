/-! going along the whole row -/
section HOME
variable {Ca : pp_M → pp_M → Prop} {σ μ : pp_M}
theorem k_ch40 (k2 : pp_M → Int32 → Option pp_M) {t : Nat} (ht : t < 6) (x : Int) : ∀ (m b n : Nat) (σ : pp_M), b + m = 5 → m < n → ∃ σ', f_X0_comeHome_40 k2 n σ (nI t) (lI x) (nI b) = k2 σ' (nI (t + 1)) ∧ fr (P23 (t * 5 + b) (t * 5 + 5)) σ σ' ∧ ∀ j, b ≤ j → j < 5 → σ'.2 23 (t * 5 + j) = lI (j * x)
  | 0, b, n + 1, σ, hb, _ => by
    have : b = 5 := by omega
    subst this
    refine ⟨σ, ?_, fr_rf, fun j h1 h2 => by omega⟩
    show f_X0_comeHome_40_B k2 (f_X0_comeHome_40 k2 n) _ _ _ _ = _
    unfold f_X0_comeHome_40_B
    rw [if_neg (show ¬ nI 5 < (5 : Int32) from q_nlt 5), nI_1]
  | m + 1, b, n + 1, σ, hb, hn => by
    have i2 : pp_ix (nI (t * 5 + b)) 30 := q_ix (by omega) (by omega)
    have j2 : (nI (t * 5 + b)).toNatClampNeg = t * 5 + b := q_cl (by omega)
    have e1 : nI t * (5 : Int32) + nI b = nI (t * 5 + b) := by rw [c5I, pk_mul, nI_add]
    obtain ⟨σ', g1, g2, g3⟩ := k_ch40 k2 ht x m (b + 1) n (ppT σ 23 (t * 5 + b) (lI (b * x))) (by omega) (by omega)
    refine ⟨σ', ?_, fr_tr (fr_T ⟨rfl, by omega, by omega⟩) (fr_mono g2 (fun x i q => by unfold P23 at q ⊢; omega)), fun j h1 h2 => ?_⟩
    · show f_X0_comeHome_40_B k2 (f_X0_comeHome_40 k2 n) _ _ _ _ = _
      unfold f_X0_comeHome_40_B
      rw [if_pos (show nI b < (5 : Int32) from nI_lt (b := 5) (by omega) (by omega))]
      simp only [e1, if_pos i2, j2, nI_1]
      rw [lI_nI (by omega), lI_mul]
      exact g1
    · by_cases e : j = b
      · subst e
        rw [(g2 23 _ (by unfold P23; omega)).2, qt_same]
      · exact g3 j (by omega) h2
theorem k_ch2 (hI : Inv μ) : ∀ (m t n : Nat) (σ : pp_M), t + m = 6 → m < n → Base σ μ → ∃ σ', f_X0_comeHome_2 n σ (nI t) = some σ' ∧ fr (P23 (t * 5) 30) σ σ' ∧ ∀ u, t ≤ u → u < 6 → ∀ j, j < 5 → σ'.2 23 (u * 5 + j) = lI (wv μ u [] j * 16 ^ 7)
  | 0, t, n + 1, σ, hb, _, hB => by
    have : t = 6 := by omega
    subst this
    refine ⟨σ, ?_, fr_rf, fun j h1 h2 => by omega⟩
    show f_X0_comeHome_2_B (f_X0_comeHome_2 n) _ _ = _
    unfold f_X0_comeHome_2_B
    rw [if_neg (show ¬ nI 6 < (6 : Int32) from q_nlt 6)]
  | m + 1, t, n + 1, σ, hb, hn, hB => by
    have i1 : pp_ix (nI t) 6 := q_ix (by omega) (by omega)
    have j1 : (nI t).toNatClampNeg = t := q_cl (by omega)
    have a0 : σ.1 3 (t * 6 + 0) = μ.1 41 t := hB.1 t (by omega) 0 (by omega)
    have a2 : σ.1 3 (t * 6 + 2) = μ.1 43 t := hB.1 t (by omega) 2 (by omega)
    have hb1 := (hI.1 t (by omega)).1
    have hb3 := (hI.1 t (by omega)).2.2
    unfold bd at hb1 hb3
    have ex : ((μ.1 41 t - μ.1 43 t).toInt64) * (268435456 : Int64) = lI (csI μ t * 16 ^ 7) := by
      rw [lI_i2l, show (268435456 : Int64) = lI (16 ^ 7) from rfl, lI_mul]
      congr 2
      unfold csI
      rw [Int32.toInt_sub]
      exact Int.bmod_eq_of_le (by omega) (by omega)
    obtain ⟨σ1, g1, g2, g3⟩ := k_ch40 (f_X0_comeHome_2 n) (show t < 6 by omega) (csI μ t * 16 ^ 7) 5 0 100000 σ (by omega) (by omega)
    obtain ⟨σ', d1, d2, d3⟩ := k_ch2 hI m (t + 1) n σ1 (by omega) (by omega) (base_23 hB g2)
    refine ⟨σ', ?_, fr_tr (fr_mono g2 (fun x i q => by unfold P23 at q ⊢; omega)) (fr_mono d2 (fun x i q => by unfold P23 at q ⊢; omega)), fun u h1 h2 j hj => ?_⟩
    · show f_X0_comeHome_2_B (f_X0_comeHome_2 n) _ _ = _
      unfold f_X0_comeHome_2_B
      rw [if_pos (show nI t < (6 : Int32) from nI_lt (b := 6) (by omega) (by omega))]
      simp only [if_pos i1, j1, a0, a2, ex]
      rw [show f_X0_comeHome_40 (f_X0_comeHome_2 n) 100000 σ (nI t) (lI (csI μ t * 16 ^ 7)) 0 = _ from g1]
      exact d1
    · by_cases e : u = t
      · subst e
        rw [(d2 23 _ (by unfold P23; omega)).2, g3 j (by omega) hj, ← Int.mul_assoc]
        rfl
      · exact d3 u (by omega) h2 j hj
theorem k_comeHome (hB : Base σ μ) (hI : Inv μ) : ∃ σ', f_X0_comeHome σ = some σ' ∧ fr (P23 0 30) σ σ' ∧ WR σ' μ [] := by
  obtain ⟨σ', g1, g2, g3⟩ := k_ch2 hI 6 0 100000 σ rfl (by omega) hB
  refine ⟨σ', g1, g2, fun t ht k hk => ?_⟩
  have := g3 t (by omega) ht k hk
  rw [List.length_nil, Nat.zero_mul, Nat.zero_add, this]
theorem P23_mono {a b a' b' : Nat} {σ σ' : pp_M} (h : fr (P23 a b) σ σ') (ha : a' ≤ a) (hb : b ≤ b') : fr (P23 a' b') σ σ' := fr_mono h (fun x i q => ⟨q.1, Nat.le_trans ha q.2.1, Nat.lt_of_lt_of_le q.2.2 hb⟩)
/-- a list of farms stands at a token -/
def isRow (x : Nat → Int32) (o : Nat) (R : List Nat) : Prop := ∀ i, i < R.length → x (o + i) = nI (R.getD i 0)
theorem drop_cons {R : List Nat} {i : Nat} (h : i < R.length) : R.drop i = R.getD i 0 :: R.drop (i + 1) := by
  rw [List.drop_eq_getElem_cons h]
  congr 1
  rw [List.getD_eq_getElem?_getD, List.getElem?_eq_getElem h]
  rfl
theorem getD_mem {R : List Nat} {i : Nat} (h : i < R.length) : R.getD i 0 ∈ R := by
  rw [List.getD_eq_getElem?_getD, List.getElem?_eq_getElem h]
  exact List.getElem_mem h
theorem k_gaS (hI : Inv μ) {R : List Nat} (hn7 : R.length ≤ 7) (ha : ∀ g ∈ R, g < 8) {m b : Nat} (hm : b + (m + 1) = R.length) (hB : Base σ μ) (hW : WR σ μ (R.drop (m + 1))) : ∃ σ1, f_X0_callAt σ (nI (b + 1)) (nI (R.getD m 0)) = some σ1 ∧ fr (P23 ((b + 1) * 30) ((b + 1) * 30 + 30)) σ σ1 ∧ WR σ1 μ (R.drop m) := by
  have hl : (R.drop (m + 1)).length = b := by rw [List.length_drop]; omega
  have hmem : R.getD m 0 < 8 := ha _ (getD_mem (by omega))
  obtain ⟨σ1, g1, g2, g3⟩ := k_callAt hB hI (f := R.getD m 0) (fs := R.drop (m + 1)) hmem (by omega) (fun g hg => ha g (List.mem_of_mem_drop hg)) hW
  rw [hl] at g1 g2
  rw [← drop_cons (R := R) (i := m) (by omega)] at g3
  exact ⟨σ1, g1, g2, g3⟩
theorem k_ga6 (hI : Inv μ) {tk o nn : Nat} {R : List Nat} (htk : tk ≠ 23) (hn7 : R.length ≤ 7) (hnn : R.length ≤ nn) (hn2 : nn < 2 ^ 31) (ha : ∀ g ∈ R, g < 8) : ∀ (m b n : Nat) (σ : pp_M), b + m = R.length → m < n → Base σ μ → isRow (σ.1 tk) o R → (∀ j, j ≤ b → WR σ μ (R.drop (R.length - j))) → ∃ σ', f_X0_goAlong_6 n σ tk o nn (nI R.length) (nI (b + 1)) = some σ' ∧ fr (P23 ((b + 1) * 30) (R.length * 30 + 30)) σ σ' ∧ ∀ j, j ≤ R.length → WR σ' μ (R.drop (R.length - j)) := by
  intro m
  induction m with
  | zero =>
    intro b n σ hb hn hB hR hW
    obtain ⟨n, rfl⟩ : ∃ n', n = n' + 1 := ⟨n - 1, by omega⟩
    have e : b = R.length := by omega
    refine ⟨σ, ?_, fr_rf, by rw [← e]; rw [← e] at hW; exact hW⟩
    show f_X0_goAlong_6_B (f_X0_goAlong_6 n) _ _ _ _ _ _ = _
    unfold f_X0_goAlong_6_B
    rw [e, if_pos (show nI R.length < nI (R.length + 1) from nI_lt (by omega) (by omega))]
  | succ m ih =>
    intro b n σ hb hn hB hR hW
    obtain ⟨n, rfl⟩ : ∃ n', n = n' + 1 := ⟨n - 1, by omega⟩
    have hm : R.length - (b + 1) = m := by omega
    have w0 := hW b (by omega)
    rw [show R.length - b = m + 1 by omega] at w0
    obtain ⟨σ1, g1, g2, g3⟩ := k_gaS hI hn7 ha hb hB w0
    have hW' : ∀ j, j ≤ b + 1 → WR σ1 μ (R.drop (R.length - j)) := fun j hj => by
      by_cases e : j = b + 1
      · rw [e, hm]; exact g3
      · exact WR_fr (hW j (by omega)) g2 (by rw [List.length_drop]; omega)
    have hR' : isRow (σ1.1 tk) o R := fun i hi => by rw [(g2 tk (o + i) (by unfold P23; omega)).1]; exact hR i hi
    obtain ⟨σ', d1, d2, d3⟩ := ih (b + 1) n σ1 (by omega) (by omega) (base_23 hB g2) hR' hW'
    refine ⟨σ', ?_, fr_tr (P23_mono g2 (by omega) (by omega)) (P23_mono d2 (by omega) (by omega)), d3⟩
    have i1 : pp_ix (nI m) nn := q_ix (by omega) hn2
    have j1 : (nI m).toNatClampNeg = m := q_cl (by omega)
    have e1 : nI R.length - nI (b + 1) = nI m := by rw [pk_sub (by omega), hm]
    have e2 : σ.1 tk (o + m) = nI (R.getD m 0) := hR m (by omega)
    show f_X0_goAlong_6_B (f_X0_goAlong_6 n) _ _ _ _ _ _ = _
    unfold f_X0_goAlong_6_B
    rw [if_neg (q_nl (by omega) (by omega)), e1, if_pos i1, j1, e2, g1, Option.bind_some, nI_1]
    exact d1
theorem k_goAlong (hB : Base σ μ) (hI : Inv μ) {tk o nn : Nat} {R : List Nat} (htk : tk ≠ 23) (hn7 : R.length ≤ 7) (hnn : R.length ≤ nn) (hn2 : nn < 2 ^ 31) (ha : ∀ g ∈ R, g < 8) (hR : isRow (σ.1 tk) o R) : ∃ σ', f_X0_goAlong σ tk o nn (nI R.length) = some σ' ∧ fr (P23 0 (R.length * 30 + 30)) σ σ' ∧ ∀ j, j ≤ R.length → WR σ' μ (R.drop (R.length - j)) := by
  obtain ⟨σ1, g1, g2, g3⟩ := k_comeHome hB hI
  obtain ⟨σ', d1, d2, d3⟩ := k_ga6 hI htk hn7 hnn hn2 ha R.length 0 100000 σ1 (by omega) (by omega) (base_23 hB g2) (fun i hi => by rw [(g2 tk (o + i) (by unfold P23; omega)).1]; exact hR i hi) (fun j hj => by
    rw [show R.length - j = R.length by omega, List.drop_length]
    exact g3)
  refine ⟨σ', ?_, fr_tr (fr_mono g2 (fun x i q => by unfold P23 at q ⊢; omega)) (fr_mono d2 (fun x i q => by unfold P23 at q ⊢; omega)), d3⟩
  unfold f_X0_goAlong
  rw [g1, Option.bind_some]
  exact d1
/-- the ROW of the reference, as a list -/
def rowL (μ : pp_M) : List Nat := (List.range (μ.1 40 19).toInt.toNat).map (fun i => (μ.1 53 i).toInt.toNat)
theorem rowL_len (hI : Inv μ) : (rowL μ).length ≤ 7 ∧ nI (rowL μ).length = μ.1 40 19 := by
  have h := hI.2.2.2.2.2.2.2.1.1
  unfold bd at h
  have e : (rowL μ).length = (μ.1 40 19).toInt.toNat := by unfold rowL; rw [List.length_map, List.length_range]
  rw [e]
  refine ⟨by omega, ?_⟩
  obtain ⟨j, hj, ej⟩ := q_of (x := μ.1 40 19) (n := 7) h.1 h.2
  rw [ej, nI_toInt (by omega)]
  rfl
theorem rowL_at (hI : Inv μ) {i : Nat} (hi : i < (rowL μ).length) : μ.1 53 i = nI ((rowL μ).getD i 0) ∧ 1 ≤ (rowL μ).getD i 0 ∧ (rowL μ).getD i 0 < 8 := by
  have e : (rowL μ).length = (μ.1 40 19).toInt.toNat := by unfold rowL; rw [List.length_map, List.length_range]
  have h := hI.2.2.2.2.2.2.2.1.2 i (by omega)
  unfold bd at h
  have eg : (rowL μ).getD i 0 = (μ.1 53 i).toInt.toNat := by
    rw [List.getD_eq_getElem?_getD]
    unfold rowL
    rw [List.getElem?_map, List.getElem?_range (by omega)]
    rfl
  rw [eg]
  obtain ⟨j, hj, ej⟩ := q_of (x := μ.1 53 i) (n := 7) (by omega) h.2
  rw [ej] at h ⊢
  rw [nI_toInt (by omega)] at h ⊢
  refine ⟨?_, by omega, by omega⟩
  rfl
theorem rowL_mem (hI : Inv μ) : ∀ g ∈ rowL μ, g < 8 := fun g hg => by
  obtain ⟨i, hi, e⟩ := List.getElem_of_mem hg
  have := (rowL_at hI hi).2.2
  rw [List.getD_eq_getElem?_getD, List.getElem?_eq_getElem hi] at this
  rw [← e]
  exact this
theorem rowL_K (hB : Base σ μ) (hI : Inv μ) : isRow (σ.1 34) 0 (rowL μ) ∧ σ.1 0 10 = nI (rowL μ).length := by
  refine ⟨fun i hi => ?_, ?_⟩
  · rw [Nat.zero_add, hB.2.2.2.2.2.2.2.2.2.1.2 i (by have := (rowL_len hI).1; omega), (rowL_at hI hi).1]
  · rw [hB.2.2.2.2.2.2.2.2.2.1.1, (rowL_len hI).2]
theorem k_along (hB : Base σ μ) (hI : Inv μ) : ∃ σ', f_X0_goAlong σ 34 0 7 (σ.1 0 10) = some σ' ∧ fr (P23 0 240) σ σ' ∧ ∀ j, j ≤ (rowL μ).length → WR σ' μ ((rowL μ).drop ((rowL μ).length - j)) := by
  have hl := (rowL_len hI).1
  obtain ⟨σ', g1, g2, g3⟩ := k_goAlong hB hI (tk := 34) (o := 0) (nn := 7) (by omega) hl hl (by omega) (rowL_mem hI) (rowL_K hB hI).1
  rw [(rowL_K hB hI).2]
  exact ⟨σ', g1, fr_mono g2 (fun x i q => by unfold P23 at q ⊢; omega), g3⟩
end HOME
