/-! both at the start -/
section START
variable {σ μ ν : pp_M}
theorem k_i44 (k18 : pp_M → Int32 → Option pp_M) {a : Nat} (ha : a < 6) : ∀ d j n σ, j + d = 3 → d < n → ∃ σ', f_X1_init_44 k18 n σ (nI a) (nI j) = k18 σ' (nI (a + 1)) ∧ fr (fun t i => t = 3 ∧ a * 6 + (3 + j) ≤ i ∧ i < a * 6 + 6) σ σ' ∧ ∀ l, j ≤ l → l < 3 → σ'.1 3 (a * 6 + (3 + l)) = nI (2 + l) := by
  intro d
  induction d with
  | zero =>
    intro j n σ hj hn
    obtain ⟨n, rfl⟩ : ∃ n', n = n' + 1 := ⟨n - 1, by omega⟩
    have : j = 3 := by omega
    subst this
    refine ⟨σ, ?_, fr_rf, fun l h1 h2 => by omega⟩
    show f_X1_init_44_B k18 (f_X1_init_44 k18 n) _ _ _ = _
    unfold f_X1_init_44_B
    rw [if_neg (show ¬ nI 3 < (3 : Int32) by decide), nI_1]
  | succ d ih =>
    intro j n σ hj hn
    obtain ⟨n, rfl⟩ : ∃ n', n = n' + 1 := ⟨n - 1, by omega⟩
    have i1 : pp_ix (nI a) 6 := q_ix (by omega) (by omega)
    have i2 : pp_ix (nI (3 + j)) 6 := q_ix (by omega) (by omega)
    obtain ⟨σ', g1, g2, g3⟩ := ih (j + 1) n (ppS σ 3 (a * 6 + (3 + j)) (nI (2 + j))) (by omega) (by omega)
    refine ⟨σ', ?_, fr_tr (fr_S ⟨rfl, by omega, by omega⟩) (fr_mono g2 (fun t i q => ⟨q.1, by omega, by omega⟩)), fun l h1 h2 => ?_⟩
    · show f_X1_init_44_B k18 (f_X1_init_44 k18 n) _ _ _ = _
      unfold f_X1_init_44_B
      rw [if_pos (show nI j < (3 : Int32) from nI_lt (b := 3) (by omega) (by omega)), show (3 : Int32) = nI 3 from rfl, show (2 : Int32) = nI 2 from rfl, nI_add, nI_add, if_pos i1, if_pos i2, q_cl (k := a) (by omega), q_cl (k := 3 + j) (by omega), nI_1]
      exact g1
    · by_cases e : l = j
      · rw [e, (g2 3 _ (by omega)).1, qs_same]
      · exact g3 l (by omega) h2
theorem k_i18 : ∀ d a n σ, a + d = 6 → d < n → ∃ σ', f_X1_init_18 n σ (nI a) = some σ' ∧ fr (fun t i => t = 3 ∧ a * 6 ≤ i) σ σ' ∧ ∀ u, a ≤ u → u < 6 → σ'.1 3 (u * 6 + 0) = 1 ∧ σ'.1 3 (u * 6 + 1) = 1 ∧ σ'.1 3 (u * 6 + 2) = σ.1 3 (u * 6 + 2) ∧ ∀ l, l < 3 → σ'.1 3 (u * 6 + (3 + l)) = nI (2 + l) := by
  intro d
  induction d with
  | zero =>
    intro a n σ ha hn
    obtain ⟨n, rfl⟩ : ∃ n', n = n' + 1 := ⟨n - 1, by omega⟩
    have : a = 6 := by omega
    subst this
    refine ⟨σ, ?_, fr_rf, fun u h1 h2 => by omega⟩
    show f_X1_init_18_B (f_X1_init_18 n) _ _ = _
    unfold f_X1_init_18_B
    rw [if_neg (show ¬ nI 6 < (6 : Int32) by decide)]
  | succ d ih =>
    intro a n σ ha hn
    obtain ⟨n, rfl⟩ : ∃ n', n = n' + 1 := ⟨n - 1, by omega⟩
    have i1 : pp_ix (nI a) 6 := q_ix (by omega) (by omega)
    obtain ⟨σ1, g1, g2, g3⟩ := k_i44 (f_X1_init_18 n) (show a < 6 by omega) 3 0 100000 (ppS (ppS σ 3 (a * 6 + 0) (1 : Int32)) 3 (a * 6 + 1) (1 : Int32)) (by omega) (by omega)
    obtain ⟨σ2, d1, d2, d3⟩ := ih (a + 1) n σ1 (by omega) (by omega)
    have f0 : fr (fun t i => t = 3 ∧ (i = a * 6 + 0 ∨ i = a * 6 + 1 ∨ (a * 6 + 3 ≤ i ∧ i < a * 6 + 6))) σ σ1 := fr_tr (fr_tr (fr_S ⟨rfl, by omega⟩) (fr_S ⟨rfl, by omega⟩)) (fr_mono g2 (fun t i q => ⟨q.1, by omega⟩))
    refine ⟨σ2, ?_, fr_tr (fr_mono f0 (fun t i q => ⟨q.1, by omega⟩)) (fr_mono d2 (fun t i q => ⟨q.1, by omega⟩)), fun u h1 h2 => ?_⟩
    · show f_X1_init_18_B (f_X1_init_18 n) _ _ = _
      unfold f_X1_init_18_B
      rw [if_pos (show nI a < (6 : Int32) from nI_lt (b := 6) (by omega) (by omega)), if_pos i1, q_cl (k := a) (by omega), show f_X1_init_44 (f_X1_init_18 n) 100000 (ppS (ppS σ 3 (a * 6 + 0) (1 : Int32)) 3 (a * 6 + 1) (1 : Int32)) (nI a) 0 = _ from g1]
      exact d1
    · by_cases e : u = a
      · subst e
        refine ⟨?_, ?_, ?_, fun l hl => ?_⟩
        · rw [(d2 3 _ (by omega)).1, (g2 3 _ (by omega)).1, qs_ne (by omega), qs_same]
        · rw [(d2 3 _ (by omega)).1, (g2 3 _ (by omega)).1, qs_same]
        · rw [(d2 3 _ (by omega)).1, (f0 3 _ (by omega)).1]
        · rw [(d2 3 _ (by omega)).1]; exact g3 l (by omega) hl
      · obtain ⟨q1, q2, q3, q4⟩ := d3 u (by omega) h2
        exact ⟨q1, q2, by rw [q3, (f0 3 _ (by omega)).1], q4⟩
theorem k_i36 : ∀ d a n σ, a + d = 4 → d < n → (∀ i, i < a → σ.1 20 i = -1) → ∃ σ', f_X7_init_36 n σ (nI a) = some σ' ∧ fr (fun t i => t = 20) σ σ' ∧ ∀ i, i < 4 → σ'.1 20 i = -1 := by
  intro d
  induction d with
  | zero =>
    intro a n σ ha hn h
    obtain ⟨n, rfl⟩ : ∃ n', n = n' + 1 := ⟨n - 1, by omega⟩
    have : a = 4 := by omega
    subst this
    refine ⟨σ, ?_, fr_rf, h⟩
    show f_X7_init_36_B (f_X7_init_36 n) _ _ = _
    unfold f_X7_init_36_B
    rw [if_neg (show ¬ nI 4 < (4 : Int32) by decide)]
  | succ d ih =>
    intro a n σ ha hn h
    obtain ⟨n, rfl⟩ : ∃ n', n = n' + 1 := ⟨n - 1, by omega⟩
    have i1 : pp_ix (nI a) 4 := q_ix (by omega) (by omega)
    obtain ⟨σ', g1, g2, g3⟩ := ih (a + 1) n (ppS σ 20 a (-1)) (by omega) (by omega) (fun i hi => by
      by_cases e : i = a
      · rw [e, qs_same]
      · rw [qs_ne (fun q => e q.2)]; exact h i (by omega))
    refine ⟨σ', ?_, fr_tr (fr_S rfl) g2, g3⟩
    show f_X7_init_36_B (f_X7_init_36 n) _ _ = _
    unfold f_X7_init_36_B
    rw [if_pos (show nI a < (4 : Int32) from nI_lt (b := 4) (by omega) (by omega)), if_pos i1, q_cl (k := a) (by omega), nI_1]
    exact g1
def PM0 (t i : Nat) : Prop := t = 41 ∨ t = 42 ∨ t = 44
theorem m_i263 : ∀ d a n ν, a + d = 6 → d < n → (∀ u, u < a → ν.1 41 u = 1 ∧ ν.1 42 u = 1 ∧ ∀ l, l < 3 → ν.1 44 (3 * u + l) = nI (2 + l)) → ∃ ν', f_X9_init_263 n ν (nI a) = some ν' ∧ fr PM0 ν ν' ∧ ∀ u, u < 6 → ν'.1 41 u = 1 ∧ ν'.1 42 u = 1 ∧ ∀ l, l < 3 → ν'.1 44 (3 * u + l) = nI (2 + l) := by
  intro d
  induction d with
  | zero =>
    intro a n ν ha hn h
    obtain ⟨n, rfl⟩ : ∃ n', n = n' + 1 := ⟨n - 1, by omega⟩
    have : a = 6 := by omega
    subst this
    refine ⟨ν, ?_, fr_rf, h⟩
    show f_X9_init_263_B (f_X9_init_263 n) _ _ = _
    unfold f_X9_init_263_B
    rw [if_neg (show ¬ nI 6 < (6 : Int32) by decide)]
  | succ d ih =>
    intro a n ν ha hn h
    obtain ⟨n, rfl⟩ : ∃ n', n = n' + 1 := ⟨n - 1, by omega⟩
    have i1 : pp_ix (nI a) 6 := q_ix (by omega) (by omega)
    have i2 : pp_ix (nI (3 * a)) 18 := q_ix (by omega) (by omega)
    have i3 : pp_ix (nI (3 * a + 1)) 18 := q_ix (by omega) (by omega)
    have i4 : pp_ix (nI (3 * a + 2)) 18 := q_ix (by omega) (by omega)
    have e1 : (3 : Int32) * nI a = nI (3 * a) := by rw [show (3 : Int32) = nI 3 from rfl, pk_mul]
    have e3 : nI (3 * a) + (2 : Int32) = nI (3 * a + 2) := by rw [show (2 : Int32) = nI 2 from rfl, nI_add]
    have fS : fr PM0 ν (ppS (ppS (ppS (ppS (ppS ν 41 a (1 : Int32)) 42 a (1 : Int32)) 44 (3 * a) (2 : Int32)) 44 (3 * a + 1) (3 : Int32)) 44 (3 * a + 2) (4 : Int32)) := fr_tr (fr_tr (fr_tr (fr_tr (fr_S (by unfold PM0; omega)) (fr_S (by unfold PM0; omega))) (fr_S (by unfold PM0; omega))) (fr_S (by unfold PM0; omega))) (fr_S (by unfold PM0; omega))
    obtain ⟨ν', g1, g2, g3⟩ := ih (a + 1) n (ppS (ppS (ppS (ppS (ppS ν 41 a (1 : Int32)) 42 a (1 : Int32)) 44 (3 * a) (2 : Int32)) 44 (3 * a + 1) (3 : Int32)) 44 (3 * a + 2) (4 : Int32)) (by omega) (by omega) (fun u hu => by
      by_cases e : u = a
      · subst e
        refine ⟨?_, ?_, fun l hl => ?_⟩
        · rw [qs_tok (by omega), qs_tok (by omega), qs_tok (by omega), qs_tok (by omega), qs_same]
        · rw [qs_tok (by omega), qs_tok (by omega), qs_tok (by omega), qs_same]
        · rcases (show l = 0 ∨ l = 1 ∨ l = 2 by omega) with rfl | rfl | rfl
          · rw [qs_ne (by omega), qs_ne (by omega), show 3 * u + 0 = 3 * u from rfl, qs_same]; rfl
          · rw [qs_ne (by omega), qs_same]; rfl
          · rw [qs_same]; rfl
      · obtain ⟨q1, q2, q3⟩ := h u (by omega)
        refine ⟨?_, ?_, fun l hl => ?_⟩
        · rw [qs_tok (by omega), qs_tok (by omega), qs_tok (by omega), qs_tok (by omega), qs_ne (by omega)]; exact q1
        · rw [qs_tok (by omega), qs_tok (by omega), qs_tok (by omega), qs_ne (by omega), qs_tok (by omega)]; exact q2
        · rw [qs_ne (by omega), qs_ne (by omega), qs_ne (by omega), qs_tok (by omega), qs_tok (by omega)]; exact q3 l hl)
    refine ⟨ν', ?_, fr_tr fS g2, g3⟩
    show f_X9_init_263_B (f_X9_init_263 n) _ _ = _
    unfold f_X9_init_263_B
    rw [if_pos (show nI a < (6 : Int32) from nI_lt (b := 6) (by omega) (by omega)), e1, e3, nI_1 (3 * a), if_pos i1, if_pos i2, if_pos i3, if_pos i4, q_cl (k := a) (by omega), q_cl (k := 3 * a) (by omega), q_cl (k := 3 * a + 1) (by omega), q_cl (k := 3 * a + 2) (by omega), nI_1 a]
    exact g1
/-- nothing stands there -/
def Zr (σ : pp_M) : Prop := ∀ t i, σ.1 t i = 0 ∧ σ.2 t i = 0
theorem Zr_0 : Zr pp_0 := fun _ _ => ⟨rfl, rfl⟩
theorem Zr_z (h : Zr σ) (t : Nat) : Zr (pp_z σ t) := fun a b => by
  unfold pp_z
  refine ⟨?_, ?_⟩
  · show (if a = t then 0 else σ.1 a b) = 0
    split
    · rfl
    · exact (h a b).1
  · show (if a = t then 0 else σ.2 a b) = 0
    split
    · rfl
    · exact (h a b).2
end START
