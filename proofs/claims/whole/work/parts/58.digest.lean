/-! digest -/
section DIGEST
variable {Ca : pp_M → pp_M → Prop} {σ μ ν : pp_M}
/-- the class in the midst of a digest -/
def DK (σ μ : pp_M) : Prop := Rel0 σ μ ∧ GK σ (GS μ (rowL μ)) (Wt μ) (pkS μ (rowL μ)) ∧ ∀ i, i < 6 → σ.1 32 i = nI (bP μ i)
theorem DK_fr {σ σ' : pp_M} (h : DK σ μ) (hf : fr PPn σ σ') : DK σ' μ := ⟨rel0_fr h.1 (PP_sK (PPn_PP hf)) fr_rf, GK_fr h.2.1 (PPn_PP hf), fun i hi => by rw [(hf 32 i (by unfold PPn; omega)).1]; exact h.2.2 i hi⟩
theorem dg_229 (hI : Inv μ) : ∀ d w n n' h σ ν, w + d = 3 → d < n → d < n' → DK σ μ → fr sM μ ν → ∃ r σ' ν', f_X8_digest_229 n σ h (nI w) = some (r, σ') ∧ f_X9_digest_184 n' ν h (nI w) = some (r, ν') ∧ fr sK σ σ' ∧ fr sM μ ν' := by
  intro d
  induction d with
  | zero =>
    intro w n n' h σ ν hw hn hn' hD hν
    obtain ⟨n, rfl⟩ : ∃ m, n = m + 1 := ⟨n - 1, by omega⟩
    obtain ⟨n', rfl⟩ : ∃ m, n' = m + 1 := ⟨n' - 1, by omega⟩
    have : w = 3 := by omega
    subst this
    obtain ⟨σ', g1, g2⟩ := k_straps hI hD.2.1 hD.1.2.2.2 hD.2.2
    obtain ⟨ν', d1, d2⟩ := m_straps hI hν
    refine ⟨31 * h + (oI (SP μ)).toInt64, σ', ν', ?_, ?_, PP_sK g2, d2⟩
    · show f_X8_digest_229_B (f_X8_digest_229 n) _ _ _ = _
      unfold f_X8_digest_229_B
      rw [if_neg (show ¬ nI 3 < (3 : Int32) from q_nlt 3), Lm_K hD.1.1 hI, g1, Option.bind_some]
    · show f_X9_digest_184_B (f_X9_digest_184 n') _ _ _ = _
      unfold f_X9_digest_184_B
      rw [if_neg (show ¬ nI 3 < (3 : Int32) from q_nlt 3), d1, Option.bind_some]
  | succ d ih =>
    intro w n n' h σ ν hw hn hn' hD hν
    obtain ⟨n, rfl⟩ : ∃ m, n = m + 1 := ⟨n - 1, by omega⟩
    obtain ⟨n', rfl⟩ : ∃ m, n' = m + 1 := ⟨n' - 1, by omega⟩
    obtain ⟨σ1, g1, g2⟩ := k_loadTerm hD.1.1 hI hD.1.2.2.2 hD.2.1 (which := w) (by omega) 0
    have hD1 := DK_fr hD g2
    obtain ⟨σ2, g3, g4⟩ := k_loadTerm hD1.1.1 hI hD1.1.2.2.2 hD1.2.1 (which := w) (by omega) 1
    have hD2 := DK_fr hD1 g4
    obtain ⟨ν1, d1, d2⟩ := m_loadNow hI hν (which := w) (by omega) 0
    obtain ⟨ν2, d3, d4⟩ := m_loadNow hI d2 (which := w) (by omega) 1
    obtain ⟨r, σ', ν', e1, e2, e3, e4⟩ := ih (w + 1) n n' (31 * (31 * h + LT μ w 0) + LT μ w 1) σ2 ν2 (by omega) (by omega) (by omega) hD2 d4
    refine ⟨r, σ', ν', ?_, ?_, fr_tr (PP_sK (PPn_PP g2)) (fr_tr (PP_sK (PPn_PP g4)) e3), e4⟩
    · show f_X8_digest_229_B (f_X8_digest_229 n) _ _ _ = _
      unfold f_X8_digest_229_B
      rw [if_pos (show nI w < (3 : Int32) from nI_lt (b := 3) (by omega) (by omega)), g1, Option.bind_some, g3, Option.bind_some, nI_1]
      exact e1
    · show f_X9_digest_184_B (f_X9_digest_184 n') _ _ _ = _
      unfold f_X9_digest_184_B
      rw [if_pos (show nI w < (3 : Int32) from nI_lt (b := 3) (by omega) (by omega)), d1, Option.bind_some, d3, Option.bind_some, nI_1]
      exact e2
theorem m_thingNow (hB : Base σ μ) (hν : fr sM μ ν) {t j : Nat} (ht : t < 6) (hj : j < 6) : f_X9_thingNow ν (nI t) (nI j) = some (σ.1 3 (t * 6 + j), ν) := by
  have i1 : pp_ix (nI t) 6 := q_ix (by omega) (by omega)
  unfold f_X9_thingNow
  have : j = 0 ∨ j = 1 ∨ j = 2 ∨ 3 ≤ j := by omega
  rcases this with rfl | rfl | rfl | h3
  · rw [if_pos (show nI 0 = (0 : Int32) from rfl), if_pos i1, q_cl (k := t) (by omega), (hν 41 t (by unfold sM; omega)).1, hB.1 t ht 0 (by omega)]
  · rw [if_neg (show ¬ nI 1 = (0 : Int32) by decide), if_pos (show nI 1 = (1 : Int32) from rfl), if_pos i1, q_cl (k := t) (by omega), (hν 42 t (by unfold sM; omega)).1, hB.1 t ht 1 (by omega)]
  · rw [if_neg (show ¬ nI 2 = (0 : Int32) by decide), if_neg (show ¬ nI 2 = (1 : Int32) by decide), if_pos (show nI 2 = (2 : Int32) from rfl), if_pos i1, q_cl (k := t) (by omega), (hν 43 t (by unfold sM; omega)).1, hB.1 t ht 2 (by omega)]
  · have n0 : ∀ c : Nat, c < 3 → ¬ nI j = nI c := fun c hc q => by have := (nI_eqI (by omega) (by omega)).mp q; omega
    have e1 : (3 : Int32) * nI t + nI j - (3 : Int32) = nI (3 * t + (j - 3)) := by rw [c3I, pk_mul, nI_add, pk_sub (by omega)]; exact congrArg nI (by omega)
    have i2 : pp_ix (nI (3 * t + (j - 3))) 18 := q_ix (by omega) (by omega)
    rw [if_neg (show ¬ nI j = (0 : Int32) from n0 0 (by omega)), if_neg (show ¬ nI j = (1 : Int32) from n0 1 (by omega)), if_neg (show ¬ nI j = (2 : Int32) from n0 2 (by omega)), e1, if_pos i2, q_cl (k := 3 * t + (j - 3)) (by omega), (hν 44 _ (by unfold sM; omega)).1, ← hB.2.1 t ht (j - 3) (by omega), show 3 + (j - 3) = j by omega]
theorem dg_80 (hI : Inv μ) (k71 : pp_M → Int64 → Int32 → Option (Int64 × pp_M)) (k45 : pp_M → Int64 → Int32 → Option (Int64 × pp_M)) (hD : DK σ μ) (h33 : ∀ i, i < 6 → σ.1 33 i = nI ((LD μ).1 i)) {t : Nat} (ht : t < 6) : ∀ d j n n' h ν, j + d = 6 → d < n → d < n' → fr sM μ ν → ∃ h' ν', f_X8_digest_80 k71 n σ h (nI t) (nI j) = k71 σ h' (nI (t + 1)) ∧ f_X9_digest_54 k45 n' ν h (nI t) (nI j) = k45 ν' h' (nI (t + 1)) ∧ fr sM μ ν' := by
  intro d
  induction d with
  | zero =>
    intro j n n' h ν hj hn hn' hν
    obtain ⟨n, rfl⟩ : ∃ m, n = m + 1 := ⟨n - 1, by omega⟩
    obtain ⟨n', rfl⟩ : ∃ m, n' = m + 1 := ⟨n' - 1, by omega⟩
    have : j = 6 := by omega
    subst this
    obtain ⟨ν1, d1, d2, d3⟩ := m_bestNow hI hν (nI t)
    obtain ⟨ν2, e1, e2, e3⟩ := m_loadedNow hI d1 (nI t)
    have i1 : pp_ix (nI t) 6 := q_ix (by omega) (by omega)
    refine ⟨31 * (31 * h + (nI (bP μ t)).toInt64) + (nI ((LD μ).1 t)).toInt64, ν2, ?_, ?_, e1⟩
    · show f_X8_digest_80_B k71 (f_X8_digest_80 k71 n) _ _ _ _ = _
      unfold f_X8_digest_80_B
      rw [if_neg (show ¬ nI 6 < (6 : Int32) from q_nlt 6), if_pos i1, q_cl (k := t) (by omega), hD.2.2 t ht, h33 t ht, nI_1]
    · show f_X9_digest_54_B k45 (f_X9_digest_54 k45 n') _ _ _ _ = _
      unfold f_X9_digest_54_B
      rw [if_neg (show ¬ nI 6 < (6 : Int32) from q_nlt 6), d3 t ht rfl, Option.bind_some, e3 t ht rfl, Option.bind_some, nI_1]
  | succ d ih =>
    intro j n n' h ν hj hn hn' hν
    obtain ⟨n, rfl⟩ : ∃ m, n = m + 1 := ⟨n - 1, by omega⟩
    obtain ⟨n', rfl⟩ : ∃ m, n' = m + 1 := ⟨n' - 1, by omega⟩
    obtain ⟨h', ν', g1, g2, g3⟩ := ih (j + 1) n n' (31 * h + (σ.1 3 (t * 6 + j)).toInt64) ν (by omega) (by omega) (by omega) hν
    have i1 : pp_ix (nI t) 6 := q_ix (by omega) (by omega)
    have i2 : pp_ix (nI j) 6 := q_ix (by omega) (by omega)
    refine ⟨h', ν', ?_, ?_, g3⟩
    · show f_X8_digest_80_B k71 (f_X8_digest_80 k71 n) _ _ _ _ = _
      unfold f_X8_digest_80_B
      rw [if_pos (show nI j < (6 : Int32) from nI_lt (b := 6) (by omega) (by omega)), if_pos i1, if_pos i2, q_cl (k := t) (by omega), q_cl (k := j) (by omega), nI_1]
      exact g1
    · show f_X9_digest_54_B k45 (f_X9_digest_54 k45 n') _ _ _ _ = _
      unfold f_X9_digest_54_B
      rw [if_pos (show nI j < (6 : Int32) from nI_lt (b := 6) (by omega) (by omega)), m_thingNow hD.1.1 hν ht (by omega), Option.bind_some, nI_1]
      exact g2
theorem dg_71 (hI : Inv μ) (hD : DK σ μ) (h33 : ∀ i, i < 6 → σ.1 33 i = nI ((LD μ).1 i)) : ∀ d t n n' h ν, t + d = 6 → d < n → d < n' → fr sM μ ν → ∃ r σ' ν', f_X8_digest_71 n σ h (nI t) = some (r, σ') ∧ f_X9_digest_45 n' ν h (nI t) = some (r, ν') ∧ fr sK σ σ' ∧ fr sM μ ν' := by
  intro d
  induction d with
  | zero =>
    intro t n n' h ν ht hn hn' hν
    obtain ⟨n, rfl⟩ : ∃ m, n = m + 1 := ⟨n - 1, by omega⟩
    obtain ⟨n', rfl⟩ : ∃ m, n' = m + 1 := ⟨n' - 1, by omega⟩
    have : t = 6 := by omega
    subst this
    obtain ⟨ν1, a1, a2⟩ := m_hoursNow hI hν
    obtain ⟨ν2, b1, b2⟩ := m_judgedNow hI a2
    obtain ⟨ν3, c1, c2⟩ := m_gainNow hI b2
    have bl0 := both_low (σ := σ) (ν := ν3) hI (z := pG μ) 0 (by have := pG_bd hI; omega)
    have bl1 := both_low (σ := σ) (ν := ν3) hI (z := pG μ) 1 (by have := pG_bd hI; omega)
    obtain ⟨r, σ', ν', e1, e2, e3, e4⟩ := dg_229 hI 3 0 100000 100000 (31 * (31 * (31 * (31 * h + (nI (HR μ)).toInt64) + (JD μ).toInt64) + lowI (pG μ) (16 ^ (rowL μ).length) 0) + lowI (pG μ) (16 ^ (rowL μ).length) 1) σ ν3 (by omega) (by omega) (by omega) hD c2
    refine ⟨r, σ', ν', ?_, ?_, e3, e4⟩
    · show f_X8_digest_71_B (f_X8_digest_71 n) _ _ _ = _
      unfold f_X8_digest_71_B
      rw [if_neg (show ¬ nI 6 < (6 : Int32) from q_nlt 6), k_hours hD.1.1 hI hD.1.2.2.1, Option.bind_some, k_judged hD.1.1 hI hD.1.2.2.1, Option.bind_some, k_gainPack hD.1.1 hI hD.2.1, Option.bind_some, bl0.1, Option.bind_some, k_gainPack hD.1.1 hI hD.2.1, Option.bind_some, bl1.1, Option.bind_some]
      exact e1
    · show f_X9_digest_45_B (f_X9_digest_45 n') _ _ _ = _
      unfold f_X9_digest_45_B
      rw [if_neg (show ¬ nI 6 < (6 : Int32) from q_nlt 6), a1, Option.bind_some, b1, Option.bind_some, c1, Option.bind_some, m_row16 hI c2, Option.bind_some, bl0.2, Option.bind_some, m_row16 hI c2, Option.bind_some, bl1.2, Option.bind_some]
      exact e2
  | succ d ih =>
    intro t n n' h ν ht hn hn' hν
    obtain ⟨n, rfl⟩ : ∃ m, n = m + 1 := ⟨n - 1, by omega⟩
    obtain ⟨n', rfl⟩ : ∃ m, n' = m + 1 := ⟨n' - 1, by omega⟩
    obtain ⟨h', ν1, g1, g2, g3⟩ := dg_80 hI (f_X8_digest_71 n) (f_X9_digest_45 n') hD h33 (show t < 6 by omega) 6 0 100000 100000 h ν (by omega) (by omega) (by omega) hν
    obtain ⟨r, σ', ν', e1, e2, e3, e4⟩ := ih (t + 1) n n' h' ν1 (by omega) (by omega) (by omega) g3
    refine ⟨r, σ', ν', ?_, ?_, e3, e4⟩
    · show f_X8_digest_71_B (f_X8_digest_71 n) _ _ _ = _
      unfold f_X8_digest_71_B
      rw [if_pos (show nI t < (6 : Int32) from nI_lt (b := 6) (by omega) (by omega)), show f_X8_digest_80 (f_X8_digest_71 n) 100000 σ h (nI t) 0 = _ from g1]
      exact e1
    · show f_X9_digest_45_B (f_X9_digest_45 n') _ _ _ = _
      unfold f_X9_digest_45_B
      rw [if_pos (show nI t < (6 : Int32) from nI_lt (b := 6) (by omega) (by omega)), show f_X9_digest_54 (f_X9_digest_45 n') 100000 ν h (nI t) 0 = _ from g2]
      exact e2
theorem dg_32 (hI : Inv μ) : ∀ d w n n' h σ ν, w + d = 8 → d < n → d < n' → DK σ μ → (∀ i, i < 6 → σ.1 33 i = nI ((LD μ).1 i)) → fr sM μ ν → ∃ r σ' ν', f_X8_digest_32 n σ h (nI w) = some (r, σ') ∧ f_X9_digest_6 n' ν h (nI w) = some (r, ν') ∧ fr sK σ σ' ∧ fr sM μ ν' := by
  intro d
  induction d with
  | zero =>
    intro w n n' h σ ν hw hn hn' hD h33 hν
    obtain ⟨n, rfl⟩ : ∃ m, n = m + 1 := ⟨n - 1, by omega⟩
    obtain ⟨n', rfl⟩ : ∃ m, n' = m + 1 := ⟨n' - 1, by omega⟩
    have : w = 8 := by omega
    subst this
    obtain ⟨σ1, g1, g2⟩ := k_fault hD.1.1 hI
    obtain ⟨ν1, d1, d2, -⟩ := m_faultNow hI hν
    have hD1 : DK σ1 μ := ⟨rel0_fr hD.1 (lnP_sK g2) fr_rf, ⟨fun t ht k hk => by rw [(g2 27 _ (by unfold lnP; omega)).2]; exact hD.2.1.1 t ht k hk, fun t ht => by rw [(g2 28 _ (by unfold lnP; omega)).1, (g2 3 _ (by unfold lnP; omega)).1]; exact hD.2.1.2 t ht⟩, fun i hi => by rw [(g2 32 i (by unfold lnP; omega)).1]; exact hD.2.2 i hi⟩
    obtain ⟨r, σ', ν', e1, e2, e3, e4⟩ := dg_71 hI hD1 (fun i hi => by rw [(g2 33 i (by unfold lnP; omega)).1]; exact h33 i hi) 6 0 100000 100000 (31 * h + (oI (FT μ)).toInt64) ν1 (by omega) (by omega) (by omega) d2
    refine ⟨r, σ', ν', ?_, ?_, fr_tr (lnP_sK g2) e3, e4⟩
    · show f_X8_digest_32_B (f_X8_digest_32 n) _ _ _ = _
      unfold f_X8_digest_32_B
      rw [if_neg (show ¬ nI 8 < (8 : Int32) from q_nlt 8), g1, Option.bind_some]
      exact e1
    · show f_X9_digest_6_B (f_X9_digest_6 n') _ _ _ = _
      unfold f_X9_digest_6_B
      rw [if_neg (show ¬ nI 8 < (8 : Int32) from q_nlt 8), d1, Option.bind_some]
      exact e2
  | succ d ih =>
    intro w n n' h σ ν hw hn hn' hD h33 hν
    obtain ⟨n, rfl⟩ : ∃ m, n = m + 1 := ⟨n - 1, by omega⟩
    obtain ⟨n', rfl⟩ : ∃ m, n' = m + 1 := ⟨n' - 1, by omega⟩
    obtain ⟨r, σ', ν', e1, e2, e3, e4⟩ := ih (w + 1) n n' (31 * h + (CT μ (nI w)).toInt64) σ ν (by omega) (by omega) (by omega) hD h33 hν
    refine ⟨r, σ', ν', ?_, ?_, e3, e4⟩
    · show f_X8_digest_32_B (f_X8_digest_32 n) _ _ _ = _
      unfold f_X8_digest_32_B
      rw [if_pos (show nI w < (8 : Int32) from nI_lt (b := 8) (by omega) (by omega)), k_count hD.1.1 hI, Option.bind_some, nI_1]
      exact e1
    · show f_X9_digest_6_B (f_X9_digest_6 n') _ _ _ = _
      unfold f_X9_digest_6_B
      rw [if_pos (show nI w < (8 : Int32) from nI_lt (b := 8) (by omega) (by omega)), m_count hI hν, Option.bind_some, nI_1]
      exact e2
theorem h_digest (hCa : CaOk Ca) (h : Rel Ca σ μ) : ∃ (r : Int64) (σ' μ' : pp_M), f_X8_digest σ = some (r, σ') ∧ f_X9_digest μ = some (r, μ') ∧ Rel Ca σ' μ' := by
  have hI := h.2.1
  obtain ⟨σ1, g1, g2, g3⟩ := k_weighUp h.1 hI
  have hB1 := base_fr h.1 (WU_sK g2) fr_rf
  have hz1 := zK_fr h.2.2.2.2 (WU_sK g2)
  obtain ⟨σ2, d1, d2, d3⟩ := kBest hI g3 hz1
  have hB2 := base_fr hB1 (PP_sK d2) fr_rf
  have hG2 := GK_fr g3 d2
  obtain ⟨σ3, u1, u2, u3⟩ := kLoaded hI hG2
  have f3 : fr sK σ σ3 := fr_tr (WU_sK g2) (fr_tr (PP_sK d2) (PP_sK (P33_PP u2)))
  have hD : DK σ3 μ := ⟨rel0_fr (rel_to0 h) f3 fr_rf, GK_fr hG2 (P33_PP u2), fun i hi => by rw [(u2 32 i (by unfold P33; omega)).1]; exact d3 i hi⟩
  obtain ⟨r, σ', ν', e1, e2, e3, e4⟩ := dg_32 hI 8 0 100000 100000 17 σ3 μ (by omega) (by omega) (by omega) hD u3 (fr_rf (σ := μ))
  refine ⟨r, σ', ν', ?_, e2, rel_scratch hCa h (fr_tr f3 e3) e4⟩
  unfold f_X8_digest
  rw [g1, Option.bind_some, Lm_K hB1 hI, d1, Option.bind_some, Lm_K hB2 hI, u1, Option.bind_some]
  exact e1
end DIGEST
