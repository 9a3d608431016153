/-! the best round -/
section ROUND
variable {σ μ ν : pp_M}
theorem OKr_nil (hI : Inv μ) : OKr μ [] := by
  refine ⟨⟨Nat.zero_le _, List.nodup_nil, fun f hf => by cases hf⟩, ?_⟩
  have h0 : hrN (DW μ) 0 [] = 0 := (DW_ok hI).1.2 0 (by omega)
  have h6 : bd (μ.1 40 6) 1 200 := hI.2.2.2.2.2.2.2.2.2.1
  rw [h0]
  have := h6.1
  show (0 : Int) ≤ _
  omega
theorem JG_best (hI : Inv μ) (hM : (fL (Op μ)).length ≤ 5) (h : JG μ ν (AL μ)) {R : List Nat} (hb : bestIn (Vr μ) (OKr μ) R) : ν.2 40 36 = lI (Vm μ R) ∧ ν.1 40 34 = nI R.length ∧ isRow (ν.1 63) 0 R := by
  rcases h.2.1 with ⟨b1, b2⟩ | ⟨ds, b1, b2, b3, b4⟩
  · obtain ⟨ds, d1, d2⟩ := AL_of hb.1
    exact absurd d1 (b2 ds)
  · have hk := AL_ok hM b1.1
    have hB : bestIn (Vr μ) (OKr μ) (rowD (Op μ) ds) := ⟨hk, fun R' h' => by
      obtain ⟨es, e1, e2⟩ := AL_of h'
      have hv : Vm μ R' = vm μ es := by rw [e2]; rfl
      rw [Vr_Vm hI h'.1.1, Vr_Vm hI hk.1.1, hv, show Vm μ (rowD (Op μ) ds) = vm μ ds from rfl]
      rcases b1.2 es e1 with q | q
      · exact Or.inl (by omega)
      · exact Or.inr ⟨by rw [q.1], by rw [e2]; exact q.2⟩⟩
    have := best_uniq (rOk_r hI) hb hB
    rw [this]
    exact ⟨b2, by rw [rowD_len]; exact b3, b4⟩
theorem k_best (h : Rel CaD σ μ) : ∃ σ1 B' R, f_X6_findRounds σ (σ.1 0 13) (σ.1 0 11) (σ.1 0 12) = some σ1 ∧ Rel CaD σ1 μ ∧ B' < 128 ∧ f_X6_bestSet σ1 = some (nI B', σ1) ∧ bestIn (Vr μ) (OKr μ) R ∧ σ1.2 37 B' = lI (Vr μ R) ∧ σ1.1 38 B' = nI (code8 R) := by
  obtain ⟨σ1, g1, g2, g3⟩ := k_findRounds h
  obtain ⟨B', b1, b2, b3⟩ := k_bestSet g2 (rOk_r h.2.1)
  rcases b3 with ⟨_, _, b5⟩ | ⟨R, b5, b6, b7⟩
  · exact absurd (OKr_nil h.2.1) (b5 [])
  · exact ⟨σ1, B', R, g1, g3, b1, b2, b5, b6, b7⟩
theorem h_round (a1 : Int32) (h : Rel CaD σ μ) : ∃ (r : Int32) (σ' μ' : pp_M), f_X8_round σ a1 = some (r, σ') ∧ f_X9_round μ a1 = some (r, μ') ∧ Rel CaD σ' μ' := by
  have hI := h.2.1
  unfold f_X8_round f_X9_round
  by_cases c1 : a1 < (-1 : Int32)
  · rw [if_pos c1, if_pos c1]; exact ⟨_, _, _, rfl, rfl, h⟩
  obtain ⟨ν1, m1, m2, m3⟩ := m_gathers hI (fr_rf (σ := μ))
  rw [if_neg c1, if_neg c1, k_tooMany h.1 hI, m1, Option.bind_some, Option.bind_some]
  by_cases c2 : 5 < (fL (Op μ)).length
  · rw [if_pos c2, if_pos c2, if_neg (show ¬ (1 : Int32) = 0 by decide), if_pos rfl]
    exact ⟨_, _, _, rfl, rfl, rel_scratch CaD_ok h fr_rf m2⟩
  have hM : (fL (Op μ)).length ≤ 5 := by omega
  obtain ⟨σ1, B', R, g1, g2, b1, b2, b3, b4, b5⟩ := k_best h
  obtain ⟨ν2, d1, d2⟩ := m_goesRound hI hM m2 m3
  obtain ⟨e1, e2, e3⟩ := JG_best hI hM d2 b3
  have rel := rel_scratch CaD_ok g2 (fr_rf (σ := σ1)) d2.1.1
  have i1 : pp_ix (nI B') 128 := q_ix b1 (by omega)
  have hR := (rOk_r hI) R b3.1
  have hf := k_farmsOf (σ := σ1) hR.1 hR.2.1
  rw [if_neg c2, if_neg c2, if_pos rfl, if_neg (show ¬ (1 : Int32) = 0 by decide), g1, Option.bind_some, b2, Option.bind_some, if_pos i1, q_cl (k := B') (by omega), b5, hf, Option.bind_some, d1, Option.bind_some, e2]
  by_cases c3 : a1 = -1
  · rw [if_pos c3, if_pos c3]; exact ⟨_, _, _, rfl, rfl, rel⟩
  rw [if_neg c3, if_neg c3]
  by_cases c4 : a1 < nI R.length
  · rw [if_pos c4, if_pos c4]
    have h0 : 0 ≤ a1.toInt := by
      rw [Int32.lt_iff_toInt_lt, show ((-1 : Int32)).toInt = -1 from rfl] at c1
      have : a1.toInt ≠ -1 := fun q => c3 (Int32.toInt_inj.mp q)
      omega
    have h1 : a1.toInt < R.length := by
      rw [Int32.lt_iff_toInt_lt, nI_toInt (by omega)] at c4
      exact c4
    obtain ⟨i, hi, rfl⟩ : ∃ i, i < R.length ∧ a1 = nI i := ⟨a1.toInt.toNat, by omega, Int32.toInt_inj.mp (by rw [nI_toInt (by omega)]; omega)⟩
    have i2 : pp_ix (nI i) 5 := q_ix (by omega) (by omega)
    have hfo := k_farmOf (σ := σ1) hR.1 hR.2.1 hi
    have h3 := e3 i hi
    rw [Nat.zero_add] at h3
    rw [c1I, pk_sub (by omega), pk_sub (by omega), hfo, Option.bind_some, if_pos i2, q_cl (k := i) (by omega), h3]
    exact ⟨_, _, _, rfl, rfl, rel⟩
  · rw [if_neg c4, if_neg c4]; exact ⟨_, _, _, rfl, rfl, rel⟩
theorem h_rounds (a1 : Int32) (h : Rel CaD σ μ) : ∃ (r : Int64) (σ' μ' : pp_M), f_X8_rounds σ a1 = some (r, σ') ∧ f_X9_rounds μ a1 = some (r, μ') ∧ Rel CaD σ' μ' := by
  have hI := h.2.1
  unfold f_X8_rounds f_X9_rounds
  rw [k_isTerm, m_in, Option.bind_some, Option.bind_some]
  by_cases c1 : wi a1 0 1 = 0
  · rw [if_pos c1, if_pos c1]; exact ⟨_, _, _, rfl, rfl, h⟩
  obtain ⟨ν1, m1, m2, m3⟩ := m_gathers hI (fr_rf (σ := μ))
  rw [if_neg c1, if_neg c1, k_tooMany h.1 hI, m1, Option.bind_some, Option.bind_some]
  by_cases c2 : 5 < (fL (Op μ)).length
  · rw [if_pos c2, if_pos c2, if_neg (show ¬ (1 : Int32) = 0 by decide), if_pos rfl]
    exact ⟨_, _, _, rfl, rfl, rel_scratch CaD_ok h fr_rf m2⟩
  have hM : (fL (Op μ)).length ≤ 5 := by omega
  obtain ⟨σ1, B', R, g1, g2, b1, b2, b3, b4, b5⟩ := k_best h
  obtain ⟨ν2, d1, d2⟩ := m_goesRound hI hM m2 m3
  obtain ⟨e1, e2, e3⟩ := JG_best hI hM d2 b3
  have rel := rel_scratch CaD_ok g2 (fr_rf (σ := σ1)) d2.1.1
  have i1 : pp_ix (nI B') 128 := q_ix b1 (by omega)
  have hR := (rOk_r hI) R b3.1
  have ev : Vr μ R = Vm μ R * 16 ^ (7 - 5) := Vr_Vm hI hR.1
  have hb := hR.2.2
  rw [ev] at hb
  have t1 := k_termU (σ := σ1) (z := Vm μ R) (n := 5) a1 (by omega) (by omega) (by omega)
  have t2 := m_lowU (μ := ν2) (z := Vm μ R) (n := 5) a1 (by omega) (by omega) (by omega)
  rw [if_neg c2, if_neg c2, if_pos rfl, if_neg (show ¬ (1 : Int32) = 0 by decide), g1, Option.bind_some, b2, Option.bind_some, if_pos i1, q_cl (k := B') (by omega), b4, ev, t1, Option.bind_some, d1, Option.bind_some, show f_X9_sixteen ν2 5 = _ from m_sixteen (n := 5) (by omega), Option.bind_some, e1, t2, Option.bind_some]
  exact ⟨_, _, _, rfl, rfl, rel⟩
end ROUND
