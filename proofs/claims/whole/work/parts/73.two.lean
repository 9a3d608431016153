/-! two and both -/
section TWO
variable {σ μ ν : pp_M}
theorem Vr_pos (hI : Inv μ) (R : List Nat) : 0 ≤ Vr μ R := by
  have hW : ∀ t, t < 6 → 0 < Wt μ t := fun t ht => (Wt_ok hI ht).2.1
  unfold Vr
  rw [← kn_dM (pkOk_S hI R) (Lm μ), ← pg_0 (GS μ R) (fun t _ => GS_0 μ R t)]
  exact kn_ub hW (fun t _ => GS_0 μ R t) 6 0 (Lm μ) (by omega) (fe_0 (Wt μ) 6 (Lm μ)).2
theorem kF (hI : Inv μ) (hT : TBL σ (Vr μ) (OKr μ)) {S : Nat} (h : FKs (σ.2 37) S) : ∃ R, OKr μ R ∧ bset R = S ∧ UK (σ.2 37) S = Vr μ R ∧ ∀ R', OKr μ R' → bset R' = S → Vr μ R' ≤ Vr μ R := by
  rcases hT S h.1 with ⟨q, _⟩ | ⟨R, r1, r2, r3, r4, r5⟩
  · exact absurd q h.2
  · refine ⟨R, r1, r2, ?_, fun R' h1 h2 => ?_⟩
    · have := (rOk_r hI) R r1
      unfold UK
      rw [r3, lI_toInt (by omega) (by omega)]
    · rcases r5 R' h1 h2 with q | q <;> omega
theorem kF' (hI : Inv μ) (hT : TBL σ (Vr μ) (OKr μ)) {R : List Nat} (h : OKr μ R) : FKs (σ.2 37) (bset R) := by
  have hr := (rOk_r hI) R h
  have hb : bset R < 128 := bset_lt R hr.2.1
  refine ⟨hb, fun q => ?_⟩
  rcases hT (bset R) hb with ⟨_, _, q3⟩ | ⟨R', r1, r2, r3, r4, r5⟩
  · exact q3 R h rfl
  · have := (rOk_r hI) R' r1
    exact (NOR_lt this.2.2.1 this.2.2.2).2 (r3.symm.trans q)
theorem kF_ok (hI : Inv μ) (hT : TBL σ (Vr μ) (OKr μ)) : pOk (FKs (σ.2 37)) (UK (σ.2 37)) 128 ∧ ∀ S, FKs (σ.2 37) S → S &&& Op μ = S := by
  refine ⟨⟨fun S h => ?_, kF' hI hT (OKr_nil hI), ?_⟩, fun S h => ?_⟩
  · obtain ⟨R, r1, r2, r3, r4⟩ := kF hI hT h
    have := (rOk_r hI) R r1
    rw [r3]
    exact ⟨h.1, this.2.2⟩
  · obtain ⟨R, r1, r2, r3, r4⟩ := kF hI hT (kF' hI hT (OKr_nil hI))
    have e : UK (σ.2 37) 0 = Vr μ R := r3
    rw [e]
    exact Vr_pos hI R
  · obtain ⟨R, r1, r2, r3, r4⟩ := kF hI hT h
    rw [sub_bits]
    intro i hi
    rw [← r2] at hi
    have := (bset_bit R (i + 1) (by omega) (fun g hg => (r1.1.2.2 g hg).1)).mp hi
    exact (r1.1.2.2 _ this).2.2
theorem mF (hI : Inv μ) (hM : (fL (Op μ)).length ≤ 5) (hJ : JG μ ν (AL μ)) {s : Nat} (h : FR (ν.2 64) (2 ^ (fL (Op μ)).length) s) : ∃ ds, AL μ ds ∧ bsD ds = s ∧ UK (ν.2 64) s = vm μ ds ∧ ∀ es, AL μ es → bsD es = s → vm μ es ≤ vm μ ds := by
  have h5 : (2 : Nat) ^ (fL (Op μ)).length ≤ 2 ^ 5 := Nat.pow_le_pow_right (by omega) hM
  have hs := h.1
  rcases hJ.2.2 s (by omega) with ⟨q, _⟩ | ⟨ds, r1, r2, r3, r4⟩
  · exact absurd q h.2
  · refine ⟨ds, r1, r2, ?_, r4⟩
    have : -6000000000000 ≤ vm μ ds ∧ vm μ ds ≤ 6000000000000 := Vm_bd hI hM r1.1
    unfold UK
    rw [r3, lI_toInt (by omega) (by omega)]
theorem mF' (hI : Inv μ) (hM : (fL (Op μ)).length ≤ 5) (hJ : JG μ ν (AL μ)) {ds : List Nat} (h : AL μ ds) : FR (ν.2 64) (2 ^ (fL (Op μ)).length) (bsD ds) := by
  have h5 : (2 : Nat) ^ (fL (Op μ)).length ≤ 2 ^ 5 := Nat.pow_le_pow_right (by omega) hM
  have hb := bsD_lt ds h.1.2
  refine ⟨hb, fun q => ?_⟩
  rcases hJ.2.2 (bsD ds) (by omega) with ⟨_, q3⟩ | ⟨es, r1, r2, r3, r4⟩
  · exact q3 ds h rfl
  · have : -6000000000000 ≤ vm μ es ∧ vm μ es ≤ 6000000000000 := Vm_bd hI hM r1.1
    have hNG : NG = -1000000000000000000 := rfl
    have := (lI_inj (by omega) (by omega) (by omega) (by omega)).mp (r3.symm.trans q)
    omega
theorem mF_ok (hI : Inv μ) (hM : (fL (Op μ)).length ≤ 5) (hJ : JG μ ν (AL μ)) (hc : ∀ s, FR (ν.2 64) (2 ^ (fL (Op μ)).length) s → -10000000000000 ≤ UK (ν.2 64) s ∧ UK (ν.2 64) s ≤ 10000000000000) : pOk (FR (ν.2 64) (2 ^ (fL (Op μ)).length)) (UK (ν.2 64)) (2 ^ (fL (Op μ)).length) := by
  obtain ⟨ds, d1, d2⟩ := AL_of (OKr_nil hI)
  have hz : ds = [] := by
    cases ds with
    | nil => rfl
    | cons d ds => cases d2
  rw [hz] at d1
  have f0 := mF' hI hM hJ d1
  refine ⟨fun s h => ⟨h.1, hc s h⟩, f0, ?_⟩
  obtain ⟨es, e1, e2, e3, e4⟩ := mF hI hM hJ f0
  have e : UK (ν.2 64) 0 = vm μ es := e3
  rw [e]
  have hk := AL_ok hM e1
  have := Vr_pos hI (rowD (Op μ) es)
  rw [Vr_Vm hI hk.1.1] at this
  unfold vm
  omega
theorem mF_bd (hI : Inv μ) (hM : (fL (Op μ)).length ≤ 5) (hJ : JG μ ν (AL μ)) {s : Nat} (h : FR (ν.2 64) (2 ^ (fL (Op μ)).length) s) : -6000000000000 ≤ UK (ν.2 64) s ∧ UK (ν.2 64) s ≤ 6000000000000 := by
  obtain ⟨ds, e1, e2, e3, e4⟩ := mF hI hM hJ h
  rw [e3]
  exact Vm_bd hI hM e1.1
theorem conn1 (hI : Inv μ) (hM : (fL (Op μ)).length ≤ 5) (hT : TBL σ (Vr μ) (OKr μ)) (hJ : JG μ ν (AL μ)) {s : Nat} (h : FR (ν.2 64) (2 ^ (fL (Op μ)).length) s) : FKs (σ.2 37) (phi (Op μ) s) ∧ UK (σ.2 37) (phi (Op μ) s) = UK (ν.2 64) s * 256 := by
  obtain ⟨ds, d1, d2, d3, d4⟩ := mF hI hM hJ h
  have hk := AL_ok hM d1
  have hb : bset (rowD (Op μ) ds) = phi (Op μ) s := by rw [phi_row d1.1, d2]
  have hF := kF' hI hT hk
  rw [hb] at hF
  refine ⟨hF, ?_⟩
  obtain ⟨R, r1, r2, r3, r4⟩ := kF hI hT hF
  obtain ⟨es, e1, e2⟩ := AL_of r1
  have hs : bsD es = s := by
    rw [e2, phi_row e1.1] at r2
    exact phi_inj (Op_ok hI).2 hM (bsD_lt es e1.1.2) h.1 r2
  have q1 := d4 es e1 hs
  have q2 := r4 _ hk hb
  rw [Vr_Vm hI hk.1.1, Vr_Vm hI r1.1.1] at q2
  have q3 : Vm μ R = vm μ es := by rw [e2]; rfl
  have q4 : Vm μ (rowD (Op μ) ds) = vm μ ds := rfl
  rw [r3, d3, Vr_Vm hI r1.1.1]
  omega
theorem conn2 (hI : Inv μ) (hM : (fL (Op μ)).length ≤ 5) (hT : TBL σ (Vr μ) (OKr μ)) (hJ : JG μ ν (AL μ)) {S : Nat} (h : FKs (σ.2 37) S) : ∃ s, FR (ν.2 64) (2 ^ (fL (Op μ)).length) s ∧ S = phi (Op μ) s := by
  obtain ⟨R, r1, r2, r3, r4⟩ := kF hI hT h
  obtain ⟨es, e1, e2⟩ := AL_of r1
  exact ⟨bsD es, mF' hI hM hJ e1, by rw [← r2, e2, phi_row e1.1]⟩
theorem conn (hI : Inv μ) (hM : (fL (Op μ)).length ≤ 5) (hT : TBL σ (Vr μ) (OKr μ)) (hJ : JG μ ν (AL μ)) {s t S T : Nat} (h : BQ (UK (ν.2 64)) (fun s t => FR (ν.2 64) (2 ^ (fL (Op μ)).length) s ∧ FR (ν.2 64) (2 ^ (fL (Op μ)).length) t ∧ s &&& t = 0) s t) (hk : BQ (UK (σ.2 37)) (fun S T => FKs (σ.2 37) S ∧ FKs (σ.2 37) T ∧ S &&& T = 0) S T) : S = phi (Op μ) s ∧ T = phi (Op μ) t ∧ UK (σ.2 37) S + UK (σ.2 37) T = (UK (ν.2 64) s + UK (ν.2 64) t) * 256 := by
  have ho := (Op_ok hI).2
  obtain ⟨⟨h1, h2, h3⟩, h4⟩ := h
  have a1 := conn1 hI hM hT hJ h1
  have a2 := conn1 hI hM hT hJ h2
  have hB : BQ (UK (σ.2 37)) (fun S T => FKs (σ.2 37) S ∧ FKs (σ.2 37) T ∧ S &&& T = 0) (phi (Op μ) s) (phi (Op μ) t) := by
    refine ⟨⟨a1.1, a2.1, (phi_dis h1.1).mpr h3⟩, fun S' T' ⟨q1, q2, q3⟩ => ?_⟩
    obtain ⟨s', s1, s2⟩ := conn2 hI hM hT hJ q1
    obtain ⟨t', t1, t2⟩ := conn2 hI hM hT hJ q2
    have b1 := conn1 hI hM hT hJ s1
    have b2 := conn1 hI hM hT hJ t1
    rw [s2, t2] at q3 ⊢
    have q4 := h4 s' t' ⟨s1, t1, (phi_dis s1.1).mp q3⟩
    rw [b1.2, b2.2, a1.2, a2.2]
    rcases q4 with q4 | ⟨q4, q5⟩
    · exact Or.inl (by omega)
    · refine Or.inr ⟨by omega, ?_⟩
      rcases q5 with q5 | ⟨q5, q6⟩
      · exact Or.inl (phi_lt ho hM q5 s1.1)
      · refine Or.inr ⟨by rw [q5], ?_⟩
        rcases Nat.lt_or_eq_of_le q6 with q7 | q7
        · exact Nat.le_of_lt (phi_lt ho hM q7 t1.1)
        · rw [q7]; exact Nat.le_refl _
  have u := BQ_uniq hk hB
  refine ⟨u.1, u.2, ?_⟩
  rw [u.1, u.2, a1.2, a2.2]
  omega
theorem m_parted (hI : Inv μ) (hM : (fL (Op μ)).length ≤ 5) (hf : fr sM μ ν) (hG : GA ν (Op μ)) : ∃ ν1 ν' s t, f_X9_parted ν = some ν' ∧ JG μ ν1 (AL μ) ∧ fr sM μ ν' ∧ GA ν' (Op μ) ∧ BQ (UK (ν1.2 64)) (fun s t => FR (ν1.2 64) (2 ^ (fL (Op μ)).length) s ∧ FR (ν1.2 64) (2 ^ (fL (Op μ)).length) t ∧ s &&& t = 0) s t ∧ ν'.1 40 38 = nI s ∧ ν'.1 40 39 = nI t ∧ ν'.2 40 40 = lI (UK (ν1.2 64) s + UK (ν1.2 64) t) := by
  obtain ⟨ν1, g1, g2⟩ := m_goesRound hI hM hf hG
  have h5 : (2 : Nat) ^ (fL (Op μ)).length ≤ 2 ^ 5 := Nat.pow_le_pow_right (by omega) hM
  have hP := mF_ok hI hM g2 (fun s h => by have := mF_bd hI hM g2 h; omega)
  have f0 : fr P40 ν1 (ppT ν1 40 40 (-1000000000000000000 : Int64)) := fr_T ⟨rfl, by omega, by omega⟩
  have m0 : MP (ν1.2 64) (fL (Op μ)).length (ppT ν1 40 40 (-1000000000000000000 : Int64)) 0 0 := ⟨fun S hS => qt_tok (by omega), g2.1.2.1.1, Or.inl ⟨fun S T q => by rw [Dp_0] at q; exact q, qt_same _ _ _ _⟩⟩
  obtain ⟨ν2, d1, d2, d3⟩ := m_pt13 hM hP (2 ^ (fL (Op μ)).length) 0 100000 _ (by omega) (by omega) m0
  have f1 : fr P40 ν1 ν2 := fr_tr f0 d2
  have j0 := J0_fr g2.1 f1 (fun t i q => by unfold P40 at q; unfold sM; omega) (by unfold P40; omega) (fun i => by unfold P40; omega) (fun i => by unfold P40; omega)
  rw [MP, BQ_all (fun T hT => (hP.1 T hT).1)] at d3
  rcases d3.2.2 with ⟨q, _⟩ | ⟨s, t, q1, q2, q3, q4⟩
  · exact absurd ⟨hP.2.1, hP.2.1, rfl⟩ (q 0 0)
  · refine ⟨ν1, ν2, s, t, ?_, g2, j0.1, j0.2.1, q1, q2, q3, q4⟩
    unfold f_X9_parted
    rw [g1, Option.bind_some]
    exact d1
theorem m_two47 {o s : Nat} (hs : s < 2 ^ 31) (hM : (fL o).length ≤ 5) (hG : GA ν o) : ∀ d i N, i + d = (fL o).length → d < N → f_X9_two_47 N ν (nI s) (nI (phN o s i)) (nI i) = some (nI (phi o s), ν) := by
  intro d
  induction d with
  | zero =>
    intro i N hi hN
    obtain ⟨N, rfl⟩ : ∃ n', N = n' + 1 := ⟨N - 1, by omega⟩
    have e : i = (fL o).length := by omega
    show f_X9_two_47_B (f_X9_two_47 N) _ _ _ _ = _
    unfold f_X9_two_47_B
    rw [hG.1, e, if_neg (q_nlt _)]
    rfl
  | succ d ih =>
    intro i N hi hN
    obtain ⟨N, rfl⟩ : ∃ n', N = n' + 1 := ⟨N - 1, by omega⟩
    have i1 : pp_ix (nI i) 7 := q_ix (by omega) (by omega)
    have ha := fL_at (o := o) (show i < (fL o).length by omega)
    obtain ⟨b, hb⟩ : ∃ b, (fL o).getD i 0 = b + 1 := ⟨(fL o).getD i 0 - 1, by omega⟩
    have ih' := ih (i + 1) N (by omega) (by omega)
    have eP : phN o s (i + 1) = phN o s i ||| (if s.testBit i then 2 ^ ((fL o).getD i 0 - 1) else 0) := rfl
    show f_X9_two_47_B (f_X9_two_47 N) _ _ _ _ = _
    unfold f_X9_two_47_B f_X9_two_82
    rw [hG.1, if_pos (nI_lt (by omega) (by omega)), if_pos i1, q_cl (k := i) (by omega), hG.2 i (by omega), hb, nI_s1, bit_sh (by omega), nI_or, nI_1 i, show (0 : Int32) = nI 0 from rfl, nI_or]
    rw [hb, Nat.add_sub_cancel] at eP
    by_cases c : s.testBit i = true
    · rw [if_pos ((bit_1 hs (by omega)).mpr c)]
      rw [if_pos c] at eP
      rw [← eP]
      exact ih'
    · rw [if_neg (fun q => c ((bit_1 hs (by omega)).mp q))]
      rw [if_neg c] at eP
      rw [← eP]
      exact ih'
theorem k_parts (h : Rel CaD σ μ) (hM : (fL (Op μ)).length ≤ 5) : ∃ σ1 σ2 S T, f_X6_findRounds σ (σ.1 0 13) (σ.1 0 11) (σ.1 0 12) = some σ1 ∧ f_X6_part σ1 (σ1.1 0 13) = some σ2 ∧ TBL σ1 (Vr μ) (OKr μ) ∧ Rel CaD σ2 μ ∧ BQ (UK (σ1.2 37)) (fun S T => FKs (σ1.2 37) S ∧ FKs (σ1.2 37) T ∧ S &&& T = 0) S T ∧ σ2.1 36 12 = nI S ∧ σ2.1 36 13 = nI T ∧ σ2.2 36 14 = lI (UK (σ1.2 37) S + UK (σ1.2 37) T) := by
  have hI := h.2.1
  obtain ⟨σ1, g1, g2, g3⟩ := k_findRounds h
  have hP := kF_ok hI g2
  obtain ⟨σ2, S, T, d1, d2, d3, d4, d5, d6⟩ := k_part (σ := σ1) (Op_ok hI).2 hP.1 hP.2
  have e13 : σ1.1 0 13 = nI (Op μ) := by rw [g3.1.2.2.2.2.2.2.2.2.2.2.2.2.2, (Op_ok hI).1]
  refine ⟨σ1, σ2, S, T, g1, by rw [e13]; exact d1, g2, rel_scratch CaD_ok g3 (fr_mono d2 (fun t i q => by unfold P36 at q; unfold sK; omega)) (fr_rf (σ := μ)), d3, d4, d5, d6⟩
theorem h_two (a1 : Int32) (h : Rel CaD σ μ) : ∃ (r : Int32) (σ' μ' : pp_M), f_X8_two σ a1 = some (r, σ') ∧ f_X9_two μ a1 = some (r, μ') ∧ Rel CaD σ' μ' := by
  have hI := h.2.1
  unfold f_X8_two f_X9_two
  rw [k_within, m_in, Option.bind_some, Option.bind_some]
  by_cases c1 : wi a1 0 1 = 0
  · rw [if_pos c1, if_pos c1]; exact ⟨_, _, _, rfl, rfl, h⟩
  obtain ⟨ν1, m1, m2, m3⟩ := m_gathers hI (fr_rf (σ := μ))
  rw [if_neg c1, if_neg c1, k_tooMany h.1 hI, m1, Option.bind_some, Option.bind_some]
  by_cases c2 : 5 < (fL (Op μ)).length
  · rw [if_pos c2, if_pos c2, if_neg (show ¬ (1 : Int32) = 0 by decide), if_pos rfl]
    exact ⟨_, _, _, rfl, rfl, rel_scratch CaD_ok h fr_rf m2⟩
  have hM : (fL (Op μ)).length ≤ 5 := by omega
  have h5 : (2 : Nat) ^ (fL (Op μ)).length ≤ 2 ^ 5 := Nat.pow_le_pow_right (by omega) hM
  obtain ⟨σ1, σ2, S, T, g1, g2, g3, g4, g5, g6, g7, g8⟩ := k_parts h hM
  obtain ⟨ν2, ν3, s, t, d1, d2, d3, d4, d5, d6, d7, d8⟩ := m_parted hI hM m2 m3
  obtain ⟨e1, e2, e3⟩ := conn hI hM g3 d2 d5 g5
  have rel := rel_scratch CaD_ok g4 (fr_rf (σ := σ2)) d3
  have hs := d5.1.1.1
  have ht := d5.1.2.1.1
  rw [if_neg c2, if_neg c2, if_pos rfl, if_neg (show ¬ (1 : Int32) = 0 by decide), g1, Option.bind_some, g2, Option.bind_some, d1, Option.bind_some, g6, g7, d6, d7, e1, e2]
  unfold f_X9_two_41
  by_cases c3 : a1 = 0
  · rw [if_pos c3, if_pos c3, show f_X9_two_47 100000 ν3 (nI s) 0 0 = _ from m_two47 (by omega) hM d4 (fL (Op μ)).length 0 100000 (by omega) (by omega)]
    exact ⟨_, _, _, rfl, rfl, rel⟩
  · rw [if_neg c3, if_neg c3, show f_X9_two_47 100000 ν3 (nI t) 0 0 = _ from m_two47 (by omega) hM d4 (fL (Op μ)).length 0 100000 (by omega) (by omega)]
    exact ⟨_, _, _, rfl, rfl, rel⟩
theorem h_both (a1 : Int32) (h : Rel CaD σ μ) : ∃ (r : Int64) (σ' μ' : pp_M), f_X8_both σ a1 = some (r, σ') ∧ f_X9_both μ a1 = some (r, μ') ∧ Rel CaD σ' μ' := by
  have hI := h.2.1
  unfold f_X8_both f_X9_both
  rw [k_isTerm, m_in, Option.bind_some, Option.bind_some]
  by_cases c1 : wi a1 0 1 = 0
  · rw [if_pos c1, if_pos c1]; exact ⟨_, _, _, rfl, rfl, h⟩
  obtain ⟨ν1, m1, m2, m3⟩ := m_gathers hI (fr_rf (σ := μ))
  rw [if_neg c1, if_neg c1, k_tooMany h.1 hI, m1, Option.bind_some, Option.bind_some]
  by_cases c2 : 5 < (fL (Op μ)).length
  · rw [if_pos c2, if_pos c2, if_neg (show ¬ (1 : Int32) = 0 by decide), if_pos rfl]
    exact ⟨_, _, _, rfl, rfl, rel_scratch CaD_ok h fr_rf m2⟩
  have hM : (fL (Op μ)).length ≤ 5 := by omega
  obtain ⟨σ1, σ2, S, T, g1, g2, g3, g4, g5, g6, g7, g8⟩ := k_parts h hM
  obtain ⟨ν2, ν3, s, t, d1, d2, d3, d4, d5, d6, d7, d8⟩ := m_parted hI hM m2 m3
  obtain ⟨e1, e2, e3⟩ := conn hI hM g3 d2 d5 g5
  have rel := rel_scratch CaD_ok g4 (fr_rf (σ := σ2)) d3
  have b1 := mF_bd hI hM d2 d5.1.1
  have b2 := mF_bd hI hM d2 d5.1.2.1
  have hz : ∀ z : Int, z * 16 ^ (7 - 5) = z * 256 := fun z => rfl
  have t1 := k_termU (σ := σ2) (z := UK (ν2.2 64) s + UK (ν2.2 64) t) (n := 5) a1 (by omega) (by rw [hz]; omega) (by rw [hz]; omega)
  rw [hz] at t1
  have t2 := m_lowU (μ := ν3) (z := UK (ν2.2 64) s + UK (ν2.2 64) t) (n := 5) a1 (by omega) (by omega) (by omega)
  rw [if_neg c2, if_neg c2, if_pos rfl, if_neg (show ¬ (1 : Int32) = 0 by decide), g1, Option.bind_some, g2, Option.bind_some, d1, Option.bind_some, g8, e3, t1, Option.bind_some, show f_X9_sixteen ν3 5 = _ from m_sixteen (n := 5) (by omega), Option.bind_some, d8, t2, Option.bind_some]
  exact ⟨_, _, _, rfl, rfl, rel⟩
end TWO
