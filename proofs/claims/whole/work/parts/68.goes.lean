/-! the reference goes round all rows -/
section GOES
variable {Ca : pp_M → pp_M → Prop} {σ μ ν : pp_M}
theorem nI_nm1 {k : Nat} (h : k < 2 ^ 31) : ¬ nI k = (-1 : Int32) := fun q => by
  have := congrArg Int32.toInt q
  rw [nI_toInt h, show ((-1 : Int32)).toInt = -1 from rfl] at this
  omega
def NG : Int := -1000000000000000000
theorem NG_l : (-1000000000000000000 : Int64) = lI NG := rfl
/-- the value of a row told by figures -/
def vm (μ : pp_M) (ds : List Nat) : Int := Vm μ (rowD (Op μ) ds)
def bD (μ : pp_M) (C : List Nat → Prop) (ds : List Nat) : Prop := C ds ∧ ∀ es, C es → vm μ es < vm μ ds ∨ (vm μ es = vm μ ds ∧ code8 (rowD (Op μ) ds) ≤ code8 (rowD (Op μ) es))
def JB (μ ν : pp_M) (C : List Nat → Prop) : Prop := (ν.2 40 36 = lI NG ∧ ∀ ds, ¬ C ds) ∨ ∃ ds, bD μ C ds ∧ ν.2 40 36 = lI (vm μ ds) ∧ ν.1 40 34 = nI ds.length ∧ isRow (ν.1 63) 0 (rowD (Op μ) ds)
def JS (μ ν : pp_M) (C : List Nat → Prop) : Prop := ∀ s, s < 32 → ((ν.2 64 s = lI NG ∧ ∀ ds, C ds → bsD ds ≠ s) ∨ ∃ ds, C ds ∧ bsD ds = s ∧ ν.2 64 s = lI (vm μ ds) ∧ ∀ es, C es → bsD es = s → vm μ es ≤ vm μ ds)
def J0 (μ ν : pp_M) : Prop := fr sM μ ν ∧ GA ν (Op μ) ∧ ∀ k, k < 64 → ν.1 46 k = nI (DW μ k)
def JG (μ ν : pp_M) (C : List Nat → Prop) : Prop := J0 μ ν ∧ JB μ ν C ∧ JS μ ν C
/-- what looking at a row writes -/
def PLK (t i : Nat) : Prop := t = 55 ∨ t = 56 ∨ t = 57 ∨ t = 62 ∨ (t = 40 ∧ i = 22)
theorem J0_fr {ν ν' : pp_M} {P : Nat → Nat → Prop} (h : J0 μ ν) (hf : fr P ν ν') (hP : ∀ t i, P t i → sM t i) (h1 : ¬ P 40 32) (h2 : ∀ i, ¬ P 61 i) (h3 : ∀ i, ¬ P 46 i) : J0 μ ν' := by
  obtain ⟨a, b, c⟩ := h
  refine ⟨fr_tr a (fr_mono hf hP), ⟨by rw [(hf 40 32 h1).1]; exact b.1, fun i hi => by rw [(hf 61 i (h2 i)).1]; exact b.2 i hi⟩, fun k hk => by rw [(hf 46 k (h3 k)).1]; exact c k hk⟩
theorem PLK_J0 {ν ν' : pp_M} (h : J0 μ ν) (hf : fr PLK ν ν') : J0 μ ν' := J0_fr h hf (fun t i q => by unfold PLK at q; unfold sM; omega) (by unfold PLK; omega) (fun i => by unfold PLK; omega) (fun i => by unfold PLK; omega)
theorem JG_fr {ν ν' : pp_M} {C : List Nat → Prop} (h : JG μ ν C) (hf : fr PLK ν ν') : JG μ ν' C := by
  obtain ⟨a, b, c⟩ := h
  refine ⟨PLK_J0 a hf, ?_, fun s hs => ?_⟩
  · rcases b with ⟨b1, b2⟩ | ⟨ds, b1, b2, b3, b4⟩
    · exact Or.inl ⟨by rw [(hf 40 36 (by unfold PLK; omega)).2]; exact b1, b2⟩
    · exact Or.inr ⟨ds, b1, by rw [(hf 40 36 (by unfold PLK; omega)).2]; exact b2, by rw [(hf 40 34 (by unfold PLK; omega)).1]; exact b3, fun i hi => by rw [(hf 63 _ (by unfold PLK; omega)).1]; exact b4 i hi⟩
  · rw [(hf 64 s (by unfold PLK; omega)).2]
    exact c s hs
theorem m_gr142 (k41 : pp_M → Int32 → Option pp_M) (k51 : pp_M → Int32 → Int32 → Option pp_M) {a : Nat} {c : Int32} (ha : a ≤ 5) : ∀ d i n ν, i + d = a → d < n → (∀ j, j < i → ν.1 63 j = ν.1 55 j) → ∃ ν', f_X9_goesRound_142 k41 k51 n ν (nI a) c (nI i) = f_X9_goesRound_168 k41 k51 ν' (nI a) c ∧ fr (fun t i => t = 63) ν ν' ∧ ∀ j, j < a → ν'.1 63 j = ν.1 55 j := by
  intro d
  induction d with
  | zero =>
    intro i n ν hi hn h
    obtain ⟨n, rfl⟩ : ∃ n', n = n' + 1 := ⟨n - 1, by omega⟩
    have : i = a := by omega
    subst this
    refine ⟨ν, ?_, fr_rf, h⟩
    show f_X9_goesRound_142_B k41 k51 (f_X9_goesRound_142 k41 k51 n) _ _ _ _ = _
    unfold f_X9_goesRound_142_B
    rw [if_neg (q_nlt i)]
  | succ d ih =>
    intro i n ν hi hn h
    obtain ⟨n, rfl⟩ : ∃ n', n = n' + 1 := ⟨n - 1, by omega⟩
    have i1 : pp_ix (nI i) 7 := q_ix (by omega) (by omega)
    have i2 : pp_ix (nI i) 5 := q_ix (by omega) (by omega)
    have fS : fr (fun t i => t = 63) ν (ppS ν 63 i (ν.1 55 i)) := fr_S rfl
    obtain ⟨ν', g1, g2, g3⟩ := ih (i + 1) n (ppS ν 63 i (ν.1 55 i)) (by omega) (by omega) (fun j hj => by
      by_cases e : j = i
      · rw [e, qs_same, qs_tok (by omega)]
      · rw [qs_ne (fun q => e q.2), qs_tok (by omega)]; exact h j (by omega))
    refine ⟨ν', ?_, fr_tr fS g2, fun j hj => by rw [g3 j hj, qs_tok (by omega)]⟩
    show f_X9_goesRound_142_B k41 k51 (f_X9_goesRound_142 k41 k51 n) _ _ _ _ = _
    unfold f_X9_goesRound_142_B
    rw [if_pos (nI_lt (by omega) (by omega)), if_pos i1, if_pos i2, q_cl (k := i) (by omega), nI_1]
    exact g1
theorem m_gr117 (hI : Inv μ) (hM : (fL (Op μ)).length ≤ 5) (k41 : pp_M → Int32 → Option pp_M) (k51 : pp_M → Int32 → Int32 → Option pp_M) {C : List Nat → Prop} {es : List Nat} {c : Nat} (hes : vD (fL (Op μ)).length es) (hC : ∀ ds, C ds → vD (fL (Op μ)).length ds ∧ code8 (rowD (Op μ) ds) ≤ code8 (rowD (Op μ) es)) (h : JG μ ν C) (hr : isRow (ν.1 55) 0 (rowD (Op μ) es)) : ∃ ν', (if ν.2 64 (bsD es) < lI (vm μ es) then f_X9_goesRound_117 k41 k51 ν (nI es.length) (nI c) (lI (vm μ es)) (nI (bsD es)) (lI (vm μ es)) else f_X9_goesRound_117 k41 k51 ν (nI es.length) (nI c) (lI (vm μ es)) (nI (bsD es)) (ν.2 64 (bsD es))) = k51 ν' (nI es.length) (nI (c + 1)) ∧ JG μ ν' (fun ds => C ds ∨ ds = es) := by
  have hl := pigeon _ _ hes
  have hb : bsD es < 32 := by
    have h1 := bsD_lt es hes.2
    have h2 : (2 : Nat) ^ (fL (Op μ)).length ≤ 2 ^ 5 := Nat.pow_le_pow_right (by omega) hM
    omega
  have hve : -6000000000000 ≤ vm μ es ∧ vm μ es ≤ 6000000000000 := Vm_bd hI hM hes
  have hvd : ∀ ds, C ds → -6000000000000 ≤ vm μ ds ∧ vm μ ds ≤ 6000000000000 := fun ds hd => Vm_bd hI hM (hC ds hd).1
  have hNG : NG = -1000000000000000000 := rfl
  have i1 : pp_ix (nI (bsD es)) 32 := q_ix hb (by omega)
  obtain ⟨a, b, s⟩ := h
  -- what stands for the set
  have hx : ∃ x : Int64, (if ν.2 64 (bsD es) < lI (vm μ es) then f_X9_goesRound_117 k41 k51 ν (nI es.length) (nI c) (lI (vm μ es)) (nI (bsD es)) (lI (vm μ es)) else f_X9_goesRound_117 k41 k51 ν (nI es.length) (nI c) (lI (vm μ es)) (nI (bsD es)) (ν.2 64 (bsD es))) = f_X9_goesRound_117 k41 k51 ν (nI es.length) (nI c) (lI (vm μ es)) (nI (bsD es)) x ∧ ∃ ds, (C ds ∨ ds = es) ∧ bsD ds = bsD es ∧ x = lI (vm μ ds) ∧ ∀ fs, (C fs ∨ fs = es) → bsD fs = bsD es → vm μ fs ≤ vm μ ds := by
    rcases s (bsD es) hb with ⟨s1, s2⟩ | ⟨ds, s1, s2, s3, s4⟩
    · refine ⟨lI (vm μ es), ?_, es, Or.inr rfl, rfl, rfl, fun fs hf hq => ?_⟩
      · rw [s1, if_pos ((lI_lt (by omega) (by omega) (by omega) (by omega)).mpr (by omega))]
      · rcases hf with hf | hf
        · exact absurd hq (s2 fs hf)
        · rw [hf]; exact Int.le_refl _
    · have hd := hvd ds s1
      by_cases cc : vm μ ds < vm μ es
      · refine ⟨lI (vm μ es), ?_, es, Or.inr rfl, rfl, rfl, fun fs hf hq => ?_⟩
        · rw [s3, if_pos ((lI_lt (by omega) (by omega) (by omega) (by omega)).mpr cc)]
        · rcases hf with hf | hf
          · have := s4 fs hf hq; omega
          · rw [hf]; exact Int.le_refl _
      · refine ⟨lI (vm μ ds), ?_, ds, Or.inl s1, s2, rfl, fun fs hf hq => ?_⟩
        · rw [s3, if_neg (fun q => cc ((lI_lt (by omega) (by omega) (by omega) (by omega)).mp q))]
        · rcases hf with hf | hf
          · exact s4 fs hf hq
          · rw [hf]; omega
  obtain ⟨x, x1, ds0, x2, x3, x4, x5⟩ := hx
  have hS : ∀ ν' : pp_M, (∀ q, q < 32 → ν'.2 64 q = (ppT ν 64 (bsD es) x).2 64 q) → JS μ ν' (fun ds => C ds ∨ ds = es) := fun ν' hν q hq => by
    rw [hν q hq]
    by_cases e : q = bsD es
    · rw [e, qt_same]
      exact Or.inr ⟨ds0, x2, x3, x4, x5⟩
    · rw [qt_ne (fun z => e z.2)]
      rcases s q hq with ⟨s1, s2⟩ | ⟨ds, s1, s2, s3, s4⟩
      · refine Or.inl ⟨s1, fun fs hf hz => ?_⟩
        rcases hf with hf | hf
        · exact s2 fs hf hz
        · rw [hf] at hz; exact e hz.symm
      · refine Or.inr ⟨ds, Or.inl s1, s2, s3, fun fs hf hz => ?_⟩
        rcases hf with hf | hf
        · exact s4 fs hf hz
        · rw [hf] at hz; exact absurd hz.symm e
  rw [x1]
  unfold f_X9_goesRound_117
  rw [if_pos i1, q_cl (k := bsD es) (by omega)]
  have a1 : fr (fun t i => t = 64) ν (ppT ν 64 (bsD es) x) := fr_T rfl
  rw [(a1 40 36 (by omega)).2]
  -- when the new row is the best
  have new : (∀ ds, C ds → vm μ ds < vm μ es) → ∃ ν', f_X9_goesRound_142 k41 k51 100000 (ppS (ppT (ppT ν 64 (bsD es) x) 40 36 (lI (vm μ es))) 40 34 (nI es.length)) (nI es.length) (nI c) 0 = k51 ν' (nI es.length) (nI (c + 1)) ∧ JG μ ν' (fun ds => C ds ∨ ds = es) := fun hn => by
    obtain ⟨ν', g1, g2, g3⟩ := m_gr142 k41 k51 (c := nI c) (show es.length ≤ 5 by omega) es.length 0 100000 (ppS (ppT (ppT ν 64 (bsD es) x) 40 36 (lI (vm μ es))) 40 34 (nI es.length)) (by omega) (by omega) (fun j hj => by omega)
    refine ⟨ν', ?_, ?_, ?_, hS ν' (fun q hq => by rw [(g2 64 q (by omega)).2, qs_2, qt_tok (by omega)])⟩
    · rw [show f_X9_goesRound_142 k41 k51 100000 (ppS (ppT (ppT ν 64 (bsD es) x) 40 36 (lI (vm μ es))) 40 34 (nI es.length)) (nI es.length) (nI c) 0 = _ from g1]
      unfold f_X9_goesRound_168
      rw [nI_1]
    · have f1 : fr (fun t i => t = 63 ∨ t = 64 ∨ (t = 40 ∧ (i = 34 ∨ i = 36))) ν ν' := fr_tr (fr_tr (fr_tr (fr_mono a1 (fun t i q => by omega)) (fr_T (by omega))) (fr_S (by omega))) (fr_mono g2 (fun t i q => by omega))
      exact J0_fr a f1 (fun t i q => by unfold sM; omega) (by omega) (fun i => by omega) (fun i => by omega)
    · refine Or.inr ⟨es, ⟨Or.inr rfl, fun fs hf => ?_⟩, ?_, ?_, fun i hi => ?_⟩
      · rcases hf with hf | hf
        · exact Or.inl (hn fs hf)
        · rw [hf]; exact Or.inr ⟨rfl, Nat.le_refl _⟩
      · rw [(g2 40 36 (by omega)).2, qs_2, qt_same]
      · rw [(g2 40 34 (by omega)).1, qs_same]
      · have hi' := hi
        rw [rowD_len] at hi'
        rw [Nat.zero_add, g3 i hi', qs_tok (by omega), qt_1, qt_1]
        have := hr i hi
        rw [Nat.zero_add] at this
        exact this
  rcases b with ⟨b1, b2⟩ | ⟨ds, b1, b2, b3, b4⟩
  · rw [b1, if_pos ((lI_lt (by omega) (by omega) (by omega) (by omega)).mpr (by omega))]
    exact new (fun ds hd => absurd hd (b2 ds))
  · have hd := hvd ds b1.1
    by_cases cc : vm μ ds < vm μ es
    · rw [b2, if_pos ((lI_lt (by omega) (by omega) (by omega) (by omega)).mpr cc)]
      exact new (fun fs hf => by rcases b1.2 fs hf with q | q <;> omega)
    · rw [b2, if_neg (fun q => cc ((lI_lt (by omega) (by omega) (by omega) (by omega)).mp q))]
      unfold f_X9_goesRound_168
      rw [nI_1]
      refine ⟨_, rfl, J0_fr a a1 (fun t i q => by unfold sM; omega) (by omega) (fun i => by omega) (fun i => by omega), ?_, hS _ (fun q hq => rfl)⟩
      refine Or.inr ⟨ds, ⟨Or.inl b1.1, fun fs hf => ?_⟩, ?_, b3, b4⟩
      · rcases hf with hf | hf
        · exact b1.2 fs hf
        · rw [hf]
          by_cases e : vm μ es < vm μ ds
          · exact Or.inl e
          · exact Or.inr ⟨by omega, (hC ds b1.1).2⟩
      · rw [(a1 40 36 (by omega)).2]; exact b2
theorem m_gr51 (hI : Inv μ) (hM : (fL (Op μ)).length ≤ 5) (k41 : pp_M → Int32 → Option pp_M) {n : Nat} (hn5 : n ≤ 5) : ∀ d c N ν, c + d = 5 ^ n → d < N → JG μ ν (dn μ n c) → ∃ ν', f_X9_goesRound_51 k41 N ν (nI n) (nI c) = k41 ν' (nI (n + 1)) ∧ JG μ ν' (dn μ (n + 1) 0) := by
  have h5 : (5 : Nat) ^ n ≤ 5 ^ 5 := Nat.pow_le_pow_right (by omega) hn5
  intro d
  induction d with
  | zero =>
    intro c N ν hc hN h
    obtain ⟨N, rfl⟩ : ∃ n', N = n' + 1 := ⟨N - 1, by omega⟩
    have e : c = 5 ^ n := by omega
    rw [e, dn_end hM] at h
    refine ⟨ν, ?_, h⟩
    show f_X9_goesRound_51_B k41 (f_X9_goesRound_51 k41 N) _ _ _ = _
    unfold f_X9_goesRound_51_B
    rw [m_fives hn5, Option.bind_some, e, if_neg (q_nlt _), nI_1]
  | succ d ih =>
    intro c N ν hc hN h
    obtain ⟨N, rfl⟩ : ∃ n', N = n' + 1 := ⟨N - 1, by omega⟩
    have hc5 : c < 5 ^ n := by omega
    obtain ⟨r, ν1, g1, g2, g3, g4⟩ := m_looksAt (ν := ν) hM hn5 hc5 h.1.2.1
    have f1 : fr PLK ν ν1 := fr_mono g2 (fun t i q => by unfold PLA at q; unfold PLK; omega)
    have h1 := JG_fr h f1
    have e0 : f_X9_goesRound_51 k41 (N + 1) ν (nI n) (nI c) = f_X9_goesRound_51_B k41 (f_X9_goesRound_51 k41 N) ν (nI n) (nI c) := rfl
    unfold f_X9_goesRound_51_B at e0
    rw [m_fives hn5, Option.bind_some, if_pos (nI_lt hc5 (by omega)), g1, Option.bind_some] at e0
    have skip : ∀ ν', JG μ ν' (dn μ n c) → ¬ AL μ (dgs n c) → f_X9_goesRound_51 k41 (N + 1) ν (nI n) (nI c) = f_X9_goesRound_168 k41 (f_X9_goesRound_51 k41 N) ν' (nI n) (nI c) → ∃ ν', f_X9_goesRound_51 k41 (N + 1) ν (nI n) (nI c) = k41 ν' (nI (n + 1)) ∧ JG μ ν' (dn μ (n + 1) 0) := fun ν' j1 j2 j3 => by
      rw [← dn_skip hM j2] at j1
      obtain ⟨ν2, d1, d2⟩ := ih (c + 1) N ν' (by omega) (by omega) j1
      refine ⟨ν2, ?_, d2⟩
      rw [j3]
      unfold f_X9_goesRound_168
      rw [nI_1]
      exact d1
    by_cases hv : vD (fL (Op μ)).length (dgs n c)
    · obtain ⟨r1, r2, r3⟩ := g3 hv
      have hrv := rowD_v hM hv
      have hl : (rowD (Op μ) (dgs n c)).length = n := by rw [rowD_len, dgs_len]
      have hb : bsD (dgs n c) < 32 := by
        have h1 := bsD_lt (dgs n c) hv.2
        have h2 : (2 : Nat) ^ (fL (Op μ)).length ≤ 2 ^ 5 := Nat.pow_le_pow_right (by omega) hM
        omega
      have r2' : ν1.1 40 22 = nI (rowD (Op μ) (dgs n c)).length := by rw [hl]; exact r2
      have hh := m_hoursFrom (ν := ν1) hI (v8 hrv).2 (v8 hrv).1 h1.1.2.2 r2' r3 (show 0 < 8 by omega)
      rw [r1, if_neg (show ¬ nI (bsD (dgs n c)) = (-1 : Int32) from nI_nm1 (by omega)), show f_X9_hoursFrom ν1 0 = _ from hh, Option.bind_some] at e0
      have hbd := hrN_bd (DW_ok hI).1 (rowD (Op μ) (dgs n c)) 0 (by omega) (v8 hrv).1
      rw [hl] at hbd
      have h6 : ν1.1 40 6 = μ.1 40 6 := (h1.1.1 40 6 (by unfold sM; omega)).1
      have hlt : (ν1.1 40 6 < nI (hrN (DW μ) 0 (rowD (Op μ) (dgs n c)))) ↔ ¬ (hrN (DW μ) 0 (rowD (Op μ) (dgs n c)) : Int) ≤ (μ.1 40 6).toInt := by
        rw [h6, Int32.lt_iff_toInt_lt, nI_toInt (by omega)]
        omega
      by_cases ho : (hrN (DW μ) 0 (rowD (Op μ) (dgs n c)) : Int) ≤ (μ.1 40 6).toInt
      · rw [if_neg (fun q => (hlt.mp q) ho)] at e0
        obtain ⟨ν2, m1, m2⟩ := m_mostGain hI hrv.1 (v8 hrv).1 h1.1.1 r2' r3
        have f2 : fr PLK ν1 ν2 := fr_mono m2 (fun t i q => by unfold PMG at q; unfold PLK; omega)
        have h2 := JG_fr h1 f2
        have i1 : pp_ix (nI (bsD (dgs n c))) 32 := q_ix hb (by omega)
        have r4 : isRow (ν2.1 55) 0 (rowD (Op μ) (dgs n c)) := fun i hi => by rw [(m2 55 _ (by unfold PMG; omega)).1]; exact r3 i hi
        have hA : AL μ (dgs n c) := ⟨hv, ho⟩
        obtain ⟨ν3, s1, s2⟩ := m_gr117 hI hM k41 (f_X9_goesRound_51 k41 N) (c := c) hv (fun ds hd => ⟨hd.1.1, dn_ord hM hc5 hA hd⟩) h2 r4
        rw [← dn_add hM hc5 hA] at s2
        rw [dgs_len] at s1
        obtain ⟨ν4, d1, d2⟩ := ih (c + 1) N ν3 (by omega) (by omega) s2
        refine ⟨ν4, ?_, d2⟩
        rw [m1, Option.bind_some, if_pos i1, q_cl (k := bsD (dgs n c)) (by omega)] at e0
        exact e0.trans (Eq.trans s1 d1)
      · rw [if_pos (hlt.mpr ho)] at e0
        exact skip ν1 h1 (fun q => ho q.2) e0
    · rw [g4 hv, if_pos rfl] at e0
      exact skip ν1 h1 (fun q => hv q.1) e0
theorem m_gr41 (hI : Inv μ) (hM : (fL (Op μ)).length ≤ 5) : ∀ d n N ν, n + d = (fL (Op μ)).length + 1 → d < N → JG μ ν (dn μ n 0) → ∃ ν', f_X9_goesRound_41 N ν (nI n) = some ν' ∧ JG μ ν' (AL μ) := by
  intro d
  induction d with
  | zero =>
    intro n N ν hn hN h
    obtain ⟨N, rfl⟩ : ∃ n', N = n' + 1 := ⟨N - 1, by omega⟩
    have e : n = (fL (Op μ)).length + 1 := by omega
    rw [e, dn_all] at h
    refine ⟨ν, ?_, h⟩
    show f_X9_goesRound_41_B (f_X9_goesRound_41 N) _ _ = _
    unfold f_X9_goesRound_41_B
    rw [h.1.2.1.1, if_pos (nI_lt (by omega) (by omega))]
  | succ d ih =>
    intro n N ν hn hN h
    obtain ⟨N, rfl⟩ : ∃ n', N = n' + 1 := ⟨N - 1, by omega⟩
    have h5 : (5 : Nat) ^ n ≤ 5 ^ 5 := Nat.pow_le_pow_right (by omega) (by omega)
    obtain ⟨ν1, g1, g2⟩ := m_gr51 hI hM (f_X9_goesRound_41 N) (show n ≤ 5 by omega) (5 ^ n) 0 100000 ν (by omega) (by omega) h
    obtain ⟨ν2, d1, d2⟩ := ih (n + 1) N ν1 (by omega) (by omega) g2
    refine ⟨ν2, ?_, d2⟩
    show f_X9_goesRound_41_B (f_X9_goesRound_41 N) _ _ = _
    unfold f_X9_goesRound_41_B
    rw [h.1.2.1.1, if_neg (q_nl (by omega) (by omega)), show f_X9_goesRound_51 (f_X9_goesRound_41 N) 100000 ν (nI n) 0 = _ from g1]
    exact d1
theorem m_gr18 (hI : Inv μ) (hM : (fL (Op μ)).length ≤ 5) : ∀ d a N ν, a + d = 32 → d < N → J0 μ ν → ν.2 40 36 = lI NG → (∀ s, s < a → ν.2 64 s = lI NG) → ∃ ν', f_X9_goesRound_18 N ν (nI a) = some ν' ∧ JG μ ν' (AL μ) := by
  intro d
  induction d with
  | zero =>
    intro a N ν ha hN h h36 h64
    obtain ⟨N, rfl⟩ : ∃ n', N = n' + 1 := ⟨N - 1, by omega⟩
    have e : a = 32 := by omega
    subst e
    have j0 : JG μ ν (dn μ 0 0) := by
      rw [dn_0]
      exact ⟨h, Or.inl ⟨h36, fun ds q => q⟩, fun s hs => Or.inl ⟨h64 s hs, fun ds q => q.elim⟩⟩
    obtain ⟨ν1, g1, g2⟩ := m_gr41 hI hM ((fL (Op μ)).length + 1) 0 100000 ν (by omega) (by omega) j0
    refine ⟨ν1, ?_, g2⟩
    show f_X9_goesRound_18_B (f_X9_goesRound_18 N) _ _ = _
    unfold f_X9_goesRound_18_B
    rw [if_neg (show ¬ nI 32 < (32 : Int32) by decide)]
    exact g1
  | succ d ih =>
    intro a N ν ha hN h h36 h64
    obtain ⟨N, rfl⟩ : ∃ n', N = n' + 1 := ⟨N - 1, by omega⟩
    have a1 : fr (fun t i => t = 64) ν (ppT ν 64 a (lI NG)) := fr_T rfl
    obtain ⟨ν1, g1, g2⟩ := ih (a + 1) N (ppT ν 64 a (lI NG)) (by omega) (by omega) (J0_fr h a1 (fun t i q => by unfold sM; omega) (by omega) (fun i => by omega) (fun i => by omega)) (by rw [(a1 40 36 (by omega)).2]; exact h36) (fun s hs => by
      by_cases e : s = a
      · rw [e, qt_same]
      · rw [qt_ne (fun q => e q.2)]; exact h64 s (by omega))
    have i1 : pp_ix (nI a) 32 := q_ix (by omega) (by omega)
    refine ⟨ν1, ?_, g2⟩
    show f_X9_goesRound_18_B (f_X9_goesRound_18 N) _ _ = _
    unfold f_X9_goesRound_18_B
    rw [if_pos (show nI a < (32 : Int32) from nI_lt (b := 32) (by omega) (by omega)), if_pos i1, q_cl (k := a) (by omega), nI_1, NG_l]
    exact g1
theorem m_goesRound (hI : Inv μ) (hM : (fL (Op μ)).length ≤ 5) (hf : fr sM μ ν) (hG : GA ν (Op μ)) : ∃ ν', f_X9_goesRound ν = some ν' ∧ JG μ ν' (AL μ) := by
  obtain ⟨w, g1, g2⟩ := m_laysWays ν
  have a1 : fr (fun t i => t = 46) ν (ppF ν 46 w) := pF_fr (fun i => rfl)
  have a2 : fr (fun t i => t = 46 ∨ (t = 40 ∧ (i = 34 ∨ i = 36))) ν (ppT (ppS (ppF ν 46 w) 40 34 0) 40 36 (-1000000000000000000 : Int64)) := fr_tr (fr_tr (fr_mono a1 (fun t i q => Or.inl q)) (fr_S (by omega))) (fr_T (by omega))
  have j0 : J0 μ (ppT (ppS (ppF ν 46 w) 40 34 0) 40 36 (-1000000000000000000 : Int64)) := by
    refine ⟨fr_tr hf (fr_mono a2 (fun t i q => by unfold sM; omega)), ⟨by rw [(a2 40 32 (by omega)).1]; exact hG.1, fun i hi => by rw [(a2 61 i (by omega)).1]; exact hG.2 i hi⟩, fun k hk => ?_⟩
    rw [qt_1, qs_tok (by omega), pF_rd, g2 k hk, show ν.1 45 = μ.1 45 from funext fun i => (hf 45 i (by unfold sM; omega)).1, (DW_ok hI).2.1 k hk]
  obtain ⟨ν1, d1, d2⟩ := m_gr18 hI hM 32 0 100000 _ (by omega) (by omega) j0 (by rw [qt_same]; rfl) (fun s hs => by omega)
  refine ⟨ν1, ?_, d2⟩
  unfold f_X9_goesRound
  rw [g1, Option.bind_some]
  exact d1
end GOES
