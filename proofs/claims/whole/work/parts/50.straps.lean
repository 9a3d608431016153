/-! straps, write -/
section STRAPS
variable {Ca : pp_M → pp_M → Prop} {σ μ ν : pp_M} {G : Nat → Nat → Int} {W pk tp : Nat → Nat}
def sPk (P : Nat → Nat) (br : Nat → Int) (w : Nat → Nat) : Nat → Option Nat
  | 0 => none
  | n + 1 => if P n = 0 then sPk P br w n else match sPk P br w n with
    | none => some n
    | some j => if br n * (w j : Int) < br j * (w n : Int) then some n else some j
theorem sPk_0 {P : Nat → Nat} {br : Nat → Int} {w : Nat → Nat} {n : Nat} (h : P n = 0) : sPk P br w (n + 1) = sPk P br w n := if_pos h
theorem sPk_n {P : Nat → Nat} {br : Nat → Int} {w : Nat → Nat} {n : Nat} (h : P n ≠ 0) (h2 : sPk P br w n = none) : sPk P br w (n + 1) = some n := by
  show (if P n = 0 then sPk P br w n else match sPk P br w n with
    | none => some n
    | some j => if br n * (w j : Int) < br j * (w n : Int) then some n else some j) = _
  rw [if_neg h, h2]
theorem sPk_s {P : Nat → Nat} {br : Nat → Int} {w : Nat → Nat} {n j : Nat} (h : P n ≠ 0) (h2 : sPk P br w n = some j) : sPk P br w (n + 1) = if br n * (w j : Int) < br j * (w n : Int) then some n else some j := by
  show (if P n = 0 then sPk P br w n else match sPk P br w n with
    | none => some n
    | some j => if br n * (w j : Int) < br j * (w n : Int) then some n else some j) = _
  rw [if_neg h, h2]
theorem sPk_lt {P : Nat → Nat} {br : Nat → Int} {w : Nat → Nat} : ∀ n j, sPk P br w n = some j → j < n
  | 0, j, h => by cases h
  | n + 1, j, h => by
    by_cases c : P n = 0
    · rw [sPk_0 c] at h
      have := sPk_lt n j h
      omega
    · cases hp : sPk P br w n with
      | none => rw [sPk_n c hp] at h; cases h; omega
      | some i =>
        have := sPk_lt n i hp
        rw [sPk_s c hp] at h
        by_cases c2 : br n * (w i : Int) < br i * (w n : Int)
        · rw [if_pos c2] at h; cases h; omega
        · rw [if_neg c2] at h; cases h; omega
theorem sPk_sc {P : Nat → Nat} {br : Nat → Int} {w : Nat → Nat} {s : Int} (hs : 0 < s) : ∀ n, sPk P (fun i => br i * s) w n = sPk P br w n
  | 0 => rfl
  | n + 1 => by
    have ih := sPk_sc (P := P) (br := br) (w := w) hs n
    by_cases c : P n = 0
    · rw [sPk_0 c, sPk_0 c, ih]
    · cases hp : sPk P br w n with
      | none => rw [sPk_n c hp, sPk_n c (ih.trans hp)]
      | some i =>
        rw [sPk_s c hp, sPk_s c (ih.trans hp)]
        by_cases c2 : br n * (w i : Int) < br i * (w n : Int)
        · rw [if_pos c2, if_pos ((mul_sc hs).mpr c2)]
        · rw [if_neg c2, if_neg (fun q => c2 ((mul_sc hs).mp q))]
noncomputable def brI (μ : pp_M) (t : Nat) : Int := bG μ 6 - bG μ t
noncomputable def wbI (μ : pp_M) (t : Nat) : Nat := bP μ t * Wt μ t
noncomputable def SP (μ : pp_M) : Option Nat := sPk (bP μ) (brI μ) (wbI μ) 6
noncomputable def brS (μ : pp_M) (t : Nat) : Int := brI μ t * 16 ^ (7 - (rowL μ).length)
theorem brS_bd (hI : Inv μ) (t : Nat) : -12000000000000 ≤ brS μ t ∧ brS μ t ≤ 12000000000000 := by
  have h1 := bG_bd hI 6
  have h2 := bG_bd hI t
  unfold brS brI
  rw [Int.sub_mul]
  omega
theorem brI_bd (hI : Inv μ) (t : Nat) : -12000000000000 ≤ brI μ t ∧ brI μ t ≤ 12000000000000 := sc_bd (brS_bd hI t)
theorem wbI_bd (hI : Inv μ) {t : Nat} (ht : t < 6) : wbI μ t ≤ 80 := by
  have h1 := bP_le μ t
  have h2 := (Wt_ok hI ht).2.2
  have := Nat.mul_le_mul h1 h2
  unfold wbI
  omega
theorem mul_bd2 {x : Int} {w : Nat} (hx : -12000000000000 ≤ x ∧ x ≤ 12000000000000) (hw : w ≤ 80) : -2000000000000000 ≤ x * (w : Int) ∧ x * (w : Int) ≤ 2000000000000000 := by
  have h1 := Int.mul_le_mul_of_nonneg_right hx.1 (show (0 : Int) ≤ (w : Int) by omega)
  have h2 := Int.mul_le_mul_of_nonneg_right hx.2 (show (0 : Int) ≤ (w : Int) by omega)
  constructor <;> omega
theorem k_lb20 (hI : Inv μ) : ∀ d t n σ, t + d = 6 → d < n → GK σ (GS μ (rowL μ)) (Wt μ) (pkS μ (rowL μ)) → zK σ → (∀ i, i < 6 → σ.1 32 i = nI (bP μ i)) → ∃ σ', f_X5_leastBringing_20 n σ (nI (Lm μ)) (oI (sPk (bP μ) (brS μ) (wbI μ) t)) (lI (cG (brS μ) (sPk (bP μ) (brS μ) (wbI μ) t))) (nI (cW (wbI μ) (sPk (bP μ) (brS μ) (wbI μ) t))) (lI (bG μ 6 * 16 ^ (7 - (rowL μ).length))) (nI t) = some (oI (sPk (bP μ) (brS μ) (wbI μ) 6), σ') ∧ fr (P30 0 606) σ σ' := by
  intro d
  induction d with
  | zero =>
    intro t n σ ht hn hG hz hb
    obtain ⟨n, rfl⟩ : ∃ n', n = n' + 1 := ⟨n - 1, by omega⟩
    have : t = 6 := by omega
    subst this
    refine ⟨σ, ?_, fr_rf⟩
    show f_X5_leastBringing_20_B (f_X5_leastBringing_20 n) _ _ _ _ _ _ _ = _
    unfold f_X5_leastBringing_20_B
    rw [if_neg (show ¬ nI 6 < (6 : Int32) from q_nlt 6)]
  | succ d ih =>
    intro t n σ ht hn hG hz hb
    obtain ⟨n, rfl⟩ : ∃ n', n = n' + 1 := ⟨n - 1, by omega⟩
    have ht6 : t < 6 := by omega
    have hw := wbI_bd hI ht6
    have e0 : f_X5_leastBringing_20 (n + 1) σ (nI (Lm μ)) (oI (sPk (bP μ) (brS μ) (wbI μ) t)) (lI (cG (brS μ) (sPk (bP μ) (brS μ) (wbI μ) t))) (nI (cW (wbI μ) (sPk (bP μ) (brS μ) (wbI μ) t))) (lI (bG μ 6 * 16 ^ (7 - (rowL μ).length))) (nI t) = f_X5_leastBringing_20_B (f_X5_leastBringing_20 n) σ (nI (Lm μ)) (oI (sPk (bP μ) (brS μ) (wbI μ) t)) (lI (cG (brS μ) (sPk (bP μ) (brS μ) (wbI μ) t))) (nI (cW (wbI μ) (sPk (bP μ) (brS μ) (wbI μ) t))) (lI (bG μ 6 * 16 ^ (7 - (rowL μ).length))) (nI t) := rfl
    have i1 : pp_ix (nI t) 6 := q_ix (by omega) (by omega)
    unfold f_X5_leastBringing_20_B f_X5_leastBringing_86 f_X5_leastBringing_96 at e0
    rw [if_pos (show nI t < (6 : Int32) from nI_lt (b := 6) (by omega) (by omega)), if_pos i1, q_cl (k := t) (by omega), hb t ht6, (hG.2 t ht6).2.2.1, pk_mul, show bP μ t * Wt μ t = wbI μ t from rfl, nI_1] at e0
    by_cases c1 : bP μ t = 0
    · have hw0 : wbI μ t = 0 := by unfold wbI; rw [c1, Nat.zero_mul]
      rw [hw0, if_neg (show ¬ (0 : Int32) < nI 0 by decide)] at e0
      obtain ⟨σ', g1, g2⟩ := ih (t + 1) n σ (by omega) (by omega) hG hz hb
      rw [sPk_0 c1] at g1
      exact ⟨σ', by rw [e0]; exact g1, g2⟩
    · have hw1 : 0 < wbI μ t := Nat.mul_pos (by omega) (Wt_ok hI ht6).2.1
      obtain ⟨σ1, d1, d2⟩ := kMost hI hG hz (bt := t) (wb_nI ht6)
      have f1 := P30_PP d2 (by omega)
      obtain ⟨σ', g1, g2⟩ := ih (t + 1) n σ1 (by omega) (by omega) (GK_fr hG f1) (zK_fr hz (PP_sK f1)) (fun i hi => by rw [(d2 32 i (by unfold P30; omega)).1]; exact hb i hi)
      rw [if_pos (show (0 : Int32) < nI (wbI μ t) from nI_lt (a := 0) hw1 (by omega)), d1, Option.bind_some, lI_sub, ← Int.sub_mul, show (bG μ 6 - bG μ t) * 16 ^ (7 - (rowL μ).length) = brS μ t from rfl] at e0
      cases hp : sPk (bP μ) (brS μ) (wbI μ) t with
      | none =>
        rw [hp, if_pos (show oI none = (-1 : Int32) from rfl)] at e0
        rw [sPk_n c1 hp] at g1
        exact ⟨σ', e0.trans g1, fr_tr d2 g2⟩
      | some j =>
        have hj := sPk_lt t j hp
        have hwj := wbI_bd hI (show j < 6 by omega)
        have m1 := mul_bd2 (brS_bd hI t) hwj
        have m2 := mul_bd2 (brS_bd hI j) hw
        rw [hp, if_neg (fun q => by have := (oI_m1 (o := some j) (fun i hi => by cases hi; omega)).mp q; cases this), show cW (wbI μ) (some j) = wbI μ j from rfl, show cG (brS μ) (some j) = brS μ j from rfl, lI_nI (k := wbI μ j) (by omega), lI_nI (k := wbI μ t) (by omega), lI_mul, lI_mul] at e0
        rw [sPk_s c1 hp] at g1
        by_cases c2 : brS μ t * (wbI μ j : Int) < brS μ j * (wbI μ t : Int)
        · rw [if_pos c2] at g1
          rw [if_pos ((lI_lt (by omega) (by omega) (by omega) (by omega)).mpr c2)] at e0
          exact ⟨σ', by rw [show oI (some j) = nI j from rfl] at e0; exact e0.trans g1, fr_tr d2 g2⟩
        · rw [if_neg c2] at g1
          rw [if_neg (fun q => c2 ((lI_lt (by omega) (by omega) (by omega) (by omega)).mp q))] at e0
          exact ⟨σ', e0.trans g1, fr_tr d2 g2⟩
theorem k_straps (hI : Inv μ) (hG : GK σ (GS μ (rowL μ)) (Wt μ) (pkS μ (rowL μ))) (hz : zK σ) (hb : ∀ i, i < 6 → σ.1 32 i = nI (bP μ i)) : ∃ σ', f_X5_leastBringing σ (nI (Lm μ)) = some (oI (SP μ), σ') ∧ fr PP σ σ' := by
  have hg := k_gainOf hG (tk := 32) (o := 0) (nn := 6) (q := dgs 6 (bC μ 6)) (by omega) (by omega) (dgs_len 6 _) (fun i hi => by
    rw [Nat.zero_add]
    exact ⟨hb i hi, bP_le μ i⟩)
  have e : pg (GS μ (rowL μ)) 0 (dgs 6 (bC μ 6)) = bG μ 6 * 16 ^ (7 - (rowL μ).length) := pg_sc (gn μ (rowL μ)) (16 ^ (7 - (rowL μ).length)) _ 0
  rw [e] at hg
  obtain ⟨σ', g1, g2⟩ := k_lb20 hI 6 0 100000 σ (by omega) (by omega) hG hz hb
  have es : sPk (bP μ) (brS μ) (wbI μ) 6 = SP μ := sPk_sc (s_pos (7 - (rowL μ).length)) 6
  rw [es] at g1
  refine ⟨σ', ?_, P30_PP g2 (by omega)⟩
  unfold f_X5_leastBringing
  rw [hg, Option.bind_some]
  exact g1
theorem m_st42 (hI : Inv μ) : ∀ d t n ν, t + d = 6 → d < n → GM ν μ (rowL μ) → (∀ i, i < 6 → ν.1 65 i = nI (bP μ i)) → ∃ ν', f_X9_strapsNow_42 n ν (oI (sPk (bP μ) (brI μ) (wbI μ) t)) (lI (cG (brI μ) (sPk (bP μ) (brI μ) (wbI μ) t))) (nI t) = some (oI (sPk (bP μ) (brI μ) (wbI μ) 6), ν') ∧ fr sM ν ν' := by
  intro d
  induction d with
  | zero =>
    intro t n ν ht hn hM hb
    obtain ⟨n, rfl⟩ : ∃ n', n = n' + 1 := ⟨n - 1, by omega⟩
    have : t = 6 := by omega
    subst this
    refine ⟨ν, ?_, fr_rf⟩
    show f_X9_strapsNow_42_B (f_X9_strapsNow_42 n) _ _ _ _ = _
    unfold f_X9_strapsNow_42_B
    rw [if_neg (show ¬ nI 6 < (6 : Int32) from q_nlt 6)]
  | succ d ih =>
    intro t n ν ht hn hM hb
    obtain ⟨n, rfl⟩ : ∃ n', n = n' + 1 := ⟨n - 1, by omega⟩
    have ht6 : t < 6 := by omega
    have hw := wbI_bd hI ht6
    have hbl := bP_le μ t
    have e0 : f_X9_strapsNow_42 (n + 1) ν (oI (sPk (bP μ) (brI μ) (wbI μ) t)) (lI (cG (brI μ) (sPk (bP μ) (brI μ) (wbI μ) t))) (nI t) = f_X9_strapsNow_42_B (f_X9_strapsNow_42 n) ν (oI (sPk (bP μ) (brI μ) (wbI μ) t)) (lI (cG (brI μ) (sPk (bP μ) (brI μ) (wbI μ) t))) (nI t) := rfl
    have i1 : pp_ix (nI t) 6 := q_ix (by omega) (by omega)
    unfold f_X9_strapsNow_42_B f_X9_strapsNow_107 f_X9_strapsNow_113 at e0
    rw [if_pos (show nI t < (6 : Int32) from nI_lt (b := 6) (by omega) (by omega)), if_pos i1, q_cl (k := t) (by omega), hb t ht6, nI_1] at e0
    by_cases c1 : bP μ t = 0
    · rw [c1, if_neg (show ¬ (0 : Int32) < nI 0 by decide)] at e0
      obtain ⟨ν', g1, g2⟩ := ih (t + 1) n ν (by omega) (by omega) hM hb
      rw [sPk_0 c1] at g1
      exact ⟨ν', by rw [e0]; exact g1, g2⟩
    · obtain ⟨ν1, d1, d2⟩ := m_bringsNow hI hM ht6
      have hM1 := GM_fr hM (PQ_NP d2)
      have hb1 : ∀ i, i < 6 → ν1.1 65 i = nI (bP μ i) := fun i hi => by rw [(d2 65 i (by unfold PQ; omega)).1]; exact hb i hi
      have hWe : ∀ t, t < 6 → ν1.1 42 t = nI (Wt μ t) := fun t ht => by rw [(hM1.2.2.1 42 t (by unfold sM; omega)).1, (Wt_ok hI ht).1]
      obtain ⟨ν', g1, g2⟩ := ih (t + 1) n ν1 (by omega) (by omega) hM1 hb1
      rw [if_pos (show (0 : Int32) < nI (bP μ t) from nI_lt (a := 0) (by omega) (by omega)), d1, Option.bind_some, show bG μ 6 - bG μ t = brI μ t from rfl] at e0
      cases hp : sPk (bP μ) (brI μ) (wbI μ) t with
      | none =>
        rw [hp, if_pos (show oI none = (-1 : Int32) from rfl)] at e0
        rw [sPk_n c1 hp] at g1
        exact ⟨ν', e0.trans g1, fr_tr (PQ_sM d2) g2⟩
      | some j =>
        have hj := sPk_lt t j hp
        have hwj := wbI_bd hI (show j < 6 by omega)
        have m1 := mul_bd2 (brI_bd hI t) hwj
        have m2 := mul_bd2 (brI_bd hI j) hw
        have i2 : pp_ix (nI j) 6 := q_ix (by omega) (by omega)
        unfold f_X9_weightOf at e0
        rw [hp, if_neg (fun q => by have := (oI_m1 (o := some j) (fun i hi => by cases hi; omega)).mp q; cases this), show oI (some j) = nI j from rfl, show cG (brI μ) (some j) = brI μ j from rfl] at e0
        simp only [if_pos i2, if_pos i1, q_cl (k := j) (show j < 2 ^ 31 by omega), q_cl (k := t) (show t < 2 ^ 31 by omega), Option.bind_some, hb1 j (show j < 6 by omega), hb1 t ht6, hWe j (show j < 6 by omega), hWe t ht6, pk_mul] at e0
        rw [show bP μ t * Wt μ t = wbI μ t from rfl, show bP μ j * Wt μ j = wbI μ j from rfl, lI_nI (k := wbI μ j) (by omega), lI_nI (k := wbI μ t) (by omega), lI_mul, lI_mul] at e0
        rw [sPk_s c1 hp] at g1
        by_cases c2 : brI μ t * (wbI μ j : Int) < brI μ j * (wbI μ t : Int)
        · rw [if_pos c2] at g1
          rw [if_pos ((lI_lt (by omega) (by omega) (by omega) (by omega)).mpr c2)] at e0
          exact ⟨ν', e0.trans g1, fr_tr (PQ_sM d2) g2⟩
        · rw [if_neg c2] at g1
          rw [if_neg (fun q => c2 ((lI_lt (by omega) (by omega) (by omega) (by omega)).mp q))] at e0
          exact ⟨ν', e0.trans g1, fr_tr (PQ_sM d2) g2⟩
theorem m_st11 : ∀ d t n ν, t + d = 6 → d < n → (∀ i, i < t → ν.1 65 i = ν.1 59 i) → ∃ ν', f_X9_strapsNow_11 n ν (nI t) = f_X9_strapsNow_42 100000 ν' (-1 : Int32) (0 : Int64) (0 : Int32) ∧ fr (fun x _ => x = 65) ν ν' ∧ ∀ i, i < 6 → ν'.1 65 i = ν'.1 59 i := by
  intro d
  induction d with
  | zero =>
    intro t n ν ht hn h0
    obtain ⟨n, rfl⟩ : ∃ n', n = n' + 1 := ⟨n - 1, by omega⟩
    have : t = 6 := by omega
    subst this
    refine ⟨ν, ?_, fr_rf, h0⟩
    show f_X9_strapsNow_11_B (f_X9_strapsNow_11 n) _ _ = _
    unfold f_X9_strapsNow_11_B
    rw [if_neg (show ¬ nI 6 < (6 : Int32) from q_nlt 6)]
  | succ d ih =>
    intro t n ν ht hn h0
    obtain ⟨n, rfl⟩ : ∃ n', n = n' + 1 := ⟨n - 1, by omega⟩
    obtain ⟨ν', g1, g2, g3⟩ := ih (t + 1) n (ppS ν 65 t (ν.1 59 t)) (by omega) (by omega) (fun i hi => by
      rw [qs_tok (t := 65) (a := 59) (by omega)]
      by_cases c : i = t
      · rw [c, qs_same]
      · rw [qs_ne (fun q => c q.2)]; exact h0 i (by omega))
    refine ⟨ν', ?_, fr_tr (fr_S rfl) g2, g3⟩
    show f_X9_strapsNow_11_B (f_X9_strapsNow_11 n) _ _ = _
    unfold f_X9_strapsNow_11_B
    have i1 : pp_ix (nI t) 6 := q_ix (by omega) (by omega)
    rw [if_pos (show nI t < (6 : Int32) from nI_lt (b := 6) (by omega) (by omega)), if_pos i1, q_cl (k := t) (by omega), nI_1]
    exact g1
theorem m_straps (hI : Inv μ) (hf : fr sM μ ν) : ∃ ν', f_X9_strapsNow ν = some (oI (SP μ), ν') ∧ fr sM μ ν' := by
  obtain ⟨ν1, g1, g2, g3⟩ := m_looksR hI hf
  obtain ⟨ν2, d1, d2, d3, d4⟩ := mPacks hI g3 (bt := 6) wb_m1
  obtain ⟨ν3, e1, e2, e3⟩ := m_st11 6 0 100000 ν2 (by omega) (by omega) (fun i hi => by omega)
  have hM3 := GM_fr (GM_fr g3 (PQ_NP d2)) (fr_mono e2 (fun t i q => by unfold NP; omega))
  obtain ⟨ν4, u1, u2⟩ := m_st42 hI 6 0 100000 ν3 (by omega) (by omega) hM3 (fun i hi => by rw [e3 i hi, (e2 59 i (by omega)).1, d4 i hi]; rfl)
  refine ⟨ν4, ?_, fr_tr hM3.2.2.1 u2⟩
  unfold f_X9_strapsNow
  rw [g1, Option.bind_some, d1, Option.bind_some, show f_X9_strapsNow_11 100000 ν2 0 = _ from e1]
  exact u1
theorem h_straps (hCa : CaOk Ca) (h : Rel Ca σ μ) : ∃ (r : Int32) (σ' μ' : pp_M), f_X8_straps σ = some (r, σ') ∧ f_X9_straps μ = some (r, μ') ∧ Rel Ca σ' μ' := by
  have hI := h.2.1
  obtain ⟨σ1, g1, g2, g3⟩ := k_weighUp h.1 hI
  have hB1 := base_fr h.1 (WU_sK g2) fr_rf
  have hz1 := zK_fr h.2.2.2.2 (WU_sK g2)
  obtain ⟨σ2, d1, d2, d3⟩ := kBest hI g3 hz1
  have hB2 := base_fr hB1 (PP_sK d2) fr_rf
  obtain ⟨σ3, u1, u2⟩ := k_straps hI (GK_fr g3 d2) (zK_fr hz1 (PP_sK d2)) d3
  obtain ⟨ν, e1, e2⟩ := m_straps hI (fr_rf (σ := μ))
  unfold f_X8_straps f_X9_straps
  rw [g1, Option.bind_some, Lm_K hB1 hI, d1, Option.bind_some, Lm_K hB2 hI, u1, Option.bind_some, e1, Option.bind_some]
  exact ⟨_, _, _, rfl, rfl, rel_scratch hCa h (fr_tr (WU_sK g2) (fr_tr (PP_sK d2) (PP_sK u2))) e2⟩
theorem write_same (hCa : CaOk Ca) {k w S : Nat} {P : Nat → Nat} (hk : k < 4) (hS : S ≤ 40) (hw : w = if 6 < S then 6 else S) : ∀ d i n n' σ μ, i + d = w → d < n → d < n' → Rel Ca σ μ → (∀ t, t < 6 → σ.1 32 t = nI (P t) ∧ μ.1 59 t = nI (P t)) → μ.1 68 k = nI S → ∃ σ' μ', f_X8_write_62 n σ (nI k) (nI w) (nI i) = some (nI w, σ') ∧ f_X9_write_36 n' μ (nI k) (nI i) = some (nI w, μ') ∧ Rel Ca σ' μ' := by
  have hw6 : w ≤ 6 ∧ w ≤ S ∧ (w = 6 ∨ w = S) := by rw [hw]; split <;> omega
  intro d
  induction d with
  | zero =>
    intro i n n' σ μ hi hn hn' h hP h68
    obtain ⟨n, rfl⟩ : ∃ m, n = m + 1 := ⟨n - 1, by omega⟩
    obtain ⟨n', rfl⟩ : ∃ m, n' = m + 1 := ⟨n' - 1, by omega⟩
    have : i = w := by omega
    subst this
    refine ⟨σ, μ, ?_, ?_, h⟩
    · show f_X8_write_62_B (f_X8_write_62 n) _ _ _ _ = _
      unfold f_X8_write_62_B
      rw [if_neg (q_nlt i)]
    · show f_X9_write_36_B (f_X9_write_36 n') _ _ _ = _
      unfold f_X9_write_36_B
      have i1 : pp_ix (nI k) 4 := q_ix (by omega) (by omega)
      rw [if_pos i1, q_cl (k := k) (by omega), h68]
      rcases hw6.2.2 with e | e
      · rw [e, if_neg (show ¬ nI 6 < (6 : Int32) from q_nlt 6)]
      · rw [e, if_neg (q_nlt S)]
        split <;> rfl
  | succ d ih =>
    intro i n n' σ μ hi hn hn' h hP h68
    obtain ⟨n, rfl⟩ : ∃ m, n = m + 1 := ⟨n - 1, by omega⟩
    obtain ⟨n', rfl⟩ : ∃ m, n' = m + 1 := ⟨n' - 1, by omega⟩
    obtain ⟨σ1, μ1, g1, g2, g3, g4, g5⟩ := sh_lay hCa h hk (show i < 40 by omega) (nI (P i))
    obtain ⟨σ', μ', d1, d2, d3⟩ := ih (i + 1) n n' σ1 μ1 (by omega) (by omega) (by omega) g3 (fun t ht => by
      rw [(g4 32 t (by omega)).1, (g5 59 t (by omega)).1]; exact hP t ht) (by rw [(g5 68 k (by omega)).1]; exact h68)
    refine ⟨σ', μ', ?_, ?_, d3⟩
    · show f_X8_write_62_B (f_X8_write_62 n) _ _ _ _ = _
      unfold f_X8_write_62_B
      have i1 : pp_ix (nI i) 6 := q_ix (by omega) (by omega)
      rw [if_pos (nI_lt (by omega) (by omega)), if_pos i1, q_cl (k := i) (by omega), (hP i (by omega)).1, g1, Option.bind_some, nI_1]
      exact d1
    · show f_X9_write_36_B (f_X9_write_36 n') _ _ _ = _
      unfold f_X9_write_36_B
      have i1 : pp_ix (nI i) 6 := q_ix (by omega) (by omega)
      have i2 : pp_ix (nI k) 4 := q_ix (by omega) (by omega)
      rw [if_pos (show nI i < (6 : Int32) from nI_lt (b := 6) (by omega) (by omega)), if_pos i2, q_cl (k := k) (by omega), h68, if_pos (nI_lt (by omega) (by omega)), if_pos i1, q_cl (k := i) (by omega), (hP i (by omega)).2, g2, Option.bind_some, nI_1]
      exact d2
theorem h_write (hCa : CaOk Ca) (a1 : Int32) (h : Rel Ca σ μ) : ∃ (r : Int32) (σ' μ' : pp_M), f_X8_write σ a1 = some (r, σ') ∧ f_X9_write μ a1 = some (r, μ') ∧ Rel Ca σ' μ' := by
  have hI := h.2.1
  unfold f_X8_write f_X9_write
  rw [k_isSheet, m_isSheet, Option.bind_some, Option.bind_some]
  by_cases c1 : wi a1 0 3 = 0
  · rw [if_pos c1, if_pos c1]; exact ⟨_, _, _, rfl, rfl, h⟩
  rw [if_neg c1, if_neg c1]
  obtain ⟨k, hk, rfl⟩ := wi_of (n := 3) rfl c1
  have hk4 : k < 4 := by omega
  have i1 : pp_ix (nI k) 4 := q_ix (by omega) (by omega)
  rw [k_isLost hk4, Option.bind_some, if_pos i1]
  simp only [q_cl (k := k) (show k < 2 ^ 31 by omega)]
  rcases sh_cases h hk4 with ⟨g1, g2, g3⟩ | ⟨g1, g2⟩
  · have n1 : ¬ μ.1 66 k = 0 := by rw [g1]; decide
    rw [if_neg g3, if_pos rfl, if_neg n1]
    obtain ⟨σ1, a1, a2, a3⟩ := k_weighUp h.1 hI
    have hB1 := base_fr h.1 (WU_sK a2) fr_rf
    obtain ⟨σ2, d1, d2, d3⟩ := kBest hI a3 (zK_fr h.2.2.2.2 (WU_sK a2))
    obtain ⟨ν1, u1, u2, u3⟩ := m_looksR hI (fr_rf (σ := μ))
    obtain ⟨ν2, v1, v2, v3, v4⟩ := mPacks hI u3 (bt := 6) wb_m1
    have fk : fr sK σ σ2 := fr_tr (WU_sK a2) (PP_sK d2)
    have fm : fr sM μ ν2 := fr_tr u3.2.2.1 (PQ_sM v2)
    have rel := rel_scratch hCa h fk fm
    have hb := (hI.2.2.2.2.2.2.1 k hk4).1
    obtain ⟨S, hS, eS⟩ := q_of (x := μ.1 68 k) (n := 40) hb.1 hb.2
    have s1 : σ2.1 20 k = nI S := by rw [(fk 20 k (by unfold sK; omega)).1, g2, eS]
    have s2 : ν2.1 68 k = nI S := by rw [(fm 68 k (by unfold sM; omega)).1, eS]
    have hmin : (if (6 : Int32) < nI S then (6 : Int32) else nI S) = nI (if 6 < S then 6 else S) := by
      by_cases c : 6 < S
      · rw [if_pos c, if_pos (show (6 : Int32) < nI S from nI_lt (a := 6) c (by omega))]; rfl
      · rw [if_neg c, if_neg (show ¬ (6 : Int32) < nI S from q_nl (a := 6) (by omega) (by omega))]
    have hw6 : (if 6 < S then 6 else S) ≤ 6 := by split <;> omega
    obtain ⟨σ', μ', e1, e2, e3⟩ := write_same hCa (w := if 6 < S then 6 else S) (P := bP μ) hk4 hS rfl (if 6 < S then 6 else S) 0 100000 100000 σ2 ν2 (by omega) (by omega) (by omega) rel (fun t ht => ⟨d3 t ht, v4 t ht⟩) s2
    rw [a1, Option.bind_some, Lm_K hB1 hI, d1, Option.bind_some, if_pos i1, s1, hmin, show f_X8_write_62 100000 σ2 (nI k) (nI (if 6 < S then 6 else S)) 0 = _ from e1, u1, Option.bind_some, v1, Option.bind_some, show f_X9_write_36 100000 ν2 (nI k) 0 = _ from e2]
    exact ⟨_, _, _, rfl, rfl, e3⟩
  · rw [if_pos g2, if_neg (by decide), if_pos g1]
    exact ⟨_, _, _, rfl, rfl, rel_found hCa h 1⟩
end STRAPS
