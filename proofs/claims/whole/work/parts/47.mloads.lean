/-! loading in the reference; loaded -/
section MLOADS
variable {Ca : pp_M → pp_M → Prop} {σ μ ν : pp_M} {G : Nat → Nat → Int} {W pk tp : Nat → Nat}
def smL (ld : Nat → Nat) : Nat → Nat
  | 0 => 0
  | n + 1 => smL ld n + ld n
theorem smL_up (ld : Nat → Nat) (t : Nat) : ∀ n, smL (upL ld t) n = smL ld n + if t < n then 1 else 0
  | 0 => by rw [if_neg (by omega)]; rfl
  | n + 1 => by
    show smL (upL ld t) n + upL ld t n = smL ld n + ld n + _
    rw [smL_up ld t n]
    unfold upL
    by_cases c : n = t
    · subst c
      rw [if_neg (by omega), if_pos rfl, if_pos (by omega)]
      omega
    · rw [if_neg c]
      by_cases c2 : t < n
      · rw [if_pos c2, if_pos (by omega)]; omega
      · rw [if_neg c2, if_neg (by omega)]; omega
theorem smL_le {ld : Nat → Nat} {c : Nat} : ∀ n, (∀ i, i < n → ld i ≤ c) → smL ld n ≤ c * n
  | 0, _ => Nat.zero_le _
  | n + 1, h => by
    have := smL_le n (fun i hi => h i (by omega))
    have h2 := h n (by omega)
    show smL ld n + ld n ≤ c * (n + 1)
    rw [Nat.mul_add, Nat.mul_one]
    omega
theorem smL_full {ld : Nat → Nat} {c : Nat} : ∀ n, (∀ i, i < n → ld i ≤ c) → c * n ≤ smL ld n → ∀ i, i < n → ld i = c
  | 0, _, _, i, hi => by omega
  | n + 1, h, hs, i, hi => by
    have h1 := smL_le n (fun i hi => h i (by omega))
    have h2 := h n (by omega)
    have hs' : c * (n + 1) ≤ smL ld n + ld n := hs
    rw [Nat.mul_add, Nat.mul_one] at hs'
    by_cases e : i = n
    · rw [e]; omega
    · exact smL_full n (fun i hi => h i (by omega)) (by omega) i (by omega)
theorem pck_none {el : Nat → Bool} {B : Nat → Int} {w : Nat → Nat} : ∀ n, (∀ i, i < n → ¬ el i = true) → pck el B w n = none
  | 0, _ => rfl
  | n + 1, h => by rw [pck_skip (h n (by omega))]; exact pck_none n (fun i hi => h i (by omega))
/-- one comparison of the reference -/
theorem cmpM {el : Nat → Bool} {B : Nat → Int} {w : Nat → Nat} {n : Nat} (hw : ∀ i, i < n + 1 → 0 < w i ∧ w i ≤ 80) (hB : ∀ i, i < n + 1 → el i = true → -2000000000000 ≤ B i ∧ B i ≤ 2000000000000) (he : el n = true) : (pck el B w (n + 1) = some n ∧ 0 < B n ∧ (pck el B w n = none ∨ ∃ j, pck el B w n = some j ∧ lI (B j) * lI (w n : Int) < lI (B n) * lI (w j : Int))) ∨ (pck el B w (n + 1) = pck el B w n ∧ (¬ 0 < B n ∨ ∃ j, pck el B w n = some j ∧ ¬ lI (B j) * lI (w n : Int) < lI (B n) * lI (w j : Int))) := by
  have st := pck_step (B := B) (w := w) he
  have b1 := hB n (by omega) he
  cases hp : pck el B w n with
  | none =>
    rw [hp] at st
    have st' : pck el B w (n + 1) = if 0 * (w n : Int) < B n * ((1 : Nat) : Int) then some n else none := st
    rw [Int.zero_mul, Int.natCast_one, Int.mul_one] at st'
    by_cases c : 0 < B n
    · rw [if_pos c] at st'
      exact Or.inl ⟨st', c, Or.inl rfl⟩
    · rw [if_neg c] at st'
      exact Or.inr ⟨st', Or.inl c⟩
  | some j =>
    have hj := pck_ok el B w n j (fun i hi => (hw i (by omega)).1) hp
    have b2 := hB j (by omega) hj.2.1
    have m1 := mul_bd b2 (hw n (by omega)).2
    have m2 := mul_bd b1 (hw j (by omega)).2
    rw [hp] at st
    have st' : pck el B w (n + 1) = if B j * (w n : Int) < B n * (w j : Int) then some n else some j := st
    have hc : lI (B j) * lI (w n : Int) < lI (B n) * lI (w j : Int) ↔ B j * (w n : Int) < B n * (w j : Int) := by
      rw [lI_mul, lI_mul]
      exact lI_lt (by omega) (by omega) (by omega) (by omega)
    by_cases c : B j * (w n : Int) < B n * (w j : Int)
    · rw [if_pos c] at st'
      refine Or.inl ⟨st', (pck_ok el B w (n + 1) n (fun i hi => (hw i hi).1) st').1, Or.inr ⟨j, rfl, hc.mpr c⟩⟩
    · rw [if_neg c] at st'
      exact Or.inr ⟨st', Or.inr ⟨j, rfl, fun q => c (hc.mp q)⟩⟩
theorem lI_pos {x : Int} (h1 : -2000000000000 ≤ x) (h2 : x ≤ 2000000000000) : (0 : Int64) < lI x ↔ 0 < x := by
  rw [show (0 : Int64) = lI 0 from rfl]
  exact lI_lt (by omega) (by omega) (by omega) (by omega)
theorem m_ld43 (hI : Inv μ) {fs : List Nat} (hM : GM ν μ fs) (k32 : pp_M → Int32 → Option pp_M) {L lw : Nat} {ld : Nat → Nat} (hL : L ≤ 100) (hlw : lw ≤ L) (hLm : ν.1 40 7 = nI L) (hl : ν.1 40 30 = nI lw) (hld : ∀ i, i < 6 → ν.1 60 i = nI (ld i) ∧ ld i ≤ 4) : ∀ d t n, t + d = 6 → d < n → f_X9_loads_43 k32 n ν (oI (pck (elL (Wt μ) L ld lw) (bL (gn μ fs) ld) (Wt μ) t)) (lI (cG (bL (gn μ fs) ld) (pck (elL (Wt μ) L ld lw) (bL (gn μ fs) ld) (Wt μ) t))) (nI t) = f_X9_loads_169 k32 ν (oI (pck (elL (Wt μ) L ld lw) (bL (gn μ fs) ld) (Wt μ) 6)) (match pck (elL (Wt μ) L ld lw) (bL (gn μ fs) ld) (Wt μ) 6 with | none => 0 | some _ => 1) := by
  have hWb : ∀ t, t < 6 → 0 < Wt μ t ∧ Wt μ t ≤ 80 := fun t ht => by have := (Wt_ok hI ht).2; omega
  have hWe : ∀ t, t < 6 → ν.1 42 t = nI (Wt μ t) := fun t ht => by rw [(hM.2.2.1 42 t (by unfold sM; omega)).1, (Wt_ok hI ht).1]
  have hBb : ∀ i, i < 6 → elL (Wt μ) L ld lw i = true → -2000000000000 ≤ bL (gn μ fs) ld i ∧ bL (gn μ fs) ld i ≤ 2000000000000 := fun i hi he => by
    have hq := elL_iff.mp he
    have g1 := gn_bd hI hM.2.2.2.1 hM.2.2.2.2 hi (show ld i + 1 < 5 by omega)
    have g2 := gn_bd hI hM.2.2.2.1 hM.2.2.2.2 hi (show ld i < 5 by omega)
    unfold bL
    omega
  intro d
  induction d with
  | zero =>
    intro t n ht hn
    obtain ⟨n, rfl⟩ : ∃ n', n = n' + 1 := ⟨n - 1, by omega⟩
    have : t = 6 := by omega
    subst this
    show f_X9_loads_43_B k32 (f_X9_loads_43 k32 n) _ _ _ _ = _
    unfold f_X9_loads_43_B
    rw [if_neg (show ¬ nI 6 < (6 : Int32) from q_nlt 6)]
    cases hp : pck (elL (Wt μ) L ld lw) (bL (gn μ fs) ld) (Wt μ) 6 with
    | none => rw [if_pos (show oI none = (-1 : Int32) from rfl)]
    | some j =>
      have := pck_ok _ _ _ 6 j (fun i hi => (hWb i hi).1) hp
      rw [if_neg (fun q => by have := (oI_m1 (o := some j) (fun i hi => by cases hi; omega)).mp q; cases this)]
  | succ d ih =>
    intro t n ht hn
    obtain ⟨n, rfl⟩ : ∃ n', n = n' + 1 := ⟨n - 1, by omega⟩
    have ih' := ih (t + 1) n (by omega) (by omega)
    have ht6 : t < 6 := by omega
    obtain ⟨l1, l2⟩ := hld t ht6
    have hw := hWb t ht6
    show f_X9_loads_43_B k32 (f_X9_loads_43 k32 n) _ _ _ _ = _
    unfold f_X9_loads_43_B f_X9_loads_147 f_X9_loads_153
    have i1 : pp_ix (nI t) 6 := q_ix (by omega) (by omega)
    rw [if_pos (show nI t < (6 : Int32) from nI_lt (b := 6) (by omega) (by omega)), if_pos i1]
    simp only [q_cl (k := t) (show t < 2 ^ 31 by omega), l1, hLm, hl, hWe t ht6, nI_add, nI_1]
    by_cases c1 : ld t < 4
    · rw [if_pos (show nI (ld t) < (4 : Int32) from nI_lt (b := 4) c1 (by omega))]
      by_cases c2 : lw + Wt μ t ≤ L
      · have he : elL (Wt μ) L ld lw t = true := elL_iff.mpr ⟨c1, c2⟩
        rw [if_neg (q_nl (by omega) (by omega)), m_gainOf hI hM ht6 (by omega), Option.bind_some, l1, m_gainOf hI hM ht6 (by omega), Option.bind_some]
        rw [lI_sub, show gn μ fs t (ld t + 1) - gn μ fs t (ld t) = bL (gn μ fs) ld t from rfl]
        have hb := hBb t ht6 he
        have hpos := lI_pos hb.1 hb.2
        rcases cmpM (n := t) (fun i hi => hWb i (by omega)) (fun i hi => hBb i (by omega)) he with ⟨a1, a2, a3⟩ | ⟨a1, a2⟩
        · rw [a1] at ih'
          rw [if_pos (hpos.mpr a2)]
          rcases a3 with a3 | ⟨j, a3, a4⟩
          · rw [a3, if_pos (show oI none = (-1 : Int32) from rfl)]
            exact ih'
          · have hj := pck_ok _ _ _ t j (fun i hi => (hWb i (by omega)).1) a3
            have i2 : pp_ix (nI j) 6 := q_ix (by omega) (by omega)
            rw [a3, if_neg (fun q => by have := (oI_m1 (o := some j) (fun i hi => by cases hi; omega)).mp q; cases this)]
            have hwj := hWb j (by omega)
            rw [show oI (some j) = nI j from rfl, if_pos i2, q_cl (k := j) (by omega), hWe j (by omega), hWe t ht6, lI_nI (k := Wt μ t) (by omega), lI_nI (k := Wt μ j) (by omega), show cG (bL (gn μ fs) ld) (some j) = bL (gn μ fs) ld j from rfl, if_pos a4]
            exact ih'
        · rw [a1] at ih'
          rcases a2 with a2 | ⟨j, a3, a4⟩
          · rw [if_neg (fun q => a2 (hpos.mp q))]
            exact ih'
          · have hj := pck_ok _ _ _ t j (fun i hi => (hWb i (by omega)).1) a3
            have i2 : pp_ix (nI j) 6 := q_ix (by omega) (by omega)
            have hwj := hWb j (by omega)
            rw [a3] at ih' ⊢
            by_cases cp : 0 < bL (gn μ fs) ld t
            · rw [if_pos (hpos.mpr cp), if_neg (fun q => by have := (oI_m1 (o := some j) (fun i hi => by cases hi; omega)).mp q; cases this)]
              rw [show oI (some j) = nI j from rfl, if_pos i2, q_cl (k := j) (by omega), hWe j (by omega), hWe t ht6, lI_nI (k := Wt μ t) (by omega), lI_nI (k := Wt μ j) (by omega), show cG (bL (gn μ fs) ld) (some j) = bL (gn μ fs) ld j from rfl, if_neg a4]
              exact ih'
            · rw [if_neg (fun q => cp (hpos.mp q))]
              exact ih'
      · rw [pck_skip (fun q => c2 (elL_iff.mp q).2)] at ih'
        rw [if_pos (nI_lt (by omega) (by omega))]
        exact ih'
    · rw [pck_skip (fun q => c1 (elL_iff.mp q).1)] at ih'
      rw [if_neg (show ¬ nI (ld t) < (4 : Int32) from q_nl (b := 4) (by omega) (by omega))]
      exact ih'
def P60 (t i : Nat) : Prop := t = 60 ∨ (t = 40 ∧ i = 30)
theorem P60_NP {μ μ' : pp_M} (h : fr P60 μ μ') : fr NP μ μ' := fr_mono h (fun t i q => by unfold P60 at q; unfold NP; omega)
theorem m_ld32 (hI : Inv μ) {fs : List Nat} {L : Nat} (hL : L ≤ 100) : ∀ m n ν ld lw, smL ld 6 + m = 24 → m + 1 < n → GM ν μ fs → ν.1 40 7 = nI L → ν.1 40 30 = nI lw → ldOk (Wt μ) L ld lw → (∀ i, i < 6 → ν.1 60 i = nI (ld i)) → ∃ ν', f_X9_loads_32 n ν 1 = some ν' ∧ fr P60 ν ν' ∧ (∀ i, i < 6 → ν'.1 60 i = nI ((ldS (gn μ fs) (Wt μ) L m ld lw).1 i)) ∧ ν'.1 40 30 = nI (ldS (gn μ fs) (Wt μ) L m ld lw).2 := by
  have hWb : ∀ t, t < 6 → 0 < Wt μ t ∧ Wt μ t ≤ 80 := fun t ht => by have := (Wt_ok hI ht).2; omega
  intro m
  have stop : ∀ n ν ld lw, 1 < n → GM ν μ fs → ν.1 40 7 = nI L → ν.1 40 30 = nI lw → ldOk (Wt μ) L ld lw → (∀ i, i < 6 → ν.1 60 i = nI (ld i)) → pck (elL (Wt μ) L ld lw) (bL (gn μ fs) ld) (Wt μ) 6 = none → f_X9_loads_32 n ν 1 = some ν := by
    intro n ν ld lw hn hM hLm hl hok hld hp
    obtain ⟨n, rfl⟩ : ∃ n', n = n' + 1 + 1 := ⟨n - 2, by omega⟩
    show f_X9_loads_32_B (f_X9_loads_32 (n + 1)) _ _ = _
    unfold f_X9_loads_32_B
    rw [if_neg (show ¬ (1 : Int32) = 0 by decide)]
    have := m_ld43 hI hM (f_X9_loads_32 (n + 1)) hL hok.2.2 hLm hl (fun i hi => ⟨hld i hi, hok.1 i hi⟩) 6 0 100000 (by omega) (by omega)
    rw [hp] at this
    rw [show f_X9_loads_43 (f_X9_loads_32 (n + 1)) 100000 ν (-1) 0 0 = _ from this]
    unfold f_X9_loads_169 f_X9_loads_199
    rw [if_pos rfl]
    show f_X9_loads_32_B (f_X9_loads_32 n) _ _ = _
    unfold f_X9_loads_32_B
    rw [if_pos rfl]
  induction m with
  | zero =>
    intro n ν ld lw hs hn hM hLm hl hok hld
    have hfull := smL_full (c := 4) 6 hok.1 (by omega)
    have hp : pck (elL (Wt μ) L ld lw) (bL (gn μ fs) ld) (Wt μ) 6 = none := pck_none 6 (fun i hi q => by
      have h1 := elL_iff.mp q
      have h2 := hfull i hi
      omega)
    exact ⟨ν, stop n ν ld lw (by omega) hM hLm hl hok hld hp, fr_rf, hld, hl⟩
  | succ m ih =>
    intro n ν ld lw hs hn hM hLm hl hok hld
    cases hp : pck (elL (Wt μ) L ld lw) (bL (gn μ fs) ld) (Wt μ) 6 with
    | none =>
      refine ⟨ν, stop n ν ld lw (by omega) hM hLm hl hok hld hp, fr_rf, ?_, ?_⟩
      · rw [ldS_none hp]; exact hld
      · rw [ldS_none hp]; exact hl
    | some t =>
      obtain ⟨n, rfl⟩ : ∃ n', n = n' + 1 := ⟨n - 1, by omega⟩
      have hpo := pck_ok _ _ _ 6 t (fun i hi => (hWb i hi).1) hp
      have hel := elL_iff.mp hpo.2.1
      have ht := hpo.2.2
      have hfr : fr P60 ν (ppS (ppS ν 60 t (nI (ld t + 1))) 40 30 (nI (lw + Wt μ t))) := fr_tr (fr_S (Or.inl rfl)) (fr_S (Or.inr ⟨rfl, rfl⟩))
      obtain ⟨ν', g1, g2, g3, g4⟩ := ih n (ppS (ppS ν 60 t (nI (ld t + 1))) 40 30 (nI (lw + Wt μ t))) (upL ld t) (lw + Wt μ t) (by rw [smL_up, if_pos ht]; omega) (by omega) (GM_fr hM (P60_NP hfr)) (by rw [qs_ne (by omega), qs_tok (by omega)]; exact hLm) (by rw [qs_same]) (ldOk_up hok ht hpo.2.1) (fun i hi => by
        unfold upL
        rw [qs_tok (by omega)]
        by_cases c : i = t
        · subst c; rw [qs_same, if_pos rfl]
        · rw [qs_ne (fun q => c q.2), if_neg c]; exact hld i hi)
      refine ⟨ν', ?_, fr_tr hfr g2, by rw [ldS_some hp]; exact g3, by rw [ldS_some hp]; exact g4⟩
      show f_X9_loads_32_B (f_X9_loads_32 n) _ _ = _
      unfold f_X9_loads_32_B
      rw [if_neg (show ¬ (1 : Int32) = 0 by decide)]
      have := m_ld43 hI hM (f_X9_loads_32 n) hL hok.2.2 hLm hl (fun i hi => ⟨hld i hi, hok.1 i hi⟩) 6 0 100000 (by omega) (by omega)
      rw [hp] at this
      rw [show f_X9_loads_43 (f_X9_loads_32 n) 100000 ν (-1) 0 0 = _ from this]
      unfold f_X9_loads_169 f_X9_loads_199
      have i1 : pp_ix (nI t) 6 := q_ix (by omega) (by omega)
      have hWe : ν.1 42 t = nI (Wt μ t) := by rw [(hM.2.2.1 42 t (by unfold sM; omega)).1, (Wt_ok hI ht).1]
      rw [if_neg (show ¬ (1 : Int32) = 0 by decide), show oI (some t) = nI t from rfl, if_pos i1, q_cl (k := t) (by omega), hld t ht, nI_1, qs_tok (t := 60) (a := 40) (by omega), qs_tok (t := 60) (a := 42) (by omega), hl, hWe, nI_add]
      exact g1
theorem m_ld11 : ∀ d t n ν, t + d = 6 → d < n → (∀ i, i < t → ν.1 60 i = 0) → ∃ ν', f_X9_loads_11 n ν (nI t) = f_X9_loads_32 100000 ν' 1 ∧ fr (fun x _ => x = 60) ν ν' ∧ ∀ i, i < 6 → ν'.1 60 i = 0 := by
  intro d
  induction d with
  | zero =>
    intro t n ν ht hn h0
    obtain ⟨n, rfl⟩ : ∃ n', n = n' + 1 := ⟨n - 1, by omega⟩
    have : t = 6 := by omega
    subst this
    refine ⟨ν, ?_, fr_rf, h0⟩
    show f_X9_loads_11_B (f_X9_loads_11 n) _ _ = _
    unfold f_X9_loads_11_B
    rw [if_neg (show ¬ nI 6 < (6 : Int32) from q_nlt 6)]
  | succ d ih =>
    intro t n ν ht hn h0
    obtain ⟨n, rfl⟩ : ∃ n', n = n' + 1 := ⟨n - 1, by omega⟩
    obtain ⟨ν', g1, g2, g3⟩ := ih (t + 1) n (ppS ν 60 t 0) (by omega) (by omega) (fun i hi => by
      by_cases c : i = t
      · rw [c, qs_same]
      · rw [qs_ne (fun q => c q.2)]; exact h0 i (by omega))
    refine ⟨ν', ?_, fr_tr (fr_S rfl) g2, g3⟩
    show f_X9_loads_11_B (f_X9_loads_11 n) _ _ = _
    unfold f_X9_loads_11_B
    have i1 : pp_ix (nI t) 6 := q_ix (by omega) (by omega)
    rw [if_pos (show nI t < (6 : Int32) from nI_lt (b := 6) (by omega) (by omega)), if_pos i1, q_cl (k := t) (by omega), nI_1]
    exact g1
/-- what is loaded -/
def LD (μ : pp_M) : (Nat → Nat) × Nat := ldS (gn μ (rowL μ)) (Wt μ) (Lm μ) 24 (fun _ => 0) 0
theorem LD_ok (hI : Inv μ) : ldOk (Wt μ) (Lm μ) (LD μ).1 (LD μ).2 := ldS_ok (fun t ht => (Wt_ok hI ht).2.1) 24 _ _ (ld0_ok _ _)
theorem m_loads (hI : Inv μ) (hf : fr sM μ ν) : ∃ ν', f_X9_loads ν = some ν' ∧ GM ν' μ (rowL μ) ∧ (∀ i, i < 6 → ν'.1 60 i = nI ((LD μ).1 i)) ∧ ν'.1 40 30 = nI (LD μ).2 := by
  obtain ⟨ν1, g1, g2, g3⟩ := m_looksR hI hf
  have h0 : fr P60 ν1 (ppS ν1 40 30 0) := fr_S (Or.inr ⟨rfl, rfl⟩)
  obtain ⟨ν2, d1, d2, d3⟩ := m_ld11 6 0 100000 (ppS ν1 40 30 0) (by omega) (by omega) (fun i hi => by omega)
  have h2 : fr P60 ν1 ν2 := fr_tr h0 (fr_mono d2 (fun t i q => Or.inl q))
  have hM2 := GM_fr g3 (P60_NP h2)
  obtain ⟨ν3, e1, e2, e3, e4⟩ := m_ld32 hI (Lm_ok hI).2.2 24 100000 ν2 (fun _ => 0) 0 (by rfl) (by omega) hM2 (by rw [(hM2.2.2.1 40 7 (by unfold sM; omega)).1, (Lm_ok hI).1]) (by rw [(d2 40 30 (by omega)).1, qs_same]; rfl) (ld0_ok _ _) (fun i hi => d3 i hi)
  refine ⟨ν3, ?_, GM_fr hM2 (P60_NP e2), e3, e4⟩
  unfold f_X9_loads
  rw [g1, Option.bind_some, show f_X9_loads_11 100000 (ppS ν1 40 30 0) 0 = _ from d1]
  exact e1
theorem kLoaded (hI : Inv μ) (hG : GK σ (GS μ (rowL μ)) (Wt μ) (pkS μ (rowL μ))) : ∃ σ', f_X5_chooseLoaded σ (nI (Lm μ)) = some σ' ∧ fr P33 σ σ' ∧ ∀ i, i < 6 → σ'.1 33 i = nI ((LD μ).1 i) := by
  obtain ⟨σ', g1, g2, g3⟩ := k_chooseLoaded hG (Lm_ok hI).2.2
  refine ⟨σ', g1, g2, fun i hi => ?_⟩
  have e : ldS (GS μ (rowL μ)) (Wt μ) (Lm μ) 24 (fun _ => 0) 0 = LD μ := ldS_sc (s_pos (7 - (rowL μ).length)) 24 _ _
  rw [g3 i hi, e]
theorem m_loadedNow (hI : Inv μ) (hf : fr sM μ ν) (a1 : Int32) : ∃ ν', fr sM μ ν' ∧ (a1 = -1 → f_X9_loadedNow ν a1 = some (nI (sN (LD μ).1 (Wt μ) 6), ν')) ∧ (∀ t, t < 6 → a1 = nI t → f_X9_loadedNow ν a1 = some (nI ((LD μ).1 t), ν')) := by
  obtain ⟨ν1, g1, g2, g3, g4⟩ := m_loads hI hf
  refine ⟨ν1, g2.2.2.1, fun e => ?_, fun t ht e => ?_⟩
  · unfold f_X9_loadedNow
    rw [g1, Option.bind_some, if_pos e, g4, ← (LD_ok hI).2.1]
  · unfold f_X9_loadedNow
    have i1 : pp_ix (nI t) 6 := q_ix (by omega) (by omega)
    rw [g1, Option.bind_some, e, if_neg (fun q => by have := (wb_m1 t ht).mp q; omega), if_pos i1, q_cl (k := t) (by omega), g3 t ht]
theorem h_loaded (hCa : CaOk Ca) (a1 : Int32) (h : Rel Ca σ μ) : ∃ (r : Int32) (σ' μ' : pp_M), f_X8_loaded σ a1 = some (r, σ') ∧ f_X9_loaded μ a1 = some (r, μ') ∧ Rel Ca σ' μ' := by
  have hI := h.2.1
  unfold f_X8_loaded f_X9_loaded f_X9_loaded_12
  rw [k_within, m_isThing, Option.bind_some, Option.bind_some]
  by_cases c1 : wi a1 (-1) 5 = 0
  · have := wi_m1' c1
    rw [if_pos c1, if_neg this.1, if_pos this.2]
    exact ⟨_, _, _, rfl, rfl, h⟩
  rw [if_neg c1]
  obtain ⟨σ1, g1, g2, g3⟩ := k_weighUp h.1 hI
  have hB1 := base_fr h.1 (WU_sK g2) fr_rf
  obtain ⟨σ2, d1, d2, d3⟩ := kLoaded hI g3
  have hB2 := base_fr hB1 (PP_sK (P33_PP d2)) fr_rf
  obtain ⟨ν, e1, e2, e3⟩ := m_loadedNow hI (fr_rf (σ := μ)) a1
  have kn := k_nOW hB2 hI d3 a1
  rw [g1, Option.bind_some, Lm_K hB1 hI, d1, Option.bind_some]
  have rel := rel_scratch hCa h (fr_tr (WU_sK g2) (PP_sK (P33_PP d2))) e1
  rcases wi_m1 c1 with e | ⟨t, ht, e⟩
  · rw [if_pos e, kn.1 e, e2 e]
    exact ⟨_, _, _, rfl, rfl, rel⟩
  · rw [if_neg (fun q => by rw [e] at q; have := (wb_m1 t ht).mp q; omega), if_neg (by rw [e]; exact wi_t ht), kn.2 t ht e, e3 t ht e]
    exact ⟨_, _, _, rfl, rfl, rel⟩
end MLOADS
