/-! the bound in the reference; load -/
section LOAD
variable {Ca : pp_M → pp_M → Prop} {σ μ ν : pp_M} {G : Nat → Nat → Int} {W pk tp : Nat → Nat}
theorem bdS_bd (hG : ∀ t, t < 6 → ∀ k, k < 5 → -1000000000000 ≤ G t k ∧ G t k ≤ 1000000000000) (hW : ∀ t, t < 6 → 1 ≤ W t ∧ W t ≤ 20) : ∀ (m c : Nat) (us : Nat → Bool) (room : Nat) (sum : Int), c + m = 24 → -(2000000000000 * (c : Int)) ≤ sum → sum ≤ 2000000000000 * (c : Int) → room ≤ 100 → -2000000000000000 ≤ (bdS G W m us room sum).1 ∧ (bdS G W m us room sum).1 ≤ 2000000000000000 ∧ 1 ≤ (bdS G W m us room sum).2 ∧ (bdS G W m us room sum).2 ≤ 20
  | 0, c, us, room, sum, hc, h1, h2, hr => by
    show -2000000000000000 ≤ sum ∧ sum ≤ 2000000000000000 ∧ 1 ≤ 1 ∧ 1 ≤ 20
    omega
  | m + 1, c, us, room, sum, hc, h1, h2, hr => by
    have hWb : ∀ i, i < 24 → 0 < wT W i ∧ wT W i ≤ 20 := fun i hi => by have := hW (i / 4) (by omega); unfold wT; omega
    by_cases c0 : room = 0
    · rw [c0, bdS_0]
      show -2000000000000000 ≤ sum ∧ sum ≤ 2000000000000000 ∧ 1 ≤ 1 ∧ 1 ≤ 20
      omega
    cases hp : pck (fun s => !us s) (bS G) (wT W) 24 with
    | none =>
      rw [bdS_none hp]
      show -2000000000000000 ≤ sum ∧ sum ≤ 2000000000000000 ∧ 1 ≤ 1 ∧ 1 ≤ 20
      omega
    | some s =>
      have hs := (pck_ok _ _ _ 24 s (fun i hi => (hWb i hi).1) hp).2.2
      have hb := bS_bd hG hs
      have hw := hWb s hs
      rw [bdS_some c0 hp]
      by_cases c2 : room < wT W s
      · rw [if_pos c2]
        show -2000000000000000 ≤ sum * (wT W s : Int) + bS G s * (room : Int) ∧ sum * (wT W s : Int) + bS G s * (room : Int) ≤ 2000000000000000 ∧ 1 ≤ wT W s ∧ wT W s ≤ 20
        have h3 : -48000000000000 ≤ sum ∧ sum ≤ 48000000000000 := by omega
        have m1 := Int.mul_le_mul_of_nonneg_right h3.1 (show (0 : Int) ≤ (wT W s : Int) by omega)
        have m2 := Int.mul_le_mul_of_nonneg_right h3.2 (show (0 : Int) ≤ (wT W s : Int) by omega)
        have m3 := mul_bd (w := room) hb (by omega)
        generalize sum * (wT W s : Int) = x at m1 m2 ⊢
        generalize bS G s * (room : Int) = y at m3 ⊢
        refine ⟨by omega, by omega, by omega, by omega⟩
      · rw [if_neg c2]
        exact bdS_bd hG hW m (c + 1) (upB us s) (room - wT W s) (sum + bS G s) (by omega) (by omega) (by omega) (by omega)
theorem m_bn23 (hI : Inv μ) {fs : List Nat} (hM : GM ν μ fs) (k14 : pp_M → Int32 → Int32 → Int32 → Int64 → Option (Int64 × pp_M)) {u : Nat} {us : Nat → Bool} (hu : u < 2 ^ 24) (hus : ∀ i, i < 24 → us i = u.testBit i) (a1 R : Int32) (S : Int64) : ∀ d s n, s + d = 24 → d < n → f_X9_boundNow_23 k14 n ν a1 (nI u) R S (oI (pck (fun s => !us s) (bS (gn μ fs)) (wT (Wt μ)) s)) (lI (cG (bS (gn μ fs)) (pck (fun s => !us s) (bS (gn μ fs)) (wT (Wt μ)) s))) (nI s) = f_X9_boundNow_23 k14 1 ν a1 (nI u) R S (oI (pck (fun s => !us s) (bS (gn μ fs)) (wT (Wt μ)) 24)) (lI (cG (bS (gn μ fs)) (pck (fun s => !us s) (bS (gn μ fs)) (wT (Wt μ)) 24))) (nI 24) := by
  have hWb : ∀ i, i < 24 → 0 < wT (Wt μ) i ∧ wT (Wt μ) i ≤ 80 := fun i hi => by have := (Wt_ok hI (show i / 4 < 6 by omega)).2; unfold wT; omega
  have hBb : ∀ i, i < 24 → -2000000000000 ≤ bS (gn μ fs) i ∧ bS (gn μ fs) i ≤ 2000000000000 := fun i hi => bS_bd (fun t ht k hk => gn_bd hI hM.2.2.2.1 hM.2.2.2.2 ht hk) hi
  have hWe : ∀ i, i < 24 → ν.1 42 (i / 4) = nI (wT (Wt μ) i) := fun i hi => by rw [(hM.2.2.1 42 (i / 4) (by unfold sM; omega)).1, (Wt_ok hI (show i / 4 < 6 by omega)).1]; rfl
  intro d
  induction d with
  | zero =>
    intro s n hs hn
    obtain ⟨n, rfl⟩ : ∃ n', n = n' + 1 := ⟨n - 1, by omega⟩
    have : s = 24 := by omega
    subst this
    show f_X9_boundNow_23_B k14 (f_X9_boundNow_23 k14 n) _ _ _ _ _ _ _ _ = f_X9_boundNow_23_B k14 (f_X9_boundNow_23 k14 0) _ _ _ _ _ _ _ _
    unfold f_X9_boundNow_23_B
    rw [if_neg (show ¬ nI 24 < (24 : Int32) from q_nlt 24), if_neg (show ¬ nI 24 < (24 : Int32) from q_nlt 24)]
  | succ d ih =>
    intro s n hs hn
    obtain ⟨n, rfl⟩ : ∃ n', n = n' + 1 := ⟨n - 1, by omega⟩
    have ih' := ih (s + 1) n (by omega) (by omega)
    generalize f_X9_boundNow_23 k14 1 ν a1 (nI u) R S (oI (pck (fun s => !us s) (bS (gn μ fs)) (wT (Wt μ)) 24)) (lI (cG (bS (gn μ fs)) (pck (fun s => !us s) (bS (gn μ fs)) (wT (Wt μ)) 24))) (nI 24) = RES at ih' ⊢
    have hs24 : s < 24 := by omega
    have gb := hBb s hs24
    have hw := hWb s hs24
    have hpos := lI_pos gb.1 gb.2
    have d1 : nI s / (4 : Int32) = nI (s / 4) := pk_div (d := 4) (by omega) (by omega) (by omega)
    have d2 : nI s - nI (s / 4) * (4 : Int32) = nI (s % 4) := by
      have := pk_rem (a := s) (d := 4) (by omega) (by omega) (by omega)
      rw [pk_div (by omega) (by omega) (by omega)] at this
      exact this
    have i1 : pp_ix (nI (s / 4)) 6 := q_ix (by omega) (by omega)
    show f_X9_boundNow_23_B k14 (f_X9_boundNow_23 k14 n) _ _ _ _ _ _ _ _ = _
    unfold f_X9_boundNow_23_B f_X9_boundNow_111 f_X9_boundNow_119
    rw [if_pos (show nI s < (24 : Int32) from nI_lt (b := 24) (by omega) (by omega)), d1, d2, nI_1, m_gainOf hI hM (by omega) (by omega), Option.bind_some, m_gainOf hI hM (by omega) (by omega), Option.bind_some, lI_sub, show gn μ fs (s / 4) (s % 4 + 1) - gn μ fs (s / 4) (s % 4) = bS (gn μ fs) s from rfl, nI_1]
    cases hb : us s with
    | true =>
      have ht : u.testBit s = true := by rw [← hus s hs24, hb]
      rw [pck_skip (by rw [hb]; decide)] at ih'
      rw [if_neg (fun q => by have := (bit_0 (by omega) (by omega)).mp q; rw [ht] at this; cases this)]
      exact ih'
    | false =>
      have ht : u.testBit s = false := by rw [← hus s hs24, hb]
      rw [if_pos ((bit_0 (by omega) (by omega)).mpr ht)]
      have hel : (fun s => !us s) s = true := by show (!us s) = true; rw [hb]; rfl
      rcases cmpM (el := fun s => !us s) (n := s) (fun i hi => hWb i (by omega)) (fun i hi _ => hBb i (by omega)) hel with ⟨a1', a2, a3⟩ | ⟨a1', a2⟩
      · rw [a1'] at ih'
        rw [if_pos (hpos.mpr a2)]
        rcases a3 with a3 | ⟨j, a3, a4⟩
        · rw [a3, if_pos (show oI none = (-1 : Int32) from rfl)]
          exact ih'
        · have hj := pck_ok _ _ _ s j (fun i hi => (hWb i (by omega)).1) a3
          have hwj := hWb j (by omega)
          have i2 : pp_ix (nI (j / 4)) 6 := q_ix (by omega) (by omega)
          have d3 : nI j / (4 : Int32) = nI (j / 4) := pk_div (d := 4) (by omega) (by omega) (by omega)
          rw [a3, if_neg (fun q => by have := (oI_m1 (o := some j) (fun i hi => by cases hi; omega)).mp q; cases this)]
          rw [show oI (some j) = nI j from rfl, d3, if_pos i2, if_pos i1, q_cl (k := j / 4) (by omega), q_cl (k := s / 4) (by omega), hWe j (by omega), hWe s hs24, lI_nI (k := wT (Wt μ) s) (by omega), lI_nI (k := wT (Wt μ) j) (by omega), show cG (bS (gn μ fs)) (some j) = bS (gn μ fs) j from rfl, if_pos a4]
          exact ih'
      · rw [a1'] at ih'
        rcases a2 with a2 | ⟨j, a3, a4⟩
        · rw [if_neg (fun q => a2 (hpos.mp q))]
          exact ih'
        · have hj := pck_ok _ _ _ s j (fun i hi => (hWb i (by omega)).1) a3
          have hwj := hWb j (by omega)
          have i2 : pp_ix (nI (j / 4)) 6 := q_ix (by omega) (by omega)
          have d3 : nI j / (4 : Int32) = nI (j / 4) := pk_div (d := 4) (by omega) (by omega) (by omega)
          rw [a3] at ih' ⊢
          by_cases cp : 0 < bS (gn μ fs) s
          · rw [if_pos (hpos.mpr cp), if_neg (fun q => by have := (oI_m1 (o := some j) (fun i hi => by cases hi; omega)).mp q; cases this)]
            rw [show oI (some j) = nI j from rfl, d3, if_pos i2, if_pos i1, q_cl (k := j / 4) (by omega), q_cl (k := s / 4) (by omega), hWe j (by omega), hWe s hs24, lI_nI (k := wT (Wt μ) s) (by omega), lI_nI (k := wT (Wt μ) j) (by omega), show cG (bS (gn μ fs)) (some j) = bS (gn μ fs) j from rfl, if_neg a4]
            exact ih'
          · rw [if_neg (fun q => cp (hpos.mp q))]
            exact ih'
def usN (us : Nat → Bool) (i : Nat) : Nat := if us i then 1 else 0
theorem usN_up {us : Nat → Bool} {s : Nat} (h : us s = false) : usN (upB us s) = upL (usN us) s := by
  funext i
  unfold usN upB upL
  by_cases c : i = s
  · rw [if_pos c, if_pos c, c]
    show (if true = true then 1 else 0) = (if us s = true then 1 else 0) + 1
    rw [h]; rfl
  · rw [if_neg c, if_neg c]
theorem m_bn14 (hI : Inv μ) {fs : List Nat} (hM : GM ν μ fs) (a1 : Int32) : ∀ (m n u : Nat) (us : Nat → Bool) (room : Nat) (sum : Int), u < 2 ^ 24 → (∀ i, i < 24 → us i = u.testBit i) → smL (usN us) 24 + m = 24 → m < n → room ≤ 100 → -(2000000000000 * (smL (usN us) 24 : Int)) ≤ sum → sum ≤ 2000000000000 * (smL (usN us) 24 : Int) → f_X9_boundNow_14 n ν a1 (nI u) (nI room) (lI sum) = some (lowI (bdS (gn μ fs) (Wt μ) m us room sum).1 (16 ^ fs.length * (bdS (gn μ fs) (Wt μ) m us room sum).2) a1, ν) := by
  have hGb : ∀ t, t < 6 → ∀ k, k < 5 → -1000000000000 ≤ gn μ fs t k ∧ gn μ fs t k ≤ 1000000000000 := fun t ht k hk => gn_bd hI hM.2.2.2.1 hM.2.2.2.2 ht hk
  have hWb : ∀ i, i < 24 → 0 < wT (Wt μ) i ∧ wT (Wt μ) i ≤ 20 := fun i hi => by have := (Wt_ok hI (show i / 4 < 6 by omega)).2; unfold wT; omega
  have hWe : ∀ i, i < 24 → ν.1 42 (i / 4) = nI (wT (Wt μ) i) := fun i hi => by rw [(hM.2.2.1 42 (i / 4) (by unfold sM; omega)).1, (Wt_ok hI (show i / 4 < 6 by omega)).1]; rfl
  have h16 : f_X9_sixteen ν (ν.1 40 22) = some (lI (16 ^ fs.length), ν) := by rw [hM.2.1, m_sixteen hM.2.2.2.1]
  have hl7 := hM.2.2.2.1
  have hp16 := p16_le hl7
  have e135 : ∀ sum : Int, -2000000000000000 ≤ sum → sum ≤ 2000000000000000 → f_X9_boundNow_135 ν a1 (lI sum) = some (lowI sum (16 ^ fs.length * 1) a1, ν) := fun sum h1 h2 => by
    unfold f_X9_boundNow_135
    rw [h16, Option.bind_some, m_lowU a1 hl7 (by omega) (by omega), Option.bind_some, Nat.mul_one]
  intro m
  have stop : ∀ (n u : Nat) (us : Nat → Bool) (room : Nat) (sum : Int), u < 2 ^ 24 → (∀ i, i < 24 → us i = u.testBit i) → 0 < n → -2000000000000000 ≤ sum → sum ≤ 2000000000000000 → pck (fun s => !us s) (bS (gn μ fs)) (wT (Wt μ)) 24 = none → f_X9_boundNow_14 n ν a1 (nI u) (nI room) (lI sum) = some (lowI sum (16 ^ fs.length * 1) a1, ν) := by
    intro n u us room sum hu hus hn h1 h2 hp
    obtain ⟨n, rfl⟩ : ∃ n', n = n' + 1 := ⟨n - 1, by omega⟩
    show f_X9_boundNow_14_B (f_X9_boundNow_14 n) _ _ _ _ _ = _
    unfold f_X9_boundNow_14_B
    have := m_bn23 hI hM (f_X9_boundNow_14 n) hu hus a1 (nI room) (lI sum) 24 0 100000 (by omega) (by omega)
    rw [hp] at this
    rw [show f_X9_boundNow_23 (f_X9_boundNow_14 n) 100000 ν a1 (nI u) (nI room) (lI sum) (-1) 0 0 = _ from this]
    show f_X9_boundNow_23_B (f_X9_boundNow_14 n) (f_X9_boundNow_23 (f_X9_boundNow_14 n) 0) _ _ _ _ _ _ _ _ = _
    unfold f_X9_boundNow_23_B
    rw [if_neg (show ¬ nI 24 < (24 : Int32) from q_nlt 24), if_pos (show oI none = (-1 : Int32) from rfl)]
    exact e135 sum h1 h2
  induction m with
  | zero =>
    intro n u us room sum hu hus hs hn hr h1 h2
    have hle : ∀ i, i < 24 → usN us i ≤ 1 := fun i hi => by unfold usN; split <;> omega
    have hfull := smL_full (c := 1) 24 hle (by omega)
    have hp : pck (fun s => !us s) (bS (gn μ fs)) (wT (Wt μ)) 24 = none := pck_none 24 (fun i hi q => by
      have h3 := hfull i hi
      unfold usN at h3
      have q' : (!us i) = true := q
      cases hb : us i with
      | true => rw [hb] at q'; cases q'
      | false => rw [hb] at h3; exact absurd h3 (by decide))
    exact stop n u us room sum hu hus (by omega) (by omega) (by omega) hp
  | succ m ih =>
    intro n u us room sum hu hus hs hn hr h1 h2
    have hbd := bdS_bd hGb (fun t ht => (Wt_ok hI ht).2) (m + 1) (smL (usN us) 24) us room sum hs h1 h2 hr
    cases hp : pck (fun s => !us s) (bS (gn μ fs)) (wT (Wt μ)) 24 with
    | none =>
      rw [bdS_none hp]
      exact stop n u us room sum hu hus (by omega) (by omega) (by omega) hp
    | some s =>
      obtain ⟨n, rfl⟩ : ∃ n', n = n' + 1 := ⟨n - 1, by omega⟩
      have hpo := pck_ok _ _ _ 24 s (fun i hi => (hWb i hi).1) hp
      have hs24 := hpo.2.2
      have hw := hWb s hs24
      have hgb := bS_bd hGb hs24
      have d1 : nI s / (4 : Int32) = nI (s / 4) := pk_div (d := 4) (by omega) (by omega) (by omega)
      have i1 : pp_ix (nI (s / 4)) 6 := q_ix (by omega) (by omega)
      have huss : us s = false := by
        have q' : (!us s) = true := hpo.2.1
        cases hb : us s with
        | true => rw [hb] at q'; cases q'
        | false => rfl
      show f_X9_boundNow_14_B (f_X9_boundNow_14 n) _ _ _ _ _ = _
      unfold f_X9_boundNow_14_B
      have := m_bn23 hI hM (f_X9_boundNow_14 n) hu hus a1 (nI room) (lI sum) 24 0 100000 (by omega) (by omega)
      rw [hp] at this
      rw [show f_X9_boundNow_23 (f_X9_boundNow_14 n) 100000 ν a1 (nI u) (nI room) (lI sum) (-1) 0 0 = _ from this]
      show f_X9_boundNow_23_B (f_X9_boundNow_14 n) (f_X9_boundNow_23 (f_X9_boundNow_14 n) 0) _ _ _ _ _ _ _ _ = _
      unfold f_X9_boundNow_23_B
      rw [if_neg (show ¬ nI 24 < (24 : Int32) from q_nlt 24), if_neg (fun q => by have := (oI_m1 (o := some s) (fun i hi => by cases hi; omega)).mp q; cases this)]
      rw [show oI (some s) = nI s from rfl, d1, if_pos i1, q_cl (k := s / 4) (by omega), hWe s hs24, h16, show cG (bS (gn μ fs)) (some s) = bS (gn μ fs) s from rfl]
      by_cases c0 : room = 0
      · rw [if_pos (by rw [c0]; rfl), c0, bdS_0]
        exact e135 sum (by omega) (by omega)
      rw [if_neg (show ¬ nI room = (0 : Int32) from fun q => c0 ((nI_eqI (b := 0) (by omega) (by omega)).mp q))]
      rw [bdS_some c0 hp] at hbd ⊢
      by_cases c2 : room < wT (Wt μ) s
      · rw [if_pos c2] at hbd ⊢
        rw [if_pos (nI_lt c2 (by omega)), Option.bind_some, lI_nI (by omega), lI_nI (by omega), lI_mul, lI_mul, lI_add, lI_mul]
        have e3 : (16 : Int) ^ fs.length * ((wT (Wt μ) s : Nat) : Int) = ((16 ^ fs.length * wT (Wt μ) s : Nat) : Int) := by rw [Int.natCast_mul, Int.natCast_pow]; rfl
        have hpb : 16 ^ fs.length * wT (Wt μ) s ≤ 268435456 * 20 := Nat.mul_le_mul hp16.2 hw.2
        have hbd' : -2000000000000000 ≤ sum * (wT (Wt μ) s : Int) + bS (gn μ fs) s * (room : Int) ∧ sum * (wT (Wt μ) s : Int) + bS (gn μ fs) s * (room : Int) ≤ 2000000000000000 := ⟨hbd.1, hbd.2.1⟩
        rw [e3, m_lowest a1 (by omega) (by omega) (Nat.mul_pos hp16.1 hw.1) (by omega), Option.bind_some]
      · rw [if_neg c2]
        rw [if_neg (q_nl (by omega) (by omega)), bit_sh (by omega), nI_or, pk_sub (by omega), lI_add]
        have hsm : smL (usN (upB us s)) 24 = smL (usN us) 24 + 1 := by rw [usN_up huss, smL_up, if_pos hs24]
        exact ih n (u ||| 2 ^ s) (upB us s) (room - wT (Wt μ) s) (sum + bS (gn μ fs) s) (Nat.or_lt_two_pow hu (Nat.pow_lt_pow_right (by omega) hs24)) (fun i hi => by
          rw [Nat.testBit_or, Nat.testBit_two_pow]
          unfold upB
          by_cases c : i = s
          · rw [if_pos c, c]; simp
          · rw [if_neg c, hus i hi, decide_eq_false (fun q => c q.symm), Bool.or_false]) (by omega) (by omega) (by omega) (by rw [hsm, Int.natCast_add]; omega) (by rw [hsm, Int.natCast_add]; omega)
theorem m_boundNow (hI : Inv μ) (hf : fr sM μ ν) (a1 : Int32) : ∃ ν', f_X9_boundNow ν a1 = some (lowI (BD μ).1 (16 ^ (rowL μ).length * (BD μ).2) a1, ν') ∧ fr sM μ ν' := by
  obtain ⟨ν1, g1, g2, g3⟩ := m_looksR hI hf
  refine ⟨ν1, ?_, g3.2.2.1⟩
  have h0 : smL (usN (fun _ => false)) 24 = 0 := rfl
  unfold f_X9_boundNow
  rw [g1, Option.bind_some, (g3.2.2.1 40 7 (by unfold sM; omega)).1, (Lm_ok hI).1]
  exact m_bn14 hI g3 a1 24 100000 0 (fun _ => false) (Lm μ) 0 (by omega) (fun i hi => (Nat.zero_testBit i).symm) (by rw [h0]) (by omega) (Lm_ok hI).2.2 (by rw [h0]; decide) (by rw [h0]; decide)
/-- the loaded pack as a list -/
def ldL (μ : pp_M) : List Nat := (List.range 6).map (LD μ).1
theorem ldL_ok (hI : Inv μ) : (ldL μ).length = 6 ∧ ∀ i, i < 6 → (ldL μ).getD i 0 = (LD μ).1 i ∧ (ldL μ).getD i 0 ≤ 4 := by
  refine ⟨by unfold ldL; rw [List.length_map, List.length_range], fun i hi => ?_⟩
  have eg : (ldL μ).getD i 0 = (LD μ).1 i := by
    rw [List.getD_eq_getElem?_getD]
    unfold ldL
    rw [List.getElem?_map, List.getElem?_range (by omega)]
    rfl
  rw [eg]
  exact ⟨rfl, (LD_ok hI).1 i hi⟩
def ldG (μ : pp_M) : Int := pg (gn μ (rowL μ)) 0 (ldL μ)
theorem ldG_bd (hI : Inv μ) : -6000000000000 ≤ ldG μ * 16 ^ (7 - (rowL μ).length) ∧ ldG μ * 16 ^ (7 - (rowL μ).length) ≤ 6000000000000 := by
  have h := pgL_bd (G := GS μ (rowL μ)) (fun t ht k hk => GS_bd hI (rowL_len hI).1 (rowL_mem hI) ht hk) (ldL μ) 0 (by rw [(ldL_ok hI).1]) (fun i hi => ((ldL_ok hI).2 i (by rw [(ldL_ok hI).1] at hi; exact hi)).2)
  have e : pg (GS μ (rowL μ)) 0 (ldL μ) = ldG μ * 16 ^ (7 - (rowL μ).length) := pg_sc (gn μ (rowL μ)) (16 ^ (7 - (rowL μ).length)) _ 0
  rw [e, (ldL_ok hI).1] at h
  exact h
theorem m_ln41 (hI : Inv μ) {fs : List Nat} (hM : GM ν μ fs) (a2 : Int32) : ∀ (q : List Nat) (t n : Nat) (acc : Int), t + q.length = 6 → q.length < n → (∀ i, i < q.length → ν.1 60 (t + i) = nI (q.getD i 0) ∧ q.getD i 0 ≤ 4) → f_X9_loadNow_41 n ν a2 (lI acc) (nI t) = f_X9_loadNow_70 ν a2 (lI (acc + pg (gn μ fs) t q)) := by
  intro q
  induction q with
  | nil =>
    intro t n acc ht hn' hq
    rw [List.length_nil] at ht hn'
    obtain ⟨n, rfl⟩ : ∃ n', n = n' + 1 := ⟨n - 1, by omega⟩
    have : t = 6 := by omega
    subst this
    show f_X9_loadNow_41_B (f_X9_loadNow_41 n) _ _ _ _ = _
    unfold f_X9_loadNow_41_B pg
    rw [if_neg (show ¬ nI 6 < (6 : Int32) from q_nlt 6), Int.add_zero]
  | cons k q ih =>
    intro t n acc ht hn' hq
    rw [List.length_cons] at ht hn'
    obtain ⟨n, rfl⟩ : ∃ n', n = n' + 1 := ⟨n - 1, by omega⟩
    have h0 := hq 0 (by rw [List.length_cons]; omega)
    rw [Nat.add_zero] at h0
    have e0 : (k :: q).getD 0 0 = k := rfl
    rw [e0] at h0
    have i1 : pp_ix (nI t) 6 := q_ix (by omega) (by omega)
    show f_X9_loadNow_41_B (f_X9_loadNow_41 n) _ _ _ _ = _
    unfold f_X9_loadNow_41_B
    rw [if_pos (show nI t < (6 : Int32) from nI_lt (b := 6) (by omega) (by omega)), if_pos i1, q_cl (k := t) (by omega), h0.1, m_gainOf hI hM (by omega) (by omega), Option.bind_some, lI_add, nI_1]
    rw [ih (t + 1) n (acc + gn μ fs t k) (by omega) (by omega) (fun i hi => by
      have := hq (i + 1) (by rw [List.length_cons]; omega)
      rw [show t + (i + 1) = t + 1 + i by omega] at this
      exact this)]
    show f_X9_loadNow_70 ν a2 (lI (acc + gn μ fs t k + pg (gn μ fs) (t + 1) q)) = f_X9_loadNow_70 ν a2 (lI (acc + (gn μ fs t k + pg (gn μ fs) (t + 1) q)))
    rw [Int.add_assoc]
noncomputable def LT (μ : pp_M) (which : Nat) (w : Int32) : Int64 := if which = 0 then lowI (bG μ 6) (16 ^ (rowL μ).length) w else if which = 1 then lowI (ldG μ) (16 ^ (rowL μ).length) w else lowI (BD μ).1 (16 ^ (rowL μ).length * (BD μ).2) w
theorem BD_bd (hI : Inv μ) : -2000000000000000 ≤ (BD μ).1 * 16 ^ (7 - (rowL μ).length) ∧ (BD μ).1 * 16 ^ (7 - (rowL μ).length) ≤ 2000000000000000 ∧ 1 ≤ (BD μ).2 ∧ (BD μ).2 ≤ 20 := by
  have h := bdS_bd (G := GS μ (rowL μ)) (W := Wt μ) (fun t ht k hk => GS_bd hI (rowL_len hI).1 (rowL_mem hI) ht hk) (fun t ht => (Wt_ok hI ht).2) 24 0 (fun _ => false) (Lm μ) 0 (by omega) (by decide) (by decide) (Lm_ok hI).2.2
  have e : bdS (GS μ (rowL μ)) (Wt μ) 24 (fun _ => false) (Lm μ) 0 = ((BD μ).1 * 16 ^ (7 - (rowL μ).length), (BD μ).2) := by
    have := bdS_sc (G := gn μ (rowL μ)) (W := Wt μ) (s_pos (7 - (rowL μ).length)) 24 (fun _ => false) (Lm μ) 0
    rw [Int.zero_mul] at this
    exact this
  rw [e] at h
  exact h
/-- what a load writes -/
def PPn (t i : Nat) : Prop := (t = 30 ∧ i < 606) ∨ t = 31 ∨ t = 33 ∨ t = 25
theorem PPn_PP {σ σ' : pp_M} (h : fr PPn σ σ') : fr PP σ σ' := fr_mono h (fun t i q => by unfold PPn at q; unfold PP; omega)
theorem k_loadTerm (hB : Base σ μ) (hI : Inv μ) (hz : zK σ) (hG : GK σ (GS μ (rowL μ)) (Wt μ) (pkS μ (rowL μ))) {which : Nat} (hw : which < 3) (w : Int32) : ∃ σ', f_X8_loadTerm σ (nI which) w = some (LT μ which w, σ') ∧ fr PPn σ σ' := by
  have hL := Lm_K hB hI
  unfold f_X8_loadTerm LT
  have : which = 0 ∨ which = 1 ∨ which = 2 := by omega
  rcases this with rfl | rfl | rfl
  · obtain ⟨σ2, d1, d2⟩ := kMost hI hG hz (bt := 6) wb_m1
    rw [if_pos (show nI 0 = (0 : Int32) from rfl), if_pos rfl, hL, d1, Option.bind_some, (both_low (σ := σ2) (ν := μ) hI w (by have := bG_bd hI 6; omega)).1, Option.bind_some]
    exact ⟨σ2, rfl, fr_mono d2 (fun t i q => by unfold P30 at q; unfold PPn; omega)⟩
  · obtain ⟨σ2, d1, d2, d3⟩ := kLoaded hI hG
    have hG2 := GK_fr hG (P33_PP d2)
    have hg := k_gainOf hG2 (tk := 33) (o := 0) (nn := 6) (q := ldL μ) (by omega) (by omega) (ldL_ok hI).1 (fun i hi => by
      rw [Nat.zero_add, d3 i hi, ((ldL_ok hI).2 i hi).1]
      exact ⟨rfl, by rw [← ((ldL_ok hI).2 i hi).1]; exact ((ldL_ok hI).2 i hi).2⟩)
    have e : pg (GS μ (rowL μ)) 0 (ldL μ) = ldG μ * 16 ^ (7 - (rowL μ).length) := pg_sc (gn μ (rowL μ)) (16 ^ (7 - (rowL μ).length)) _ 0
    rw [e] at hg
    rw [if_neg (show ¬ nI 1 = (0 : Int32) by decide), if_pos (show nI 1 = (1 : Int32) from rfl), if_neg (by omega), if_pos rfl, hL, d1, Option.bind_some, hg, Option.bind_some, (both_low (σ := σ2) (ν := μ) hI w (by have := ldG_bd hI; omega)).1, Option.bind_some]
    exact ⟨σ2, rfl, fr_mono d2 (fun t i q => by unfold P33 at q; unfold PPn; omega)⟩
  · obtain ⟨σ2, d1, d2, d3, d4⟩ := kBound hI hG
    have hb := BD_bd hI
    have e1 : (268435456 : Int) * ((BD μ).2 : Int) = ((16 ^ (rowL μ).length * (BD μ).2 * 16 ^ (7 - (rowL μ).length) : Nat) : Int) := by
      have e2 : (268435456 : Nat) = 16 ^ (rowL μ).length * 16 ^ (7 - (rowL μ).length) := by rw [← Nat.pow_add, show (rowL μ).length + (7 - (rowL μ).length) = 7 by have := (rowL_len hI).1; omega]
      rw [show 16 ^ (rowL μ).length * (BD μ).2 * 16 ^ (7 - (rowL μ).length) = 268435456 * (BD μ).2 by rw [e2, Nat.mul_assoc, Nat.mul_comm (BD μ).2, Nat.mul_assoc], Int.natCast_mul]
      rfl
    have e3 : (16 : Int) ^ (7 - (rowL μ).length) = ((16 ^ (7 - (rowL μ).length) : Nat) : Int) := by rw [Int.natCast_pow]; rfl
    have hpos : 0 < 16 ^ (rowL μ).length * (BD μ).2 * 16 ^ (7 - (rowL μ).length) := Nat.mul_pos (Nat.mul_pos (Nat.pow_pos (by omega)) (by omega)) (Nat.pow_pos (by omega))
    have hlt : 16 ^ (rowL μ).length * (BD μ).2 * 16 ^ (7 - (rowL μ).length) < 4611686018427387904 := by
      have h4 := hb.2.2.2
      omega
    rw [if_neg (show ¬ nI 2 = (0 : Int32) by decide), if_neg (show ¬ nI 2 = (1 : Int32) by decide), if_neg (by omega), if_neg (by omega), hL, d1, Option.bind_some, d3, d4, e1, k_term w (by omega) (by omega) hpos hlt, Option.bind_some, e3, lowI_sc _ _ _ _ (Nat.pow_pos (by omega))]
    exact ⟨σ2, rfl, fr_mono d2 (fun t i q => by unfold P31 at q; unfold PPn; omega)⟩
theorem m_ln70 (hI : Inv μ) (hM : GM ν μ (rowL μ)) (w : Int32) {z : Int} (h : -6000000000000 * 2 ≤ z * 16 ^ (7 - (rowL μ).length) ∧ z * 16 ^ (7 - (rowL μ).length) ≤ 6000000000000 * 2) : f_X9_loadNow_70 ν w (lI z) = some (lowI z (16 ^ (rowL μ).length) w, ν) := by
  unfold f_X9_loadNow_70
  rw [hM.2.1, m_sixteen hM.2.2.2.1, Option.bind_some, (both_low (σ := ν) (ν := ν) hI w h).2, Option.bind_some]
theorem m_loadNow (hI : Inv μ) (hf : fr sM μ ν) {which : Nat} (hw : which < 3) (w : Int32) : ∃ ν', f_X9_loadNow ν (nI which) w = some (LT μ which w, ν') ∧ fr sM μ ν' := by
  unfold f_X9_loadNow LT
  have : which = 0 ∨ which = 1 ∨ which = 2 := by omega
  rcases this with rfl | rfl | rfl
  · obtain ⟨ν1, g1, g2, g3⟩ := m_looksR hI hf
    obtain ⟨ν2, d1, d2, d3, d4⟩ := mPacks hI g3 (bt := 6) wb_m1
    have hM2 := GM_fr g3 (PQ_NP d2)
    rw [if_neg (show ¬ nI 0 = (2 : Int32) by decide), if_pos (show nI 0 = (0 : Int32) from rfl), if_pos rfl, g1, Option.bind_some, d1, Option.bind_some, d3, m_ln70 hI hM2 w (by have := bG_bd hI 6; omega)]
    exact ⟨ν2, rfl, hM2.2.2.1⟩
  · obtain ⟨ν1, g1, g2, g3, g4⟩ := m_loads hI hf
    have hq := m_ln41 hI g2 w (ldL μ) 0 100000 0 (by rw [(ldL_ok hI).1]) (by rw [(ldL_ok hI).1]; omega) (fun i hi => by
      have hi6 : i < 6 := by rw [(ldL_ok hI).1] at hi; exact hi
      rw [Nat.zero_add, g3 i hi6, ((ldL_ok hI).2 i hi6).1]
      exact ⟨rfl, by rw [← ((ldL_ok hI).2 i hi6).1]; exact ((ldL_ok hI).2 i hi6).2⟩)
    rw [Int.zero_add] at hq
    rw [if_neg (show ¬ nI 1 = (2 : Int32) by decide), if_neg (show ¬ nI 1 = (0 : Int32) by decide), if_neg (by omega), if_pos rfl, g1, Option.bind_some]
    rw [show f_X9_loadNow_41 100000 ν1 w 0 0 = _ from hq]
    exact ⟨ν1, m_ln70 hI g2 w (by have := ldG_bd hI; unfold ldG at this; omega), g2.2.2.1⟩
  · obtain ⟨ν1, g1, g2⟩ := m_boundNow hI hf w
    rw [if_pos (show nI 2 = (2 : Int32) from rfl), if_neg (by omega), if_neg (by omega), g1, Option.bind_some]
    exact ⟨ν1, rfl, g2⟩
theorem h_load (hCa : CaOk Ca) (a1 a2 : Int32) (h : Rel Ca σ μ) : ∃ (r : Int64) (σ' μ' : pp_M), f_X8_load σ a1 a2 = some (r, σ') ∧ f_X9_load μ a1 a2 = some (r, μ') ∧ Rel Ca σ' μ' := by
  have hI := h.2.1
  unfold f_X8_load f_X9_load
  rw [k_within, m_in, Option.bind_some, Option.bind_some]
  by_cases c1 : wi a1 0 2 = 0
  · rw [if_pos c1, if_pos c1]; exact ⟨_, _, _, rfl, rfl, h⟩
  rw [if_neg c1, if_neg c1, k_isTerm, m_in, Option.bind_some, Option.bind_some]
  by_cases c2 : wi a2 0 1 = 0
  · rw [if_pos c2, if_pos c2]; exact ⟨_, _, _, rfl, rfl, h⟩
  rw [if_neg c2, if_neg c2]
  obtain ⟨t, ht, rfl⟩ := wi_of (n := 2) rfl c1
  obtain ⟨σ1, g1, g2, g3⟩ := k_weighUp h.1 hI
  obtain ⟨σ2, d1, d2⟩ := k_loadTerm (base_fr h.1 (WU_sK g2) fr_rf) hI (zK_fr h.2.2.2.2 (WU_sK g2)) g3 (which := t) (by omega) a2
  obtain ⟨ν, e1, e2⟩ := m_loadNow hI (fr_rf (σ := μ)) (which := t) (by omega) a2
  rw [g1, Option.bind_some, d1, Option.bind_some, e1, Option.bind_some]
  exact ⟨_, _, _, rfl, rfl, rel_scratch hCa h (fr_tr (WU_sK g2) (PP_sK (PPn_PP d2))) e2⟩
end LOAD
