/-! fault, wants -/
section WANTS
variable {Ca : pp_M → pp_M → Prop} {σ μ ν : pp_M}
theorem prt_r (hN : tN μ ≤ 40) {p : Nat} (hp : p < 90) {f t c0 c1 c2 e : Nat} (h : prt μ p = .inr (f, t, c0, c1, c2, e)) : 1 ≤ f ∧ f ≤ 7 ∧ t ≤ 5 ∧ c0 ≤ 16 ∧ c1 ≤ c0 ∧ c2 ≤ c1 ∧ p + 9 ≤ e ∧ e ≤ tN μ := by
  obtain ⟨σ', r, -, -, -, g⟩ := k_readPart (σ := (fun t i => if t = 13 then nI (tN μ) else μ.1 49 i, μ.2)) (μ := μ) ⟨rfl, hN, fun i hi => rfl⟩ hp
  exact (g f t c0 c1 c2 e h).2.2.2.2.2.2.2
theorem prt_l (hN : tN μ ≤ 40) {p : Nat} (hp : p < 90) {q : Nat} (h : prt μ p = .inl q) : q < 1000 := by
  obtain ⟨ν', -, -, g, -⟩ := m_part (ν := (fun t i => if t = 40 then (if i = 13 then nI p else if i = 14 then -1 else if i = 15 then nI 0 else nI (tN μ)) else μ.1 49 i, μ.2)) (μ := μ) (k := 0) ⟨rfl, hN, fun i => rfl⟩ hp (by omega) rfl rfl rfl
  exact (g q h).2
def pts (μ : pp_M) : Nat → Nat → Option Nat × List (Nat × Nat × Nat × Nat × Nat)
  | 0, p => (some p, [])
  | m + 1, p => match prt μ p with
    | .inl q => (some q, [])
    | .inr (f, t, c0, c1, c2, e) => if e < tN μ then (if isC μ e 59 then ((pts μ m (e + 1)).1, (f, t, c0, c1, c2) :: (pts μ m (e + 1)).2) else (some e, [(f, t, c0, c1, c2)])) else (none, [(f, t, c0, c1, c2)])
theorem pts_l {m p q : Nat} (h : prt μ p = .inl q) : pts μ (m + 1) p = (some q, []) := by
  show (match prt μ p with
    | .inl q => (some q, [])
    | .inr (f, t, c0, c1, c2, e) => if e < tN μ then (if isC μ e 59 then ((pts μ m (e + 1)).1, (f, t, c0, c1, c2) :: (pts μ m (e + 1)).2) else (some e, [(f, t, c0, c1, c2)])) else (none, [(f, t, c0, c1, c2)])) = _
  rw [h]
theorem pts_r {m p f t c0 c1 c2 e : Nat} (h : prt μ p = .inr (f, t, c0, c1, c2, e)) : pts μ (m + 1) p = if e < tN μ then (if isC μ e 59 then ((pts μ m (e + 1)).1, (f, t, c0, c1, c2) :: (pts μ m (e + 1)).2) else (some e, [(f, t, c0, c1, c2)])) else (none, [(f, t, c0, c1, c2)]) := by
  show (match prt μ p with
    | .inl q => (some q, [])
    | .inr (f, t, c0, c1, c2, e) => if e < tN μ then (if isC μ e 59 then ((pts μ m (e + 1)).1, (f, t, c0, c1, c2) :: (pts μ m (e + 1)).2) else (some e, [(f, t, c0, c1, c2)])) else (none, [(f, t, c0, c1, c2)])) = _
  rw [h]
theorem k_ff4 : ∀ m c p n σ, c + m = 40 → 10 * c ≤ p → p ≤ tN μ → m < n → LB σ μ → ∃ σ', f_X3_findFault_4 n σ (nI p) (nI c) = some (oI (pts μ m p).1, σ') ∧ fr lnP σ σ' := by
  intro m
  induction m with
  | zero => intro c p n σ hc h1 h2 hn hL; have := hL.2.1; omega
  | succ m ih =>
    intro c p n σ hc h1 h2 hn hL
    have hN := hL.2.1
    obtain ⟨n, rfl⟩ : ∃ n', n = n' + 1 := ⟨n - 1, by omega⟩
    obtain ⟨σ1, r, g1, g2, g3, g4⟩ := k_readPart hL (p := p) (by omega)
    have e0 : f_X3_findFault_4 (n + 1) σ (nI p) (nI c) = f_X3_findFault_4_B (f_X3_findFault_4 n) σ (nI p) (nI c) := rfl
    unfold f_X3_findFault_4_B at e0
    rw [if_pos (show nI c < (40 : Int32) from nI_lt (b := 40) (by omega) (by omega)), g1, Option.bind_some] at e0
    cases hp : prt μ p with
    | inl q =>
      have hq := prt_l hN (by omega) hp
      rw [if_neg (show ¬ r = (-1 : Int32) by rw [g3 q hp]; exact m1_ne hq), g3 q hp] at e0
      rw [pts_l hp]
      exact ⟨σ1, e0, g2⟩
    | inr x =>
      obtain ⟨f, t, c0, c1, c2, e⟩ := x
      have hr := prt_r hN (by omega) hp
      obtain ⟨k1, k2, k3, k4, -⟩ := g4 f t c0 c1 c2 e hp
      have hL1 := LB_fr hL g2
      rw [pts_r hp]
      unfold endA at k1
      by_cases b1 : e < tN μ
      · rw [if_pos b1] at k1 ⊢
        by_cases b2 : isC μ e 59
        · rw [if_pos b2] at k1 ⊢
          rw [if_pos (show r = (-1 : Int32) from k1), k4, hL1.1, if_pos (nI_lt b1 (by omega)), nI_1, nI_1] at e0
          obtain ⟨σ', d1, d2⟩ := ih (c + 1) (e + 1) n σ1 (by omega) (by omega) (by omega) (by omega) hL1
          exact ⟨σ', e0.trans d1, fr_tr g2 d2⟩
        · rw [if_neg b2] at k1 ⊢
          rw [if_neg (show ¬ r = (-1 : Int32) by rw [k1]; exact m1_ne (by omega)), k1] at e0
          exact ⟨σ1, e0, g2⟩
      · rw [if_neg b1] at k1 ⊢
        rw [if_pos (show r = (-1 : Int32) from k1), k4, hL1.1, if_neg (q_nl (by omega) (by omega)), k1] at e0
        exact ⟨σ1, e0, g2⟩
def FT (μ : pp_M) : Option Nat := (pts μ 40 0).1
theorem k_findFault (h : LB σ μ) : ∃ σ', f_X3_findFault σ = some (oI (FT μ), σ') ∧ fr lnP σ σ' := k_ff4 40 0 0 100000 σ (by omega) (by omega) (by omega) (by omega) h
def SL (ν : pp_M) : Nat → List (Nat × Nat × Nat × Nat × Nat) → Prop
  | _, [] => True
  | k, (f, t, c0, c1, c2) :: ps => ν.1 50 k = nI f ∧ ν.1 51 k = nI t ∧ ν.1 52 (3 * k) = nI c0 ∧ ν.1 52 (3 * k + 1) = nI c1 ∧ ν.1 52 (3 * k + 2) = nI c2 ∧ SL ν (k + 1) ps
def FK (k : Nat) (t i : Nat) : Prop := (t = 40 ∧ (i = 13 ∨ i = 14 ∨ i = 15)) ∨ (t = 50 ∧ k ≤ i) ∨ (t = 51 ∧ k ≤ i) ∨ (t = 52 ∧ 3 * k ≤ i)
theorem FK_F5 {k : Nat} {μ μ' : pp_M} (h : fr (FK k) μ μ') : fr F5 μ μ' := fr_mono h (fun t i q => by unfold FK at q; unfold F5; omega)
theorem m_fn : ∀ m k p n ν, k + m = 40 → 10 * k ≤ p → p ≤ tN μ → 2 * m + 1 < n → TX ν μ → ν.1 40 13 = nI p → ν.1 40 14 = -1 → ν.1 40 15 = nI k → ∃ ν', ((f_X9_part ν).bind fun x => f_X9_faultNow_19 n x) = some (oI (pts μ m p).1, ν') ∧ fr F5 ν ν' ∧ ((pts μ m p).1 = none → ν'.1 40 15 = nI (k + (pts μ m p).2.length) ∧ SL ν' k (pts μ m p).2 ∧ fr (FK k) ν ν') := by
  intro m
  induction m with
  | zero => intro k p n ν hk h1 h2 hn hT; have := hT.2.1; omega
  | succ m ih =>
    intro k p n ν hk h1 h2 hn hT h13 h14 h15
    have hN := hT.2.1
    obtain ⟨n, rfl⟩ : ∃ n', n = n' + 1 + 1 := ⟨n - 2, by omega⟩
    obtain ⟨ν1, g1, g2, g3, g4⟩ := m_part hT (p := p) (k := k) (by omega) (by omega) h13 h14 h15
    rw [g1, Option.bind_some]
    have hT1 := TX_fr hT g2
    have stop : ∀ (ρ : pp_M) (q N : Nat), 0 < N → q < 1000 → ρ.1 40 14 = nI q → f_X9_faultNow_19 N ρ = some (nI q, ρ) := fun ρ q N hN hq hρ => by
      obtain ⟨N, rfl⟩ : ∃ n', N = n' + 1 := ⟨N - 1, by omega⟩
      show f_X9_faultNow_19_B (f_X9_faultNow_19 N) _ = _
      unfold f_X9_faultNow_19_B
      rw [if_neg (by rw [hρ]; exact m1_ne hq), hρ]
    cases hp : prt μ p with
    | inl q =>
      have hq := (g3 q hp).2
      rw [pts_l hp]
      exact ⟨ν1, stop ν1 q _ (by omega) hq (g3 q hp).1, g2, fun hh => by cases hh⟩
    | inr x =>
      obtain ⟨f, t, c0, c1, c2, e⟩ := x
      have hr := prt_r hN (by omega) hp
      obtain ⟨k14, k13, k15, k50, k51, k52, k52a, k52b, kf⟩ := g4 f t c0 c1 c2 e hp
      have e0 : f_X9_faultNow_19 (n + 1 + 1) ν1 = f_X9_faultNow_19_B (f_X9_faultNow_19 (n + 1)) ν1 := rfl
      unfold f_X9_faultNow_19_B at e0
      rw [if_pos k14, k13, hT1.1] at e0
      have kf' : fr (FK k) ν ν1 := fr_mono kf (fun x i q => by unfold FK; omega)
      rw [pts_r hp]
      by_cases b1 : e < tN μ
      · rw [if_pos (nI_lt b1 (by omega))] at e0
        rw [if_pos b1]
        have hx := m_expects hT1 (show e < 1000 by omega) k13 k14 (c := 59) (by decide)
        by_cases b2 : isC μ e 59
        · rw [if_pos b2]
          have fE : fr F2 ν1 (ppS ν1 40 13 (nI (e + 1))) := fr_S ⟨rfl, Or.inl rfl⟩
          have b14 : (ppS ν1 40 13 (nI (e + 1))).1 40 14 = -1 := by rw [qs_ne (by omega)]; exact k14
          rw [hx.1 b2, Option.bind_some, if_pos b14] at e0
          obtain ⟨ν', d1, d2, d3⟩ := ih (k + 1) (e + 1) (n + 1) (ppS ν1 40 13 (nI (e + 1))) (by omega) (by omega) (by omega) (by omega) (TX_fr hT1 (F2_F5 fE)) (qs_same _ _ _ _) b14 (by rw [qs_ne (by omega)]; exact k15)
          refine ⟨ν', e0.trans d1, fr_tr g2 (fr_tr (F2_F5 fE) d2), fun hh => ?_⟩
          obtain ⟨s1, s2, s3⟩ := d3 hh
          have fr1 : fr (FK (k + 1)) ν1 ν' := fr_tr (fr_mono fE (fun t i q => by unfold F2 at q; unfold FK; omega)) s3
          refine ⟨?_, ⟨?_, ?_, ?_, ?_, ?_, s2⟩, fr_tr kf' (fr_mono fr1 (fun t i q => by unfold FK at q ⊢; omega))⟩
          · rw [s1, List.length_cons]
            exact congrArg nI (by omega)
          · rw [(fr1 50 k (by unfold FK; omega)).1]; exact k50
          · rw [(fr1 51 k (by unfold FK; omega)).1]; exact k51
          · rw [(fr1 52 _ (by unfold FK; omega)).1]; exact k52
          · rw [(fr1 52 _ (by unfold FK; omega)).1]; exact k52a
          · rw [(fr1 52 _ (by unfold FK; omega)).1]; exact k52b
        · rw [if_neg b2]
          have b14 : (ppS (ppS ν1 40 14 (nI e)) 40 13 (nI (e + 1))).1 40 14 = nI e := by rw [qs_ne (by omega), qs_same]
          rw [hx.2 b2, Option.bind_some, if_neg (by rw [b14]; exact m1_ne (by omega)), stop _ e (n + 1) (by omega) (by omega) b14] at e0
          exact ⟨_, e0, fr_tr g2 (fr_tr (fr_S (by unfold F5; omega)) (fr_S (by unfold F5; omega))), fun hh => by cases hh⟩
      · rw [if_neg (q_nl (by omega) (by omega)), k14] at e0
        rw [if_neg b1]
        exact ⟨ν1, e0, g2, fun _ => ⟨k15, ⟨k50, k51, k52, k52a, k52b, trivial⟩, kf'⟩⟩
theorem TX_of (hI : Inv μ) (hf : fr sM μ ν) : TX ν μ := ⟨by rw [(hf 40 11 (by unfold sM; omega)).1, (tN_ok hI).1], (tN_ok hI).2, fun i => (hf 49 i (by unfold sM; omega)).1⟩
theorem m_faultNow (hI : Inv μ) (hf : fr sM μ ν) : ∃ ν', f_X9_faultNow ν = some (oI (FT μ), ν') ∧ fr sM μ ν' ∧ (FT μ = none → ν'.1 40 15 = nI (pts μ 40 0).2.length ∧ SL ν' 0 (pts μ 40 0).2) := by
  have f0 : fr F5 ν (ppS (ppS (ppS ν 40 13 (0 : Int32)) 40 14 (-1 : Int32)) 40 15 (0 : Int32)) := fr_tr (fr_tr (fr_S (by unfold F5; omega)) (fr_S (by unfold F5; omega))) (fr_S (by unfold F5; omega))
  obtain ⟨ν', g1, g2, g3⟩ := m_fn (μ := μ) 40 0 0 100000 (ppS (ppS (ppS ν 40 13 (0 : Int32)) 40 14 (-1 : Int32)) 40 15 (0 : Int32)) (by omega) (by omega) (by omega) (by omega) (TX_fr (TX_of hI hf) f0) (by rw [qs_ne (by omega), qs_ne (by omega), qs_same]; rfl) (by rw [qs_ne (by omega), qs_same]) (by rw [qs_same]; rfl)
  refine ⟨ν', g1, fr_tr hf (fr_tr (F5_sM f0) (F5_sM g2)), fun hh => ?_⟩
  obtain ⟨s1, s2, -⟩ := g3 hh
  rw [Nat.zero_add] at s1
  exact ⟨s1, s2⟩
theorem k_fault (hB : Base σ μ) (hI : Inv μ) : ∃ σ', f_X8_fault σ = some (oI (FT μ), σ') ∧ fr lnP σ σ' := by
  obtain ⟨σ', g1, g2⟩ := k_findFault (LB_of hB hI)
  refine ⟨σ', ?_, g2⟩
  unfold f_X8_fault
  rw [g1, Option.bind_some]
theorem h_fault (hCa : CaOk Ca) (h : Rel Ca σ μ) : ∃ (r : Int32) (σ' μ' : pp_M), f_X8_fault σ = some (r, σ') ∧ f_X9_fault μ = some (r, μ') ∧ Rel Ca σ' μ' := by
  obtain ⟨σ', g1, g2⟩ := k_fault h.1 h.2.1
  obtain ⟨ν, d1, d2, -⟩ := m_faultNow h.2.1 (fr_rf (σ := μ))
  unfold f_X9_fault
  rw [g1, d1, Option.bind_some]
  exact ⟨_, _, _, rfl, rfl, rel_scratch hCa h (lnP_sK g2) d2⟩
/-- the wants, part by part -/
def u3 (w : Nat → Int32) (q a b c : Nat) : Nat → Int32 := fun i => if i = q + 2 then nI c else if i = q + 1 then nI b else if i = q then nI a else w i
def fW : List (Nat × Nat × Nat × Nat × Nat) → (Nat → Int32) → Nat → Int32
  | [], w => w
  | (f, t, c0, c1, c2) :: ps, w => fW ps (u3 w (3 * (6 * f + t)) c0 c1 c2)
theorem fW_cong : ∀ ps (w w' : Nat → Int32), (∀ i, i < 144 → w i = w' i) → ∀ i, i < 144 → fW ps w i = fW ps w' i
  | [], _, _, h, i, hi => h i hi
  | (f, t, c0, c1, c2) :: ps, w, w', h, i, hi => fW_cong ps _ _ (fun j hj => by unfold u3; rw [h j hj]) i hi
def okPt : List (Nat × Nat × Nat × Nat × Nat) → Prop
  | [] => True
  | (f, t, c0, c1, c2) :: ps => 1 ≤ f ∧ f ≤ 7 ∧ t ≤ 5 ∧ c0 ≤ 16 ∧ c1 ≤ c0 ∧ c2 ≤ c1 ∧ okPt ps
theorem fW_bd : ∀ ps (w : Nat → Int32), okPt ps → (∀ i, i < 144 → bd (w i) 0 16) → ∀ i, i < 144 → bd (fW ps w i) 0 16
  | [], _, _, h, i, hi => h i hi
  | (f, t, c0, c1, c2) :: ps, w, ho, h, i, hi => fW_bd ps _ ho.2.2.2.2.2.2 (fun j hj => by
    obtain ⟨o1, o2, o3, o4, o5, o6, -⟩ := ho
    have b : ∀ c, c ≤ 16 → bd (nI c) 0 16 := fun c hc => by unfold bd; rw [nI_toInt (by omega)]; omega
    unfold u3
    split
    · exact b _ (by omega)
    · split
      · exact b _ (by omega)
      · split
        · exact b _ (by omega)
        · exact h j hj) i hi
theorem pts_ok (hN : tN μ ≤ 40) : ∀ m p, p < 90 → okPt (pts μ m p).2
  | 0, _, _ => trivial
  | m + 1, p, hp => by
    cases h : prt μ p with
    | inl q => rw [pts_l h]; exact trivial
    | inr x =>
      obtain ⟨f, t, c0, c1, c2, e⟩ := x
      have hr := prt_r hN hp h
      rw [pts_r h]
      split
      · split
        · exact ⟨hr.1, hr.2.1, hr.2.2.1, hr.2.2.2.1, hr.2.2.2.2.1, hr.2.2.2.2.2.1, pts_ok hN m (e + 1) (by omega)⟩
        · exact ⟨hr.1, hr.2.1, hr.2.2.1, hr.2.2.2.1, hr.2.2.2.2.1, hr.2.2.2.2.2.1, trivial⟩
      · exact ⟨hr.1, hr.2.1, hr.2.2.1, hr.2.2.2.1, hr.2.2.2.2.1, hr.2.2.2.2.2.1, trivial⟩
theorem U3_rd (m : pp_M) (tok q : Nat) (x : Nat → Int32) (i : Nat) : (U3 m tok q x).1 tok i = if i = q + 2 then x 2 else if i = q + 1 then x 1 else if i = q then x 0 else m.1 tok i := by
  unfold U3
  by_cases c2 : i = q + 2
  · rw [if_pos c2, c2, qs_same]
  · rw [if_neg c2, qs_ne (fun h => c2 h.2)]
    by_cases c1 : i = q + 1
    · rw [if_pos c1, c1, qs_same]
    · rw [if_neg c1, qs_ne (fun h => c1 h.2)]
      by_cases c0 : i = q
      · rw [if_pos c0, c0, qs_same]
      · rw [if_neg c0, qs_ne (fun h => c0 h.2)]
def TP (t i : Nat) : Prop := lnP t i ∨ t = 11
theorem LB_fr2 {σ σ' : pp_M} (h : LB σ μ) (hf : fr TP σ σ') : LB σ' μ := ⟨by rw [(hf 13 5 (by unfold TP lnP; omega)).1]; exact h.1, h.2.1, fun i hi => by rw [(hf 14 i (by unfold TP lnP; omega)).1]; exact h.2.2 i hi⟩
theorem k_tt4 : ∀ m c p n σ, c + m = 40 → 10 * c ≤ p → p ≤ tN μ → m + 1 < n → LB σ μ → (pts μ m p).1 = none → ∃ σ', f_X3_tellTo_4 n σ (nI c) (nI p) = some (nI (c + (pts μ m p).2.length), σ') ∧ fr TP σ σ' ∧ ∀ i, σ'.1 11 i = fW (pts μ m p).2 (σ.1 11) i := by
  intro m
  induction m with
  | zero => intro c p n σ hc h1 h2 hn hL; have := hL.2.1; omega
  | succ m ih =>
    intro c p n σ hc h1 h2 hn hL hnone
    have hN := hL.2.1
    obtain ⟨n, rfl⟩ : ∃ n', n = n' + 1 := ⟨n - 1, by omega⟩
    obtain ⟨σ1, r, g1, g2, g3, g4⟩ := k_readPart hL (p := p) (by omega)
    cases hp : prt μ p with
    | inl q => rw [pts_l hp] at hnone; cases hnone
    | inr x =>
      obtain ⟨f, t, c0, c1, c2, e⟩ := x
      have hr := prt_r hN (by omega) hp
      obtain ⟨k1, k2, k3, k4, k15, k15a, k15b, -⟩ := g4 f t c0 c1 c2 e hp
      have hL1 := LB_fr hL g2
      have rneg : r = (-1 : Int32) := by
        rw [k1]
        unfold endA
        by_cases b1 : e < tN μ
        · rw [if_pos b1]
          by_cases b2 : isC μ e 59
          · rw [if_pos b2]
          · rw [pts_r hp, if_pos b1, if_neg b2] at hnone; cases hnone
        · rw [if_neg b1]
      have x0 : (fun i => σ1.1 15 (0 + (0 + i))) 0 = nI c0 := k15
      have x1 : (fun i => σ1.1 15 (0 + (0 + i))) 1 = nI c1 := k15a
      have x2 : (fun i => σ1.1 15 (0 + (0 + i))) 2 = nI c2 := k15b
      have hok : okC (fun i => σ1.1 15 (0 + (0 + i))) := by
        unfold okC
        rw [x0, x1, x2, show (16 : Int32) = nI 16 from rfl]
        exact ⟨(wi_nat (by omega) (by omega)).1 (by omega), (wi_nat (by omega) (by omega)).1 (by omega), (wi_nat (by omega) (by omega)).1 (by omega)⟩
      have tk := (k_take (σ := σ1) (f := f) (t := t) (tk := 15) (oo := 0) (nn := 3) (pl := 0) (by omega) (by omega) (by omega) (by omega) (by omega) _ rfl).1 hok
      have f2 : fr TP σ (U3 σ1 11 (3 * (6 * f + t)) (fun i => σ1.1 15 (0 + (0 + i)))) := fr_tr (fr_mono g2 (fun t i q => Or.inl q)) (fr_mono (U3_fr σ1 11 _ _) (fun t i q => Or.inr q))
      have u11 : (U3 σ1 11 (3 * (6 * f + t)) (fun i => σ1.1 15 (0 + (0 + i)))).1 11 = u3 (σ.1 11) (3 * (6 * f + t)) c0 c1 c2 := by
        funext i
        rw [U3_rd, show σ1.1 15 (0 + (0 + 0)) = nI c0 from k15, show σ1.1 15 (0 + (0 + 1)) = nI c1 from k15a, show σ1.1 15 (0 + (0 + 2)) = nI c2 from k15b, (g2 11 i (by unfold lnP; omega)).1]
        rfl
      have u13 : (U3 σ1 11 (3 * (6 * f + t)) (fun i => σ1.1 15 (0 + (0 + i)))).1 13 4 = nI e := by rw [(U3_fr σ1 11 (3 * (6 * f + t)) _ 13 4 (by omega)).1]; exact k4
      have e0 : f_X3_tellTo_4 (n + 1) σ (nI c) (nI p) = f_X3_tellTo_4 n (U3 σ1 11 (3 * (6 * f + t)) (fun i => σ1.1 15 (0 + (0 + i)))) (nI (c + 1)) (nI (e + 1)) := by
        show f_X3_tellTo_4_B (f_X3_tellTo_4 n) _ _ _ = _
        unfold f_X3_tellTo_4_B
        rw [if_pos (show nI c < (40 : Int32) from nI_lt (b := 40) (by omega) (by omega)), hL.1, if_pos (nI_lt (by omega) (by omega)), g1, Option.bind_some, if_pos rneg, k2, k3, show f_X4_take σ1 (nI f) (nI t) 15 0 3 0 = _ from tk, Option.bind_some, u13, nI_1, nI_1]
      have hL2 := LB_fr2 hL f2
      rw [e0]
      by_cases b1 : e < tN μ
      · have b2 : isC μ e 59 := Classical.byContradiction fun b2 => by rw [pts_r hp, if_pos b1, if_neg b2] at hnone; cases hnone
        rw [pts_r hp, if_pos b1, if_pos b2] at hnone ⊢
        obtain ⟨σ', d1, d2, d3⟩ := ih (c + 1) (e + 1) n _ (by omega) (by omega) (by omega) (by omega) hL2 hnone
        refine ⟨σ', ?_, fr_tr f2 d2, fun i => ?_⟩
        · rw [d1, List.length_cons, show c + 1 + (pts μ m (e + 1)).2.length = c + ((pts μ m (e + 1)).2.length + 1) by omega]
        · rw [d3 i, u11]
          rfl
      · rw [pts_r hp, if_neg b1]
        refine ⟨_, ?_, f2, fun i => by rw [u11]; rfl⟩
        obtain ⟨n, rfl⟩ : ∃ n', n = n' + 1 := ⟨n - 1, by omega⟩
        show f_X3_tellTo_4_B (f_X3_tellTo_4 n) _ _ _ = _
        unfold f_X3_tellTo_4_B
        rw [hL2.1, if_neg (show ¬ nI (e + 1) < nI (tN μ) from q_nl (by omega) (by omega))]
        split <;> rfl
theorem SL_fr {ν ν' : pp_M} (hf : fr (fun t _ => t = 47) ν ν') : ∀ ps k, SL ν k ps → SL ν' k ps
  | [], _, _ => trivial
  | (f, t, c0, c1, c2) :: ps, k, h => by
    obtain ⟨h1, h2, h3, h4, h5, h6⟩ := h
    refine ⟨?_, ?_, ?_, ?_, ?_, SL_fr hf ps (k + 1) h6⟩
    · rw [(hf 50 k (by omega)).1]; exact h1
    · rw [(hf 51 k (by omega)).1]; exact h2
    · rw [(hf 52 _ (by omega)).1]; exact h3
    · rw [(hf 52 _ (by omega)).1]; exact h4
    · rw [(hf 52 _ (by omega)).1]; exact h5
theorem m_w23 (k13 : pp_M → Int32 → Option (Int32 × pp_M)) {k f t : Nat} {x : Nat → Int32} (hk : k < 10) (hf : f < 8) (ht : t < 6) (h50 : ν.1 50 k = nI f) (h51 : ν.1 51 k = nI t) (h52 : ∀ i, i < 3 → ν.1 52 (3 * k + i) = x i) (N : Nat) (hN : 3 < N) : f_X9_wants_23 k13 N ν (nI k) (nI 0) = k13 (U3 ν 47 (3 * (6 * f + t)) x) (nI (k + 1)) := by
  have step : ∀ n l ρ, l < 3 → fr (fun t _ => t = 47) ν ρ → f_X9_wants_23 k13 (n + 1) ρ (nI k) (nI l) = f_X9_wants_23 k13 n (ppS ρ 47 (3 * (6 * f + t) + l) (x l)) (nI k) (nI (l + 1)) := by
    intro n l ρ hl hρ
    show f_X9_wants_23_B k13 (f_X9_wants_23 k13 n) _ _ _ = _
    unfold f_X9_wants_23_B f_X9_place
    have e0 : (3 : Int32) * ((6 : Int32) * nI f + nI t) + nI l = nI (3 * (6 * f + t) + l) := by rw [c6I, c3I, pk_mul, nI_add, pk_mul, nI_add]
    have e1 : (3 : Int32) * nI k + nI l = nI (3 * k + l) := by rw [c3I, pk_mul, nI_add]
    have i1 : pp_ix (nI k) 10 := q_ix (by omega) (by omega)
    have i2 : pp_ix (nI (3 * (6 * f + t) + l)) 144 := q_ix (by omega) (by omega)
    have i3 : pp_ix (nI (3 * k + l)) 30 := q_ix (by omega) (by omega)
    rw [if_pos (show nI l < (3 : Int32) from nI_lt (b := 3) hl (by omega)), if_pos i1, q_cl (k := k) (by omega), (hρ 50 k (by omega)).1, (hρ 51 k (by omega)).1, h50, h51, Option.bind_some, e1, if_pos i3, e0, if_pos i2, q_cl (k := 3 * (6 * f + t) + l) (by omega), q_cl (k := 3 * k + l) (by omega), (hρ 52 (3 * k + l) (by omega)).1, h52 l hl, nI_1]
  obtain ⟨n, rfl⟩ : ∃ n, N = n + 1 + 1 + 1 + 1 := ⟨N - 4, by omega⟩
  rw [step _ 0 ν (by omega) fr_rf, step _ 1 _ (by omega) (fr_S rfl), step _ 2 _ (by omega) (fr_tr (fr_S rfl) (fr_S rfl))]
  show f_X9_wants_23_B k13 (f_X9_wants_23 k13 n) _ _ _ = _
  unfold f_X9_wants_23_B
  rw [if_neg (show ¬ nI 3 < (3 : Int32) from q_nlt 3), nI_1]
  rfl
theorem m_w13 : ∀ ps k n ν, k + ps.length ≤ 10 → ps.length < n → okPt ps → SL ν k ps → ν.1 40 15 = nI (k + ps.length) → ∃ ν', f_X9_wants_13 n ν (nI k) = some (nI (k + ps.length), ppS ν' 40 11 0) ∧ fr (fun t _ => t = 47) ν ν' ∧ ∀ i, ν'.1 47 i = fW ps (ν.1 47) i := by
  intro ps
  induction ps with
  | nil =>
    intro k n ν hk hn ho hS h15
    rw [List.length_nil] at hk hn h15
    obtain ⟨n, rfl⟩ : ∃ n', n = n' + 1 := ⟨n - 1, by omega⟩
    refine ⟨ν, ?_, fr_rf, fun i => rfl⟩
    show f_X9_wants_13_B (f_X9_wants_13 n) _ _ = _
    unfold f_X9_wants_13_B
    rw [h15, if_neg (q_nl (by omega) (by omega)), qs_ne (by omega), h15]
    rfl
  | cons x ps ih =>
    intro k n ν hk hn ho hS h15
    obtain ⟨f, t, c0, c1, c2⟩ := x
    rw [List.length_cons] at hk hn h15
    obtain ⟨n, rfl⟩ : ∃ n', n = n' + 1 := ⟨n - 1, by omega⟩
    obtain ⟨s1, s2, s3, s4, s5, s6⟩ := hS
    obtain ⟨o1, o2, o3, o4, o5, o6, o7⟩ := ho
    have fU := U3_fr ν 47 (3 * (6 * f + t)) (fun i => if i = 0 then nI c0 else if i = 1 then nI c1 else nI c2)
    obtain ⟨ν', g1, g2, g3⟩ := ih (k + 1) n (U3 ν 47 (3 * (6 * f + t)) (fun i => if i = 0 then nI c0 else if i = 1 then nI c1 else nI c2)) (by omega) (by omega) o7 (SL_fr fU ps (k + 1) s6) (by rw [(fU 40 15 (by omega)).1, h15, show k + (ps.length + 1) = k + 1 + ps.length by omega])
    refine ⟨ν', ?_, fr_tr fU g2, fun i => ?_⟩
    · show f_X9_wants_13_B (f_X9_wants_13 n) _ _ = _
      unfold f_X9_wants_13_B
      rw [h15, if_pos (nI_lt (by omega) (by omega)), show (0 : Int32) = nI 0 from rfl, m_w23 (f_X9_wants_13 n) (k := k) (f := f) (t := t) (x := fun i => if i = 0 then nI c0 else if i = 1 then nI c1 else nI c2) (by omega) (by omega) (by omega) s1 s2 (fun i hi => by
        have : i = 0 ∨ i = 1 ∨ i = 2 := by omega
        rcases this with rfl | rfl | rfl
        · exact s3
        · exact s4
        · exact s5) 100000 (by omega)]
      rw [g1, List.length_cons, show k + (ps.length + 1) = k + 1 + ps.length by omega]
      rfl
    · rw [g3 i]
      have : (U3 ν 47 (3 * (6 * f + t)) (fun i => if i = 0 then nI c0 else if i = 1 then nI c1 else nI c2)).1 47 = u3 (ν.1 47) (3 * (6 * f + t)) c0 c1 c2 := by
        funext j
        rw [U3_rd]
        rfl
      rw [this]
      rfl
theorem pts_len (hN : tN μ ≤ 40) : ∀ m k p, k + m = 40 → 10 * k ≤ p → p ≤ tN μ → k + (pts μ m p).2.length ≤ 5
  | 0, k, p, h1, h2, h3 => by omega
  | m + 1, k, p, h1, h2, h3 => by
    cases h : prt μ p with
    | inl q => rw [pts_l h]; show k + 0 ≤ 5; omega
    | inr x =>
      obtain ⟨f, t, c0, c1, c2, e⟩ := x
      have hr := prt_r hN (by omega) h
      rw [pts_r h]
      split
      · split
        · have := pts_len hN m (k + 1) (e + 1) (by omega) (by omega) (by omega)
          show k + ((pts μ m (e + 1)).2.length + 1) ≤ 5
          omega
        · show k + 1 ≤ 5; omega
      · show k + 1 ≤ 5; omega
theorem base_w (h : Base σ μ) {σ' μ' : pp_M} (h1 : fr (fun t i => sK t i ∨ t = 11) σ σ') (h2 : fr (fun t i => sM t i ∨ t = 47) μ μ') (h11 : ∀ i, i < 144 → σ'.1 11 i = μ'.1 47 i) : Base σ' μ' := by
  have k : ∀ t i, ¬ (sK t i ∨ t = 11) → σ'.1 t i = σ.1 t i := fun t i q => (h1 t i q).1
  have m : ∀ t i, ¬ (sM t i ∨ t = 47) → μ'.1 t i = μ.1 t i := fun t i q => (h2 t i q).1
  unfold sK at k
  unfold sM at m
  obtain ⟨b1, b2, b3, b4, b5, ⟨b6, b6'⟩, b7, b8, b9, ⟨b10, b10'⟩, b11, b12, b12', b12''⟩ := h
  refine ⟨?_, ?_, ?_, ?_, ?_, ⟨?_, ?_⟩, ?_, ?_, ?_, ⟨?_, ?_⟩, ?_, ?_, ?_, ?_⟩
  · intro t ht w hw; rw [k 3 (t * 6 + w) (by omega), m (41 + w) (t) (by omega)]; exact b1 t ht w hw
  · intro t ht l hl; rw [k 3 (t * 6 + (3 + l)) (by omega), m (44) (3 * t + l) (by omega)]; exact b2 t ht l hl
  · intro i hi; rw [k 6 (i) (by omega), m (45) (i) (by omega)]; exact b3 i hi
  · exact h11
  · intro t ht; rw [k 12 (t) (by omega), m (48) (t) (by omega)]; exact b5 t ht
  · rw [k 13 (5) (by omega), m (40) (11) (by omega)]; exact b6
  · intro i hi; rw [k 14 (i) (by omega), m (49) (i) (by omega)]; exact b6' i hi
  · intro s hs; rw [k 19 (s) (by omega), k 20 (s) (by omega), m (66) (s) (by omega), m (67) (s) (by omega), m (68) (s) (by omega)]; exact b7 s hs
  · intro i hi; rw [k 18 (i) (by omega), m (69) (i) (by omega)]; exact b8 i hi
  · rw [k 16 (3) (by omega), m (40) (47) (by omega)]; exact b9
  · rw [k 0 (10) (by omega), m (40) (19) (by omega)]; exact b10
  · intro i hi; rw [k 34 (i) (by omega), m (53) (i) (by omega)]; exact b10' i hi
  · intro t ht; rw [k 35 (t) (by omega), m (54) (t) (by omega)]; exact b11 t ht
  · rw [k 0 (11) (by omega), m (40) (6) (by omega)]; exact b12
  · rw [k 0 (12) (by omega), m (40) (7) (by omega)]; exact b12'
  · rw [k 0 (13) (by omega), m (40) (8) (by omega)]; exact b12''
theorem inv_w (h : Inv μ) {μ' : pp_M} (h2 : fr (fun t i => sM t i ∨ t = 47) μ μ') (h47 : ∀ i, i < 144 → bd (μ'.1 47 i) 0 16) : Inv μ' := by
  have m : ∀ t i, ¬ (sM t i ∨ t = 47) → μ'.1 t i = μ.1 t i := fun t i q => (h2 t i q).1
  unfold sM at m
  obtain ⟨i1, i2, ⟨i3, i3'⟩, i4, i5, i6, i7, ⟨i8, i8'⟩, i9, i10, i10', i10''⟩ := h
  refine ⟨?_, ?_, ⟨?_, ?_⟩, ?_, ?_, ?_, ?_, ⟨?_, ?_⟩, ?_, ?_, ?_, ?_⟩
  · intro t ht; rw [m (41) (t) (by omega), m (42) (t) (by omega), m (43) (t) (by omega)]; exact i1 t ht
  · intro i hi; rw [m (44) (i) (by omega)]; exact i2 i hi
  · intro i hi; rw [m (45) (i) (by omega)]; exact i3 i hi
  · intro a b ha hb; rw [m (45) (8 * a + b) (by omega), m (45) (8 * b + a) (by omega)]; exact i3' a b ha hb
  · exact h47
  · intro t ht; rw [m (48) (t) (by omega)]; exact i5 t ht
  · rw [m (40) (11) (by omega)]; exact i6
  · intro s hs; rw [m (67) (s) (by omega), m (68) (s) (by omega)]; exact i7 s hs
  · rw [m (40) (19) (by omega)]; exact i8
  · intro i hi; rw [m 40 19 (by omega)] at hi; rw [m (53) (i) (by omega)]; exact i8' i hi
  · intro t ht; rw [m (54) (t) (by omega)]; exact i9 t ht
  · rw [m (40) (6) (by omega)]; exact i10
  · rw [m (40) (7) (by omega)]; exact i10'
  · rw [m (40) (8) (by omega)]; exact i10''
theorem oI_none {o : Option Nat} (h : ∀ j, o = some j → j < 1000) : oI o = (-1 : Int32) ↔ o = none := by
  cases o with
  | none => exact ⟨fun _ => rfl, fun _ => rfl⟩
  | some j => exact ⟨fun q => absurd q (m1_ne (h j rfl)), fun q => by cases q⟩
theorem FT_lt (hN : tN μ ≤ 40) : ∀ m k p, k + m = 40 → 10 * k ≤ p → p ≤ tN μ → ∀ j, (pts μ m p).1 = some j → j < 1000
  | 0, k, p, h1, h2, h3, _, _ => by omega
  | m + 1, k, p, h1, h2, h3, j, hj => by
    cases h : prt μ p with
    | inl q => rw [pts_l h] at hj; cases hj; exact prt_l hN (by omega) h
    | inr x =>
      obtain ⟨f, t, c0, c1, c2, e⟩ := x
      have hr := prt_r hN (by omega) h
      rw [pts_r h] at hj
      by_cases b1 : e < tN μ
      · rw [if_pos b1] at hj
        by_cases b2 : isC μ e 59
        · rw [if_pos b2] at hj
          exact FT_lt hN m (k + 1) (e + 1) (by omega) (by omega) (by omega) j hj
        · rw [if_neg b2] at hj; cases hj; omega
      · rw [if_neg b1] at hj; cases hj
theorem h_wants (hCa : CaOk Ca) (h : Rel Ca σ μ) : ∃ (r : Int32) (σ' μ' : pp_M), f_X8_wants σ = some (r, σ') ∧ f_X9_wants μ = some (r, μ') ∧ Rel Ca σ' μ' := by
  have hI := h.2.1
  have hN := (tN_ok hI).2
  obtain ⟨σ1, g1, g2⟩ := k_findFault (LB_of h.1 hI)
  obtain ⟨ν1, d1, d2, d3⟩ := m_faultNow hI (fr_rf (σ := μ))
  have hoI := oI_none (o := FT μ) (FT_lt hN 40 0 0 (by omega) (by omega) (by omega))
  unfold f_X8_wants f_X9_wants
  rw [g1, Option.bind_some, d1, Option.bind_some]
  by_cases c : FT μ = none
  · rw [if_pos (hoI.mpr c), if_pos (hoI.mpr c)]
    obtain ⟨s1, s2⟩ := d3 c
    have hL1 := LB_fr (LB_of h.1 hI) g2
    obtain ⟨σ2, e1, e2, e3⟩ := k_tt4 40 0 0 100000 σ1 (by omega) (by omega) (by omega) (by omega) hL1 c
    have hlen := pts_len hN 40 0 0 (by omega) (by omega) (by omega)
    have hok := pts_ok hN 40 0 (by omega)
    obtain ⟨ν2, u1, u2, u3'⟩ := m_w13 (pts μ 40 0).2 0 100000 ν1 (by omega) (by omega) hok s2 (by rw [Nat.zero_add]; exact s1)
    unfold f_X6_forget
    rw [show f_X3_tellTo σ1 = _ from e1, Option.bind_some, Option.bind_some, show f_X9_wants_13 100000 ν1 0 = _ from u1]
    have fK : fr (fun t i => sK t i ∨ t = 11) σ σ2 := fr_tr (fr_mono (lnP_sK g2) (fun t i q => Or.inl q)) (fr_mono e2 (fun t i q => by unfold TP lnP at q; unfold sK; omega))
    have fM : fr (fun t i => sM t i ∨ t = 47) μ ν2 := fr_tr (fr_mono d2 (fun t i q => Or.inl q)) (fr_mono u2 (fun t i q => Or.inr q))
    have w11 : ∀ i, σ1.1 11 i = σ.1 11 i := fun i => (g2 11 i (by unfold lnP; omega)).1
    have w47 : ∀ i, ν1.1 47 i = μ.1 47 i := fun i => (d2 47 i (by unfold sM; omega)).1
    have hB2 : Base σ2 ν2 := base_w h.1 fK fM (fun i hi => by
      rw [e3 i, u3' i]
      exact fW_cong _ _ _ (fun j hj => by rw [w11, w47]; exact h.1.2.2.2.1 j hj) i hi)
    have hI2 : Inv ν2 := inv_w hI fM (fun i hi => by
      rw [u3' i]
      exact fW_bd _ _ hok (fun j hj => by rw [w47]; exact hI.2.2.2.1 j hj) i hi)
    have hw2 : ∀ i, i < 64 → σ2.1 8 i = fw (ν2.1 45) i := fun i hi => by
      rw [(fK 8 i (by unfold sK; omega)).1, show ν2.1 45 = μ.1 45 from funext fun j => (fM 45 j (by unfold sM; omega)).1]
      exact h.2.2.1 i hi
    have hz2 : zK σ2 := fun i h1 h2 => by rw [(fK 30 i (by unfold sK; omega)).2]; exact h.2.2.2.2 i h1 h2
    refine ⟨_, _, _, rfl, rfl, rel_of0 (σ := ppS σ2 13 5 0) ⟨base_wipe hB2, inv_wipe hI2, fun i hi => ?_, hz2⟩⟩
    rw [qs_tok (t := 13) (a := 8) (by omega), show (ppS ν2 40 11 0).1 45 = ν2.1 45 from funext fun j => qs_tok (by omega)]
    exact hw2 i hi
  · rw [if_neg (fun q => c (hoI.mp q)), if_neg (fun q => c (hoI.mp q))]
    exact ⟨_, _, _, rfl, rfl, rel_scratch hCa h (lnP_sK g2) d2⟩
end WANTS
