/-! read -/
/-- what is kept but for the search -/
def Rel0 (σ μ : pp_M) : Prop := Base σ μ ∧ Inv μ ∧ (∀ i, i < 64 → σ.1 8 i = fw (μ.1 45) i) ∧ zK σ
section READ
variable {Ca : pp_M → pp_M → Prop} {σ μ ν : pp_M}
theorem rel_to0 (h : Rel Ca σ μ) : Rel0 σ μ := ⟨h.1, h.2.1, h.2.2.1, h.2.2.2.2⟩
theorem rel_of0 (h : Rel0 σ μ) : Rel Ca (ppS σ 36 6 0) μ := rel_forget (base_f h.1 0) h.2.1 (fun i hi => by rw [qs_tok (t := 36) (a := 8) (by omega)]; exact h.2.2.1 i hi) (qs_same _ _ _ _) h.2.2.2
theorem rel0_fr (h : Rel0 σ μ) {σ' μ' : pp_M} (h1 : fr sK σ σ') (h2 : fr sM μ μ') : Rel0 σ' μ' := ⟨base_fr h.1 h1 h2, inv_fr h.2.1 h2, fun i hi => by
  rw [(h1 8 i (by unfold sK; omega)).1, show μ'.1 45 = μ.1 45 from funext fun i => (h2 45 i (by unfold sM; omega)).1]
  exact h.2.2.1 i hi, zK_fr h.2.2.2 h1⟩
theorem base_47 (h : Base σ μ) (k : Nat) (x : Int32) : Base (ppS σ 11 k x) (ppS μ 47 k x) := by
  obtain ⟨b1, b2, b3, b4, b5, ⟨b6, b6'⟩, b7, b8, b9, ⟨b10, b10'⟩, b11, b12, b12', b12''⟩ := h
  refine ⟨fun t ht w hw => by rw [qs_tok (t := 11) (a := 3) (b := t * 6 + w) (by omega), qs_tok (t := 47) (a := 41 + w) (b := t) (by omega)]; exact b1 t ht w hw, fun t ht l hl => by rw [qs_tok (t := 11) (a := 3) (b := t * 6 + (3 + l)) (by omega), qs_tok (t := 47) (a := 44) (b := 3 * t + l) (by omega)]; exact b2 t ht l hl, fun i hi => by rw [qs_tok (t := 11) (a := 6) (b := i) (by omega), qs_tok (t := 47) (a := 45) (b := i) (by omega)]; exact b3 i hi, ?_, fun t ht => by rw [qs_tok (t := 11) (a := 12) (b := t) (by omega), qs_tok (t := 47) (a := 48) (b := t) (by omega)]; exact b5 t ht, ⟨by rw [qs_tok (t := 11) (a := 13) (b := 5) (by omega), qs_tok (t := 47) (a := 40) (b := 11) (by omega)]; exact b6, fun i hi => by rw [qs_tok (t := 11) (a := 14) (b := i) (by omega), qs_tok (t := 47) (a := 49) (b := i) (by omega)]; exact b6' i hi⟩, fun s hs => by rw [qs_tok (t := 11) (a := 19) (b := s) (by omega), qs_tok (t := 11) (a := 20) (b := s) (by omega), qs_tok (t := 47) (a := 66) (b := s) (by omega), qs_tok (t := 47) (a := 67) (b := s) (by omega), qs_tok (t := 47) (a := 68) (b := s) (by omega)]; exact b7 s hs, fun i hi => by rw [qs_tok (t := 11) (a := 18) (b := i) (by omega), qs_tok (t := 47) (a := 69) (b := i) (by omega)]; exact b8 i hi, by rw [qs_tok (t := 11) (a := 16) (b := 3) (by omega), qs_tok (t := 47) (a := 40) (b := 47) (by omega)]; exact b9, ⟨by rw [qs_tok (t := 11) (a := 0) (b := 10) (by omega), qs_tok (t := 47) (a := 40) (b := 19) (by omega)]; exact b10, fun i hi => by rw [qs_tok (t := 11) (a := 34) (b := i) (by omega), qs_tok (t := 47) (a := 53) (b := i) (by omega)]; exact b10' i hi⟩, fun t ht => by rw [qs_tok (t := 11) (a := 35) (b := t) (by omega), qs_tok (t := 47) (a := 54) (b := t) (by omega)]; exact b11 t ht, by rw [qs_tok (t := 11) (a := 0) (b := 11) (by omega), qs_tok (t := 47) (a := 40) (b := 6) (by omega)]; exact b12, by rw [qs_tok (t := 11) (a := 0) (b := 12) (by omega), qs_tok (t := 47) (a := 40) (b := 7) (by omega)]; exact b12', by rw [qs_tok (t := 11) (a := 0) (b := 13) (by omega), qs_tok (t := 47) (a := 40) (b := 8) (by omega)]; exact b12''⟩
  · intro i hi
    by_cases e : i = k
    · subst e; rw [qs_same, qs_same]
    · rw [qs_ne (fun q => e q.2), qs_ne (fun q => e q.2)]; exact b4 i hi
theorem inv_47 (h : Inv μ) (k : Nat) (x : Int32) (hx : bd x 0 16) : Inv (ppS μ 47 k x) := by
  obtain ⟨i1, i2, ⟨i3, i3'⟩, i4, i5, i6, i7, ⟨i8, i8'⟩, i9, i10, i10', i10''⟩ := h
  refine ⟨fun t ht => by rw [qs_tok (t := 47) (a := 41) (b := t) (by omega), qs_tok (t := 47) (a := 42) (b := t) (by omega), qs_tok (t := 47) (a := 43) (b := t) (by omega)]; exact i1 t ht, fun i hi => by rw [qs_tok (t := 47) (a := 44) (b := i) (by omega)]; exact i2 i hi, ⟨fun i hi => by rw [qs_tok (t := 47) (a := 45) (b := i) (by omega)]; exact i3 i hi, fun a b ha hb => by rw [qs_tok (t := 47) (a := 45) (b := 8 * a + b) (by omega), qs_tok (t := 47) (a := 45) (b := 8 * b + a) (by omega)]; exact i3' a b ha hb⟩, ?_, fun t ht => by rw [qs_tok (t := 47) (a := 48) (b := t) (by omega)]; exact i5 t ht, by rw [qs_tok (t := 47) (a := 40) (b := 11) (by omega)]; exact i6, fun s hs => by rw [qs_tok (t := 47) (a := 67) (b := s) (by omega), qs_tok (t := 47) (a := 68) (b := s) (by omega)]; exact i7 s hs, ⟨by rw [qs_tok (t := 47) (a := 40) (b := 19) (by omega)]; exact i8, fun i hi => by rw [qs_tok (t := 47) (a := 40) (b := 19) (by omega)] at hi; rw [qs_tok (t := 47) (a := 53) (b := i) (by omega)]; exact i8' i hi⟩, fun t ht => by rw [qs_tok (t := 47) (a := 54) (b := t) (by omega)]; exact i9 t ht, by rw [qs_tok (t := 47) (a := 40) (b := 6) (by omega)]; exact i10, by rw [qs_tok (t := 47) (a := 40) (b := 7) (by omega)]; exact i10', by rw [qs_tok (t := 47) (a := 40) (b := 8) (by omega)]; exact i10''⟩
  · intro i hi
    by_cases e : i = k
    · subst e; rw [qs_same]; exact hx
    · rw [qs_ne (fun q => e q.2)]; exact i4 i hi
theorem r0_47 (h : Rel0 σ μ) (k : Nat) (x : Int32) (hx : bd x 0 16) : Rel0 (ppS σ 11 k x) (ppS μ 47 k x) := ⟨base_47 h.1 k x, inv_47 h.2.1 k x hx, fun i hi => by
  rw [qs_tok (t := 11) (a := 8) (by omega), show (ppS μ 47 k x).1 45 = μ.1 45 from funext fun j => qs_tok (by omega)]
  exact h.2.2.1 i hi, h.2.2.2⟩
def U3 (m : pp_M) (tok q : Nat) (x : Nat → Int32) : pp_M := ppS (ppS (ppS m tok q (x 0)) tok (q + 1) (x 1)) tok (q + 2) (x 2)
theorem r0_U3 (h : Rel0 σ μ) (q : Nat) (x : Nat → Int32) (hx : ∀ i, i < 3 → bd (x i) 0 16) : Rel0 (U3 σ 11 q x) (U3 μ 47 q x) := r0_47 (r0_47 (r0_47 h q (x 0) (hx 0 (by omega))) (q + 1) (x 1) (hx 1 (by omega))) (q + 2) (x 2) (hx 2 (by omega))
theorem U3_fr (m : pp_M) (tok q : Nat) (x : Nat → Int32) : fr (fun t _ => t = tok) m (U3 m tok q x) := fr_tr (fr_tr (fr_S rfl) (fr_S rfl)) (fr_S rfl)
/-- three CHANCES that may be -/
def okC (x : Nat → Int32) : Prop := ¬ wi (x 0) 0 16 = 0 ∧ ¬ wi (x 1) 0 (x 0) = 0 ∧ ¬ wi (x 2) 0 (x 1) = 0
theorem okC_bd {x : Nat → Int32} (h : okC x) : ∀ i, i < 3 → bd (x i) 0 16 := fun i hi => by
  have h0 := wi_0 h.1
  have h1 := wi_0 h.2.1
  have h2 := wi_0 h.2.2
  rw [show (0 : Int32).toInt = 0 from rfl] at h0 h1 h2
  rw [show (16 : Int32).toInt = 16 from rfl] at h0
  have : i = 0 ∨ i = 1 ∨ i = 2 := by omega
  unfold bd
  rcases this with rfl | rfl | rfl <;> omega
theorem k_take49 {f t tk oo nn pl : Nat} (hf : f < 8) (ht : t < 6) (htk : tk ≠ 11) (hpl : pl + 2 < nn) (hn2 : nn < 2 ^ 31) (N : Nat) (hN : 3 < N) : f_X4_take_49 N σ (nI f) (nI t) tk oo nn (nI pl) (nI 0) = some (1, U3 σ 11 (3 * (6 * f + t)) (fun i => σ.1 tk (oo + (pl + i)))) := by
  have step : ∀ n l ρ, l < 3 → (∀ i, ρ.1 tk i = σ.1 tk i) → f_X4_take_49 (n + 1) ρ (nI f) (nI t) tk oo nn (nI pl) (nI l) = f_X4_take_49 n (ppS ρ 11 (3 * (6 * f + t) + l) (σ.1 tk (oo + (pl + l)))) (nI f) (nI t) tk oo nn (nI pl) (nI (l + 1)) := by
    intro n l ρ hl hρ
    show f_X4_take_49_B (f_X4_take_49 n) _ _ _ _ _ _ _ _ = _
    unfold f_X4_take_49_B
    have e0 : nI f * (6 : Int32) + nI t = nI (f * 6 + t) := by rw [c6I, pk_mul, nI_add]
    have i1 : pp_ix (nI (f * 6 + t)) 48 := q_ix (by omega) (by omega)
    have i2 : pp_ix (nI (pl + l)) nn := q_ix (by omega) hn2
    have i3 : pp_ix (nI l) 3 := q_ix (by omega) (by omega)
    rw [if_pos (show nI l < (3 : Int32) from nI_lt (b := 3) hl (by omega)), e0, nI_add, if_pos i1, if_pos i2, if_pos i3, q_cl (k := f * 6 + t) (by omega), q_cl (k := pl + l) (by omega), q_cl (k := l) (by omega), hρ, nI_1, show (f * 6 + t) * 3 + l = 3 * (6 * f + t) + l by omega]
  obtain ⟨n, rfl⟩ : ∃ n, N = n + 1 + 1 + 1 + 1 := ⟨N - 4, by omega⟩
  rw [step _ 0 σ (by omega) (fun i => rfl), step _ 1 _ (by omega) (fun i => qs_tok htk), step _ 2 _ (by omega) (fun i => by rw [qs_tok htk, qs_tok htk])]
  show f_X4_take_49_B (f_X4_take_49 n) _ _ _ _ _ _ _ _ = _
  unfold f_X4_take_49_B
  rw [if_neg (show ¬ nI 3 < (3 : Int32) from q_nlt 3)]
  rfl
theorem k_take7 {f t tk oo nn pl : Nat} (hf : f < 8) (ht : t < 6) (htk : tk ≠ 11) (hpl : pl + 2 < nn) (hn2 : nn < 2 ^ 31) (x : Nat → Int32) (hx : x = fun i => σ.1 tk (oo + (pl + i))) (N : Nat) (hN : 3 < N) : (okC x → f_X4_take_7 N σ (nI f) (nI t) tk oo nn (nI pl) (16 : Int32) (nI 0) = some (1, U3 σ 11 (3 * (6 * f + t)) x)) ∧ (¬ okC x → f_X4_take_7 N σ (nI f) (nI t) tk oo nn (nI pl) (16 : Int32) (nI 0) = some (0, σ)) := by
  have step : ∀ n l ah, l < 3 → f_X4_take_7 (n + 1) σ (nI f) (nI t) tk oo nn (nI pl) ah (nI l) = if wi (x l) 0 ah = 0 then some (0, σ) else f_X4_take_7 n σ (nI f) (nI t) tk oo nn (nI pl) (x l) (nI (l + 1)) := by
    intro n l ah hl
    show f_X4_take_7_B (f_X4_take_7 n) _ _ _ _ _ _ _ _ _ = _
    unfold f_X4_take_7_B
    have i2 : pp_ix (nI (pl + l)) nn := q_ix (by omega) hn2
    rw [if_pos (show nI l < (3 : Int32) from nI_lt (b := 3) hl (by omega)), nI_add, if_pos i2, q_cl (k := pl + l) (by omega), k_within, Option.bind_some, nI_1, hx]
  obtain ⟨n, rfl⟩ : ∃ n, N = n + 1 + 1 + 1 + 1 := ⟨N - 4, by omega⟩
  have e : f_X4_take_7 (n + 1 + 1 + 1 + 1) σ (nI f) (nI t) tk oo nn (nI pl) (16 : Int32) (nI 0) = if wi (x 0) 0 16 = 0 then some (0, σ) else if wi (x 1) 0 (x 0) = 0 then some (0, σ) else if wi (x 2) 0 (x 1) = 0 then some (0, σ) else some (1, U3 σ 11 (3 * (6 * f + t)) x) := by
    rw [step _ 0 _ (by omega), step _ 1 _ (by omega), step _ 2 _ (by omega)]
    have : f_X4_take_7 (n + 1) σ (nI f) (nI t) tk oo nn (nI pl) (x 2) (nI (2 + 1)) = some (1, U3 σ 11 (3 * (6 * f + t)) x) := by
      show f_X4_take_7_B (f_X4_take_7 n) _ _ _ _ _ _ _ _ _ = _
      unfold f_X4_take_7_B
      rw [if_neg (show ¬ nI 3 < (3 : Int32) from q_nlt 3), hx]
      exact k_take49 hf ht htk hpl hn2 100000 (by omega)
    rw [this]
  rw [e]
  unfold okC
  by_cases c0 : wi (x 0) 0 16 = 0
  · rw [if_pos c0]; exact ⟨fun h => absurd c0 h.1, fun _ => rfl⟩
  by_cases c1 : wi (x 1) 0 (x 0) = 0
  · rw [if_neg c0, if_pos c1]; exact ⟨fun h => absurd c1 h.2.1, fun _ => rfl⟩
  by_cases c2 : wi (x 2) 0 (x 1) = 0
  · rw [if_neg c0, if_neg c1, if_pos c2]; exact ⟨fun h => absurd c2 h.2.2, fun _ => rfl⟩
  rw [if_neg c0, if_neg c1, if_neg c2]
  exact ⟨fun _ => rfl, fun h => absurd ⟨c0, c1, c2⟩ h⟩
theorem k_take {f t tk oo nn pl : Nat} (hf : f < 8) (ht : t < 6) (htk : tk ≠ 11) (hpl : pl + 2 < nn) (hn2 : nn < 2 ^ 31) (x : Nat → Int32) (hx : x = fun i => σ.1 tk (oo + (pl + i))) : (okC x → f_X4_take σ (nI f) (nI t) tk oo nn (nI pl) = some (1, U3 σ 11 (3 * (6 * f + t)) x)) ∧ (¬ okC x → f_X4_take σ (nI f) (nI t) tk oo nn (nI pl) = some (0, σ)) := k_take7 hf ht htk hpl hn2 x hx 100000 (by omega)
theorem m_read133 (k34 : pp_M → Int32 → Int32 → Int32 → Option (Int32 × pp_M)) {s f t : Nat} (hs : s < 4) (hf : f < 8) (ht : t < 6) (N : Nat) (hN : 3 < N) : f_X9_read_133 k34 N μ (nI s) (nI f) (nI t) (nI (40 * s + 3 * t)) (nI 0) = k34 (U3 μ 47 (3 * (6 * f + t)) (fun i => μ.1 69 (40 * s + 3 * t + i))) (nI s) (nI f) (nI (t + 1)) := by
  have step : ∀ n l ρ, l < 3 → (∀ i, ρ.1 69 i = μ.1 69 i) → f_X9_read_133 k34 (n + 1) ρ (nI s) (nI f) (nI t) (nI (40 * s + 3 * t)) (nI l) = f_X9_read_133 k34 n (ppS ρ 47 (3 * (6 * f + t) + l) (μ.1 69 (40 * s + 3 * t + l))) (nI s) (nI f) (nI t) (nI (40 * s + 3 * t)) (nI (l + 1)) := by
    intro n l ρ hl hρ
    show f_X9_read_133_B k34 (f_X9_read_133 k34 n) _ _ _ _ _ _ = _
    unfold f_X9_read_133_B f_X9_place
    have e0 : (3 : Int32) * ((6 : Int32) * nI f + nI t) + nI l = nI (3 * (6 * f + t) + l) := by rw [c6I, c3I, pk_mul, nI_add, pk_mul, nI_add]
    have i1 : pp_ix (nI (40 * s + 3 * t + l)) 160 := q_ix (by omega) (by omega)
    have i2 : pp_ix (nI (3 * (6 * f + t) + l)) 144 := q_ix (by omega) (by omega)
    rw [if_pos (show nI l < (3 : Int32) from nI_lt (b := 3) hl (by omega)), Option.bind_some, nI_add, if_pos i1, e0, if_pos i2, q_cl (k := 3 * (6 * f + t) + l) (by omega), q_cl (k := 40 * s + 3 * t + l) (by omega), hρ, nI_1]
  obtain ⟨n, rfl⟩ : ∃ n, N = n + 1 + 1 + 1 + 1 := ⟨N - 4, by omega⟩
  rw [step _ 0 μ (by omega) (fun i => rfl), step _ 1 _ (by omega) (fun i => qs_tok (by omega)), step _ 2 _ (by omega) (fun i => by rw [qs_tok (by omega), qs_tok (by omega)])]
  show f_X9_read_133_B k34 (f_X9_read_133 k34 n) _ _ _ _ _ _ = _
  unfold f_X9_read_133_B
  rw [if_neg (show ¬ nI 3 < (3 : Int32) from q_nlt 3), nI_1]
  rfl
theorem read_same {s f S wh : Nat} (hs : s < 4) (hf : f < 8) (hS : S ≤ 40) (hwh : wh = if 6 < S / 3 then 6 else S / 3) : ∀ d t n n' σ μ, t + d = wh → d < n → d < n' → Rel0 σ μ → μ.1 68 s = nI S → ∃ (r : Int32) (σ' μ' : pp_M), f_X8_read_68 n σ (nI f) (nI t) (nI wh) (s * 40) = some (r, ppS σ' 36 6 0) ∧ f_X9_read_34 n' μ (nI s) (nI f) (nI t) = some (r, μ') ∧ Rel0 σ' μ' := by
  have hw6 : wh ≤ 6 ∧ wh ≤ S / 3 ∧ (wh = 6 ∨ wh = S / 3) := by rw [hwh]; split <;> omega
  intro d
  induction d with
  | zero =>
    intro t n n' σ μ ht hn hn' h h68
    obtain ⟨n, rfl⟩ : ∃ m, n = m + 1 := ⟨n - 1, by omega⟩
    obtain ⟨n', rfl⟩ : ∃ m, n' = m + 1 := ⟨n' - 1, by omega⟩
    have : t = wh := by omega
    subst this
    refine ⟨nI t, σ, μ, ?_, ?_, h⟩
    · show f_X8_read_68_B (f_X8_read_68 n) _ _ _ _ _ = _
      unfold f_X8_read_68_B f_X8_read_97 f_X6_forget
      rw [if_neg (q_nlt t), Option.bind_some]
    · show f_X9_read_34_B (f_X9_read_34 n') _ _ _ _ = _
      unfold f_X9_read_34_B
      have i1 : pp_ix (nI s) 4 := q_ix (by omega) (by omega)
      have e1 : (3 : Int32) * nI t + (2 : Int32) = nI (3 * t + 2) := by rw [c3I, pk_mul, show (2 : Int32) = nI 2 from rfl, nI_add]
      rw [if_pos i1, e1, q_cl (k := s) (by omega), h68]
      by_cases c6 : t < 6
      · rw [if_pos (show nI t < (6 : Int32) from nI_lt (b := 6) c6 (by omega)), if_neg (q_nl (by omega) (by omega))]
      · rw [if_neg (show ¬ nI t < (6 : Int32) from q_nl (b := 6) (by omega) (by omega))]
  | succ d ih =>
    intro t n n' σ μ ht hn hn' h h68
    obtain ⟨n, rfl⟩ : ∃ m, n = m + 1 := ⟨n - 1, by omega⟩
    obtain ⟨n', rfl⟩ : ∃ m, n' = m + 1 := ⟨n' - 1, by omega⟩
    have ht6 : t < 6 := by omega
    have hx : (fun i => μ.1 69 (40 * s + 3 * t + i)) 0 = σ.1 18 (s * 40 + (t * 3 + 0)) := by
      rw [h.1.2.2.2.2.2.2.2.1 (s * 40 + (t * 3 + 0)) (by omega)]
      show μ.1 69 (40 * s + 3 * t + 0) = _
      rw [show 40 * s + 3 * t + 0 = s * 40 + (t * 3 + 0) by omega]
    have hx3 : ∀ i, i < 3 → (fun i => σ.1 18 (s * 40 + (t * 3 + i))) i = (fun i => μ.1 69 (40 * s + 3 * t + i)) i := fun i hi => by
      show σ.1 18 (s * 40 + (t * 3 + i)) = μ.1 69 (40 * s + 3 * t + i)
      rw [h.1.2.2.2.2.2.2.2.1 (s * 40 + (t * 3 + i)) (by omega), show 40 * s + 3 * t + i = s * 40 + (t * 3 + i) by omega]
    have tk := k_take (σ := σ) (f := f) (t := t) (tk := 18) (oo := s * 40) (nn := 40) (pl := t * 3) hf ht6 (by omega) (by omega) (by omega) _ rfl
    have okE : okC (fun i => σ.1 18 (s * 40 + (t * 3 + i))) ↔ okC (fun i => μ.1 69 (40 * s + 3 * t + i)) := by
      unfold okC
      rw [hx3 0 (by omega), hx3 1 (by omega), hx3 2 (by omega)]
    have uE : U3 μ 47 (3 * (6 * f + t)) (fun i => μ.1 69 (40 * s + 3 * t + i)) = U3 μ 47 (3 * (6 * f + t)) (fun i => σ.1 18 (s * 40 + (t * 3 + i))) := by
      unfold U3
      rw [hx3 0 (by omega), hx3 1 (by omega), hx3 2 (by omega)]
    have em : f_X9_read_34 (n' + 1) μ (nI s) (nI f) (nI t) = if wi (μ.1 69 (40 * s + 3 * t)) 0 16 = 0 then some (nI t, μ) else if wi (μ.1 69 (40 * s + 3 * t + 1)) 0 (μ.1 69 (40 * s + 3 * t)) = 0 then some (nI t, μ) else if wi (μ.1 69 (40 * s + 3 * t + 2)) 0 (μ.1 69 (40 * s + 3 * t + 1)) = 0 then some (nI t, μ) else f_X9_read_133 (f_X9_read_34 n') 100000 μ (nI s) (nI f) (nI t) (nI (40 * s + 3 * t)) 0 := by
      show f_X9_read_34_B (f_X9_read_34 n') _ _ _ _ = _
      unfold f_X9_read_34_B
      have i1 : pp_ix (nI s) 4 := q_ix (by omega) (by omega)
      have e1 : (3 : Int32) * nI t + (2 : Int32) = nI (3 * t + 2) := by rw [c3I, pk_mul, show (2 : Int32) = nI 2 from rfl, nI_add]
      have e2 : (40 : Int32) * nI s + (3 : Int32) * nI t = nI (40 * s + 3 * t) := by rw [c3I, show (40 : Int32) = nI 40 from rfl, pk_mul, pk_mul, nI_add]
      have e3 : nI (40 * s + 3 * t) + (2 : Int32) = nI (40 * s + 3 * t + 2) := nI_add _ 2
      have i2 : pp_ix (nI (40 * s + 3 * t)) 160 := q_ix (by omega) (by omega)
      have i3 : pp_ix (nI (40 * s + 3 * t + 1)) 160 := q_ix (by omega) (by omega)
      have i4 : pp_ix (nI (40 * s + 3 * t + 2)) 160 := q_ix (by omega) (by omega)
      rw [if_pos (show nI t < (6 : Int32) from nI_lt (b := 6) (by omega) (by omega)), if_pos i1, e1, q_cl (k := s) (by omega), h68, if_pos (nI_lt (by omega) (by omega)), e2, if_pos i2, q_cl (k := 40 * s + 3 * t) (by omega), m_in, Option.bind_some, nI_1, e3, if_pos i3, m_in, Option.bind_some, if_pos i4, m_in, Option.bind_some, q_cl (k := 40 * s + 3 * t + 1) (by omega), q_cl (k := 40 * s + 3 * t + 2) (by omega)]
    have ek : f_X8_read_68 (n + 1) σ (nI f) (nI t) (nI wh) (s * 40) = (f_X4_take σ (nI f) (nI t) 18 (s * 40) 40 (nI (t * 3))).bind fun x85 => if x85.1 = 0 then f_X8_read_97 x85.2 (nI t) else f_X8_read_68 n x85.2 (nI f) (nI (t + 1)) (nI wh) (s * 40) := by
      show f_X8_read_68_B (f_X8_read_68 n) _ _ _ _ _ = _
      unfold f_X8_read_68_B
      rw [if_pos (nI_lt (by omega) (by omega)), c3I, pk_mul, nI_1]
    by_cases cok : okC (fun i => σ.1 18 (s * 40 + (t * 3 + i)))
    · have cm := okE.mp cok
      obtain ⟨r, σ', μ', g1, g2, g3⟩ := ih (t + 1) n n' (U3 σ 11 (3 * (6 * f + t)) (fun i => σ.1 18 (s * 40 + (t * 3 + i)))) (U3 μ 47 (3 * (6 * f + t)) (fun i => σ.1 18 (s * 40 + (t * 3 + i)))) (by omega) (by omega) (by omega) (r0_U3 h _ _ (okC_bd cok)) (by rw [(U3_fr μ 47 (3 * (6 * f + t)) _ 68 s (by omega)).1]; exact h68)
      refine ⟨r, σ', μ', ?_, ?_, g3⟩
      · rw [ek, tk.1 cok, Option.bind_some, if_neg (show ¬ (1 : Int32) = 0 by decide)]
        exact g1
      · rw [em, if_neg (show ¬ wi (μ.1 69 (40 * s + 3 * t)) 0 16 = 0 from cm.1), if_neg (show ¬ wi (μ.1 69 (40 * s + 3 * t + 1)) 0 (μ.1 69 (40 * s + 3 * t)) = 0 from cm.2.1), if_neg (show ¬ wi (μ.1 69 (40 * s + 3 * t + 2)) 0 (μ.1 69 (40 * s + 3 * t + 1)) = 0 from cm.2.2), show (0 : Int32) = nI 0 from rfl, m_read133 (f_X9_read_34 n') hs hf ht6 100000 (by omega), uE]
        exact g2
    · have cm : ¬ okC (fun i => μ.1 69 (40 * s + 3 * t + i)) := fun q => cok (okE.mpr q)
      refine ⟨nI t, σ, μ, ?_, ?_, h⟩
      · rw [ek, tk.2 cok, Option.bind_some, if_pos rfl]
        rfl
      · rw [em]
        by_cases d0 : wi (μ.1 69 (40 * s + 3 * t)) 0 16 = 0
        · rw [if_pos d0]
        by_cases d1 : wi (μ.1 69 (40 * s + 3 * t + 1)) 0 (μ.1 69 (40 * s + 3 * t)) = 0
        · rw [if_neg d0, if_pos d1]
        by_cases d2 : wi (μ.1 69 (40 * s + 3 * t + 2)) 0 (μ.1 69 (40 * s + 3 * t + 1)) = 0
        · rw [if_neg d0, if_neg d1, if_pos d2]
        exact absurd ⟨d0, d1, d2⟩ cm
theorem h_read (hCa : CaOk Ca) (a1 a2 : Int32) (h : Rel Ca σ μ) : ∃ (r : Int32) (σ' μ' : pp_M), f_X8_read σ a1 a2 = some (r, σ') ∧ f_X9_read μ a1 a2 = some (r, μ') ∧ Rel Ca σ' μ' := by
  have hI := h.2.1
  unfold f_X8_read f_X9_read
  rw [k_isSheet, m_isSheet, Option.bind_some, Option.bind_some]
  by_cases c1 : wi a1 0 3 = 0
  · rw [if_pos c1, if_pos c1]; exact ⟨_, _, _, rfl, rfl, h⟩
  rw [if_neg c1, if_neg c1, k_isFarm, m_isFarm, Option.bind_some, Option.bind_some]
  by_cases c2 : wi a2 1 7 = 0
  · rw [if_pos c2, if_pos c2]; exact ⟨_, _, _, rfl, rfl, h⟩
  rw [if_neg c2, if_neg c2]
  obtain ⟨s, hs, rfl⟩ := wi_of (n := 3) rfl c1
  obtain ⟨f, hf0, hf, rfl⟩ := wi_nIf (a := 1) (b := 7) (by omega) (by omega) c2
  have hs4 : s < 4 := by omega
  have i1 : pp_ix (nI s) 4 := q_ix (by omega) (by omega)
  rw [k_isLost hs4, Option.bind_some, if_pos i1, if_pos i1]
  simp only [q_cl (k := s) (show s < 2 ^ 31 by omega)]
  rcases sh_cases h hs4 with ⟨g1, g2, g3⟩ | ⟨g1, g2⟩
  · have n1 : ¬ μ.1 66 s = 0 := by rw [g1]; decide
    have hb := (hI.2.2.2.2.2.2.1 s hs4).1
    obtain ⟨S, hS, eS⟩ := q_of (x := μ.1 68 s) (n := 40) hb.1 hb.2
    rw [if_neg g3, if_pos rfl, if_neg n1, g2, eS]
    have d1 : nI S / (3 : Int32) = nI (S / 3) := pk_div (d := 3) (by omega) (by omega) (by omega)
    have hmin : (if (6 : Int32) < nI (S / 3) then (6 : Int32) else nI (S / 3)) = nI (if 6 < S / 3 then 6 else S / 3) := by
      by_cases c : 6 < S / 3
      · rw [if_pos c, if_pos (show (6 : Int32) < nI (S / 3) from nI_lt (a := 6) c (by omega))]; rfl
      · rw [if_neg c, if_neg (show ¬ (6 : Int32) < nI (S / 3) from q_nl (a := 6) (by omega) (by omega))]
    have hw6 : (if 6 < S / 3 then 6 else S / 3) ≤ 6 := by split <;> omega
    obtain ⟨r, σ', μ', e1, e2, e3⟩ := read_same (f := f) (S := S) hs4 (by omega) hS rfl (if 6 < S / 3 then 6 else S / 3) 0 100000 100000 σ μ (by omega) (by omega) (by omega) (rel_to0 h) eS
    rw [d1, hmin, show f_X8_read_68 100000 σ (nI f) 0 (nI (if 6 < S / 3 then 6 else S / 3)) (s * 40) = _ from e1, show f_X9_read_34 100000 μ (nI s) (nI f) 0 = _ from e2]
    exact ⟨_, _, _, rfl, rfl, rel_of0 e3⟩
  · rw [if_pos g2, if_neg (by decide), if_pos g1]
    exact ⟨_, _, _, rfl, rfl, rel_found hCa h 1⟩
end READ
