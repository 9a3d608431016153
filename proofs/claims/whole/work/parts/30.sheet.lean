/-! sheet, copy -/
section SHEET
variable {Ca : pp_M → pp_M → Prop} {σ μ : pp_M}
/-- a table with b from p on set to s -/
def rgF (w : Nat → Int32) (p : Nat) (s : Nat → Int32) (b : Nat) : Nat → Int32 := fun j => if p ≤ j ∧ j < p + b then s (j - p) else w j
theorem rgF_S (w : Nat → Int32) (p : Nat) (s : Nat → Int32) (b : Nat) : (fun j => if j = p + b then s b else rgF w p s b j) = rgF w p s (b + 1) := funext fun j => by
  unfold rgF
  by_cases e : j = p + b
  · rw [if_pos e, if_pos (by omega), e, Nat.add_sub_cancel_left]
  · rw [if_neg e]
    by_cases e2 : p ≤ j ∧ j < p + b
    · rw [if_pos e2, if_pos (by omega)]
    · rw [if_neg e2, if_neg (by omega)]
theorem rgF_0 (w : Nat → Int32) (p : Nat) (s : Nat → Int32) : rgF w p s 0 = w := funext fun j => if_neg (by omega)
theorem k_renew17 {k : Nat} (hk : k < 4) (w : Nat → Int32) : ∀ (m b n : Nat), b + m = 40 → m < n → f_X7_renew_17 n (ppF σ 18 (rgF w (k * 40) (fun _ => 0) b)) (nI k) (nI b) = some (ppF σ 18 (rgF w (k * 40) (fun _ => 0) 40))
  | 0, b, n + 1, hb, _ => by
    have : b = 40 := by omega
    subst this
    show f_X7_renew_17_B (f_X7_renew_17 n) _ _ _ = _
    unfold f_X7_renew_17_B
    rw [if_neg (show ¬ nI 40 < (40 : Int32) from q_nlt 40)]
  | m + 1, b, n + 1, hb, hn => by
    show f_X7_renew_17_B (f_X7_renew_17 n) _ _ _ = _
    unfold f_X7_renew_17_B
    have c1 : nI b < (40 : Int32) := nI_lt (b := 40) (by omega) (by omega)
    have i1 : pp_ix (nI k) 4 := q_ix (by omega) (by omega)
    have j1 : (nI k).toNatClampNeg = k := q_cl (by omega)
    have i3 : pp_ix (nI b) 40 := q_ix (by omega) (by omega)
    have j3 : (nI b).toNatClampNeg = b := q_cl (by omega)
    simp only [if_pos c1, if_pos i1, j1, if_pos i3, j3, pF_S, nI_1]
    rw [show (fun j => if j = k * 40 + b then (0 : Int32) else rgF w (k * 40) (fun _ => 0) b j) = _ from rgF_S w (k * 40) (fun _ => 0) b]
    exact k_renew17 hk w m (b + 1) n (by omega) (by omega)
theorem m_sheet59 {k : Nat} (hk : k < 4) (a3 : Int32) (w : Nat → Int32) : ∀ (m b n : Nat), b + m = 40 → m < n → f_X9_sheet_59 n (ppF μ 69 (rgF w (k * 40) (fun _ => 0) b)) (nI k) a3 (nI b) = some (a3, ppF μ 69 (rgF w (k * 40) (fun _ => 0) 40))
  | 0, b, n + 1, hb, _ => by
    have : b = 40 := by omega
    subst this
    show f_X9_sheet_59_B (f_X9_sheet_59 n) _ _ _ _ = _
    unfold f_X9_sheet_59_B
    rw [if_neg (show ¬ nI 40 < (40 : Int32) from q_nlt 40)]
  | m + 1, b, n + 1, hb, hn => by
    show f_X9_sheet_59_B (f_X9_sheet_59 n) _ _ _ _ = _
    unfold f_X9_sheet_59_B
    have c1 : nI b < (40 : Int32) := nI_lt (b := 40) (by omega) (by omega)
    have i2 := q_40 hk (show b < 40 by omega)
    simp only [if_pos c1, if_pos i2.1, i2.2, pF_S, nI_1]
    rw [show (fun j => if j = k * 40 + b then (0 : Int32) else rgF w (k * 40) (fun _ => 0) b j) = _ from rgF_S w (k * 40) (fun _ => 0) b]
    exact m_sheet59 hk a3 w m (b + 1) n (by omega) (by omega)
theorem base_sheet (h : Base σ μ) (p : Nat) (x y : Int32) (w w' : Nat → Int32) (hw : ∀ i, i < 160 → w i = w' i) : Base (ppF (ppS (ppS σ 19 p x) 20 p y) 18 w) (ppF (ppS (ppS (ppS μ 66 p 1) 67 p x) 68 p y) 69 w') := by
  have k : ∀ t i, ¬ (t = 18 ∨ (t = 19 ∧ i = p) ∨ (t = 20 ∧ i = p)) → (ppF (ppS (ppS σ 19 p x) 20 p y) 18 w).1 t i = σ.1 t i := fun t i q => by rw [pF_ot (by omega), qs_ne (by omega), qs_ne (by omega)]
  have m : ∀ t i, ¬ (t = 69 ∨ (t = 66 ∧ i = p) ∨ (t = 67 ∧ i = p) ∨ (t = 68 ∧ i = p)) → (ppF (ppS (ppS (ppS μ 66 p 1) 67 p x) 68 p y) 69 w').1 t i = μ.1 t i := fun t i q => by rw [pF_ot (by omega), qs_ne (by omega), qs_ne (by omega), qs_ne (by omega)]
  obtain ⟨b1, b2, b3, b4, b5, ⟨b6, b6'⟩, b7, b8, b9, ⟨b10, b10'⟩, b11, b12, b12', b12''⟩ := h
  refine ⟨?_, ?_, ?_, ?_, ?_, ⟨?_, ?_⟩, ?_, ?_, ?_, ⟨?_, ?_⟩, ?_, ?_, ?_, ?_⟩
  · intro t ht w hw; rw [k 3 (t * 6 + w) (by omega), m (41 + w) (t) (by omega)]; exact b1 t ht w hw
  · intro t ht l hl; rw [k 3 (t * 6 + (3 + l)) (by omega), m (44) (3 * t + l) (by omega)]; exact b2 t ht l hl
  · intro i hi; rw [k 6 (i) (by omega), m (45) (i) (by omega)]; exact b3 i hi
  · intro i hi; rw [k 11 (i) (by omega), m (47) (i) (by omega)]; exact b4 i hi
  · intro t ht; rw [k 12 (t) (by omega), m (48) (t) (by omega)]; exact b5 t ht
  · rw [k 13 (5) (by omega), m (40) (11) (by omega)]; exact b6
  · intro i hi; rw [k 14 (i) (by omega), m (49) (i) (by omega)]; exact b6' i hi
  · intro s hs
    by_cases e : s = p
    · subst e
      rw [pF_ot (t := 18) (a := 19) (by omega), pF_ot (t := 18) (a := 20) (by omega), pF_ot (t := 69) (a := 66) (by omega), pF_ot (t := 69) (a := 67) (by omega), pF_ot (t := 69) (a := 68) (by omega), qs_same, qs_same, qs_tok (t := 20) (a := 19) (by omega), qs_same, qs_tok (t := 68) (a := 67) (by omega), qs_same, qs_tok (t := 68) (a := 66) (by omega), qs_tok (t := 67) (a := 66) (by omega), qs_same]
      exact ⟨rfl, Or.inl ⟨rfl, rfl⟩⟩
    · rw [k 19 s (by omega), k 20 s (by omega), m 66 s (by omega), m 67 s (by omega), m 68 s (by omega)]
      exact b7 s hs
  · intro i hi; rw [pF_rd, pF_rd]; exact hw i hi
  · rw [k 16 (3) (by omega), m (40) (47) (by omega)]; exact b9
  · rw [k 0 (10) (by omega), m (40) (19) (by omega)]; exact b10
  · intro i hi; rw [k 34 (i) (by omega), m (53) (i) (by omega)]; exact b10' i hi
  · intro t ht; rw [k 35 (t) (by omega), m (54) (t) (by omega)]; exact b11 t ht
  · rw [k 0 (11) (by omega), m (40) (6) (by omega)]; exact b12
  · rw [k 0 (12) (by omega), m (40) (7) (by omega)]; exact b12'
  · rw [k 0 (13) (by omega), m (40) (8) (by omega)]; exact b12''
theorem inv_sheet (h : Inv μ) (p : Nat) (x y : Int32) (w' : Nat → Int32) (hx : bd x 0 2) (hy : bd y 0 40) : Inv (ppF (ppS (ppS (ppS μ 66 p 1) 67 p x) 68 p y) 69 w') := by
  have m : ∀ t i, ¬ (t = 69 ∨ (t = 66 ∧ i = p) ∨ (t = 67 ∧ i = p) ∨ (t = 68 ∧ i = p)) → (ppF (ppS (ppS (ppS μ 66 p 1) 67 p x) 68 p y) 69 w').1 t i = μ.1 t i := fun t i q => by rw [pF_ot (by omega), qs_ne (by omega), qs_ne (by omega), qs_ne (by omega)]
  obtain ⟨i1, i2, ⟨i3, i3'⟩, i4, i5, i6, i7, ⟨i8, i8'⟩, i9, i10, i10', i10''⟩ := h
  refine ⟨?_, ?_, ⟨?_, ?_⟩, ?_, ?_, ?_, ?_, ⟨?_, ?_⟩, ?_, ?_, ?_, ?_⟩
  · intro t ht; rw [m (41) (t) (by omega), m (42) (t) (by omega), m (43) (t) (by omega)]; exact i1 t ht
  · intro i hi; rw [m (44) (i) (by omega)]; exact i2 i hi
  · intro i hi; rw [m (45) (i) (by omega)]; exact i3 i hi
  · intro a b ha hb; rw [m (45) (8 * a + b) (by omega), m (45) (8 * b + a) (by omega)]; exact i3' a b ha hb
  · intro i hi; rw [m (47) (i) (by omega)]; exact i4 i hi
  · intro t ht; rw [m (48) (t) (by omega)]; exact i5 t ht
  · rw [m (40) (11) (by omega)]; exact i6
  · intro s hs
    by_cases e : s = p
    · subst e
      rw [pF_ot (t := 69) (a := 67) (by omega), pF_ot (t := 69) (a := 68) (by omega), qs_same, qs_tok (t := 68) (a := 67) (by omega), qs_same]
      exact ⟨hy, hx⟩
    · rw [m 67 s (by omega), m 68 s (by omega)]
      exact i7 s hs
  · rw [m (40) (19) (by omega)]; exact i8
  · intro i hi; rw [m 40 19 (by omega)] at hi; rw [m (53) (i) (by omega)]; exact i8' i hi
  · intro t ht; rw [m (54) (t) (by omega)]; exact i9 t ht
  · rw [m (40) (6) (by omega)]; exact i10
  · rw [m (40) (7) (by omega)]; exact i10'
  · rw [m (40) (8) (by omega)]; exact i10''
theorem h_sheet (hCa : CaOk Ca) (a1 a2 a3 : Int32) (h : Rel Ca σ μ) : ∃ (r : Int32) (σ' μ' : pp_M), f_X8_sheet σ a1 a2 a3 = some (r, σ') ∧ f_X9_sheet μ a1 a2 a3 = some (r, μ') ∧ Rel Ca σ' μ' := by
  unfold f_X8_sheet f_X9_sheet
  simp only [k_isSheet, m_isSheet, k_isForm, m_in, Option.bind_some, f_X7_found, f_X9_meets]
  by_cases c1 : wi a1 0 3 = 0
  · simp only [if_pos c1]; exact ⟨_, _, _, rfl, rfl, h⟩
  by_cases c2 : wi a2 0 2 = 0
  · simp only [if_neg c1, if_pos c2]; exact ⟨_, _, _, rfl, rfl, h⟩
  by_cases c3 : (40 : Int32) < a3
  · simp only [if_neg c1, if_neg c2, if_pos c3]; exact ⟨_, _, _, rfl, rfl, h⟩
  by_cases c4 : a3 < 0
  · simp only [if_neg c1, if_neg c2, if_neg c3, if_pos c4]; exact ⟨_, _, _, rfl, rfl, rel_found hCa h 5⟩
  simp only [if_neg c1, if_neg c2, if_neg c3, if_neg c4]
  obtain ⟨k, hk, rfl⟩ := wi_of (n := 3) rfl c1
  have hk4 : k < 4 := by omega
  have i1 : pp_ix (nI k) 4 := q_ix (by omega) (by omega)
  have j1 : (nI k).toNatClampNeg = k := q_cl (by omega)
  unfold f_X7_renew
  simp only [if_pos i1, j1]
  have p1 := k_renew17 (σ := ppS (ppS σ 19 k a2) 20 k a3) hk4 ((ppS (ppS σ 19 k a2) 20 k a3).1 18) 40 0 100000 rfl (by omega)
  have p2 := m_sheet59 (μ := ppS (ppS (ppS μ 66 k 1) 67 k a2) 68 k a3) hk4 a3 ((ppS (ppS (ppS μ 66 k 1) 67 k a2) 68 k a3).1 69) 40 0 100000 rfl (by omega)
  rw [rgF_0, pF_id] at p1 p2
  rw [show f_X7_renew_17 100000 (ppS (ppS σ 19 k a2) 20 k a3) (nI k) 0 = _ from p1, show f_X9_sheet_59 100000 (ppS (ppS (ppS μ 66 k 1) 67 k a2) 68 k a3) (nI k) a3 0 = _ from p2]
  refine ⟨_, _, _, rfl, rfl, rel_keep hCa h (base_sheet h.1 k a2 a3 _ _ (fun i hi => ?_)) (inv_sheet h.2.1 k a2 a3 _ (wi_0 c2) ?_) (fr_tr (fr_tr (fr_S (by unfold nK; omega)) (fr_S (by unfold nK; omega))) (pF_fr (fun i => by unfold nK; omega))) (fr_tr (fr_tr (fr_tr (fr_S (by unfold nM; omega)) (fr_S (by unfold nM; omega))) (fr_S (by unfold nM; omega))) (pF_fr (fun i => by unfold nM; omega)))⟩
  · unfold rgF
    by_cases c : k * 40 ≤ i ∧ i < k * 40 + 40
    · rw [if_pos c, if_pos c]
    · rw [if_neg c, if_neg c, qs_tok (by omega), qs_tok (by omega), qs_tok (by omega), qs_tok (by omega), qs_tok (by omega)]
      exact h.1.2.2.2.2.2.2.2.1 i hi
  · rw [q_lt32] at c3 c4
    rw [show (40 : Int32).toInt = 40 from rfl] at c3
    rw [show (0 : Int32).toInt = 0 from rfl] at c4
    exact ⟨by omega, by omega⟩
end SHEET
