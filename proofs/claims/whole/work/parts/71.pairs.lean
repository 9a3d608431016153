/-! the best pair of sets, purely -/
section PAIRS
variable {F : Nat → Prop} {U : Nat → Int}
theorem sub_bits {m a : Nat} : m &&& a = m ↔ ∀ i, m.testBit i = true → a.testBit i = true := by
  constructor
  · intro h i hi
    rw [← h, Nat.testBit_and, Bool.and_eq_true] at hi
    exact hi.2
  · intro h
    apply Nat.eq_of_testBit_eq
    intro i
    rw [Nat.testBit_and]
    cases e : m.testBit i with
    | false => rfl
    | true => rw [h i e]; rfl
theorem dis_bits {a b : Nat} : a &&& b = 0 ↔ ∀ i, a.testBit i = true → ¬ b.testBit i = true := by
  constructor
  · intro h i ha hb
    have : (a &&& b).testBit i = true := by rw [Nat.testBit_and, ha, hb]; rfl
    rw [h, Nat.zero_testBit] at this
    cases this
  · intro h
    apply Nat.eq_of_testBit_eq
    intro i
    rw [Nat.testBit_and, Nat.zero_testBit]
    cases e : a.testBit i with
    | false => rfl
    | true =>
      cases e2 : b.testBit i with
      | false => rfl
      | true => exact absurd e2 (h i e)
def Dp (F : Nat → Prop) (n m S T : Nat) : Prop := (F S ∧ F T ∧ S &&& T = 0) ∧ (S < n ∨ (S = n ∧ T < m))
def BQ (U : Nat → Int) (D : Nat → Nat → Prop) (S T : Nat) : Prop := D S T ∧ ∀ S' T', D S' T' → U S' + U T' < U S + U T ∨ (U S' + U T' = U S + U T ∧ (S < S' ∨ (S = S' ∧ T ≤ T')))
theorem BQ_uniq {D : Nat → Nat → Prop} {S T S' T' : Nat} (h : BQ U D S T) (h' : BQ U D S' T') : S = S' ∧ T = T' := by
  have a := h.2 S' T' h'.1
  have b := h'.2 S T h.1
  omega
theorem Dp_0 : Dp F 0 0 = fun _ _ => False := funext fun S => funext fun T => propext ⟨fun h => by have := h.2; omega, fun h => h.elim⟩
theorem Dp_row {n k : Nat} (hk : ∀ T, F T → T < k) : Dp F n k = Dp F (n + 1) 0 := funext fun S => funext fun T => propext ⟨fun h => ⟨h.1, by have := h.2; omega⟩, fun h => ⟨h.1, by
  have := h.2
  have := hk T h.1.2.1
  omega⟩⟩
theorem Dp_norow {n : Nat} (hn : ¬ F n) : Dp F (n + 1) 0 = Dp F n 0 := funext fun S => funext fun T => propext ⟨fun h => ⟨h.1, by
  have := h.2
  have : S ≠ n := fun e => hn (e ▸ h.1.1)
  omega⟩, fun h => ⟨h.1, by have := h.2; omega⟩⟩
theorem Dp_skip {n m : Nat} (h : ¬ (F n ∧ F m ∧ n &&& m = 0)) : Dp F n (m + 1) = Dp F n m := funext fun S => funext fun T => propext ⟨fun q => ⟨q.1, by
  have := q.2
  by_cases e : S = n ∧ T = m
  · rw [e.1, e.2] at q
    exact absurd q.1 h
  · omega⟩, fun q => ⟨q.1, by have := q.2; omega⟩⟩
theorem Dp_add {n m : Nat} (h : F n ∧ F m ∧ n &&& m = 0) : Dp F n (m + 1) = fun S T => Dp F n m S T ∨ (S = n ∧ T = m) := funext fun S => funext fun T => propext ⟨fun q => by
  have := q.2
  by_cases e : S = n ∧ T = m
  · exact Or.inr e
  · exact Or.inl ⟨q.1, by omega⟩, fun q => by
  rcases q with q | q
  · exact ⟨q.1, by have := q.2; omega⟩
  · rw [q.1, q.2]; exact ⟨h, by omega⟩⟩
theorem BQ_new {n m : Nat} (hn : ∀ S T, Dp F n m S T → U S + U T < U n + U m) : BQ U (fun S T => Dp F n m S T ∨ (S = n ∧ T = m)) n m := ⟨Or.inr ⟨rfl, rfl⟩, fun S' T' h => by
  rcases h with h | h
  · exact Or.inl (hn S' T' h)
  · rw [h.1, h.2]; exact Or.inr ⟨rfl, by omega⟩⟩
theorem BQ_lt {D : Nat → Nat → Prop} {S T n m : Nat} (h : BQ U D S T) (hl : U S + U T < U n + U m) : ∀ S' T', D S' T' → U S' + U T' < U n + U m := fun S' T' q => by
  have := h.2 S' T' q
  omega
theorem BQ_keep {n m S T : Nat} (h : BQ U (Dp F n m) S T) (hl : ¬ U S + U T < U n + U m) : BQ U (fun S T => Dp F n m S T ∨ (S = n ∧ T = m)) S T := ⟨Or.inl h.1, fun S' T' q => by
  rcases q with q | q
  · exact h.2 S' T' q
  · rw [q.1, q.2]
    have := h.1.2
    omega⟩
theorem BQ_all {n : Nat} (hk : ∀ T, F T → T < n) : Dp F n 0 = fun S T => F S ∧ F T ∧ S &&& T = 0 := funext fun S => funext fun T => propext ⟨fun h => h.1, fun h => ⟨h, Or.inl (hk S h.1)⟩⟩
/-- sets of figures as sets of farms -/
def phN (o s : Nat) : Nat → Nat
  | 0 => 0
  | i + 1 => phN o s i ||| (if s.testBit i then 2 ^ ((fL o).getD i 0 - 1) else 0)
def phi (o s : Nat) : Nat := phN o s (fL o).length
theorem ph_bit {o s b : Nat} : ∀ n, (phN o s n).testBit b = true ↔ ∃ i, i < n ∧ s.testBit i = true ∧ (fL o).getD i 0 - 1 = b
  | 0 => by
    show (0 : Nat).testBit b = true ↔ _
    rw [Nat.zero_testBit]
    exact ⟨fun h => (by cases h), fun ⟨i, hi, _⟩ => absurd hi (Nat.not_lt_zero _)⟩
  | n + 1 => by
    show (phN o s n ||| (if s.testBit n then 2 ^ ((fL o).getD n 0 - 1) else 0)).testBit b = true ↔ _
    rw [Nat.testBit_or, Bool.or_eq_true, ph_bit n]
    constructor
    · rintro (⟨i, h1, h2⟩ | h)
      · exact ⟨i, by omega, h2⟩
      · by_cases c : s.testBit n = true
        · rw [if_pos c, Nat.testBit_two_pow, decide_eq_true_eq] at h
          exact ⟨n, by omega, c, h⟩
        · rw [if_neg c, Nat.zero_testBit] at h
          cases h
    · rintro ⟨i, h1, h2, h3⟩
      by_cases e : i = n
      · subst e
        refine Or.inr ?_
        rw [if_pos h2, Nat.testBit_two_pow, decide_eq_true_eq]
        exact h3
      · exact Or.inl ⟨i, by omega, h2, h3⟩
theorem phi_dis {o s t : Nat} (hs : s < 2 ^ (fL o).length) : phi o s &&& phi o t = 0 ↔ s &&& t = 0 := by
  rw [dis_bits, dis_bits]
  constructor
  · intro h i h1 h2
    have hi : i < (fL o).length := by
      rcases Nat.lt_or_ge i (fL o).length with q | q
      · exact q
      · rw [Nat.testBit_lt_two_pow (Nat.lt_of_lt_of_le hs (Nat.pow_le_pow_right (by omega) q))] at h1
        cases h1
    exact h _ ((ph_bit _).mpr ⟨i, hi, h1, rfl⟩) ((ph_bit _).mpr ⟨i, hi, h2, rfl⟩)
  · intro h b h1 h2
    obtain ⟨i, i1, i2, i3⟩ := (ph_bit _).mp h1
    obtain ⟨j, j1, j2, j3⟩ := (ph_bit _).mp h2
    have ai := (fL_at i1).1
    have aj := (fL_at j1).1
    have : i = j := fL_inj i1 j1 (by omega)
    subst this
    exact h i i2 j2
theorem phi_s1 : ∀ o, o < 128 → (fL o).length ≤ 5 → ∀ s, s < 31 → s + 1 < 2 ^ (fL o).length → phi o s < phi o (s + 1) := by decide +kernel
theorem phi_lt {o : Nat} (ho : o < 128) (hM : (fL o).length ≤ 5) : ∀ {t s : Nat}, s < t → t < 2 ^ (fL o).length → phi o s < phi o t
  | 0, s, h, _ => absurd h (Nat.not_lt_zero _)
  | t + 1, s, h, ht => by
    have h5 : (2 : Nat) ^ (fL o).length ≤ 2 ^ 5 := Nat.pow_le_pow_right (by omega) hM
    have h1 := phi_s1 o ho hM t (by omega) ht
    by_cases e : s = t
    · rw [e]; exact h1
    · have := phi_lt ho hM (t := t) (s := s) (by omega) (by omega)
      omega
theorem phi_128 {o : Nat} (s : Nat) : phi o s < 128 := by
  have : ∀ n, n ≤ (fL o).length → phN o s n < 2 ^ 7 := by
    intro n
    induction n with
    | zero => intro _; show 0 < 128; omega
    | succ n ih =>
      intro hn
      refine Nat.or_lt_two_pow (ih (by omega)) ?_
      have := fL_at (show n < (fL o).length by omega)
      by_cases c : s.testBit n = true
      · rw [if_pos c]; exact Nat.pow_lt_pow_right (by omega) (by omega)
      · rw [if_neg c]; omega
  exact this _ (Nat.le_refl _)
theorem phi_row {o : Nat} {ds : List Nat} (h : vD (fL o).length ds) : bset (rowD o ds) = phi o (bsD ds) := by
  apply Nat.eq_of_testBit_eq
  intro b
  have h1 := bset_bit (rowD o ds) (b + 1) (by omega) (fun g hg => by
    obtain ⟨e, e1, e2⟩ := List.mem_map.mp hg
    rw [← e2]; exact (fL_at (h.2 e e1)).1)
  rw [Nat.add_sub_cancel] at h1
  have h2 : (bset (rowD o ds)).testBit b = true ↔ (phi o (bsD ds)).testBit b = true := by
    rw [h1]
    show _ ↔ (phN o (bsD ds) (fL o).length).testBit b = true
    rw [ph_bit]
    constructor
    · intro q
      obtain ⟨e, e1, e2⟩ := List.mem_map.mp q
      exact ⟨e, h.2 e e1, (bsD_bit ds e).mpr e1, by omega⟩
    · rintro ⟨i, i1, i2, i3⟩
      have := (fL_at i1).1
      exact List.mem_map.mpr ⟨i, (bsD_bit ds i).mp i2, by omega⟩
  cases e1 : (bset (rowD o ds)).testBit b with
  | true => rw [h2.mp e1]
  | false =>
    cases e2 : (phi o (bsD ds)).testBit b with
    | false => rfl
    | true => rw [h2.mpr e2] at e1; cases e1
theorem phi_inj {o s t : Nat} (ho : o < 128) (hM : (fL o).length ≤ 5) (hs : s < 2 ^ (fL o).length) (ht : t < 2 ^ (fL o).length) (h : phi o s = phi o t) : s = t := by
  rcases Nat.lt_trichotomy s t with c | c | c
  · have := phi_lt ho hM c ht; omega
  · exact c
  · have := phi_lt ho hM c hs; omega
end PAIRS
