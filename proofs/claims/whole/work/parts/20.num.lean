/-! STAGE II. numbers, tests, frames -/
theorem q_lt32 {a b : Int32} : a < b ↔ a.toInt < b.toInt := Int32.lt_iff_toInt_lt
theorem q_lt64 {a b : Int64} : a < b ↔ a.toInt < b.toInt := Int64.lt_iff_toInt_lt
theorem q_rng (x : Int32) : -2147483648 ≤ x.toInt ∧ x.toInt < 2147483648 := ⟨by have := Int32.minValue_le_toInt x; simpa using this, by have := Int32.toInt_lt x; simpa using this⟩
/-- nI is an int -/
theorem q_of {x : Int32} {n : Nat} (h0 : 0 ≤ x.toInt) (h1 : x.toInt ≤ n) : ∃ j : Nat, j ≤ n ∧ x = nI j := by
  have hr := q_rng x
  refine ⟨x.toInt.toNat, by omega, ?_⟩
  apply Int32.toInt_inj.mp
  rw [nI_toInt (by omega)]
  omega
theorem q_ix {k n : Nat} (h : k < n) (hn : n < 2 ^ 31) : pp_ix (nI k) n := vp_in_nI h hn
theorem q_cl {k : Nat} (h : k < 2 ^ 31) : (nI k).toNatClampNeg = k := nI_clamp h
theorem q_ixl {i : Int32} {n : Nat} (h : pp_ix i n) : i.toNatClampNeg < n := vp_lt h
theorem q_ix_of {x : Int32} {n : Nat} (hn : n < 2 ^ 31) (h0 : 0 ≤ x.toInt) (h1 : x.toInt < n) : pp_ix x n ∧ (x.toNatClampNeg : Int) = x.toInt := by
  have hr := q_rng x
  obtain ⟨j, hj, rfl⟩ := q_of (x := x) (n := n) h0 (by omega)
  rw [nI_toInt (by omega)] at h1
  rw [q_cl (by omega), nI_toInt (by omega)]
  exact ⟨q_ix (by omega) hn, rfl⟩
/-- a number within -/
def wi (v lo hi : Int32) : Int32 := if v < lo then 0 else if hi < v then 0 else 1
theorem wi_b (v lo hi : Int32) : pp_b (wi v lo hi) := by
  unfold wi
  split
  · exact Or.inl rfl
  · split
    · exact Or.inl rfl
    · exact Or.inr rfl
theorem wi_0 {v lo hi : Int32} (h : ¬ wi v lo hi = 0) : lo.toInt ≤ v.toInt ∧ v.toInt ≤ hi.toInt := by
  unfold wi at h
  split at h
  · exact absurd rfl h
  · rename_i h1
    split at h
    · exact absurd rfl h
    · rename_i h2
      rw [q_lt32] at h1 h2
      omega
theorem wi_1 {v lo hi : Int32} (h1 : lo.toInt ≤ v.toInt) (h2 : v.toInt ≤ hi.toInt) : wi v lo hi = 1 := by
  unfold wi
  rw [if_neg (by rw [q_lt32]; omega), if_neg (by rw [q_lt32]; omega)]
theorem wi_of {v hi : Int32} {n : Nat} (hn : hi.toInt = n) (h : ¬ wi v 0 hi = 0) : ∃ j : Nat, j ≤ n ∧ v = nI j := by
  obtain ⟨h1, h2⟩ := wi_0 h
  exact q_of h1 (by rw [← hn]; exact h2)
theorem k_within (σ : pp_M) (a b c : Int32) : f_X8_within σ a b c = some (wi a b c, σ) := by
  unfold f_X8_within wi
  split
  · rfl
  · split <;> rfl
theorem m_in (σ : pp_M) (a b c : Int32) : f_X9_in σ a b c = some (wi a b c, σ) := by
  unfold f_X9_in wi
  split
  · rfl
  · split <;> rfl
theorem k_isThing (σ : pp_M) (a : Int32) : f_X8_isThing σ a = some (wi a 0 5, σ) := by
  unfold f_X8_isThing; rw [k_within]; exact if_pos (wi_b _ _ _)
theorem k_isLevel (σ : pp_M) (a : Int32) : f_X8_isLevel σ a = some (wi a 0 2, σ) := by
  unfold f_X8_isLevel; rw [k_within]; exact if_pos (wi_b _ _ _)
theorem k_isNumber (σ : pp_M) (a : Int32) : f_X8_isNumber σ a = some (wi a 0 4, σ) := by
  unfold f_X8_isNumber; rw [k_within]; exact if_pos (wi_b _ _ _)
theorem k_isPlace (σ : pp_M) (a : Int32) : f_X8_isPlace σ a = some (wi a 0 7, σ) := by
  unfold f_X8_isPlace; rw [k_within]; exact if_pos (wi_b _ _ _)
theorem k_isFarm (σ : pp_M) (a : Int32) : f_X8_isFarm σ a = some (wi a 1 7, σ) := by
  unfold f_X8_isFarm; rw [k_within]; exact if_pos (wi_b _ _ _)
theorem k_isSheet (σ : pp_M) (a : Int32) : f_X8_isSheet σ a = some (wi a 0 3, σ) := by
  unfold f_X8_isSheet; rw [k_within]; exact if_pos (wi_b _ _ _)
theorem k_isForm (σ : pp_M) (a : Int32) : f_X8_isForm σ a = some (wi a 0 2, σ) := by
  unfold f_X8_isForm; rw [k_within]; exact if_pos (wi_b _ _ _)
theorem k_isTerm (σ : pp_M) (a : Int32) : f_X8_isTerm σ a = some (wi a 0 1, σ) := by
  unfold f_X8_isTerm; rw [k_within]; exact if_pos (wi_b _ _ _)
theorem m_isThing (σ : pp_M) (a : Int32) : f_X9_isThing σ a = some (wi a 0 5, σ) := by
  unfold f_X9_isThing; rw [m_in]; exact if_pos (wi_b _ _ _)
theorem m_isPlace (σ : pp_M) (a : Int32) : f_X9_isPlace σ a = some (wi a 0 7, σ) := by
  unfold f_X9_isPlace; rw [m_in]; exact if_pos (wi_b _ _ _)
theorem m_isFarm (σ : pp_M) (a : Int32) : f_X9_isFarm σ a = some (wi a 1 7, σ) := by
  unfold f_X9_isFarm; rw [m_in]; exact if_pos (wi_b _ _ _)
theorem m_isSheet (σ : pp_M) (a : Int32) : f_X9_isSheet σ a = some (wi a 0 3, σ) := by
  unfold f_X9_isSheet; rw [m_in]; exact if_pos (wi_b _ _ _)
-- memory
theorem qs_same (σ : pp_M) (t i : Nat) (x : Int32) : (ppS σ t i x).1 t i = x := if_pos ⟨rfl, rfl⟩
theorem qs_ne {σ : pp_M} {t i a b : Nat} {x : Int32} (h : ¬ (a = t ∧ b = i)) : (ppS σ t i x).1 a b = σ.1 a b := if_neg h
theorem qs_tok {σ : pp_M} {t i a b : Nat} {x : Int32} (h : a ≠ t) : (ppS σ t i x).1 a b = σ.1 a b := if_neg (fun q => h q.1)
theorem qs_2 (σ : pp_M) (t i : Nat) (x : Int32) : (ppS σ t i x).2 = σ.2 := rfl
theorem qt_1 (σ : pp_M) (t i : Nat) (x : Int64) : (ppT σ t i x).1 = σ.1 := rfl
theorem qt_same (σ : pp_M) (t i : Nat) (x : Int64) : (ppT σ t i x).2 t i = x := if_pos ⟨rfl, rfl⟩
theorem qt_ne {σ : pp_M} {t i a b : Nat} {x : Int64} (h : ¬ (a = t ∧ b = i)) : (ppT σ t i x).2 a b = σ.2 a b := if_neg h
theorem qt_tok {σ : pp_M} {t i a b : Nat} {x : Int64} (h : a ≠ t) : (ppT σ t i x).2 a b = σ.2 a b := if_neg (fun q => h q.1)
/-- only where P says has the memory changed -/
def fr (P : Nat → Nat → Prop) (σ σ' : pp_M) : Prop := ∀ t i, ¬ P t i → σ'.1 t i = σ.1 t i ∧ σ'.2 t i = σ.2 t i
theorem fr_rf {P : Nat → Nat → Prop} {σ : pp_M} : fr P σ σ := fun _ _ _ => ⟨rfl, rfl⟩
theorem fr_tr {P : Nat → Nat → Prop} {σ σ1 σ2 : pp_M} (h1 : fr P σ σ1) (h2 : fr P σ1 σ2) : fr P σ σ2 := fun t i h => ⟨(h2 t i h).1.trans (h1 t i h).1, (h2 t i h).2.trans (h1 t i h).2⟩
theorem fr_mono {P Q : Nat → Nat → Prop} {σ σ' : pp_M} (h : fr P σ σ') (hpq : ∀ t i, P t i → Q t i) : fr Q σ σ' := fun t i hq => h t i (fun q => hq (hpq t i q))
theorem fr_S {P : Nat → Nat → Prop} {σ : pp_M} {t i : Nat} {x : Int32} (h : P t i) : fr P σ (ppS σ t i x) := fun a b hq => ⟨qs_ne (fun q => hq (by rw [q.1, q.2]; exact h)), rfl⟩
theorem fr_T {P : Nat → Nat → Prop} {σ : pp_M} {t i : Nat} {x : Int64} (h : P t i) : fr P σ (ppT σ t i x) := fun a b hq => ⟨rfl, qt_ne (fun q => hq (by rw [q.1, q.2]; exact h))⟩
/-- what of the class's memory is scratch -/
def sK (t i : Nat) : Prop := t = 15 ∨ t = 23 ∨ t = 24 ∨ t = 25 ∨ t = 27 ∨ t = 28 ∨ (t = 30 ∧ i < 606) ∨ t = 31 ∨ t = 32 ∨ t = 33 ∨ (t = 13 ∧ i ≠ 5) ∨ (t = 36 ∧ i ≠ 6)
/-- what of the reference's memory is scratch -/
def sM (t i : Nat) : Prop := t = 46 ∨ t = 50 ∨ t = 51 ∨ t = 52 ∨ (55 ≤ t ∧ t ≤ 65) ∨ t = 70 ∨ (t = 40 ∧ i ≠ 6 ∧ i ≠ 7 ∧ i ≠ 8 ∧ i ≠ 11 ∧ i ≠ 19 ∧ i ≠ 47)
