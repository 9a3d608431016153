/-! simple acts -/
/-- what the WAYS and the kept search do not rest on -/
def nK (t i : Nat) : Prop := ¬ (t = 8 ∨ (t = 36 ∧ i = 6) ∨ t = 37 ∨ t = 38 ∨ (t = 30 ∧ 606 ≤ i))
/-- nothing is added behind the last thing -/
def zK (σ : pp_M) : Prop := ∀ i, 606 ≤ i → i < 707 → σ.2 30 i = 0
def nM (t i : Nat) : Prop := ¬ ((41 ≤ t ∧ t ≤ 45) ∨ t = 47 ∨ t = 48 ∨ (t = 40 ∧ (i = 6 ∨ i = 7 ∨ i = 8)))
def CaOk (Ca : pp_M → pp_M → Prop) : Prop := ∀ σ σ' μ μ', fr nK σ σ' → fr nM μ μ' → Ca σ μ → Ca σ' μ'
def Rel (Ca : pp_M → pp_M → Prop) (σ μ : pp_M) : Prop := Base σ μ ∧ Inv μ ∧ (∀ i, i < 64 → σ.1 8 i = fw (μ.1 45) i) ∧ (σ.1 36 6 = 0 ∨ (σ.1 36 6 = 1 ∧ Ca σ μ)) ∧ zK σ
theorem fr_row {P : Nat → Nat → Prop} {μ μ' : pp_M} {t : Nat} (h : fr P μ μ') (hp : ∀ i, ¬ P t i) : μ'.1 t = μ.1 t := funext fun i => (h t i (hp i)).1
theorem rel_keep {Ca : pp_M → pp_M → Prop} (hCa : CaOk Ca) {σ σ' μ μ' : pp_M} (h : Rel Ca σ μ) (hB : Base σ' μ') (hI : Inv μ') (h1 : fr nK σ σ') (h2 : fr nM μ μ') : Rel Ca σ' μ' := by
  obtain ⟨-, -, hw, hc, hz⟩ := h
  have e45 : μ'.1 45 = μ.1 45 := fr_row h2 (fun i => by unfold nM; omega)
  refine ⟨hB, hI, fun i hi => ?_, ?_, fun i hi hj => (h1 30 i (by unfold nK; omega)).2.trans (hz i hi hj)⟩
  · rw [(h1 8 i (by unfold nK; omega)).1, e45]; exact hw i hi
  · rw [(h1 36 6 (by unfold nK; omega)).1]
    rcases hc with h | ⟨h, hca⟩
    · exact Or.inl h
    · exact Or.inr ⟨h, hCa σ σ' μ μ' h1 h2 hca⟩
theorem rel_scratch {Ca : pp_M → pp_M → Prop} (hCa : CaOk Ca) {σ σ' μ μ' : pp_M} (h : Rel Ca σ μ) (h1 : fr sK σ σ') (h2 : fr sM μ μ') : Rel Ca σ' μ' :=
  rel_keep hCa h (base_fr h.1 h1 h2) (inv_fr h.2.1 h2) (fr_mono h1 (fun t i q => by unfold sK at q; unfold nK; omega)) (fr_mono h2 (fun t i q => by unfold sM at q; unfold nM; omega))
theorem rel_forget {Ca : pp_M → pp_M → Prop} {σ μ : pp_M} (hB : Base σ μ) (hI : Inv μ) (hw : ∀ i, i < 64 → σ.1 8 i = fw (μ.1 45) i) (h : σ.1 36 6 = 0) (hz : zK σ) : Rel Ca σ μ := ⟨hB, hI, hw, Or.inl h, hz⟩
section SIMPLE
variable {Ca : pp_M → pp_M → Prop} {σ μ : pp_M}
theorem base_wipe (h : Base σ μ) : Base (ppS σ 13 5 0) (ppS μ 40 11 0) := by
  obtain ⟨b1, b2, b3, b4, b5, ⟨b6, b6'⟩, b7, b8, b9, ⟨b10, b10'⟩, b11, b12, b12', b12''⟩ := h
  refine ⟨fun t ht w hw => by rw [qs_tok (t := 13) (a := 3) (b := t * 6 + w) (by omega), qs_tok (t := 40) (a := 41 + w) (b := t) (by omega)]; exact b1 t ht w hw, fun t ht l hl => by rw [qs_tok (t := 13) (a := 3) (b := t * 6 + (3 + l)) (by omega), qs_tok (t := 40) (a := 44) (b := 3 * t + l) (by omega)]; exact b2 t ht l hl, fun i hi => by rw [qs_tok (t := 13) (a := 6) (b := i) (by omega), qs_tok (t := 40) (a := 45) (b := i) (by omega)]; exact b3 i hi, fun i hi => by rw [qs_tok (t := 13) (a := 11) (b := i) (by omega), qs_tok (t := 40) (a := 47) (b := i) (by omega)]; exact b4 i hi, fun t ht => by rw [qs_tok (t := 13) (a := 12) (b := t) (by omega), qs_tok (t := 40) (a := 48) (b := t) (by omega)]; exact b5 t ht, ⟨?_, fun i hi => by rw [qs_tok (t := 13) (a := 14) (b := i) (by omega), qs_tok (t := 40) (a := 49) (b := i) (by omega)]; exact b6' i hi⟩, fun s hs => by rw [qs_tok (t := 13) (a := 19) (b := s) (by omega), qs_tok (t := 13) (a := 20) (b := s) (by omega), qs_tok (t := 40) (a := 66) (b := s) (by omega), qs_tok (t := 40) (a := 67) (b := s) (by omega), qs_tok (t := 40) (a := 68) (b := s) (by omega)]; exact b7 s hs, fun i hi => by rw [qs_tok (t := 13) (a := 18) (b := i) (by omega), qs_tok (t := 40) (a := 69) (b := i) (by omega)]; exact b8 i hi, by rw [qs_tok (t := 13) (a := 16) (b := 3) (by omega), qs_ne (t := 40) (i := 11) (a := 40) (b := 47) (by omega)]; exact b9, ⟨by rw [qs_tok (t := 13) (a := 0) (b := 10) (by omega), qs_ne (t := 40) (i := 11) (a := 40) (b := 19) (by omega)]; exact b10, fun i hi => by rw [qs_tok (t := 13) (a := 34) (b := i) (by omega), qs_tok (t := 40) (a := 53) (b := i) (by omega)]; exact b10' i hi⟩, fun t ht => by rw [qs_tok (t := 13) (a := 35) (b := t) (by omega), qs_tok (t := 40) (a := 54) (b := t) (by omega)]; exact b11 t ht, by rw [qs_tok (t := 13) (a := 0) (b := 11) (by omega), qs_ne (t := 40) (i := 11) (a := 40) (b := 6) (by omega)]; exact b12, by rw [qs_tok (t := 13) (a := 0) (b := 12) (by omega), qs_ne (t := 40) (i := 11) (a := 40) (b := 7) (by omega)]; exact b12', by rw [qs_tok (t := 13) (a := 0) (b := 13) (by omega), qs_ne (t := 40) (i := 11) (a := 40) (b := 8) (by omega)]; exact b12''⟩
  · rw [qs_same, qs_same]
theorem inv_wipe (h : Inv μ) : Inv (ppS μ 40 11 0) := by
  obtain ⟨i1, i2, ⟨i3, i3'⟩, i4, i5, i6, i7, ⟨i8, i8'⟩, i9, i10, i10', i10''⟩ := h
  refine ⟨fun t ht => by rw [qs_tok (t := 40) (a := 41) (b := t) (by omega), qs_tok (t := 40) (a := 42) (b := t) (by omega), qs_tok (t := 40) (a := 43) (b := t) (by omega)]; exact i1 t ht, fun i hi => by rw [qs_tok (t := 40) (a := 44) (b := i) (by omega)]; exact i2 i hi, ⟨fun i hi => by rw [qs_tok (t := 40) (a := 45) (b := i) (by omega)]; exact i3 i hi, fun a b ha hb => by rw [qs_tok (t := 40) (a := 45) (b := 8 * a + b) (by omega), qs_tok (t := 40) (a := 45) (b := 8 * b + a) (by omega)]; exact i3' a b ha hb⟩, fun i hi => by rw [qs_tok (t := 40) (a := 47) (b := i) (by omega)]; exact i4 i hi, fun t ht => by rw [qs_tok (t := 40) (a := 48) (b := t) (by omega)]; exact i5 t ht, ?_, fun s hs => by rw [qs_tok (t := 40) (a := 67) (b := s) (by omega), qs_tok (t := 40) (a := 68) (b := s) (by omega)]; exact i7 s hs, ⟨by rw [qs_ne (t := 40) (i := 11) (a := 40) (b := 19) (by omega)]; exact i8, fun i hi => by rw [qs_ne (t := 40) (i := 11) (a := 40) (b := 19) (by omega)] at hi; rw [qs_tok (t := 40) (a := 53) (b := i) (by omega)]; exact i8' i hi⟩, fun t ht => by rw [qs_tok (t := 40) (a := 54) (b := t) (by omega)]; exact i9 t ht, by rw [qs_ne (t := 40) (i := 11) (a := 40) (b := 6) (by omega)]; exact i10, by rw [qs_ne (t := 40) (i := 11) (a := 40) (b := 7) (by omega)]; exact i10', by rw [qs_ne (t := 40) (i := 11) (a := 40) (b := 8) (by omega)]; exact i10''⟩
  · rw [qs_same]; unfold bd; decide
theorem h_wipe (hCa : CaOk Ca) (h : Rel Ca σ μ) : ∃ (r : Int32) (σ' μ' : pp_M), f_X8_wipe σ = some (r, σ') ∧ f_X9_wipe μ = some (r, μ') ∧ Rel Ca σ' μ' := by
  refine ⟨μ.1 40 11, ppS σ 13 5 0, ppS μ 40 11 0, ?_, rfl, rel_keep hCa h (base_wipe h.1) (inv_wipe h.2.1) (fr_S (by unfold nK; omega)) (fr_S (by unfold nM; omega))⟩
  unfold f_X8_wipe
  rw [h.1.2.2.2.2.2.1.1]
theorem base_shop (h : Base σ μ) (k : Nat) (x : Int32) : Base (ppS (ppS σ 12 k x) 36 6 0) (ppS μ 48 k x) := by
  obtain ⟨b1, b2, b3, b4, b5, ⟨b6, b6'⟩, b7, b8, b9, ⟨b10, b10'⟩, b11, b12, b12', b12''⟩ := h
  refine ⟨fun t ht w hw => by rw [qs_tok (t := 36) (a := 3) (b := t * 6 + w) (by omega), qs_tok (t := 12) (a := 3) (b := t * 6 + w) (by omega), qs_tok (t := 48) (a := 41 + w) (b := t) (by omega)]; exact b1 t ht w hw, fun t ht l hl => by rw [qs_tok (t := 36) (a := 3) (b := t * 6 + (3 + l)) (by omega), qs_tok (t := 12) (a := 3) (b := t * 6 + (3 + l)) (by omega), qs_tok (t := 48) (a := 44) (b := 3 * t + l) (by omega)]; exact b2 t ht l hl, fun i hi => by rw [qs_tok (t := 36) (a := 6) (b := i) (by omega), qs_tok (t := 12) (a := 6) (b := i) (by omega), qs_tok (t := 48) (a := 45) (b := i) (by omega)]; exact b3 i hi, fun i hi => by rw [qs_tok (t := 36) (a := 11) (b := i) (by omega), qs_tok (t := 12) (a := 11) (b := i) (by omega), qs_tok (t := 48) (a := 47) (b := i) (by omega)]; exact b4 i hi, ?_, ⟨by rw [qs_tok (t := 36) (a := 13) (b := 5) (by omega), qs_tok (t := 12) (a := 13) (b := 5) (by omega), qs_tok (t := 48) (a := 40) (b := 11) (by omega)]; exact b6, fun i hi => by rw [qs_tok (t := 36) (a := 14) (b := i) (by omega), qs_tok (t := 12) (a := 14) (b := i) (by omega), qs_tok (t := 48) (a := 49) (b := i) (by omega)]; exact b6' i hi⟩, fun s hs => by rw [qs_tok (t := 36) (a := 19) (b := s) (by omega), qs_tok (t := 12) (a := 19) (b := s) (by omega), qs_tok (t := 36) (a := 20) (b := s) (by omega), qs_tok (t := 12) (a := 20) (b := s) (by omega), qs_tok (t := 48) (a := 66) (b := s) (by omega), qs_tok (t := 48) (a := 67) (b := s) (by omega), qs_tok (t := 48) (a := 68) (b := s) (by omega)]; exact b7 s hs, fun i hi => by rw [qs_tok (t := 36) (a := 18) (b := i) (by omega), qs_tok (t := 12) (a := 18) (b := i) (by omega), qs_tok (t := 48) (a := 69) (b := i) (by omega)]; exact b8 i hi, by rw [qs_tok (t := 36) (a := 16) (b := 3) (by omega), qs_tok (t := 12) (a := 16) (b := 3) (by omega), qs_tok (t := 48) (a := 40) (b := 47) (by omega)]; exact b9, ⟨by rw [qs_tok (t := 36) (a := 0) (b := 10) (by omega), qs_tok (t := 12) (a := 0) (b := 10) (by omega), qs_tok (t := 48) (a := 40) (b := 19) (by omega)]; exact b10, fun i hi => by rw [qs_tok (t := 36) (a := 34) (b := i) (by omega), qs_tok (t := 12) (a := 34) (b := i) (by omega), qs_tok (t := 48) (a := 53) (b := i) (by omega)]; exact b10' i hi⟩, fun t ht => by rw [qs_tok (t := 36) (a := 35) (b := t) (by omega), qs_tok (t := 12) (a := 35) (b := t) (by omega), qs_tok (t := 48) (a := 54) (b := t) (by omega)]; exact b11 t ht, by rw [qs_tok (t := 36) (a := 0) (b := 11) (by omega), qs_tok (t := 12) (a := 0) (b := 11) (by omega), qs_tok (t := 48) (a := 40) (b := 6) (by omega)]; exact b12, by rw [qs_tok (t := 36) (a := 0) (b := 12) (by omega), qs_tok (t := 12) (a := 0) (b := 12) (by omega), qs_tok (t := 48) (a := 40) (b := 7) (by omega)]; exact b12', by rw [qs_tok (t := 36) (a := 0) (b := 13) (by omega), qs_tok (t := 12) (a := 0) (b := 13) (by omega), qs_tok (t := 48) (a := 40) (b := 8) (by omega)]; exact b12''⟩
  · intro t ht
    rw [qs_tok (t := 36) (a := 12) (by omega)]
    by_cases e : t = k
    · subst e; rw [qs_same, qs_same]
    · rw [qs_ne (fun q => e q.2), qs_ne (fun q => e q.2)]; exact b5 t ht
theorem inv_shop (h : Inv μ) (k : Nat) (x : Int32) (hx : bd x 0 16) : Inv (ppS μ 48 k x) := by
  obtain ⟨i1, i2, ⟨i3, i3'⟩, i4, i5, i6, i7, ⟨i8, i8'⟩, i9, i10, i10', i10''⟩ := h
  refine ⟨fun t ht => by rw [qs_tok (t := 48) (a := 41) (b := t) (by omega), qs_tok (t := 48) (a := 42) (b := t) (by omega), qs_tok (t := 48) (a := 43) (b := t) (by omega)]; exact i1 t ht, fun i hi => by rw [qs_tok (t := 48) (a := 44) (b := i) (by omega)]; exact i2 i hi, ⟨fun i hi => by rw [qs_tok (t := 48) (a := 45) (b := i) (by omega)]; exact i3 i hi, fun a b ha hb => by rw [qs_tok (t := 48) (a := 45) (b := 8 * a + b) (by omega), qs_tok (t := 48) (a := 45) (b := 8 * b + a) (by omega)]; exact i3' a b ha hb⟩, fun i hi => by rw [qs_tok (t := 48) (a := 47) (b := i) (by omega)]; exact i4 i hi, ?_, by rw [qs_tok (t := 48) (a := 40) (b := 11) (by omega)]; exact i6, fun s hs => by rw [qs_tok (t := 48) (a := 67) (b := s) (by omega), qs_tok (t := 48) (a := 68) (b := s) (by omega)]; exact i7 s hs, ⟨by rw [qs_tok (t := 48) (a := 40) (b := 19) (by omega)]; exact i8, fun i hi => by rw [qs_tok (t := 48) (a := 40) (b := 19) (by omega)] at hi; rw [qs_tok (t := 48) (a := 53) (b := i) (by omega)]; exact i8' i hi⟩, fun t ht => by rw [qs_tok (t := 48) (a := 54) (b := t) (by omega)]; exact i9 t ht, by rw [qs_tok (t := 48) (a := 40) (b := 6) (by omega)]; exact i10, by rw [qs_tok (t := 48) (a := 40) (b := 7) (by omega)]; exact i10', by rw [qs_tok (t := 48) (a := 40) (b := 8) (by omega)]; exact i10''⟩
  · intro t ht
    by_cases e : t = k
    · subst e; rw [qs_same]; exact hx
    · rw [qs_ne (fun q => e q.2)]; exact i5 t ht
theorem h_shop (a1 a2 : Int32) (h : Rel Ca σ μ) : ∃ (r : Int32) (σ' μ' : pp_M), f_X8_shop σ a1 a2 = some (r, σ') ∧ f_X9_shop μ a1 a2 = some (r, μ') ∧ Rel Ca σ' μ' := by
  unfold f_X8_shop f_X9_shop
  rw [k_isThing, m_isThing]
  simp only [Option.bind_some]
  by_cases c1 : wi a1 0 5 = 0
  · rw [if_pos c1, if_pos c1]; exact ⟨_, _, _, rfl, rfl, h⟩
  · rw [if_neg c1, if_neg c1, k_within, m_in]
    simp only [Option.bind_some]
    by_cases c2 : wi a2 0 16 = 0
    · rw [if_pos c2, if_pos c2]; exact ⟨_, _, _, rfl, rfl, h⟩
    · rw [if_neg c2, if_neg c2]
      obtain ⟨k, hk, rfl⟩ := wi_of (n := 5) rfl c1
      rw [if_pos (q_ix (by omega) (by omega)), if_pos (q_ix (by omega) (by omega)), q_cl (by omega)]
      refine ⟨_, _, _, rfl, by rw [h.1.2.2.2.2.1 k (by omega)], rel_forget (base_shop h.1 k a2) (inv_shop h.2.1 k a2 (wi_0 c2)) (fun i hi => ?_) (qs_same _ _ _ _) h.2.2.2.2⟩
      rw [qs_tok (t := 36) (a := 8) (by omega), qs_tok (t := 12) (a := 8) (by omega), show (ppS μ 48 k a2).1 45 = μ.1 45 from funext fun j => qs_tok (by omega)]
      exact h.2.2.1 i hi
end SIMPLE
