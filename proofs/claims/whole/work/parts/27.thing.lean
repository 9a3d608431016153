/-! thing -/
section THING
variable {Ca : pp_M → pp_M → Prop} {σ μ : pp_M}
theorem base_th0 (h : Base σ μ) {k : Nat} (hk : k < 6) (x : Int32) : Base (ppS σ 3 (k * 6 + 0) x) (ppS μ 41 k x) := by
  obtain ⟨b1, b2, b3, b4, b5, ⟨b6, b6'⟩, b7, b8, b9, ⟨b10, b10'⟩, b11, b12, b12', b12''⟩ := h
  refine ⟨?_, ?_, fun i hi => by rw [qs_tok (t := 3) (a := 6) (b := i) (by omega), qs_tok (t := 41) (a := 45) (b := i) (by omega)]; exact b3 i hi, fun i hi => by rw [qs_tok (t := 3) (a := 11) (b := i) (by omega), qs_tok (t := 41) (a := 47) (b := i) (by omega)]; exact b4 i hi, fun t ht => by rw [qs_tok (t := 3) (a := 12) (b := t) (by omega), qs_tok (t := 41) (a := 48) (b := t) (by omega)]; exact b5 t ht, ⟨by rw [qs_tok (t := 3) (a := 13) (b := 5) (by omega), qs_tok (t := 41) (a := 40) (b := 11) (by omega)]; exact b6, fun i hi => by rw [qs_tok (t := 3) (a := 14) (b := i) (by omega), qs_tok (t := 41) (a := 49) (b := i) (by omega)]; exact b6' i hi⟩, fun s hs => by rw [qs_tok (t := 3) (a := 19) (b := s) (by omega), qs_tok (t := 3) (a := 20) (b := s) (by omega), qs_tok (t := 41) (a := 66) (b := s) (by omega), qs_tok (t := 41) (a := 67) (b := s) (by omega), qs_tok (t := 41) (a := 68) (b := s) (by omega)]; exact b7 s hs, fun i hi => by rw [qs_tok (t := 3) (a := 18) (b := i) (by omega), qs_tok (t := 41) (a := 69) (b := i) (by omega)]; exact b8 i hi, by rw [qs_tok (t := 3) (a := 16) (b := 3) (by omega), qs_tok (t := 41) (a := 40) (b := 47) (by omega)]; exact b9, ⟨by rw [qs_tok (t := 3) (a := 0) (b := 10) (by omega), qs_tok (t := 41) (a := 40) (b := 19) (by omega)]; exact b10, fun i hi => by rw [qs_tok (t := 3) (a := 34) (b := i) (by omega), qs_tok (t := 41) (a := 53) (b := i) (by omega)]; exact b10' i hi⟩, fun t ht => by rw [qs_tok (t := 3) (a := 35) (b := t) (by omega), qs_tok (t := 41) (a := 54) (b := t) (by omega)]; exact b11 t ht, by rw [qs_tok (t := 3) (a := 0) (b := 11) (by omega), qs_tok (t := 41) (a := 40) (b := 6) (by omega)]; exact b12, by rw [qs_tok (t := 3) (a := 0) (b := 12) (by omega), qs_tok (t := 41) (a := 40) (b := 7) (by omega)]; exact b12', by rw [qs_tok (t := 3) (a := 0) (b := 13) (by omega), qs_tok (t := 41) (a := 40) (b := 8) (by omega)]; exact b12''⟩
  · intro t ht w hw
    by_cases e : t = k ∧ w = 0
    · obtain ⟨rfl, rfl⟩ := e; rw [qs_same, qs_same]
    · rw [qs_ne (t := 3) (i := k * 6 + 0) (a := 3) (b := t * 6 + w) (by omega), qs_ne (t := 41) (i := k) (a := 41 + w) (b := t) (by omega)]; exact b1 t ht w hw
  · intro t ht l hl
    rw [qs_ne (t := 3) (i := k * 6 + 0) (a := 3) (b := t * 6 + (3 + l)) (by omega), qs_tok (t := 41) (a := 44) (b := 3 * t + l) (by omega)]; exact b2 t ht l hl
theorem inv_th0 (h : Inv μ) (k : Nat) (x : Int32) (hx : bd x 0 99) : Inv (ppS μ 41 k x) := by
  obtain ⟨i1, i2, ⟨i3, i3'⟩, i4, i5, i6, i7, ⟨i8, i8'⟩, i9, i10, i10', i10''⟩ := h
  refine ⟨?_, fun i hi => by rw [qs_tok (t := 41) (a := 44) (b := i) (by omega)]; exact i2 i hi, ⟨fun i hi => by rw [qs_tok (t := 41) (a := 45) (b := i) (by omega)]; exact i3 i hi, fun a b ha hb => by rw [qs_tok (t := 41) (a := 45) (b := 8 * a + b) (by omega), qs_tok (t := 41) (a := 45) (b := 8 * b + a) (by omega)]; exact i3' a b ha hb⟩, fun i hi => by rw [qs_tok (t := 41) (a := 47) (b := i) (by omega)]; exact i4 i hi, fun t ht => by rw [qs_tok (t := 41) (a := 48) (b := t) (by omega)]; exact i5 t ht, by rw [qs_tok (t := 41) (a := 40) (b := 11) (by omega)]; exact i6, fun s hs => by rw [qs_tok (t := 41) (a := 67) (b := s) (by omega), qs_tok (t := 41) (a := 68) (b := s) (by omega)]; exact i7 s hs, ⟨by rw [qs_tok (t := 41) (a := 40) (b := 19) (by omega)]; exact i8, fun i hi => by rw [qs_tok (t := 41) (a := 40) (b := 19) (by omega)] at hi; rw [qs_tok (t := 41) (a := 53) (b := i) (by omega)]; exact i8' i hi⟩, fun t ht => by rw [qs_tok (t := 41) (a := 54) (b := t) (by omega)]; exact i9 t ht, by rw [qs_tok (t := 41) (a := 40) (b := 6) (by omega)]; exact i10, by rw [qs_tok (t := 41) (a := 40) (b := 7) (by omega)]; exact i10', by rw [qs_tok (t := 41) (a := 40) (b := 8) (by omega)]; exact i10''⟩
  · intro t ht
    by_cases e : t = k
    · subst e
      exact ⟨by rw [qs_same]; exact hx, by rw [qs_tok (t := 41) (a := 42) (by omega)]; exact (i1 t ht).2.1, by rw [qs_tok (t := 41) (a := 43) (by omega)]; exact (i1 t ht).2.2⟩
    · exact ⟨by rw [qs_ne (fun z => e z.2)]; exact (i1 t ht).1, by rw [qs_tok (t := 41) (a := 42) (by omega)]; exact (i1 t ht).2.1, by rw [qs_tok (t := 41) (a := 43) (by omega)]; exact (i1 t ht).2.2⟩
theorem base_th1 (h : Base σ μ) {k : Nat} (hk : k < 6) (x : Int32) : Base (ppS σ 3 (k * 6 + 1) x) (ppS μ 42 k x) := by
  obtain ⟨b1, b2, b3, b4, b5, ⟨b6, b6'⟩, b7, b8, b9, ⟨b10, b10'⟩, b11, b12, b12', b12''⟩ := h
  refine ⟨?_, ?_, fun i hi => by rw [qs_tok (t := 3) (a := 6) (b := i) (by omega), qs_tok (t := 42) (a := 45) (b := i) (by omega)]; exact b3 i hi, fun i hi => by rw [qs_tok (t := 3) (a := 11) (b := i) (by omega), qs_tok (t := 42) (a := 47) (b := i) (by omega)]; exact b4 i hi, fun t ht => by rw [qs_tok (t := 3) (a := 12) (b := t) (by omega), qs_tok (t := 42) (a := 48) (b := t) (by omega)]; exact b5 t ht, ⟨by rw [qs_tok (t := 3) (a := 13) (b := 5) (by omega), qs_tok (t := 42) (a := 40) (b := 11) (by omega)]; exact b6, fun i hi => by rw [qs_tok (t := 3) (a := 14) (b := i) (by omega), qs_tok (t := 42) (a := 49) (b := i) (by omega)]; exact b6' i hi⟩, fun s hs => by rw [qs_tok (t := 3) (a := 19) (b := s) (by omega), qs_tok (t := 3) (a := 20) (b := s) (by omega), qs_tok (t := 42) (a := 66) (b := s) (by omega), qs_tok (t := 42) (a := 67) (b := s) (by omega), qs_tok (t := 42) (a := 68) (b := s) (by omega)]; exact b7 s hs, fun i hi => by rw [qs_tok (t := 3) (a := 18) (b := i) (by omega), qs_tok (t := 42) (a := 69) (b := i) (by omega)]; exact b8 i hi, by rw [qs_tok (t := 3) (a := 16) (b := 3) (by omega), qs_tok (t := 42) (a := 40) (b := 47) (by omega)]; exact b9, ⟨by rw [qs_tok (t := 3) (a := 0) (b := 10) (by omega), qs_tok (t := 42) (a := 40) (b := 19) (by omega)]; exact b10, fun i hi => by rw [qs_tok (t := 3) (a := 34) (b := i) (by omega), qs_tok (t := 42) (a := 53) (b := i) (by omega)]; exact b10' i hi⟩, fun t ht => by rw [qs_tok (t := 3) (a := 35) (b := t) (by omega), qs_tok (t := 42) (a := 54) (b := t) (by omega)]; exact b11 t ht, by rw [qs_tok (t := 3) (a := 0) (b := 11) (by omega), qs_tok (t := 42) (a := 40) (b := 6) (by omega)]; exact b12, by rw [qs_tok (t := 3) (a := 0) (b := 12) (by omega), qs_tok (t := 42) (a := 40) (b := 7) (by omega)]; exact b12', by rw [qs_tok (t := 3) (a := 0) (b := 13) (by omega), qs_tok (t := 42) (a := 40) (b := 8) (by omega)]; exact b12''⟩
  · intro t ht w hw
    by_cases e : t = k ∧ w = 1
    · obtain ⟨rfl, rfl⟩ := e; rw [qs_same, qs_same]
    · rw [qs_ne (t := 3) (i := k * 6 + 1) (a := 3) (b := t * 6 + w) (by omega), qs_ne (t := 42) (i := k) (a := 41 + w) (b := t) (by omega)]; exact b1 t ht w hw
  · intro t ht l hl
    rw [qs_ne (t := 3) (i := k * 6 + 1) (a := 3) (b := t * 6 + (3 + l)) (by omega), qs_tok (t := 42) (a := 44) (b := 3 * t + l) (by omega)]; exact b2 t ht l hl
theorem inv_th1 (h : Inv μ) (k : Nat) (x : Int32) (hx : bd x 1 20) : Inv (ppS μ 42 k x) := by
  obtain ⟨i1, i2, ⟨i3, i3'⟩, i4, i5, i6, i7, ⟨i8, i8'⟩, i9, i10, i10', i10''⟩ := h
  refine ⟨?_, fun i hi => by rw [qs_tok (t := 42) (a := 44) (b := i) (by omega)]; exact i2 i hi, ⟨fun i hi => by rw [qs_tok (t := 42) (a := 45) (b := i) (by omega)]; exact i3 i hi, fun a b ha hb => by rw [qs_tok (t := 42) (a := 45) (b := 8 * a + b) (by omega), qs_tok (t := 42) (a := 45) (b := 8 * b + a) (by omega)]; exact i3' a b ha hb⟩, fun i hi => by rw [qs_tok (t := 42) (a := 47) (b := i) (by omega)]; exact i4 i hi, fun t ht => by rw [qs_tok (t := 42) (a := 48) (b := t) (by omega)]; exact i5 t ht, by rw [qs_tok (t := 42) (a := 40) (b := 11) (by omega)]; exact i6, fun s hs => by rw [qs_tok (t := 42) (a := 67) (b := s) (by omega), qs_tok (t := 42) (a := 68) (b := s) (by omega)]; exact i7 s hs, ⟨by rw [qs_tok (t := 42) (a := 40) (b := 19) (by omega)]; exact i8, fun i hi => by rw [qs_tok (t := 42) (a := 40) (b := 19) (by omega)] at hi; rw [qs_tok (t := 42) (a := 53) (b := i) (by omega)]; exact i8' i hi⟩, fun t ht => by rw [qs_tok (t := 42) (a := 54) (b := t) (by omega)]; exact i9 t ht, by rw [qs_tok (t := 42) (a := 40) (b := 6) (by omega)]; exact i10, by rw [qs_tok (t := 42) (a := 40) (b := 7) (by omega)]; exact i10', by rw [qs_tok (t := 42) (a := 40) (b := 8) (by omega)]; exact i10''⟩
  · intro t ht
    by_cases e : t = k
    · subst e
      exact ⟨by rw [qs_tok (t := 42) (a := 41) (by omega)]; exact (i1 t ht).1, by rw [qs_same]; exact hx, by rw [qs_tok (t := 42) (a := 43) (by omega)]; exact (i1 t ht).2.2⟩
    · exact ⟨by rw [qs_tok (t := 42) (a := 41) (by omega)]; exact (i1 t ht).1, by rw [qs_ne (fun z => e z.2)]; exact (i1 t ht).2.1, by rw [qs_tok (t := 42) (a := 43) (by omega)]; exact (i1 t ht).2.2⟩
theorem base_th2 (h : Base σ μ) {k : Nat} (hk : k < 6) (x : Int32) : Base (ppS σ 3 (k * 6 + 2) x) (ppS μ 43 k x) := by
  obtain ⟨b1, b2, b3, b4, b5, ⟨b6, b6'⟩, b7, b8, b9, ⟨b10, b10'⟩, b11, b12, b12', b12''⟩ := h
  refine ⟨?_, ?_, fun i hi => by rw [qs_tok (t := 3) (a := 6) (b := i) (by omega), qs_tok (t := 43) (a := 45) (b := i) (by omega)]; exact b3 i hi, fun i hi => by rw [qs_tok (t := 3) (a := 11) (b := i) (by omega), qs_tok (t := 43) (a := 47) (b := i) (by omega)]; exact b4 i hi, fun t ht => by rw [qs_tok (t := 3) (a := 12) (b := t) (by omega), qs_tok (t := 43) (a := 48) (b := t) (by omega)]; exact b5 t ht, ⟨by rw [qs_tok (t := 3) (a := 13) (b := 5) (by omega), qs_tok (t := 43) (a := 40) (b := 11) (by omega)]; exact b6, fun i hi => by rw [qs_tok (t := 3) (a := 14) (b := i) (by omega), qs_tok (t := 43) (a := 49) (b := i) (by omega)]; exact b6' i hi⟩, fun s hs => by rw [qs_tok (t := 3) (a := 19) (b := s) (by omega), qs_tok (t := 3) (a := 20) (b := s) (by omega), qs_tok (t := 43) (a := 66) (b := s) (by omega), qs_tok (t := 43) (a := 67) (b := s) (by omega), qs_tok (t := 43) (a := 68) (b := s) (by omega)]; exact b7 s hs, fun i hi => by rw [qs_tok (t := 3) (a := 18) (b := i) (by omega), qs_tok (t := 43) (a := 69) (b := i) (by omega)]; exact b8 i hi, by rw [qs_tok (t := 3) (a := 16) (b := 3) (by omega), qs_tok (t := 43) (a := 40) (b := 47) (by omega)]; exact b9, ⟨by rw [qs_tok (t := 3) (a := 0) (b := 10) (by omega), qs_tok (t := 43) (a := 40) (b := 19) (by omega)]; exact b10, fun i hi => by rw [qs_tok (t := 3) (a := 34) (b := i) (by omega), qs_tok (t := 43) (a := 53) (b := i) (by omega)]; exact b10' i hi⟩, fun t ht => by rw [qs_tok (t := 3) (a := 35) (b := t) (by omega), qs_tok (t := 43) (a := 54) (b := t) (by omega)]; exact b11 t ht, by rw [qs_tok (t := 3) (a := 0) (b := 11) (by omega), qs_tok (t := 43) (a := 40) (b := 6) (by omega)]; exact b12, by rw [qs_tok (t := 3) (a := 0) (b := 12) (by omega), qs_tok (t := 43) (a := 40) (b := 7) (by omega)]; exact b12', by rw [qs_tok (t := 3) (a := 0) (b := 13) (by omega), qs_tok (t := 43) (a := 40) (b := 8) (by omega)]; exact b12''⟩
  · intro t ht w hw
    by_cases e : t = k ∧ w = 2
    · obtain ⟨rfl, rfl⟩ := e; rw [qs_same, qs_same]
    · rw [qs_ne (t := 3) (i := k * 6 + 2) (a := 3) (b := t * 6 + w) (by omega), qs_ne (t := 43) (i := k) (a := 41 + w) (b := t) (by omega)]; exact b1 t ht w hw
  · intro t ht l hl
    rw [qs_ne (t := 3) (i := k * 6 + 2) (a := 3) (b := t * 6 + (3 + l)) (by omega), qs_tok (t := 43) (a := 44) (b := 3 * t + l) (by omega)]; exact b2 t ht l hl
theorem inv_th2 (h : Inv μ) (k : Nat) (x : Int32) (hx : bd x 0 99) : Inv (ppS μ 43 k x) := by
  obtain ⟨i1, i2, ⟨i3, i3'⟩, i4, i5, i6, i7, ⟨i8, i8'⟩, i9, i10, i10', i10''⟩ := h
  refine ⟨?_, fun i hi => by rw [qs_tok (t := 43) (a := 44) (b := i) (by omega)]; exact i2 i hi, ⟨fun i hi => by rw [qs_tok (t := 43) (a := 45) (b := i) (by omega)]; exact i3 i hi, fun a b ha hb => by rw [qs_tok (t := 43) (a := 45) (b := 8 * a + b) (by omega), qs_tok (t := 43) (a := 45) (b := 8 * b + a) (by omega)]; exact i3' a b ha hb⟩, fun i hi => by rw [qs_tok (t := 43) (a := 47) (b := i) (by omega)]; exact i4 i hi, fun t ht => by rw [qs_tok (t := 43) (a := 48) (b := t) (by omega)]; exact i5 t ht, by rw [qs_tok (t := 43) (a := 40) (b := 11) (by omega)]; exact i6, fun s hs => by rw [qs_tok (t := 43) (a := 67) (b := s) (by omega), qs_tok (t := 43) (a := 68) (b := s) (by omega)]; exact i7 s hs, ⟨by rw [qs_tok (t := 43) (a := 40) (b := 19) (by omega)]; exact i8, fun i hi => by rw [qs_tok (t := 43) (a := 40) (b := 19) (by omega)] at hi; rw [qs_tok (t := 43) (a := 53) (b := i) (by omega)]; exact i8' i hi⟩, fun t ht => by rw [qs_tok (t := 43) (a := 54) (b := t) (by omega)]; exact i9 t ht, by rw [qs_tok (t := 43) (a := 40) (b := 6) (by omega)]; exact i10, by rw [qs_tok (t := 43) (a := 40) (b := 7) (by omega)]; exact i10', by rw [qs_tok (t := 43) (a := 40) (b := 8) (by omega)]; exact i10''⟩
  · intro t ht
    by_cases e : t = k
    · subst e
      exact ⟨by rw [qs_tok (t := 43) (a := 41) (by omega)]; exact (i1 t ht).1, by rw [qs_tok (t := 43) (a := 42) (by omega)]; exact (i1 t ht).2.1, by rw [qs_same]; exact hx⟩
    · exact ⟨by rw [qs_tok (t := 43) (a := 41) (by omega)]; exact (i1 t ht).1, by rw [qs_tok (t := 43) (a := 42) (by omega)]; exact (i1 t ht).2.1, by rw [qs_ne (fun z => e z.2)]; exact (i1 t ht).2.2⟩
theorem base_thp (h : Base σ μ) {k m : Nat} (hk : k < 6) (hm : m < 3) (x : Int32) : Base (ppS σ 3 (k * 6 + (3 + m)) x) (ppS μ 44 (3 * k + m) x) := by
  obtain ⟨b1, b2, b3, b4, b5, ⟨b6, b6'⟩, b7, b8, b9, ⟨b10, b10'⟩, b11, b12, b12', b12''⟩ := h
  refine ⟨?_, ?_, fun i hi => by rw [qs_tok (t := 3) (a := 6) (b := i) (by omega), qs_tok (t := 44) (a := 45) (b := i) (by omega)]; exact b3 i hi, fun i hi => by rw [qs_tok (t := 3) (a := 11) (b := i) (by omega), qs_tok (t := 44) (a := 47) (b := i) (by omega)]; exact b4 i hi, fun t ht => by rw [qs_tok (t := 3) (a := 12) (b := t) (by omega), qs_tok (t := 44) (a := 48) (b := t) (by omega)]; exact b5 t ht, ⟨by rw [qs_tok (t := 3) (a := 13) (b := 5) (by omega), qs_tok (t := 44) (a := 40) (b := 11) (by omega)]; exact b6, fun i hi => by rw [qs_tok (t := 3) (a := 14) (b := i) (by omega), qs_tok (t := 44) (a := 49) (b := i) (by omega)]; exact b6' i hi⟩, fun s hs => by rw [qs_tok (t := 3) (a := 19) (b := s) (by omega), qs_tok (t := 3) (a := 20) (b := s) (by omega), qs_tok (t := 44) (a := 66) (b := s) (by omega), qs_tok (t := 44) (a := 67) (b := s) (by omega), qs_tok (t := 44) (a := 68) (b := s) (by omega)]; exact b7 s hs, fun i hi => by rw [qs_tok (t := 3) (a := 18) (b := i) (by omega), qs_tok (t := 44) (a := 69) (b := i) (by omega)]; exact b8 i hi, by rw [qs_tok (t := 3) (a := 16) (b := 3) (by omega), qs_tok (t := 44) (a := 40) (b := 47) (by omega)]; exact b9, ⟨by rw [qs_tok (t := 3) (a := 0) (b := 10) (by omega), qs_tok (t := 44) (a := 40) (b := 19) (by omega)]; exact b10, fun i hi => by rw [qs_tok (t := 3) (a := 34) (b := i) (by omega), qs_tok (t := 44) (a := 53) (b := i) (by omega)]; exact b10' i hi⟩, fun t ht => by rw [qs_tok (t := 3) (a := 35) (b := t) (by omega), qs_tok (t := 44) (a := 54) (b := t) (by omega)]; exact b11 t ht, by rw [qs_tok (t := 3) (a := 0) (b := 11) (by omega), qs_tok (t := 44) (a := 40) (b := 6) (by omega)]; exact b12, by rw [qs_tok (t := 3) (a := 0) (b := 12) (by omega), qs_tok (t := 44) (a := 40) (b := 7) (by omega)]; exact b12', by rw [qs_tok (t := 3) (a := 0) (b := 13) (by omega), qs_tok (t := 44) (a := 40) (b := 8) (by omega)]; exact b12''⟩
  · intro t ht w hw
    rw [qs_ne (t := 3) (i := k * 6 + (3 + m)) (a := 3) (b := t * 6 + w) (by omega), qs_tok (t := 44) (a := 41 + w) (b := t) (by omega)]; exact b1 t ht w hw
  · intro t ht l hl
    by_cases e : t = k ∧ l = m
    · obtain ⟨rfl, rfl⟩ := e; rw [qs_same, qs_same]
    · rw [qs_ne (t := 3) (i := k * 6 + (3 + m)) (a := 3) (b := t * 6 + (3 + l)) (by omega), qs_ne (t := 44) (i := 3 * k + m) (a := 44) (b := 3 * t + l) (by omega)]; exact b2 t ht l hl
theorem inv_thp (h : Inv μ) (p : Nat) (x : Int32) (hx : bd x 0 99) : Inv (ppS μ 44 p x) := by
  obtain ⟨i1, i2, ⟨i3, i3'⟩, i4, i5, i6, i7, ⟨i8, i8'⟩, i9, i10, i10', i10''⟩ := h
  refine ⟨fun t ht => by rw [qs_tok (t := 44) (a := 41) (b := t) (by omega), qs_tok (t := 44) (a := 42) (b := t) (by omega), qs_tok (t := 44) (a := 43) (b := t) (by omega)]; exact i1 t ht, ?_, ⟨fun i hi => by rw [qs_tok (t := 44) (a := 45) (b := i) (by omega)]; exact i3 i hi, fun a b ha hb => by rw [qs_tok (t := 44) (a := 45) (b := 8 * a + b) (by omega), qs_tok (t := 44) (a := 45) (b := 8 * b + a) (by omega)]; exact i3' a b ha hb⟩, fun i hi => by rw [qs_tok (t := 44) (a := 47) (b := i) (by omega)]; exact i4 i hi, fun t ht => by rw [qs_tok (t := 44) (a := 48) (b := t) (by omega)]; exact i5 t ht, by rw [qs_tok (t := 44) (a := 40) (b := 11) (by omega)]; exact i6, fun s hs => by rw [qs_tok (t := 44) (a := 67) (b := s) (by omega), qs_tok (t := 44) (a := 68) (b := s) (by omega)]; exact i7 s hs, ⟨by rw [qs_tok (t := 44) (a := 40) (b := 19) (by omega)]; exact i8, fun i hi => by rw [qs_tok (t := 44) (a := 40) (b := 19) (by omega)] at hi; rw [qs_tok (t := 44) (a := 53) (b := i) (by omega)]; exact i8' i hi⟩, fun t ht => by rw [qs_tok (t := 44) (a := 54) (b := t) (by omega)]; exact i9 t ht, by rw [qs_tok (t := 44) (a := 40) (b := 6) (by omega)]; exact i10, by rw [qs_tok (t := 44) (a := 40) (b := 7) (by omega)]; exact i10', by rw [qs_tok (t := 44) (a := 40) (b := 8) (by omega)]; exact i10''⟩
  · intro i hi
    by_cases e : i = p
    · subst e; rw [qs_same]; exact hx
    · rw [qs_ne (fun z => e z.2)]; exact i2 i hi
theorem q_sub {a b : Nat} (h : b ≤ a) : nI a - nI b = nI (a - b) := pk_sub h
theorem k_th0 {k : Nat} (hk : k < 6) (a3 : Int32) : f_X8_thing σ (nI k) (nI 0) a3 = if wi a3 0 99 = 0 then some (-2, σ) else some (σ.1 3 (k * 6 + 0), ppS (ppS σ 3 (k * 6 + 0) a3) 36 6 0) := by
  unfold f_X8_thing f_X1_mayBe f_X1_mayBe_32 f_X1_mayBe_57 f_X1_mayBe_59
  have d1 : ¬ wi (nI k) 0 5 = 0 := by rw [wi_1 (by rw [nI_toInt (by omega)]; show (0 : Int) ≤ _; omega) (by rw [nI_toInt (by omega)]; show _ ≤ (5 : Int); omega)]; decide
  have d2 : ¬ wi (nI 0) 0 5 = 0 := by decide
  have i1 : pp_ix (nI k) 6 := q_ix (by omega) (by omega)
  have j1 : (nI k).toNatClampNeg = k := q_cl (by omega)
  have i2 : pp_ix (nI 0) 6 := q_ix (by omega) (by omega)
  have j2 : (nI 0).toNatClampNeg = 0 := q_cl (by omega)
  simp only [k_isThing, k_within, Option.bind_some, if_neg d1, if_neg d2, if_pos i1, if_pos i2, j1, j2, if_pos (wi_b _ _ _), f_X6_forget, if_neg (show ¬ nI 0 = (1 : Int32) by decide), if_neg (show ¬ (3 : Int32) < nI 0 by decide), if_pos (show nI 0 < (3 : Int32) by decide)]
theorem k_th1 {k : Nat} (hk : k < 6) (a3 : Int32) : f_X8_thing σ (nI k) (nI 1) a3 = if wi a3 1 20 = 0 then some (-2, σ) else some (σ.1 3 (k * 6 + 1), ppS (ppS σ 3 (k * 6 + 1) a3) 36 6 0) := by
  unfold f_X8_thing f_X1_mayBe
  have d1 : ¬ wi (nI k) 0 5 = 0 := by rw [wi_1 (by rw [nI_toInt (by omega)]; show (0 : Int) ≤ _; omega) (by rw [nI_toInt (by omega)]; show _ ≤ (5 : Int); omega)]; decide
  have d2 : ¬ wi (nI 1) 0 5 = 0 := by decide
  have i1 : pp_ix (nI k) 6 := q_ix (by omega) (by omega)
  have j1 : (nI k).toNatClampNeg = k := q_cl (by omega)
  have i2 : pp_ix (nI 1) 6 := q_ix (by omega) (by omega)
  have j2 : (nI 1).toNatClampNeg = 1 := q_cl (by omega)
  simp only [k_isThing, k_within, Option.bind_some, if_neg d1, if_neg d2, if_pos i1, if_pos i2, j1, j2, if_pos (wi_b _ _ _), f_X6_forget, if_pos (show nI 1 = (1 : Int32) by decide)]
theorem k_th2 {k : Nat} (hk : k < 6) (a3 : Int32) : f_X8_thing σ (nI k) (nI 2) a3 = if wi a3 0 99 = 0 then some (-2, σ) else some (σ.1 3 (k * 6 + 2), ppS (ppS σ 3 (k * 6 + 2) a3) 36 6 0) := by
  unfold f_X8_thing f_X1_mayBe f_X1_mayBe_32 f_X1_mayBe_57 f_X1_mayBe_59
  have d1 : ¬ wi (nI k) 0 5 = 0 := by rw [wi_1 (by rw [nI_toInt (by omega)]; show (0 : Int) ≤ _; omega) (by rw [nI_toInt (by omega)]; show _ ≤ (5 : Int); omega)]; decide
  have d2 : ¬ wi (nI 2) 0 5 = 0 := by decide
  have i1 : pp_ix (nI k) 6 := q_ix (by omega) (by omega)
  have j1 : (nI k).toNatClampNeg = k := q_cl (by omega)
  have i2 : pp_ix (nI 2) 6 := q_ix (by omega) (by omega)
  have j2 : (nI 2).toNatClampNeg = 2 := q_cl (by omega)
  simp only [k_isThing, k_within, Option.bind_some, if_neg d1, if_neg d2, if_pos i1, if_pos i2, j1, j2, if_pos (wi_b _ _ _), f_X6_forget, if_neg (show ¬ nI 2 = (1 : Int32) by decide), if_neg (show ¬ (3 : Int32) < nI 2 by decide), if_pos (show nI 2 < (3 : Int32) by decide)]
theorem k_th3 {k : Nat} (hk : k < 6) (a3 : Int32) : f_X8_thing σ (nI k) (nI 3) a3 = if wi a3 0 (σ.1 3 (k * 6 + 4)) = 0 then some (-2, σ) else some (σ.1 3 (k * 6 + 3), ppS (ppS σ 3 (k * 6 + 3) a3) 36 6 0) := by
  unfold f_X8_thing f_X1_mayBe f_X1_mayBe_32 f_X1_mayBe_57 f_X1_mayBe_59
  have d1 : ¬ wi (nI k) 0 5 = 0 := by rw [wi_1 (by rw [nI_toInt (by omega)]; show (0 : Int) ≤ _; omega) (by rw [nI_toInt (by omega)]; show _ ≤ (5 : Int); omega)]; decide
  have d2 : ¬ wi (nI 3) 0 5 = 0 := by decide
  have i1 : pp_ix (nI k) 6 := q_ix (by omega) (by omega)
  have j1 : (nI k).toNatClampNeg = k := q_cl (by omega)
  have i2 : pp_ix (nI 3) 6 := q_ix (by omega) (by omega)
  have j2 : (nI 3).toNatClampNeg = 3 := q_cl (by omega)
  have e4 : nI 3 + (1 : Int32) = nI 4 := by decide
  have i4 : pp_ix (nI 4) 6 := q_ix (by omega) (by omega)
  have j4 : (nI 4).toNatClampNeg = 4 := q_cl (by omega)
  simp only [k_isThing, k_within, Option.bind_some, if_neg d1, if_neg d2, if_pos i1, if_pos i2, j1, j2, if_pos (wi_b _ _ _), f_X6_forget, if_neg (show ¬ nI 3 = (1 : Int32) by decide), if_neg (show ¬ (3 : Int32) < nI 3 by decide), if_neg (show ¬ nI 3 < (3 : Int32) by decide), if_pos (show nI 3 < (5 : Int32) by decide), e4, if_pos i4, j4]
theorem k_th4 {k : Nat} (hk : k < 6) (a3 : Int32) : f_X8_thing σ (nI k) (nI 4) a3 = if wi a3 (σ.1 3 (k * 6 + 3)) (σ.1 3 (k * 6 + 5)) = 0 then some (-2, σ) else some (σ.1 3 (k * 6 + 4), ppS (ppS σ 3 (k * 6 + 4) a3) 36 6 0) := by
  unfold f_X8_thing f_X1_mayBe f_X1_mayBe_32 f_X1_mayBe_57 f_X1_mayBe_59
  have d1 : ¬ wi (nI k) 0 5 = 0 := by rw [wi_1 (by rw [nI_toInt (by omega)]; show (0 : Int) ≤ _; omega) (by rw [nI_toInt (by omega)]; show _ ≤ (5 : Int); omega)]; decide
  have d2 : ¬ wi (nI 4) 0 5 = 0 := by decide
  have i1 : pp_ix (nI k) 6 := q_ix (by omega) (by omega)
  have j1 : (nI k).toNatClampNeg = k := q_cl (by omega)
  have i2 : pp_ix (nI 4) 6 := q_ix (by omega) (by omega)
  have j2 : (nI 4).toNatClampNeg = 4 := q_cl (by omega)
  have e3 : nI 4 - (1 : Int32) = nI 3 := by decide
  have i3 : pp_ix (nI 3) 6 := q_ix (by omega) (by omega)
  have j3 : (nI 3).toNatClampNeg = 3 := q_cl (by omega)
  have e4 : nI 4 + (1 : Int32) = nI 5 := by decide
  have i4 : pp_ix (nI 5) 6 := q_ix (by omega) (by omega)
  have j4 : (nI 5).toNatClampNeg = 5 := q_cl (by omega)
  simp only [k_isThing, k_within, Option.bind_some, if_neg d1, if_neg d2, if_pos i1, if_pos i2, j1, j2, if_pos (wi_b _ _ _), f_X6_forget, if_neg (show ¬ nI 4 = (1 : Int32) by decide), if_pos (show (3 : Int32) < nI 4 by decide), if_neg (show ¬ nI 4 < (3 : Int32) by decide), if_pos (show nI 4 < (5 : Int32) by decide), e3, if_pos i3, j3, e4, if_pos i4, j4]
theorem k_th5 {k : Nat} (hk : k < 6) (a3 : Int32) : f_X8_thing σ (nI k) (nI 5) a3 = if wi a3 (σ.1 3 (k * 6 + 4)) 99 = 0 then some (-2, σ) else some (σ.1 3 (k * 6 + 5), ppS (ppS σ 3 (k * 6 + 5) a3) 36 6 0) := by
  unfold f_X8_thing f_X1_mayBe f_X1_mayBe_32 f_X1_mayBe_57 f_X1_mayBe_59
  have d1 : ¬ wi (nI k) 0 5 = 0 := by rw [wi_1 (by rw [nI_toInt (by omega)]; show (0 : Int) ≤ _; omega) (by rw [nI_toInt (by omega)]; show _ ≤ (5 : Int); omega)]; decide
  have d2 : ¬ wi (nI 5) 0 5 = 0 := by decide
  have i1 : pp_ix (nI k) 6 := q_ix (by omega) (by omega)
  have j1 : (nI k).toNatClampNeg = k := q_cl (by omega)
  have i2 : pp_ix (nI 5) 6 := q_ix (by omega) (by omega)
  have j2 : (nI 5).toNatClampNeg = 5 := q_cl (by omega)
  have e3 : nI 5 - (1 : Int32) = nI 4 := by decide
  have i3 : pp_ix (nI 4) 6 := q_ix (by omega) (by omega)
  have j3 : (nI 4).toNatClampNeg = 4 := q_cl (by omega)
  simp only [k_isThing, k_within, Option.bind_some, if_neg d1, if_neg d2, if_pos i1, if_pos i2, j1, j2, if_pos (wi_b _ _ _), f_X6_forget, if_neg (show ¬ nI 5 = (1 : Int32) by decide), if_pos (show (3 : Int32) < nI 5 by decide), if_neg (show ¬ nI 5 < (3 : Int32) by decide), if_neg (show ¬ nI 5 < (5 : Int32) by decide), e3, if_pos i3, j3]
theorem m_th0 {k : Nat} (hk : k < 6) (a3 : Int32) : f_X9_thing μ (nI k) (nI 0) a3 = if wi a3 0 99 = 0 then some (-2, μ) else some (μ.1 41 k, ppS μ 41 k a3) := by
  unfold f_X9_thing f_X9_thing_49 f_X9_thing_86 f_X9_thing_88 f_X9_thingNow f_X9_thing_131 f_X9_thing_152 f_X9_thing_173
  have d1 : ¬ wi (nI k) 0 5 = 0 := by rw [wi_1 (by rw [nI_toInt (by omega)]; show (0 : Int) ≤ _; omega) (by rw [nI_toInt (by omega)]; show _ ≤ (5 : Int); omega)]; decide
  have d2 : ¬ wi (nI 0) 0 5 = 0 := by decide
  have i1 : pp_ix (nI k) 6 := q_ix (by omega) (by omega)
  have j1 : (nI k).toNatClampNeg = k := q_cl (by omega)
  simp only [m_isThing, m_in, Option.bind_some, if_neg d1, if_neg d2, if_pos i1, j1, qs_id, if_neg (show ¬ nI 0 = (1 : Int32) by decide), if_neg (show ¬ (2 : Int32) < nI 0 by decide), if_pos (show nI 0 = (0 : Int32) by decide), if_neg (show ¬ nI 0 = (2 : Int32) by decide), if_neg (show ¬ (3 : Int32) < nI 0 by decide)]
theorem m_th1 {k : Nat} (hk : k < 6) (a3 : Int32) : f_X9_thing μ (nI k) (nI 1) a3 = if wi a3 1 20 = 0 then some (-2, μ) else some (μ.1 42 k, ppS μ 42 k a3) := by
  unfold f_X9_thing f_X9_thing_49 f_X9_thing_86 f_X9_thing_88 f_X9_thingNow f_X9_thing_131 f_X9_thing_152 f_X9_thing_173
  have d1 : ¬ wi (nI k) 0 5 = 0 := by rw [wi_1 (by rw [nI_toInt (by omega)]; show (0 : Int) ≤ _; omega) (by rw [nI_toInt (by omega)]; show _ ≤ (5 : Int); omega)]; decide
  have d2 : ¬ wi (nI 1) 0 5 = 0 := by decide
  have i1 : pp_ix (nI k) 6 := q_ix (by omega) (by omega)
  have j1 : (nI k).toNatClampNeg = k := q_cl (by omega)
  simp only [m_isThing, m_in, Option.bind_some, if_neg d1, if_neg d2, if_pos i1, j1, qs_id, if_pos (show nI 1 = (1 : Int32) by decide), if_neg (show ¬ (2 : Int32) < nI 1 by decide), if_neg (show ¬ nI 1 = (0 : Int32) by decide), if_neg (show ¬ nI 1 = (2 : Int32) by decide)]
theorem m_th2 {k : Nat} (hk : k < 6) (a3 : Int32) : f_X9_thing μ (nI k) (nI 2) a3 = if wi a3 0 99 = 0 then some (-2, μ) else some (μ.1 43 k, ppS μ 43 k a3) := by
  unfold f_X9_thing f_X9_thing_49 f_X9_thing_86 f_X9_thing_88 f_X9_thingNow f_X9_thing_131 f_X9_thing_152 f_X9_thing_173
  have d1 : ¬ wi (nI k) 0 5 = 0 := by rw [wi_1 (by rw [nI_toInt (by omega)]; show (0 : Int) ≤ _; omega) (by rw [nI_toInt (by omega)]; show _ ≤ (5 : Int); omega)]; decide
  have d2 : ¬ wi (nI 2) 0 5 = 0 := by decide
  have i1 : pp_ix (nI k) 6 := q_ix (by omega) (by omega)
  have j1 : (nI k).toNatClampNeg = k := q_cl (by omega)
  simp only [m_isThing, m_in, Option.bind_some, if_neg d1, if_neg d2, if_pos i1, j1, qs_id, if_neg (show ¬ nI 2 = (1 : Int32) by decide), if_neg (show ¬ (2 : Int32) < nI 2 by decide), if_neg (show ¬ nI 2 = (0 : Int32) by decide), if_pos (show nI 2 = (2 : Int32) by decide), if_neg (show ¬ (3 : Int32) < nI 2 by decide)]
theorem m_th3 {k : Nat} (hk : k < 6) (a3 : Int32) : f_X9_thing μ (nI k) (nI 3) a3 = if wi a3 0 (μ.1 44 (3 * k + 1)) = 0 then some (-2, μ) else some (μ.1 44 (3 * k + 0), ppS μ 44 (3 * k + 0) a3) := by
  unfold f_X9_thing f_X9_thing_49 f_X9_thing_86 f_X9_thing_88 f_X9_thingNow f_X9_thing_131 f_X9_thing_152 f_X9_thing_173
  have d1 : ¬ wi (nI k) 0 5 = 0 := by rw [wi_1 (by rw [nI_toInt (by omega)]; show (0 : Int) ≤ _; omega) (by rw [nI_toInt (by omega)]; show _ ≤ (5 : Int); omega)]; decide
  have d2 : ¬ wi (nI 3) 0 5 = 0 := by decide
  have i1 : pp_ix (nI k) 6 := q_ix (by omega) (by omega)
  have j1 : (nI k).toNatClampNeg = k := q_cl (by omega)
  have ea : (3 : Int32) * nI k + nI 3 - (2 : Int32) = nI (3 * k + 1) := by rw [show (3 : Int32) = nI 3 from rfl, pk_mul, nI_add, show (2 : Int32) = nI 2 from rfl, q_sub (by omega)]; exact congrArg nI (by omega)
  have ia : pp_ix (nI (3 * k + 1)) 18 := q_ix (by omega) (by omega)
  have ja : (nI (3 * k + 1)).toNatClampNeg = 3 * k + 1 := q_cl (by omega)
  have eb : (3 : Int32) * nI k + nI 3 - (3 : Int32) = nI (3 * k + 0) := by rw [show (3 : Int32) = nI 3 from rfl, pk_mul, nI_add, q_sub (by omega)]; exact congrArg nI (by omega)
  have ib : pp_ix (nI (3 * k + 0)) 18 := q_ix (by omega) (by omega)
  have jb : (nI (3 * k + 0)).toNatClampNeg = 3 * k + 0 := q_cl (by omega)
  simp only [m_isThing, m_in, Option.bind_some, if_neg d1, if_neg d2, if_pos i1, j1, qs_id, if_neg (show ¬ nI 3 = (1 : Int32) by decide), if_pos (show (2 : Int32) < nI 3 by decide), if_neg (show ¬ nI 3 = (0 : Int32) by decide), if_neg (show ¬ nI 3 = (2 : Int32) by decide), if_neg (show ¬ (3 : Int32) < nI 3 by decide), if_pos (show nI 3 < (5 : Int32) by decide), ea, if_pos ia, ja, eb, if_pos ib, jb]
theorem m_th4 {k : Nat} (hk : k < 6) (a3 : Int32) : f_X9_thing μ (nI k) (nI 4) a3 = if wi a3 (μ.1 44 (3 * k + 0)) (μ.1 44 (3 * k + 2)) = 0 then some (-2, μ) else some (μ.1 44 (3 * k + 1), ppS μ 44 (3 * k + 1) a3) := by
  unfold f_X9_thing f_X9_thing_49 f_X9_thing_86 f_X9_thing_88 f_X9_thingNow f_X9_thing_131 f_X9_thing_152 f_X9_thing_173
  have d1 : ¬ wi (nI k) 0 5 = 0 := by rw [wi_1 (by rw [nI_toInt (by omega)]; show (0 : Int) ≤ _; omega) (by rw [nI_toInt (by omega)]; show _ ≤ (5 : Int); omega)]; decide
  have d2 : ¬ wi (nI 4) 0 5 = 0 := by decide
  have i1 : pp_ix (nI k) 6 := q_ix (by omega) (by omega)
  have j1 : (nI k).toNatClampNeg = k := q_cl (by omega)
  have ea : (3 : Int32) * nI k + nI 4 - (2 : Int32) = nI (3 * k + 2) := by rw [show (3 : Int32) = nI 3 from rfl, pk_mul, nI_add, show (2 : Int32) = nI 2 from rfl, q_sub (by omega)]; exact congrArg nI (by omega)
  have ia : pp_ix (nI (3 * k + 2)) 18 := q_ix (by omega) (by omega)
  have ja : (nI (3 * k + 2)).toNatClampNeg = 3 * k + 2 := q_cl (by omega)
  have eb : (3 : Int32) * nI k + nI 4 - (3 : Int32) = nI (3 * k + 1) := by rw [show (3 : Int32) = nI 3 from rfl, pk_mul, nI_add, q_sub (by omega)]; exact congrArg nI (by omega)
  have ib : pp_ix (nI (3 * k + 1)) 18 := q_ix (by omega) (by omega)
  have jb : (nI (3 * k + 1)).toNatClampNeg = 3 * k + 1 := q_cl (by omega)
  have ec : (3 : Int32) * nI k + nI 4 - (4 : Int32) = nI (3 * k + 0) := by rw [show (3 : Int32) = nI 3 from rfl, pk_mul, nI_add, show (4 : Int32) = nI 4 from rfl, q_sub (by omega)]; exact congrArg nI (by omega)
  have ic : pp_ix (nI (3 * k + 0)) 18 := q_ix (by omega) (by omega)
  have jc : (nI (3 * k + 0)).toNatClampNeg = 3 * k + 0 := q_cl (by omega)
  simp only [m_isThing, m_in, Option.bind_some, if_neg d1, if_neg d2, if_pos i1, j1, qs_id, if_neg (show ¬ nI 4 = (1 : Int32) by decide), if_pos (show (2 : Int32) < nI 4 by decide), if_neg (show ¬ nI 4 = (0 : Int32) by decide), if_neg (show ¬ nI 4 = (2 : Int32) by decide), if_pos (show (3 : Int32) < nI 4 by decide), if_pos (show nI 4 < (5 : Int32) by decide), ea, if_pos ia, ja, eb, if_pos ib, jb, ec, if_pos ic, jc]
theorem m_th5 {k : Nat} (hk : k < 6) (a3 : Int32) : f_X9_thing μ (nI k) (nI 5) a3 = if wi a3 (μ.1 44 (3 * k + 1)) 99 = 0 then some (-2, μ) else some (μ.1 44 (3 * k + 2), ppS μ 44 (3 * k + 2) a3) := by
  unfold f_X9_thing f_X9_thing_49 f_X9_thing_86 f_X9_thing_88 f_X9_thingNow f_X9_thing_131 f_X9_thing_152 f_X9_thing_173
  have d1 : ¬ wi (nI k) 0 5 = 0 := by rw [wi_1 (by rw [nI_toInt (by omega)]; show (0 : Int) ≤ _; omega) (by rw [nI_toInt (by omega)]; show _ ≤ (5 : Int); omega)]; decide
  have d2 : ¬ wi (nI 5) 0 5 = 0 := by decide
  have i1 : pp_ix (nI k) 6 := q_ix (by omega) (by omega)
  have j1 : (nI k).toNatClampNeg = k := q_cl (by omega)
  have eb : (3 : Int32) * nI k + nI 5 - (3 : Int32) = nI (3 * k + 2) := by rw [show (3 : Int32) = nI 3 from rfl, pk_mul, nI_add, q_sub (by omega)]; exact congrArg nI (by omega)
  have ib : pp_ix (nI (3 * k + 2)) 18 := q_ix (by omega) (by omega)
  have jb : (nI (3 * k + 2)).toNatClampNeg = 3 * k + 2 := q_cl (by omega)
  have ec : (3 : Int32) * nI k + nI 5 - (4 : Int32) = nI (3 * k + 1) := by rw [show (3 : Int32) = nI 3 from rfl, pk_mul, nI_add, show (4 : Int32) = nI 4 from rfl, q_sub (by omega)]; exact congrArg nI (by omega)
  have ic : pp_ix (nI (3 * k + 1)) 18 := q_ix (by omega) (by omega)
  have jc : (nI (3 * k + 1)).toNatClampNeg = 3 * k + 1 := q_cl (by omega)
  simp only [m_isThing, m_in, Option.bind_some, if_neg d1, if_neg d2, if_pos i1, j1, qs_id, if_neg (show ¬ nI 5 = (1 : Int32) by decide), if_pos (show (2 : Int32) < nI 5 by decide), if_neg (show ¬ nI 5 = (0 : Int32) by decide), if_neg (show ¬ nI 5 = (2 : Int32) by decide), if_pos (show (3 : Int32) < nI 5 by decide), if_neg (show ¬ nI 5 < (5 : Int32) by decide), eb, if_pos ib, jb, ec, if_pos ic, jc]
theorem h_thing (a1 a2 a3 : Int32) (h : Rel Ca σ μ) : ∃ (r : Int32) (σ' μ' : pp_M), f_X8_thing σ a1 a2 a3 = some (r, σ') ∧ f_X9_thing μ a1 a2 a3 = some (r, μ') ∧ Rel Ca σ' μ' := by
  by_cases c1 : wi a1 0 5 = 0
  · unfold f_X8_thing f_X9_thing
    simp only [k_isThing, m_isThing, Option.bind_some, if_pos c1]; exact ⟨_, _, _, rfl, rfl, h⟩
  by_cases c2 : wi a2 0 5 = 0
  · unfold f_X8_thing f_X9_thing
    simp only [k_isThing, m_isThing, k_within, m_in, Option.bind_some, if_neg c1, if_pos c2]; exact ⟨_, _, _, rfl, rfl, h⟩
  obtain ⟨k, hk, rfl⟩ := wi_of (n := 5) rfl c1
  obtain ⟨v, hv, rfl⟩ := wi_of (n := 5) rfl c2
  have hk6 : k < 6 := by omega
  have fin : ∀ {p x : Nat} {t : Nat}, t ≠ 45 → t ≠ 8 → Base (ppS σ 3 p a3) (ppS μ t x a3) → Inv (ppS μ t x a3) → Rel Ca (ppS (ppS σ 3 p a3) 36 6 0) (ppS μ t x a3) := fun h1 h2 hB hI => by
    refine rel_forget (base_f hB 0) hI (fun i hi => ?_) (qs_same _ _ _ _) h.2.2.2.2
    rw [qs_tok (t := 36) (a := 8) (by omega), qs_tok (t := 3) (a := 8) (by omega), show (ppS μ _ _ a3).1 45 = μ.1 45 from funext fun j => qs_tok (fun z => h1 z.symm)]
    exact h.2.2.1 i hi
  have p0 := fun l (hl : l < 3) => h.1.2.1 k hk6 l hl
  have q0 := fun l (hl : l < 3) => h.2.1.2.1 (3 * k + l) (by omega)
  rcases (show v = 0 ∨ v = 1 ∨ v = 2 ∨ v = 3 ∨ v = 4 ∨ v = 5 by omega) with rfl | rfl | rfl | rfl | rfl | rfl
  · rw [k_th0 hk6, m_th0 hk6]
    by_cases c3 : wi a3 0 99 = 0
    · rw [if_pos c3, if_pos c3]; exact ⟨_, _, _, rfl, rfl, h⟩
    rw [if_neg c3, if_neg c3]
    have hx := wi_0 c3
    exact ⟨_, _, _, rfl, by rw [show σ.1 3 (k * 6 + 0) = μ.1 41 k from h.1.1 k hk6 0 (by omega)], fin (by omega) (by omega) (base_th0 h.1 hk6 a3) (inv_th0 h.2.1 k a3 hx)⟩
  · rw [k_th1 hk6, m_th1 hk6]
    by_cases c3 : wi a3 1 20 = 0
    · rw [if_pos c3, if_pos c3]; exact ⟨_, _, _, rfl, rfl, h⟩
    rw [if_neg c3, if_neg c3]
    have hx := wi_0 c3
    exact ⟨_, _, _, rfl, by rw [show σ.1 3 (k * 6 + 1) = μ.1 42 k from h.1.1 k hk6 1 (by omega)], fin (by omega) (by omega) (base_th1 h.1 hk6 a3) (inv_th1 h.2.1 k a3 hx)⟩
  · rw [k_th2 hk6, m_th2 hk6]
    by_cases c3 : wi a3 0 99 = 0
    · rw [if_pos c3, if_pos c3]; exact ⟨_, _, _, rfl, rfl, h⟩
    rw [if_neg c3, if_neg c3]
    have hx := wi_0 c3
    exact ⟨_, _, _, rfl, by rw [show σ.1 3 (k * 6 + 2) = μ.1 43 k from h.1.1 k hk6 2 (by omega)], fin (by omega) (by omega) (base_th2 h.1 hk6 a3) (inv_th2 h.2.1 k a3 hx)⟩
  · rw [k_th3 hk6, m_th3 hk6]
    rw [show σ.1 3 (k * 6 + 4) = μ.1 44 (3 * k + 1) from p0 1 (by omega)]
    by_cases c3 : wi a3 0 (μ.1 44 (3 * k + 1)) = 0
    · rw [if_pos c3, if_pos c3]; exact ⟨_, _, _, rfl, rfl, h⟩
    rw [if_neg c3, if_neg c3]
    have hx := wi_0 c3
    exact ⟨_, _, _, rfl, by rw [show σ.1 3 (k * 6 + 3) = μ.1 44 (3 * k + 0) from p0 0 (by omega)], fin (by omega) (by omega) (base_thp h.1 hk6 (m := 0) (by omega) a3) (inv_thp h.2.1 (3 * k + 0) a3 ⟨hx.1, Int.le_trans hx.2 (q0 1 (by omega)).2⟩)⟩
  · rw [k_th4 hk6, m_th4 hk6]
    rw [show σ.1 3 (k * 6 + 3) = μ.1 44 (3 * k + 0) from p0 0 (by omega), show σ.1 3 (k * 6 + 5) = μ.1 44 (3 * k + 2) from p0 2 (by omega)]
    by_cases c3 : wi a3 (μ.1 44 (3 * k + 0)) (μ.1 44 (3 * k + 2)) = 0
    · rw [if_pos c3, if_pos c3]; exact ⟨_, _, _, rfl, rfl, h⟩
    rw [if_neg c3, if_neg c3]
    have hx := wi_0 c3
    exact ⟨_, _, _, rfl, by rw [show σ.1 3 (k * 6 + 4) = μ.1 44 (3 * k + 1) from p0 1 (by omega)], fin (by omega) (by omega) (base_thp h.1 hk6 (m := 1) (by omega) a3) (inv_thp h.2.1 (3 * k + 1) a3 ⟨Int.le_trans (q0 0 (by omega)).1 hx.1, Int.le_trans hx.2 (q0 2 (by omega)).2⟩)⟩
  · rw [k_th5 hk6, m_th5 hk6]
    rw [show σ.1 3 (k * 6 + 4) = μ.1 44 (3 * k + 1) from p0 1 (by omega)]
    by_cases c3 : wi a3 (μ.1 44 (3 * k + 1)) 99 = 0
    · rw [if_pos c3, if_pos c3]; exact ⟨_, _, _, rfl, rfl, h⟩
    rw [if_neg c3, if_neg c3]
    have hx := wi_0 c3
    exact ⟨_, _, _, rfl, by rw [show σ.1 3 (k * 6 + 5) = μ.1 44 (3 * k + 2) from p0 2 (by omega)], fin (by omega) (by omega) (base_thp h.1 hk6 (m := 2) (by omega) a3) (inv_thp h.2.1 (3 * k + 2) a3 ⟨Int.le_trans (q0 1 (by omega)).1 hx.1, hx.2⟩)⟩
end THING
