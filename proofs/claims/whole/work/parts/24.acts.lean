/-! set, type, chance, sheet -/
theorem qs_id {σ : pp_M} {t i : Nat} {x : Int32} (h : σ.1 t i = x) : ppS σ t i x = σ := by
  unfold ppS
  refine Prod.ext (funext fun a => funext fun b => ?_) rfl
  show (if a = t ∧ b = i then x else σ.1 a b) = σ.1 a b
  by_cases e : a = t ∧ b = i
  · rw [if_pos e, e.1, e.2, h]
  · rw [if_neg e]
section ACTS
variable {Ca : pp_M → pp_M → Prop} {σ μ : pp_M}
theorem base_f (h : Base σ μ) (x : Int32) : Base (ppS σ 36 6 x) μ := by
  obtain ⟨b1, b2, b3, b4, b5, ⟨b6, b6'⟩, b7, b8, b9, ⟨b10, b10'⟩, b11, b12, b12', b12''⟩ := h
  refine ⟨fun t ht w hw => by rw [qs_tok (t := 36) (a := 3) (b := t * 6 + w) (by omega)]; exact b1 t ht w hw, fun t ht l hl => by rw [qs_tok (t := 36) (a := 3) (b := t * 6 + (3 + l)) (by omega)]; exact b2 t ht l hl, fun i hi => by rw [qs_tok (t := 36) (a := 6) (b := i) (by omega)]; exact b3 i hi, fun i hi => by rw [qs_tok (t := 36) (a := 11) (b := i) (by omega)]; exact b4 i hi, fun t ht => by rw [qs_tok (t := 36) (a := 12) (b := t) (by omega)]; exact b5 t ht, ⟨by rw [qs_tok (t := 36) (a := 13) (b := 5) (by omega)]; exact b6, fun i hi => by rw [qs_tok (t := 36) (a := 14) (b := i) (by omega)]; exact b6' i hi⟩, fun s hs => by rw [qs_tok (t := 36) (a := 19) (b := s) (by omega), qs_tok (t := 36) (a := 20) (b := s) (by omega)]; exact b7 s hs, fun i hi => by rw [qs_tok (t := 36) (a := 18) (b := i) (by omega)]; exact b8 i hi, by rw [qs_tok (t := 36) (a := 16) (b := 3) (by omega)]; exact b9, ⟨by rw [qs_tok (t := 36) (a := 0) (b := 10) (by omega)]; exact b10, fun i hi => by rw [qs_tok (t := 36) (a := 34) (b := i) (by omega)]; exact b10' i hi⟩, fun t ht => by rw [qs_tok (t := 36) (a := 35) (b := t) (by omega)]; exact b11 t ht, by rw [qs_tok (t := 36) (a := 0) (b := 11) (by omega)]; exact b12, by rw [qs_tok (t := 36) (a := 0) (b := 12) (by omega)]; exact b12', by rw [qs_tok (t := 36) (a := 0) (b := 13) (by omega)]; exact b12''⟩

theorem rel_f (h : Rel Ca σ μ) : Rel Ca (ppS σ 36 6 0) μ := rel_forget (base_f h.1 0) h.2.1 (fun i hi => by rw [qs_tok (t := 36) (a := 8) (by omega)]; exact h.2.2.1 i hi) (qs_same _ _ _ _) h.2.2.2.2
theorem base_day (h : Base σ μ) (x : Int32) : Base (ppS (ppS σ 0 11 x) 36 6 0) (ppS μ 40 6 x) := by
  obtain ⟨b1, b2, b3, b4, b5, ⟨b6, b6'⟩, b7, b8, b9, ⟨b10, b10'⟩, b11, b12, b12', b12''⟩ := h
  refine ⟨fun t ht w hw => by rw [qs_tok (t := 36) (a := 3) (b := t * 6 + w) (by omega), qs_tok (t := 0) (a := 3) (b := t * 6 + w) (by omega), qs_tok (t := 40) (a := 41 + w) (b := t) (by omega)]; exact b1 t ht w hw, fun t ht l hl => by rw [qs_tok (t := 36) (a := 3) (b := t * 6 + (3 + l)) (by omega), qs_tok (t := 0) (a := 3) (b := t * 6 + (3 + l)) (by omega), qs_tok (t := 40) (a := 44) (b := 3 * t + l) (by omega)]; exact b2 t ht l hl, fun i hi => by rw [qs_tok (t := 36) (a := 6) (b := i) (by omega), qs_tok (t := 0) (a := 6) (b := i) (by omega), qs_tok (t := 40) (a := 45) (b := i) (by omega)]; exact b3 i hi, fun i hi => by rw [qs_tok (t := 36) (a := 11) (b := i) (by omega), qs_tok (t := 0) (a := 11) (b := i) (by omega), qs_tok (t := 40) (a := 47) (b := i) (by omega)]; exact b4 i hi, fun t ht => by rw [qs_tok (t := 36) (a := 12) (b := t) (by omega), qs_tok (t := 0) (a := 12) (b := t) (by omega), qs_tok (t := 40) (a := 48) (b := t) (by omega)]; exact b5 t ht, ⟨by rw [qs_tok (t := 36) (a := 13) (b := 5) (by omega), qs_tok (t := 0) (a := 13) (b := 5) (by omega), qs_ne (t := 40) (i := 6) (a := 40) (b := 11) (by omega)]; exact b6, fun i hi => by rw [qs_tok (t := 36) (a := 14) (b := i) (by omega), qs_tok (t := 0) (a := 14) (b := i) (by omega), qs_tok (t := 40) (a := 49) (b := i) (by omega)]; exact b6' i hi⟩, fun s hs => by rw [qs_tok (t := 36) (a := 19) (b := s) (by omega), qs_tok (t := 0) (a := 19) (b := s) (by omega), qs_tok (t := 36) (a := 20) (b := s) (by omega), qs_tok (t := 0) (a := 20) (b := s) (by omega), qs_tok (t := 40) (a := 66) (b := s) (by omega), qs_tok (t := 40) (a := 67) (b := s) (by omega), qs_tok (t := 40) (a := 68) (b := s) (by omega)]; exact b7 s hs, fun i hi => by rw [qs_tok (t := 36) (a := 18) (b := i) (by omega), qs_tok (t := 0) (a := 18) (b := i) (by omega), qs_tok (t := 40) (a := 69) (b := i) (by omega)]; exact b8 i hi, by rw [qs_tok (t := 36) (a := 16) (b := 3) (by omega), qs_tok (t := 0) (a := 16) (b := 3) (by omega), qs_ne (t := 40) (i := 6) (a := 40) (b := 47) (by omega)]; exact b9, ⟨by rw [qs_tok (t := 36) (a := 0) (b := 10) (by omega), qs_ne (t := 0) (i := 11) (a := 0) (b := 10) (by omega), qs_ne (t := 40) (i := 6) (a := 40) (b := 19) (by omega)]; exact b10, fun i hi => by rw [qs_tok (t := 36) (a := 34) (b := i) (by omega), qs_tok (t := 0) (a := 34) (b := i) (by omega), qs_tok (t := 40) (a := 53) (b := i) (by omega)]; exact b10' i hi⟩, fun t ht => by rw [qs_tok (t := 36) (a := 35) (b := t) (by omega), qs_tok (t := 0) (a := 35) (b := t) (by omega), qs_tok (t := 40) (a := 54) (b := t) (by omega)]; exact b11 t ht, ?_, by rw [qs_tok (t := 36) (a := 0) (b := 12) (by omega), qs_ne (t := 0) (i := 11) (a := 0) (b := 12) (by omega), qs_ne (t := 40) (i := 6) (a := 40) (b := 7) (by omega)]; exact b12', by rw [qs_tok (t := 36) (a := 0) (b := 13) (by omega), qs_ne (t := 0) (i := 11) (a := 0) (b := 13) (by omega), qs_ne (t := 40) (i := 6) (a := 40) (b := 8) (by omega)]; exact b12''⟩
  · rw [qs_tok (t := 36) (a := 0) (by omega), qs_same, qs_same]
theorem inv_day (h : Inv μ) (x : Int32) (hx : bd x 1 200) : Inv (ppS μ 40 6 x) := by
  obtain ⟨i1, i2, ⟨i3, i3'⟩, i4, i5, i6, i7, ⟨i8, i8'⟩, i9, i10, i10', i10''⟩ := h
  refine ⟨fun t ht => by rw [qs_tok (t := 40) (a := 41) (b := t) (by omega), qs_tok (t := 40) (a := 42) (b := t) (by omega), qs_tok (t := 40) (a := 43) (b := t) (by omega)]; exact i1 t ht, fun i hi => by rw [qs_tok (t := 40) (a := 44) (b := i) (by omega)]; exact i2 i hi, ⟨fun i hi => by rw [qs_tok (t := 40) (a := 45) (b := i) (by omega)]; exact i3 i hi, fun a b ha hb => by rw [qs_tok (t := 40) (a := 45) (b := 8 * a + b) (by omega), qs_tok (t := 40) (a := 45) (b := 8 * b + a) (by omega)]; exact i3' a b ha hb⟩, fun i hi => by rw [qs_tok (t := 40) (a := 47) (b := i) (by omega)]; exact i4 i hi, fun t ht => by rw [qs_tok (t := 40) (a := 48) (b := t) (by omega)]; exact i5 t ht, by rw [qs_ne (t := 40) (i := 6) (a := 40) (b := 11) (by omega)]; exact i6, fun s hs => by rw [qs_tok (t := 40) (a := 67) (b := s) (by omega), qs_tok (t := 40) (a := 68) (b := s) (by omega)]; exact i7 s hs, ⟨by rw [qs_ne (t := 40) (i := 6) (a := 40) (b := 19) (by omega)]; exact i8, fun i hi => by rw [qs_ne (t := 40) (i := 6) (a := 40) (b := 19) (by omega)] at hi; rw [qs_tok (t := 40) (a := 53) (b := i) (by omega)]; exact i8' i hi⟩, fun t ht => by rw [qs_tok (t := 40) (a := 54) (b := t) (by omega)]; exact i9 t ht, ?_, by rw [qs_ne (t := 40) (i := 6) (a := 40) (b := 7) (by omega)]; exact i10', by rw [qs_ne (t := 40) (i := 6) (a := 40) (b := 8) (by omega)]; exact i10''⟩
  · rw [qs_same]; exact hx
theorem rel_day (h : Rel Ca σ μ) (x : Int32) (hx : bd x 1 200) : Rel Ca (ppS (ppS σ 0 11 x) 36 6 0) (ppS μ 40 6 x) := rel_forget (base_day h.1 x) (inv_day h.2.1 x hx) (fun i hi => by rw [qs_tok (t := 36) (a := 8) (by omega), qs_tok (t := 0) (a := 8) (by omega), show (ppS μ 40 6 x).1 45 = μ.1 45 from funext fun j => qs_tok (by omega)]; exact h.2.2.1 i hi) (qs_same _ _ _ _) h.2.2.2.2
theorem base_limit (h : Base σ μ) (x : Int32) : Base (ppS (ppS σ 0 12 x) 36 6 0) (ppS μ 40 7 x) := by
  obtain ⟨b1, b2, b3, b4, b5, ⟨b6, b6'⟩, b7, b8, b9, ⟨b10, b10'⟩, b11, b12, b12', b12''⟩ := h
  refine ⟨fun t ht w hw => by rw [qs_tok (t := 36) (a := 3) (b := t * 6 + w) (by omega), qs_tok (t := 0) (a := 3) (b := t * 6 + w) (by omega), qs_tok (t := 40) (a := 41 + w) (b := t) (by omega)]; exact b1 t ht w hw, fun t ht l hl => by rw [qs_tok (t := 36) (a := 3) (b := t * 6 + (3 + l)) (by omega), qs_tok (t := 0) (a := 3) (b := t * 6 + (3 + l)) (by omega), qs_tok (t := 40) (a := 44) (b := 3 * t + l) (by omega)]; exact b2 t ht l hl, fun i hi => by rw [qs_tok (t := 36) (a := 6) (b := i) (by omega), qs_tok (t := 0) (a := 6) (b := i) (by omega), qs_tok (t := 40) (a := 45) (b := i) (by omega)]; exact b3 i hi, fun i hi => by rw [qs_tok (t := 36) (a := 11) (b := i) (by omega), qs_tok (t := 0) (a := 11) (b := i) (by omega), qs_tok (t := 40) (a := 47) (b := i) (by omega)]; exact b4 i hi, fun t ht => by rw [qs_tok (t := 36) (a := 12) (b := t) (by omega), qs_tok (t := 0) (a := 12) (b := t) (by omega), qs_tok (t := 40) (a := 48) (b := t) (by omega)]; exact b5 t ht, ⟨by rw [qs_tok (t := 36) (a := 13) (b := 5) (by omega), qs_tok (t := 0) (a := 13) (b := 5) (by omega), qs_ne (t := 40) (i := 7) (a := 40) (b := 11) (by omega)]; exact b6, fun i hi => by rw [qs_tok (t := 36) (a := 14) (b := i) (by omega), qs_tok (t := 0) (a := 14) (b := i) (by omega), qs_tok (t := 40) (a := 49) (b := i) (by omega)]; exact b6' i hi⟩, fun s hs => by rw [qs_tok (t := 36) (a := 19) (b := s) (by omega), qs_tok (t := 0) (a := 19) (b := s) (by omega), qs_tok (t := 36) (a := 20) (b := s) (by omega), qs_tok (t := 0) (a := 20) (b := s) (by omega), qs_tok (t := 40) (a := 66) (b := s) (by omega), qs_tok (t := 40) (a := 67) (b := s) (by omega), qs_tok (t := 40) (a := 68) (b := s) (by omega)]; exact b7 s hs, fun i hi => by rw [qs_tok (t := 36) (a := 18) (b := i) (by omega), qs_tok (t := 0) (a := 18) (b := i) (by omega), qs_tok (t := 40) (a := 69) (b := i) (by omega)]; exact b8 i hi, by rw [qs_tok (t := 36) (a := 16) (b := 3) (by omega), qs_tok (t := 0) (a := 16) (b := 3) (by omega), qs_ne (t := 40) (i := 7) (a := 40) (b := 47) (by omega)]; exact b9, ⟨by rw [qs_tok (t := 36) (a := 0) (b := 10) (by omega), qs_ne (t := 0) (i := 12) (a := 0) (b := 10) (by omega), qs_ne (t := 40) (i := 7) (a := 40) (b := 19) (by omega)]; exact b10, fun i hi => by rw [qs_tok (t := 36) (a := 34) (b := i) (by omega), qs_tok (t := 0) (a := 34) (b := i) (by omega), qs_tok (t := 40) (a := 53) (b := i) (by omega)]; exact b10' i hi⟩, fun t ht => by rw [qs_tok (t := 36) (a := 35) (b := t) (by omega), qs_tok (t := 0) (a := 35) (b := t) (by omega), qs_tok (t := 40) (a := 54) (b := t) (by omega)]; exact b11 t ht, by rw [qs_tok (t := 36) (a := 0) (b := 11) (by omega), qs_ne (t := 0) (i := 12) (a := 0) (b := 11) (by omega), qs_ne (t := 40) (i := 7) (a := 40) (b := 6) (by omega)]; exact b12, ?_, by rw [qs_tok (t := 36) (a := 0) (b := 13) (by omega), qs_ne (t := 0) (i := 12) (a := 0) (b := 13) (by omega), qs_ne (t := 40) (i := 7) (a := 40) (b := 8) (by omega)]; exact b12''⟩
  · rw [qs_tok (t := 36) (a := 0) (by omega), qs_same, qs_same]
theorem inv_limit (h : Inv μ) (x : Int32) (hx : bd x 1 100) : Inv (ppS μ 40 7 x) := by
  obtain ⟨i1, i2, ⟨i3, i3'⟩, i4, i5, i6, i7, ⟨i8, i8'⟩, i9, i10, i10', i10''⟩ := h
  refine ⟨fun t ht => by rw [qs_tok (t := 40) (a := 41) (b := t) (by omega), qs_tok (t := 40) (a := 42) (b := t) (by omega), qs_tok (t := 40) (a := 43) (b := t) (by omega)]; exact i1 t ht, fun i hi => by rw [qs_tok (t := 40) (a := 44) (b := i) (by omega)]; exact i2 i hi, ⟨fun i hi => by rw [qs_tok (t := 40) (a := 45) (b := i) (by omega)]; exact i3 i hi, fun a b ha hb => by rw [qs_tok (t := 40) (a := 45) (b := 8 * a + b) (by omega), qs_tok (t := 40) (a := 45) (b := 8 * b + a) (by omega)]; exact i3' a b ha hb⟩, fun i hi => by rw [qs_tok (t := 40) (a := 47) (b := i) (by omega)]; exact i4 i hi, fun t ht => by rw [qs_tok (t := 40) (a := 48) (b := t) (by omega)]; exact i5 t ht, by rw [qs_ne (t := 40) (i := 7) (a := 40) (b := 11) (by omega)]; exact i6, fun s hs => by rw [qs_tok (t := 40) (a := 67) (b := s) (by omega), qs_tok (t := 40) (a := 68) (b := s) (by omega)]; exact i7 s hs, ⟨by rw [qs_ne (t := 40) (i := 7) (a := 40) (b := 19) (by omega)]; exact i8, fun i hi => by rw [qs_ne (t := 40) (i := 7) (a := 40) (b := 19) (by omega)] at hi; rw [qs_tok (t := 40) (a := 53) (b := i) (by omega)]; exact i8' i hi⟩, fun t ht => by rw [qs_tok (t := 40) (a := 54) (b := t) (by omega)]; exact i9 t ht, by rw [qs_ne (t := 40) (i := 7) (a := 40) (b := 6) (by omega)]; exact i10, ?_, by rw [qs_ne (t := 40) (i := 7) (a := 40) (b := 8) (by omega)]; exact i10''⟩
  · rw [qs_same]; exact hx
theorem rel_limit (h : Rel Ca σ μ) (x : Int32) (hx : bd x 1 100) : Rel Ca (ppS (ppS σ 0 12 x) 36 6 0) (ppS μ 40 7 x) := rel_forget (base_limit h.1 x) (inv_limit h.2.1 x hx) (fun i hi => by rw [qs_tok (t := 36) (a := 8) (by omega), qs_tok (t := 0) (a := 8) (by omega), show (ppS μ 40 7 x).1 45 = μ.1 45 from funext fun j => qs_tok (by omega)]; exact h.2.2.1 i hi) (qs_same _ _ _ _) h.2.2.2.2
theorem base_open (h : Base σ μ) (x : Int32) : Base (ppS (ppS σ 0 13 x) 36 6 0) (ppS μ 40 8 x) := by
  obtain ⟨b1, b2, b3, b4, b5, ⟨b6, b6'⟩, b7, b8, b9, ⟨b10, b10'⟩, b11, b12, b12', b12''⟩ := h
  refine ⟨fun t ht w hw => by rw [qs_tok (t := 36) (a := 3) (b := t * 6 + w) (by omega), qs_tok (t := 0) (a := 3) (b := t * 6 + w) (by omega), qs_tok (t := 40) (a := 41 + w) (b := t) (by omega)]; exact b1 t ht w hw, fun t ht l hl => by rw [qs_tok (t := 36) (a := 3) (b := t * 6 + (3 + l)) (by omega), qs_tok (t := 0) (a := 3) (b := t * 6 + (3 + l)) (by omega), qs_tok (t := 40) (a := 44) (b := 3 * t + l) (by omega)]; exact b2 t ht l hl, fun i hi => by rw [qs_tok (t := 36) (a := 6) (b := i) (by omega), qs_tok (t := 0) (a := 6) (b := i) (by omega), qs_tok (t := 40) (a := 45) (b := i) (by omega)]; exact b3 i hi, fun i hi => by rw [qs_tok (t := 36) (a := 11) (b := i) (by omega), qs_tok (t := 0) (a := 11) (b := i) (by omega), qs_tok (t := 40) (a := 47) (b := i) (by omega)]; exact b4 i hi, fun t ht => by rw [qs_tok (t := 36) (a := 12) (b := t) (by omega), qs_tok (t := 0) (a := 12) (b := t) (by omega), qs_tok (t := 40) (a := 48) (b := t) (by omega)]; exact b5 t ht, ⟨by rw [qs_tok (t := 36) (a := 13) (b := 5) (by omega), qs_tok (t := 0) (a := 13) (b := 5) (by omega), qs_ne (t := 40) (i := 8) (a := 40) (b := 11) (by omega)]; exact b6, fun i hi => by rw [qs_tok (t := 36) (a := 14) (b := i) (by omega), qs_tok (t := 0) (a := 14) (b := i) (by omega), qs_tok (t := 40) (a := 49) (b := i) (by omega)]; exact b6' i hi⟩, fun s hs => by rw [qs_tok (t := 36) (a := 19) (b := s) (by omega), qs_tok (t := 0) (a := 19) (b := s) (by omega), qs_tok (t := 36) (a := 20) (b := s) (by omega), qs_tok (t := 0) (a := 20) (b := s) (by omega), qs_tok (t := 40) (a := 66) (b := s) (by omega), qs_tok (t := 40) (a := 67) (b := s) (by omega), qs_tok (t := 40) (a := 68) (b := s) (by omega)]; exact b7 s hs, fun i hi => by rw [qs_tok (t := 36) (a := 18) (b := i) (by omega), qs_tok (t := 0) (a := 18) (b := i) (by omega), qs_tok (t := 40) (a := 69) (b := i) (by omega)]; exact b8 i hi, by rw [qs_tok (t := 36) (a := 16) (b := 3) (by omega), qs_tok (t := 0) (a := 16) (b := 3) (by omega), qs_ne (t := 40) (i := 8) (a := 40) (b := 47) (by omega)]; exact b9, ⟨by rw [qs_tok (t := 36) (a := 0) (b := 10) (by omega), qs_ne (t := 0) (i := 13) (a := 0) (b := 10) (by omega), qs_ne (t := 40) (i := 8) (a := 40) (b := 19) (by omega)]; exact b10, fun i hi => by rw [qs_tok (t := 36) (a := 34) (b := i) (by omega), qs_tok (t := 0) (a := 34) (b := i) (by omega), qs_tok (t := 40) (a := 53) (b := i) (by omega)]; exact b10' i hi⟩, fun t ht => by rw [qs_tok (t := 36) (a := 35) (b := t) (by omega), qs_tok (t := 0) (a := 35) (b := t) (by omega), qs_tok (t := 40) (a := 54) (b := t) (by omega)]; exact b11 t ht, by rw [qs_tok (t := 36) (a := 0) (b := 11) (by omega), qs_ne (t := 0) (i := 13) (a := 0) (b := 11) (by omega), qs_ne (t := 40) (i := 8) (a := 40) (b := 6) (by omega)]; exact b12, by rw [qs_tok (t := 36) (a := 0) (b := 12) (by omega), qs_ne (t := 0) (i := 13) (a := 0) (b := 12) (by omega), qs_ne (t := 40) (i := 8) (a := 40) (b := 7) (by omega)]; exact b12', ?_⟩
  · rw [qs_tok (t := 36) (a := 0) (by omega), qs_same, qs_same]
theorem inv_open (h : Inv μ) (x : Int32) (hx : bd x 0 127) : Inv (ppS μ 40 8 x) := by
  obtain ⟨i1, i2, ⟨i3, i3'⟩, i4, i5, i6, i7, ⟨i8, i8'⟩, i9, i10, i10', i10''⟩ := h
  refine ⟨fun t ht => by rw [qs_tok (t := 40) (a := 41) (b := t) (by omega), qs_tok (t := 40) (a := 42) (b := t) (by omega), qs_tok (t := 40) (a := 43) (b := t) (by omega)]; exact i1 t ht, fun i hi => by rw [qs_tok (t := 40) (a := 44) (b := i) (by omega)]; exact i2 i hi, ⟨fun i hi => by rw [qs_tok (t := 40) (a := 45) (b := i) (by omega)]; exact i3 i hi, fun a b ha hb => by rw [qs_tok (t := 40) (a := 45) (b := 8 * a + b) (by omega), qs_tok (t := 40) (a := 45) (b := 8 * b + a) (by omega)]; exact i3' a b ha hb⟩, fun i hi => by rw [qs_tok (t := 40) (a := 47) (b := i) (by omega)]; exact i4 i hi, fun t ht => by rw [qs_tok (t := 40) (a := 48) (b := t) (by omega)]; exact i5 t ht, by rw [qs_ne (t := 40) (i := 8) (a := 40) (b := 11) (by omega)]; exact i6, fun s hs => by rw [qs_tok (t := 40) (a := 67) (b := s) (by omega), qs_tok (t := 40) (a := 68) (b := s) (by omega)]; exact i7 s hs, ⟨by rw [qs_ne (t := 40) (i := 8) (a := 40) (b := 19) (by omega)]; exact i8, fun i hi => by rw [qs_ne (t := 40) (i := 8) (a := 40) (b := 19) (by omega)] at hi; rw [qs_tok (t := 40) (a := 53) (b := i) (by omega)]; exact i8' i hi⟩, fun t ht => by rw [qs_tok (t := 40) (a := 54) (b := t) (by omega)]; exact i9 t ht, by rw [qs_ne (t := 40) (i := 8) (a := 40) (b := 6) (by omega)]; exact i10, by rw [qs_ne (t := 40) (i := 8) (a := 40) (b := 7) (by omega)]; exact i10', ?_⟩
  · rw [qs_same]; exact hx
theorem rel_open (h : Rel Ca σ μ) (x : Int32) (hx : bd x 0 127) : Rel Ca (ppS (ppS σ 0 13 x) 36 6 0) (ppS μ 40 8 x) := rel_forget (base_open h.1 x) (inv_open h.2.1 x hx) (fun i hi => by rw [qs_tok (t := 36) (a := 8) (by omega), qs_tok (t := 0) (a := 8) (by omega), show (ppS μ 40 8 x).1 45 = μ.1 45 from funext fun j => qs_tok (by omega)]; exact h.2.2.1 i hi) (qs_same _ _ _ _) h.2.2.2.2
theorem h_set (a1 a2 : Int32) (h : Rel Ca σ μ) : ∃ (r : Int32) (σ' μ' : pp_M), f_X8_set σ a1 a2 = some (r, σ') ∧ f_X9_set μ a1 a2 = some (r, μ') ∧ Rel Ca σ' μ' := by
  unfold f_X8_set f_X8_set_31 f_X8_set_59 f_X8_set_84 f_X9_set f_X9_set_20 f_X9_set_42 f_X9_set_78 f_X9_set_92 f_X9_set_109
  obtain ⟨g0, g1, g2⟩ := h.1.2.2.2.2.2.2.2.2.2.2.2
  by_cases c0 : a1 = 0
  · subst c0
    have n01 : ¬ (0 : Int32) = 1 := by decide
    have n02 : ¬ (0 : Int32) = 2 := by decide
    have hw : ¬ wi (0 : Int32) 0 2 = 0 := by decide
    simp only [m_in, k_within, Option.bind_some, if_pos, if_neg n01, if_neg n02, if_neg hw, f_X6_forget]
    by_cases c9 : wi a2 1 200 = 0
    · simp only [if_pos c9]
      exact ⟨_, _, _, rfl, rfl, rel_f h⟩
    · simp only [if_neg c9]
      refine ⟨_, _, _, rfl, ?_, rel_day h a2 (wi_0 c9)⟩
      rw [g0]
      rw [qs_id (σ := ppS μ 40 6 a2) (t := 40) (i := 7) rfl, qs_id (σ := ppS μ 40 6 a2) (t := 40) (i := 8) rfl]
  by_cases c1 : a1 = 1
  · subst c1
    have n10 : ¬ (1 : Int32) = 0 := by decide
    have n12 : ¬ (1 : Int32) = 2 := by decide
    have hw : ¬ wi (1 : Int32) 0 2 = 0 := by decide
    simp only [m_in, k_within, Option.bind_some, if_pos, if_neg n10, if_neg n12, if_neg hw, f_X6_forget]
    by_cases c9 : wi a2 1 100 = 0
    · simp only [if_pos c9]
      exact ⟨_, _, _, rfl, rfl, rel_f h⟩
    · simp only [if_neg c9]
      refine ⟨_, _, _, rfl, ?_, rel_limit h a2 (wi_0 c9)⟩
      rw [g1]
      rw [qs_id (σ := μ) (t := 40) (i := 6) rfl, qs_id (σ := ppS μ 40 7 a2) (t := 40) (i := 8) rfl]
  by_cases c2 : a1 = 2
  · subst c2
    have n20 : ¬ (2 : Int32) = 0 := by decide
    have n21 : ¬ (2 : Int32) = 1 := by decide
    have hw : ¬ wi (2 : Int32) 0 2 = 0 := by decide
    simp only [m_in, k_within, Option.bind_some, if_pos, if_neg n20, if_neg n21, if_neg hw, f_X6_forget]
    by_cases c9 : wi a2 0 127 = 0
    · simp only [if_pos c9]
      exact ⟨_, _, _, rfl, rfl, rel_f h⟩
    · simp only [if_neg c9]
      refine ⟨_, _, _, rfl, ?_, rel_open h a2 (wi_0 c9)⟩
      rw [g2]
      rw [qs_id (σ := μ) (t := 40) (i := 6) rfl, qs_id (σ := μ) (t := 40) (i := 7) rfl]
  have hw : wi a1 0 2 = 0 := by
    by_cases q : wi a1 0 2 = 0
    · exact q
    · obtain ⟨j, hj, rfl⟩ := wi_of (n := 2) rfl q
      rcases (show j = 0 ∨ j = 1 ∨ j = 2 by omega) with rfl | rfl | rfl
      · exact absurd rfl c0
      · exact absurd rfl c1
      · exact absurd rfl c2
  simp only [m_in, k_within, Option.bind_some, if_neg c0, if_neg c1, if_neg c2, if_pos hw, f_X6_forget]
  exact ⟨_, _, _, rfl, rfl, rel_f h⟩
theorem base_type (h : Base σ μ) (k : Nat) (b x : Int32) : Base (ppS (ppS σ 14 k b) 13 5 x) (ppS (ppS μ 49 k b) 40 11 x) := by
  obtain ⟨b1, b2, b3, b4, b5, ⟨b6, b6'⟩, b7, b8, b9, ⟨b10, b10'⟩, b11, b12, b12', b12''⟩ := h
  refine ⟨fun t ht w hw => by rw [qs_tok (t := 13) (a := 3) (b := t * 6 + w) (by omega), qs_tok (t := 14) (a := 3) (b := t * 6 + w) (by omega), qs_tok (t := 40) (a := 41 + w) (b := t) (by omega), qs_tok (t := 49) (a := 41 + w) (b := t) (by omega)]; exact b1 t ht w hw, fun t ht l hl => by rw [qs_tok (t := 13) (a := 3) (b := t * 6 + (3 + l)) (by omega), qs_tok (t := 14) (a := 3) (b := t * 6 + (3 + l)) (by omega), qs_tok (t := 40) (a := 44) (b := 3 * t + l) (by omega), qs_tok (t := 49) (a := 44) (b := 3 * t + l) (by omega)]; exact b2 t ht l hl, fun i hi => by rw [qs_tok (t := 13) (a := 6) (b := i) (by omega), qs_tok (t := 14) (a := 6) (b := i) (by omega), qs_tok (t := 40) (a := 45) (b := i) (by omega), qs_tok (t := 49) (a := 45) (b := i) (by omega)]; exact b3 i hi, fun i hi => by rw [qs_tok (t := 13) (a := 11) (b := i) (by omega), qs_tok (t := 14) (a := 11) (b := i) (by omega), qs_tok (t := 40) (a := 47) (b := i) (by omega), qs_tok (t := 49) (a := 47) (b := i) (by omega)]; exact b4 i hi, fun t ht => by rw [qs_tok (t := 13) (a := 12) (b := t) (by omega), qs_tok (t := 14) (a := 12) (b := t) (by omega), qs_tok (t := 40) (a := 48) (b := t) (by omega), qs_tok (t := 49) (a := 48) (b := t) (by omega)]; exact b5 t ht, ⟨?_, ?_⟩, fun s hs => by rw [qs_tok (t := 13) (a := 19) (b := s) (by omega), qs_tok (t := 14) (a := 19) (b := s) (by omega), qs_tok (t := 13) (a := 20) (b := s) (by omega), qs_tok (t := 14) (a := 20) (b := s) (by omega), qs_tok (t := 40) (a := 66) (b := s) (by omega), qs_tok (t := 49) (a := 66) (b := s) (by omega), qs_tok (t := 40) (a := 67) (b := s) (by omega), qs_tok (t := 49) (a := 67) (b := s) (by omega), qs_tok (t := 40) (a := 68) (b := s) (by omega), qs_tok (t := 49) (a := 68) (b := s) (by omega)]; exact b7 s hs, fun i hi => by rw [qs_tok (t := 13) (a := 18) (b := i) (by omega), qs_tok (t := 14) (a := 18) (b := i) (by omega), qs_tok (t := 40) (a := 69) (b := i) (by omega), qs_tok (t := 49) (a := 69) (b := i) (by omega)]; exact b8 i hi, by rw [qs_tok (t := 13) (a := 16) (b := 3) (by omega), qs_tok (t := 14) (a := 16) (b := 3) (by omega), qs_ne (t := 40) (i := 11) (a := 40) (b := 47) (by omega), qs_tok (t := 49) (a := 40) (b := 47) (by omega)]; exact b9, ⟨by rw [qs_tok (t := 13) (a := 0) (b := 10) (by omega), qs_tok (t := 14) (a := 0) (b := 10) (by omega), qs_ne (t := 40) (i := 11) (a := 40) (b := 19) (by omega), qs_tok (t := 49) (a := 40) (b := 19) (by omega)]; exact b10, fun i hi => by rw [qs_tok (t := 13) (a := 34) (b := i) (by omega), qs_tok (t := 14) (a := 34) (b := i) (by omega), qs_tok (t := 40) (a := 53) (b := i) (by omega), qs_tok (t := 49) (a := 53) (b := i) (by omega)]; exact b10' i hi⟩, fun t ht => by rw [qs_tok (t := 13) (a := 35) (b := t) (by omega), qs_tok (t := 14) (a := 35) (b := t) (by omega), qs_tok (t := 40) (a := 54) (b := t) (by omega), qs_tok (t := 49) (a := 54) (b := t) (by omega)]; exact b11 t ht, by rw [qs_tok (t := 13) (a := 0) (b := 11) (by omega), qs_tok (t := 14) (a := 0) (b := 11) (by omega), qs_ne (t := 40) (i := 11) (a := 40) (b := 6) (by omega), qs_tok (t := 49) (a := 40) (b := 6) (by omega)]; exact b12, by rw [qs_tok (t := 13) (a := 0) (b := 12) (by omega), qs_tok (t := 14) (a := 0) (b := 12) (by omega), qs_ne (t := 40) (i := 11) (a := 40) (b := 7) (by omega), qs_tok (t := 49) (a := 40) (b := 7) (by omega)]; exact b12', by rw [qs_tok (t := 13) (a := 0) (b := 13) (by omega), qs_tok (t := 14) (a := 0) (b := 13) (by omega), qs_ne (t := 40) (i := 11) (a := 40) (b := 8) (by omega), qs_tok (t := 49) (a := 40) (b := 8) (by omega)]; exact b12''⟩
  · rw [qs_same, qs_same]
  · intro i hi
    rw [qs_tok (t := 13) (a := 14) (by omega), qs_tok (t := 40) (a := 49) (by omega)]
    by_cases e : i = k
    · subst e; rw [qs_same, qs_same]
    · rw [qs_ne (fun q => e q.2), qs_ne (fun q => e q.2)]; exact b6' i hi
theorem inv_type (h : Inv μ) (k : Nat) (b x : Int32) (hx : bd x 0 40) : Inv (ppS (ppS μ 49 k b) 40 11 x) := by
  obtain ⟨i1, i2, ⟨i3, i3'⟩, i4, i5, i6, i7, ⟨i8, i8'⟩, i9, i10, i10', i10''⟩ := h
  refine ⟨fun t ht => by rw [qs_tok (t := 40) (a := 41) (b := t) (by omega), qs_tok (t := 49) (a := 41) (b := t) (by omega), qs_tok (t := 40) (a := 42) (b := t) (by omega), qs_tok (t := 49) (a := 42) (b := t) (by omega), qs_tok (t := 40) (a := 43) (b := t) (by omega), qs_tok (t := 49) (a := 43) (b := t) (by omega)]; exact i1 t ht, fun i hi => by rw [qs_tok (t := 40) (a := 44) (b := i) (by omega), qs_tok (t := 49) (a := 44) (b := i) (by omega)]; exact i2 i hi, ⟨fun i hi => by rw [qs_tok (t := 40) (a := 45) (b := i) (by omega), qs_tok (t := 49) (a := 45) (b := i) (by omega)]; exact i3 i hi, fun a b ha hb => by rw [qs_tok (t := 40) (a := 45) (b := 8 * a + b) (by omega), qs_tok (t := 49) (a := 45) (b := 8 * a + b) (by omega), qs_tok (t := 40) (a := 45) (b := 8 * b + a) (by omega), qs_tok (t := 49) (a := 45) (b := 8 * b + a) (by omega)]; exact i3' a b ha hb⟩, fun i hi => by rw [qs_tok (t := 40) (a := 47) (b := i) (by omega), qs_tok (t := 49) (a := 47) (b := i) (by omega)]; exact i4 i hi, fun t ht => by rw [qs_tok (t := 40) (a := 48) (b := t) (by omega), qs_tok (t := 49) (a := 48) (b := t) (by omega)]; exact i5 t ht, ?_, fun s hs => by rw [qs_tok (t := 40) (a := 67) (b := s) (by omega), qs_tok (t := 49) (a := 67) (b := s) (by omega), qs_tok (t := 40) (a := 68) (b := s) (by omega), qs_tok (t := 49) (a := 68) (b := s) (by omega)]; exact i7 s hs, ⟨by rw [qs_ne (t := 40) (i := 11) (a := 40) (b := 19) (by omega), qs_tok (t := 49) (a := 40) (b := 19) (by omega)]; exact i8, fun i hi => by rw [qs_ne (t := 40) (i := 11) (a := 40) (b := 19) (by omega), qs_tok (t := 49) (a := 40) (b := 19) (by omega)] at hi; rw [qs_tok (t := 40) (a := 53) (b := i) (by omega), qs_tok (t := 49) (a := 53) (b := i) (by omega)]; exact i8' i hi⟩, fun t ht => by rw [qs_tok (t := 40) (a := 54) (b := t) (by omega), qs_tok (t := 49) (a := 54) (b := t) (by omega)]; exact i9 t ht, by rw [qs_ne (t := 40) (i := 11) (a := 40) (b := 6) (by omega), qs_tok (t := 49) (a := 40) (b := 6) (by omega)]; exact i10, by rw [qs_ne (t := 40) (i := 11) (a := 40) (b := 7) (by omega), qs_tok (t := 49) (a := 40) (b := 7) (by omega)]; exact i10', by rw [qs_ne (t := 40) (i := 11) (a := 40) (b := 8) (by omega), qs_tok (t := 49) (a := 40) (b := 8) (by omega)]; exact i10''⟩
  · rw [qs_same]; exact hx
theorem h_type (hCa : CaOk Ca) (a1 : Int32) (h : Rel Ca σ μ) : ∃ (r : Int32) (σ' μ' : pp_M), f_X8_type σ a1 = some (r, σ') ∧ f_X9_type μ a1 = some (r, μ') ∧ Rel Ca σ' μ' := by
  unfold f_X8_type f_X9_type f_X3_append
  have g := h.1.2.2.2.2.2.1.1
  obtain ⟨l1, l2⟩ := h.2.1.2.2.2.2.2.1
  obtain ⟨n, hn, en⟩ := q_of (n := 40) l1 (by omega)
  have n1 : ¬ (1 : Int32) = 0 := by decide
  simp only [k_within, m_in, Option.bind_some]
  by_cases c1 : wi a1 0 255 = 0
  · simp only [if_pos c1]; exact ⟨_, _, _, rfl, rfl, h⟩
  · simp only [if_neg c1, g, en]
    by_cases c2 : n = 40
    · subst c2
      have d1 : ¬ nI 40 < (40 : Int32) := by decide
      have d2 : nI 40 = (40 : Int32) := rfl
      simp only [if_neg d1, if_pos d2, Option.bind_some, if_pos]
      exact ⟨_, _, _, rfl, rfl, h⟩
    · have d1 : nI n < (40 : Int32) := by rw [show (40 : Int32) = nI 40 from rfl]; exact nI_lt (by omega) (by omega)
      have d2 : ¬ nI n = (40 : Int32) := by rw [show (40 : Int32) = nI 40 from rfl, nI_eq (by omega) (by omega)]; exact c2
      have d3 : pp_ix (nI n) 40 := q_ix (by omega) (by omega)
      have d4 : (nI n).toNatClampNeg = n := q_cl (by omega)
      have e1 : (ppS σ 14 n a1).1 13 5 = nI n := by rw [qs_tok (t := 14) (a := 13) (by omega), g, en]
      have e2 : (ppS μ 49 n a1).1 40 11 = nI n := by rw [qs_tok (t := 49) (a := 40) (by omega), en]
      simp only [if_pos d1, if_neg d2, if_pos d3, d4, Option.bind_some, if_neg n1, e1, e2, qs_same]
      refine ⟨_, _, _, rfl, rfl, rel_keep hCa h (base_type h.1 n a1 _) (inv_type h.2.1 n a1 _ ?_) (fr_tr (fr_S (by unfold nK; omega)) (fr_S (by unfold nK; omega))) (fr_tr (fr_S (by unfold nM; omega)) (fr_S (by unfold nM; omega)))⟩
      rw [nI_1]
      unfold bd
      rw [nI_toInt (by omega)]
      omega
/-- the CHANCE, less what a SHOP takes -/
def chI (μ : pp_M) (f t l : Nat) : Int := if (μ.1 48 t).toInt < (μ.1 47 (3 * (6 * f + t) + l)).toInt then (μ.1 47 (3 * (6 * f + t) + l)).toInt - (μ.1 48 t).toInt else 0
theorem ch_bd (h : Inv μ) {f t l : Nat} (hf : f < 8) (ht : t < 6) (hl : l < 3) : 0 ≤ chI μ f t l ∧ chI μ f t l ≤ 16 := by
  have h1 := h.2.2.2.1 (3 * (6 * f + t) + l) (by omega)
  have h2 := h.2.2.2.2.1 t ht
  unfold chI
  unfold bd at h1 h2
  split <;> omega
theorem q_of_int {z : Int} {n : Nat} (h0 : 0 ≤ z) (h1 : z ≤ n) : ∃ j : Nat, j ≤ n ∧ z = j := ⟨z.toNat, by omega, by omega⟩
theorem k_chance (hB : Base σ μ) (hI : Inv μ) {f t l : Nat} (hf : f < 8) (ht : t < 6) (hl : l < 3) : f_X4_chanceOf σ (nI f) (nI t) (nI l) = some (nI (chI μ f t l).toNat, σ) := by
  unfold f_X4_chanceOf
  have e0 : nI f * (6 : Int32) + nI t = nI (f * 6 + t) := by rw [show (6 : Int32) = nI 6 from rfl, pk_mul, nI_add]
  have i1 : pp_ix (nI (f * 6 + t)) 48 := q_ix (by omega) (by omega)
  have i2 : pp_ix (nI l) 3 := q_ix hl (by omega)
  have i3 : pp_ix (nI t) 6 := q_ix ht (by omega)
  have j1 : (nI (f * 6 + t)).toNatClampNeg = f * 6 + t := q_cl (by omega)
  have j2 : (nI l).toNatClampNeg = l := q_cl (by omega)
  have j3 : (nI t).toNatClampNeg = t := q_cl (by omega)
  have k1 : σ.1 11 ((f * 6 + t) * 3 + l) = μ.1 47 (3 * (6 * f + t) + l) := by
    rw [hB.2.2.2.1 ((f * 6 + t) * 3 + l) (by omega), show (f * 6 + t) * 3 + l = 3 * (6 * f + t) + l by omega]
  have k2 : σ.1 12 t = μ.1 48 t := hB.2.2.2.2.1 t ht
  simp only [e0, if_pos i1, if_pos i2, if_pos i3, j1, j2, j3, k1, k2]
  have h1 := hI.2.2.2.1 (3 * (6 * f + t) + l) (by omega)
  have h2 := hI.2.2.2.2.1 t ht
  unfold bd at h1 h2
  unfold chI
  by_cases c : (μ.1 48 t).toInt < (μ.1 47 (3 * (6 * f + t) + l)).toInt
  · rw [if_pos (q_lt32.mpr c), if_pos c]
    congr 2
    obtain ⟨x, hx, ex⟩ := q_of (n := 16) h1.1 (by omega)
    obtain ⟨y, hy, ey⟩ := q_of (n := 16) h2.1 (by omega)
    rw [ex, ey] at c ⊢
    rw [nI_toInt (by omega), nI_toInt (by omega)] at c ⊢
    rw [pk_sub (by omega)]
    congr 1
    omega
  · rw [if_neg (fun q => c (q_lt32.mp q)), if_neg c]
    rfl
theorem m_chance (h : Inv μ) {f t l : Nat} (hf : f < 8) (ht : t < 6) (hl : l < 3) : f_X9_chanceNow μ (nI f) (nI t) (nI l) = some (nI (chI μ f t l).toNat, μ) := by
  unfold f_X9_chanceNow f_X9_place
  have e0 : (3 : Int32) * ((6 : Int32) * nI f + nI t) + nI l = nI (3 * (6 * f + t) + l) := by rw [show (6 : Int32) = nI 6 from rfl, show (3 : Int32) = nI 3 from rfl, pk_mul, nI_add, pk_mul, nI_add]
  have i1 : pp_ix (nI (3 * (6 * f + t) + l)) 144 := q_ix (by omega) (by omega)
  have i3 : pp_ix (nI t) 6 := q_ix ht (by omega)
  have j1 : (nI (3 * (6 * f + t) + l)).toNatClampNeg = 3 * (6 * f + t) + l := q_cl (by omega)
  have j3 : (nI t).toNatClampNeg = t := q_cl (by omega)
  simp only [Option.bind_some, e0, if_pos i1, if_pos i3, j1, j3]
  have h1 := h.2.2.2.1 (3 * (6 * f + t) + l) (by omega)
  have h2 := h.2.2.2.2.1 t ht
  unfold bd at h1 h2
  unfold chI
  obtain ⟨x, hx, ex⟩ := q_of (n := 16) h1.1 (by omega)
  obtain ⟨y, hy, ey⟩ := q_of (n := 16) h2.1 (by omega)
  rw [ex, ey]
  have ed : (nI x - nI y : Int32).toInt = (x : Int) - y := pk_sub_toInt (by omega) (by omega)
  rw [nI_toInt (by omega), nI_toInt (by omega)]
  by_cases c : (y : Int) < x
  · rw [if_neg (by rw [q_lt32, ed]; show ¬ _ < (0 : Int); omega), if_pos c, pk_sub (by omega)]
    congr 3
    omega
  · rw [if_neg c]
    by_cases c2 : y = x
    · subst c2
      rw [if_neg (by rw [q_lt32, ed]; show ¬ _ < (0 : Int); omega), pk_sub (by omega), Nat.sub_self]
      rfl
    · rw [if_pos (by rw [q_lt32, ed]; show _ < (0 : Int); omega)]
      rfl
theorem h_chance (a1 a2 a3 : Int32) (h : Rel Ca σ μ) : ∃ (r : Int32) (σ' μ' : pp_M), f_X8_chance σ a1 a2 a3 = some (r, σ') ∧ f_X9_chance μ a1 a2 a3 = some (r, μ') ∧ Rel Ca σ' μ' := by
  unfold f_X8_chance f_X9_chance
  simp only [k_isFarm, m_isFarm, k_isThing, m_isThing, k_isLevel, m_in, Option.bind_some]
  by_cases c1 : wi a1 1 7 = 0
  · simp only [if_pos c1]; exact ⟨_, _, _, rfl, rfl, h⟩
  by_cases c2 : wi a2 0 5 = 0
  · simp only [if_neg c1, if_pos c2]; exact ⟨_, _, _, rfl, rfl, h⟩
  by_cases c3 : wi a3 0 2 = 0
  · simp only [if_neg c1, if_neg c2, if_pos c3]; exact ⟨_, _, _, rfl, rfl, h⟩
  · simp only [if_neg c1, if_neg c2, if_neg c3]
    obtain ⟨f1, f2⟩ := wi_0 c1
    have f1' : 1 ≤ a1.toInt := f1
    have f2' : a1.toInt ≤ 7 := f2
    obtain ⟨f, hf, rfl⟩ := q_of (x := a1) (n := 7) (by omega) (by omega)
    obtain ⟨t, ht, rfl⟩ := wi_of (n := 5) rfl c2
    obtain ⟨l, hl, rfl⟩ := wi_of (n := 2) rfl c3
    rw [k_chance h.1 h.2.1 (by omega) (by omega) (by omega), m_chance h.2.1 (by omega) (by omega) (by omega)]
    exact ⟨_, _, _, rfl, rfl, h⟩
end ACTS
