/-! what class and reference have in common -/
def Base (σ μ : pp_M) : Prop :=
  (∀ t, t < 6 → ∀ w, w < 3 → σ.1 3 (t * 6 + w) = μ.1 (41 + w) t) ∧
  (∀ t, t < 6 → ∀ l, l < 3 → σ.1 3 (t * 6 + (3 + l)) = μ.1 44 (3 * t + l)) ∧
  (∀ i, i < 64 → σ.1 6 i = μ.1 45 i) ∧
  (∀ i, i < 144 → σ.1 11 i = μ.1 47 i) ∧
  (∀ t, t < 6 → σ.1 12 t = μ.1 48 t) ∧
  (σ.1 13 5 = μ.1 40 11 ∧ ∀ i, i < 40 → σ.1 14 i = μ.1 49 i) ∧
  (∀ s, s < 4 → σ.1 19 s = μ.1 67 s ∧ ((μ.1 66 s = 1 ∧ σ.1 20 s = μ.1 68 s) ∨ (μ.1 66 s = 0 ∧ σ.1 20 s = -1))) ∧
  (∀ i, i < 160 → σ.1 18 i = μ.1 69 i) ∧
  σ.1 16 3 = μ.1 40 47 ∧
  (σ.1 0 10 = μ.1 40 19 ∧ ∀ i, i < 7 → σ.1 34 i = μ.1 53 i) ∧
  (∀ t, t < 6 → σ.1 35 t = μ.1 54 t) ∧
  (σ.1 0 11 = μ.1 40 6 ∧ σ.1 0 12 = μ.1 40 7 ∧ σ.1 0 13 = μ.1 40 8)
def bd (x : Int32) (lo hi : Int) : Prop := lo ≤ x.toInt ∧ x.toInt ≤ hi
def Inv (μ : pp_M) : Prop :=
  (∀ t, t < 6 → bd (μ.1 41 t) 0 99 ∧ bd (μ.1 42 t) 1 20 ∧ bd (μ.1 43 t) 0 99) ∧
  (∀ i, i < 18 → bd (μ.1 44 i) 0 99) ∧
  ((∀ i, i < 64 → bd (μ.1 45 i) 0 60) ∧ ∀ a b, a < 8 → b < 8 → μ.1 45 (8 * a + b) = μ.1 45 (8 * b + a)) ∧
  (∀ i, i < 144 → bd (μ.1 47 i) 0 16) ∧
  (∀ t, t < 6 → bd (μ.1 48 t) 0 16) ∧
  bd (μ.1 40 11) 0 40 ∧
  (∀ s, s < 4 → bd (μ.1 68 s) 0 40 ∧ bd (μ.1 67 s) 0 2) ∧
  (bd (μ.1 40 19) 0 7 ∧ ∀ i : Nat, (i : Int) < (μ.1 40 19).toInt → bd (μ.1 53 i) 1 7) ∧
  (∀ t, t < 6 → bd (μ.1 54 t) 0 4) ∧
  (bd (μ.1 40 6) 1 200 ∧ bd (μ.1 40 7) 1 100 ∧ bd (μ.1 40 8) 0 127)
/-- the WAYS out of the ROADS -/
def fw0 (r : Nat → Int32) : Nat → Int32 := fun k => if k / 8 = k % 8 then 0 else if 0 < r k then r k else 1000
def fwS (by' k : Nat) (w : Nat → Int32) : Nat → Int32 := fun j => if j = k then (if w (k / 8 * 8 + by') + w (8 * by' + k % 8) < w k then w (k / 8 * 8 + by') + w (8 * by' + k % 8) else w k) else w j
def fwR (by' : Nat) (w : Nat → Int32) : Nat → Nat → Int32
  | 0 => w
  | n + 1 => fwS by' n (fwR by' w n)
def fwB (w : Nat → Int32) : Nat → Nat → Int32
  | 0 => w
  | n + 1 => fwR n (fwB w n) 64
def fw (r : Nat → Int32) : Nat → Int32 := fwB (fw0 r) 8
/-- Base and Inv bear changes of scratch -/
theorem base_fr {σ σ' μ μ' : pp_M} (h : Base σ μ) (h1 : fr sK σ σ') (h2 : fr sM μ μ') : Base σ' μ' := by
  unfold Base at h ⊢
  have k : ∀ t i, ¬ sK t i → σ'.1 t i = σ.1 t i := fun t i q => (h1 t i q).1
  have m : ∀ t i, ¬ sM t i → μ'.1 t i = μ.1 t i := fun t i q => (h2 t i q).1
  unfold sK at k
  unfold sM at m
  obtain ⟨b1, b2, b3, b4, b5, ⟨b6, b6'⟩, b7, b8, b9, ⟨b10, b10'⟩, b11, b12, b12', b12''⟩ := h
  refine ⟨fun t ht w hw => ?_, fun t ht l hl => ?_, fun i hi => ?_, fun i hi => ?_, fun t ht => ?_, ⟨?_, fun i hi => ?_⟩, fun s hs => ?_, fun i hi => ?_, ?_, ⟨?_, fun i hi => ?_⟩, fun t ht => ?_, ?_, ?_, ?_⟩
  · rw [k 3 _ (by omega), m _ _ (by omega)]; exact b1 t ht w hw
  · rw [k 3 _ (by omega), m 44 _ (by omega)]; exact b2 t ht l hl
  · rw [k 6 _ (by omega), m 45 _ (by omega)]; exact b3 i hi
  · rw [k 11 _ (by omega), m 47 _ (by omega)]; exact b4 i hi
  · rw [k 12 _ (by omega), m 48 _ (by omega)]; exact b5 t ht
  · rw [k 13 _ (by omega), m 40 _ (by omega)]; exact b6
  · rw [k 14 _ (by omega), m 49 _ (by omega)]; exact b6' i hi
  · rw [k 19 _ (by omega), k 20 _ (by omega), m 66 _ (by omega), m 67 _ (by omega), m 68 _ (by omega)]; exact b7 s hs
  · rw [k 18 _ (by omega), m 69 _ (by omega)]; exact b8 i hi
  · rw [k 16 _ (by omega), m 40 _ (by omega)]; exact b9
  · rw [k 0 _ (by omega), m 40 _ (by omega)]; exact b10
  · rw [k 34 _ (by omega), m 53 _ (by omega)]; exact b10' i hi
  · rw [k 35 _ (by omega), m 54 _ (by omega)]; exact b11 t ht
  · rw [k 0 _ (by omega), m 40 _ (by omega)]; exact b12
  · rw [k 0 _ (by omega), m 40 _ (by omega)]; exact b12'
  · rw [k 0 _ (by omega), m 40 _ (by omega)]; exact b12''
theorem inv_fr {μ μ' : pp_M} (h : Inv μ) (h2 : fr sM μ μ') : Inv μ' := by
  unfold Inv at h ⊢
  have m : ∀ t i, ¬ sM t i → μ'.1 t i = μ.1 t i := fun t i q => (h2 t i q).1
  unfold sM at m
  obtain ⟨b1, b2, ⟨b3, b3'⟩, b4, b5, b6, b7, ⟨b8, b8'⟩, b9, b10, b10', b10''⟩ := h
  refine ⟨fun t ht => ?_, fun i hi => ?_, ⟨fun i hi => ?_, fun a b ha hb => ?_⟩, fun i hi => ?_, fun t ht => ?_, ?_, fun s hs => ?_, ⟨?_, fun i hi => ?_⟩, fun t ht => ?_, ?_, ?_, ?_⟩
  · rw [m 41 _ (by omega), m 42 _ (by omega), m 43 _ (by omega)]; exact b1 t ht
  · rw [m 44 _ (by omega)]; exact b2 i hi
  · rw [m 45 _ (by omega)]; exact b3 i hi
  · rw [m 45 _ (by omega), m 45 _ (by omega)]; exact b3' a b ha hb
  · rw [m 47 _ (by omega)]; exact b4 i hi
  · rw [m 48 _ (by omega)]; exact b5 t ht
  · rw [m 40 _ (by omega)]; exact b6
  · rw [m 67 _ (by omega), m 68 _ (by omega)]; exact b7 s hs
  · rw [m 40 _ (by omega)]; exact b8
  · rw [m 40 _ (by omega)] at hi; rw [m 53 _ (by omega)]; exact b8' i hi
  · rw [m 54 _ (by omega)]; exact b9 t ht
  · rw [m 40 _ (by omega)]; exact b10
  · rw [m 40 _ (by omega)]; exact b10'
  · rw [m 40 _ (by omega)]; exact b10''
