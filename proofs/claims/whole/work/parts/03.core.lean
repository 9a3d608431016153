/-! values (an int, a long, a reference: token, offset, length), memory, worlds -/
abbrev pp_V : Type := Int32 ⊕ Int64 ⊕ (Nat × Nat × Nat)
def ppI (x : Int32) : pp_V := .inl x
def ppL (x : Int64) : pp_V := .inr (.inl x)
def ppR (t o n : Nat) : pp_V := .inr (.inr (t, o, n))
abbrev pp_M : Type := (Nat → Nat → Int32) × (Nat → Nat → Int64)
def ppS (σ : pp_M) (t i : Nat) (x : Int32) : pp_M := (fun a b => if a = t ∧ b = i then x else σ.1 a b, σ.2)
def ppT (σ : pp_M) (t i : Nat) (x : Int64) : pp_M := (σ.1, fun a b => if a = t ∧ b = i then x else σ.2 a b)
/-- n ints of row (t, o) from i on come to row (u, q) from j on -/
def ppC (σ : pp_M) (t o u q i j n : Nat) : pp_M := (fun a b => if a = u ∧ q + j ≤ b ∧ b < q + j + n then σ.1 t (o + i + (b - (q + j))) else σ.1 a b, σ.2)
def ppv (ad : Nat → Nat → Nat) : pp_V → Value
  | .inl x => .int x
  | .inr (.inl x) => .long x
  | .inr (.inr (t, o, _)) => .ref (ad t o)
/-- the static shape of the worlds: kind (0 an object, 1 ints, 2 longs, 3 booleans, 4 and 5 rows of rows), class or rows, width, fields -/
def pp_sh : List (Nat × Nat × Nat × List (Nat × Nat × Nat × Nat)) := [
  (0, 8, 14, [(2, 1, 0, 0), (2, 4, 0, 0), (2, 9, 0, 0), (2, 13, 0, 0), (2, 16, 0, 0), (2, 21, 0, 0), (2, 25, 0, 0), (2, 34, 0, 7), (2, 35, 0, 6), (2, 36, 0, 0), (0, 0, 0, 0), (0, 0, 0, 0), (0, 0, 0, 0), (0, 0, 0, 0)]),
  (0, 1, 1, [(2, 2, 0, 6)]),
  (4, 6, 6, [(2, 3, 0, 0)]),
  (1, 6, 6, []),
  (0, 2, 2, [(2, 5, 0, 8), (2, 7, 0, 8)]),
  (4, 8, 8, [(2, 6, 0, 0)]),
  (1, 8, 8, []),
  (4, 8, 8, [(2, 8, 0, 0)]),
  (1, 8, 8, []),
  (0, 4, 2, [(2, 10, 0, 48), (2, 12, 0, 6)]),
  (4, 48, 3, [(2, 11, 0, 0)]),
  (1, 48, 3, []),
  (1, 1, 6, []),
  (0, 3, 6, [(2, 14, 0, 40), (2, 15, 0, 3), (0, 0, 0, 0), (0, 0, 0, 0), (0, 0, 0, 0), (0, 0, 0, 0)]),
  (1, 1, 40, []),
  (1, 1, 3, []),
  (0, 7, 4, [(2, 17, 0, 4), (2, 19, 0, 4), (2, 20, 0, 4), (0, 0, 0, 0)]),
  (4, 4, 40, [(2, 18, 0, 0)]),
  (1, 4, 40, []),
  (1, 1, 4, []),
  (1, 1, 4, []),
  (0, 0, 4, [(2, 1, 0, 0), (2, 9, 0, 0), (2, 22, 0, 8), (2, 24, 0, 5)]),
  (5, 8, 30, [(2, 23, 0, 0)]),
  (2, 8, 30, []),
  (2, 1, 5, []),
  (0, 5, 9, [(2, 1, 0, 0), (2, 26, 0, 6), (2, 28, 0, 6), (2, 29, 0, 7), (2, 31, 0, 24), (2, 32, 0, 6), (2, 33, 0, 6), (1, 0, 0, 0), (1, 0, 0, 0)]),
  (5, 6, 5, [(2, 27, 0, 0)]),
  (2, 6, 5, []),
  (1, 1, 6, []),
  (5, 7, 101, [(2, 30, 0, 0)]),
  (2, 7, 101, []),
  (3, 1, 24, []),
  (1, 1, 6, []),
  (1, 1, 6, []),
  (1, 1, 7, []),
  (1, 1, 6, []),
  (0, 6, 15, [(2, 4, 0, 0), (2, 21, 0, 0), (2, 25, 0, 0), (2, 35, 0, 6), (2, 37, 0, 128), (2, 38, 0, 128), (0, 0, 0, 0), (0, 0, 0, 0), (0, 0, 0, 0), (0, 0, 0, 0), (0, 0, 0, 0), (0, 0, 0, 0), (0, 0, 0, 0), (0, 0, 0, 0), (1, 0, 0, 0)]),
  (2, 1, 128, []),
  (1, 1, 128, []),
  (9, 0, 0, []),
  (0, 9, 48, [(2, 41, 0, 6), (2, 42, 0, 6), (2, 43, 0, 6), (2, 44, 0, 18), (2, 45, 0, 64), (2, 46, 0, 64), (0, 0, 0, 0), (0, 0, 0, 0), (0, 0, 0, 0), (2, 47, 0, 144), (2, 48, 0, 6), (0, 0, 0, 0), (2, 49, 0, 40), (0, 0, 0, 0), (0, 0, 0, 0), (0, 0, 0, 0), (2, 50, 0, 10), (2, 51, 0, 10), (2, 52, 0, 30), (0, 0, 0, 0), (2, 53, 0, 7), (2, 54, 0, 6), (0, 0, 0, 0), (2, 55, 0, 7), (2, 56, 0, 240), (2, 57, 0, 240), (2, 58, 0, 5), (2, 59, 0, 6), (1, 0, 0, 0), (2, 60, 0, 6), (0, 0, 0, 0), (2, 61, 0, 7), (0, 0, 0, 0), (2, 62, 0, 101), (0, 0, 0, 0), (2, 63, 0, 5), (1, 0, 0, 0), (2, 64, 0, 32), (0, 0, 0, 0), (0, 0, 0, 0), (1, 0, 0, 0), (2, 65, 0, 6), (2, 66, 0, 4), (2, 67, 0, 4), (2, 68, 0, 4), (2, 69, 0, 160), (2, 70, 0, 40), (0, 0, 0, 0)]),
  (1, 1, 6, []),
  (1, 1, 6, []),
  (1, 1, 6, []),
  (1, 1, 18, []),
  (1, 1, 64, []),
  (1, 1, 64, []),
  (1, 1, 144, []),
  (1, 1, 6, []),
  (1, 1, 40, []),
  (1, 1, 10, []),
  (1, 1, 10, []),
  (1, 1, 30, []),
  (1, 1, 7, []),
  (1, 1, 6, []),
  (1, 1, 7, []),
  (2, 1, 240, []),
  (1, 1, 240, []),
  (2, 1, 5, []),
  (1, 1, 6, []),
  (1, 1, 6, []),
  (1, 1, 7, []),
  (2, 1, 101, []),
  (1, 1, 5, []),
  (2, 1, 32, []),
  (1, 1, 6, []),
  (3, 1, 4, []),
  (1, 1, 4, []),
  (1, 1, 4, []),
  (1, 1, 160, []),
  (1, 1, 40, [])]
def dsK : List (Nat × Nat) := [(2, 0), (3, 0), (3, 6), (3, 12), (3, 18), (3, 24), (3, 30), (1, 0), (5, 0), (6, 0), (6, 8), (6, 16), (6, 24), (6, 32), (6, 40), (6, 48), (6, 56), (7, 0), (8, 0), (8, 8), (8, 16), (8, 24), (8, 32), (8, 40), (8, 48), (8, 56), (4, 0), (10, 0), (11, 0), (11, 3), (11, 6), (11, 9), (11, 12), (11, 15), (11, 18), (11, 21), (11, 24), (11, 27), (11, 30), (11, 33), (11, 36), (11, 39), (11, 42), (11, 45), (11, 48), (11, 51), (11, 54), (11, 57), (11, 60), (11, 63), (11, 66), (11, 69), (11, 72), (11, 75), (11, 78), (11, 81), (11, 84), (11, 87), (11, 90), (11, 93), (11, 96), (11, 99), (11, 102), (11, 105), (11, 108), (11, 111), (11, 114), (11, 117), (11, 120), (11, 123), (11, 126), (11, 129), (11, 132), (11, 135), (11, 138), (11, 141), (12, 0), (9, 0), (14, 0), (15, 0), (13, 0), (17, 0), (18, 0), (18, 40), (18, 80), (18, 120), (19, 0), (20, 0), (16, 0), (22, 0), (23, 0), (23, 30), (23, 60), (23, 90), (23, 120), (23, 150), (23, 180), (23, 210), (24, 0), (21, 0), (26, 0), (27, 0), (27, 5), (27, 10), (27, 15), (27, 20), (27, 25), (28, 0), (29, 0), (30, 0), (30, 101), (30, 202), (30, 303), (30, 404), (30, 505), (30, 606), (31, 0), (32, 0), (33, 0), (25, 0), (34, 0), (35, 0), (37, 0), (38, 0), (36, 0), (0, 0)]
def dsM : List (Nat × Nat) := [(41, 0), (42, 0), (43, 0), (44, 0), (45, 0), (46, 0), (47, 0), (48, 0), (49, 0), (50, 0), (51, 0), (52, 0), (53, 0), (54, 0), (55, 0), (56, 0), (57, 0), (58, 0), (59, 0), (60, 0), (61, 0), (62, 0), (63, 0), (64, 0), (65, 0), (66, 0), (67, 0), (68, 0), (69, 0), (70, 0), (40, 0)]
def dsG : List (Nat × Nat) := [(2, 0), (3, 0), (3, 6), (3, 12), (3, 18), (3, 24), (3, 30), (1, 0)]
def dsN : List (Nat × Nat) := [(5, 0), (6, 0), (6, 8), (6, 16), (6, 24), (6, 32), (6, 40), (6, 48), (6, 56), (7, 0), (8, 0), (8, 8), (8, 16), (8, 24), (8, 32), (8, 40), (8, 48), (8, 56), (4, 0)]
def dsQ : List (Nat × Nat) := [(10, 0), (11, 0), (11, 3), (11, 6), (11, 9), (11, 12), (11, 15), (11, 18), (11, 21), (11, 24), (11, 27), (11, 30), (11, 33), (11, 36), (11, 39), (11, 42), (11, 45), (11, 48), (11, 51), (11, 54), (11, 57), (11, 60), (11, 63), (11, 66), (11, 69), (11, 72), (11, 75), (11, 78), (11, 81), (11, 84), (11, 87), (11, 90), (11, 93), (11, 96), (11, 99), (11, 102), (11, 105), (11, 108), (11, 111), (11, 114), (11, 117), (11, 120), (11, 123), (11, 126), (11, 129), (11, 132), (11, 135), (11, 138), (11, 141), (12, 0), (9, 0)]
def dsI : List (Nat × Nat) := [(14, 0), (15, 0), (13, 0)]
def dsH : List (Nat × Nat) := [(17, 0), (18, 0), (18, 40), (18, 80), (18, 120), (19, 0), (20, 0), (16, 0)]
def dsD : List (Nat × Nat) := [(22, 0), (23, 0), (23, 30), (23, 60), (23, 90), (23, 120), (23, 150), (23, 180), (23, 210), (24, 0), (21, 0)]
def dsP : List (Nat × Nat) := [(26, 0), (27, 0), (27, 5), (27, 10), (27, 15), (27, 20), (27, 25), (28, 0), (29, 0), (30, 0), (30, 101), (30, 202), (30, 303), (30, 404), (30, 505), (30, 606), (31, 0), (32, 0), (33, 0), (25, 0)]
def dsR : List (Nat × Nat) := [(37, 0), (38, 0), (36, 0)]

def pp_e (t : Nat) : Nat × Nat × Nat × List (Nat × Nat × Nat × Nat) := pp_sh.getD t (9, 0, 0, [])
/-- class numbers, slots, addresses; the classes of int[], long[], boolean[], int[][], long[][] -/
abbrev pp_X : Type := (Nat → ClassId) × (Nat → Nat → Nat) × (Nat → Nat → Nat) × ClassId × ClassId × ClassId × ClassId × ClassId
def pp_ty (X : pp_X) : List (ClassId × FieldType) := [(X.2.2.2.1, .int), (X.2.2.2.2.1, .long), (X.2.2.2.2.2.1, .boolean), (X.2.2.2.2.2.2.1, .array .int), (X.2.2.2.2.2.2.2, .array .long)]
def pp_fv (ad : Nat → Nat → Nat) (σ : pp_M) (t j : Nat) (f : Nat × Nat × Nat × Nat) : Value := match f.1 with
  | 0 => .int (σ.1 t j)
  | 1 => .long (σ.2 t j)
  | _ => .ref (ad f.2.1 f.2.2.1)
def pp_fl (ad : Nat → Nat → Nat) (σ : pp_M) (t : Nat) : Nat → List (Nat × Nat × Nat × Nat) → List Value
  | _, [] => []
  | j, f :: l => pp_fv ad σ t j f :: pp_fl ad σ t (j + 1) l
def pp_cellOf (X : pp_X) (σ : pp_M) (t o : Nat) (q : Nat × Nat × Nat × List (Nat × Nat × Nat × Nat)) : va_E := match q.1 with
  | 0 => .inr (q.2.1, pp_fl X.2.2.1 σ t 0 q.2.2.2)
  | 1 => .inl (X.2.2.2.1, q.2.2.1, .inl (fun j => if j < q.2.2.1 then σ.1 t (o + j) else 0))
  | 2 => .inl (X.2.2.2.2.1, q.2.2.1, .inr (.inl (fun j => if j < q.2.2.1 then σ.2 t (o + j) else 0)))
  | 3 => .inl (X.2.2.2.2.2.1, q.2.2.1, .inl (fun j => if j < q.2.2.1 then σ.1 t (o + j) else 0))
  | 4 => .inl (X.2.2.2.2.2.2.1, q.2.1, .inr (.inr (.inr (.inr (fun i => if i < q.2.1 then some (X.2.2.1 (q.2.2.2.getD 0 (0, 0, 0, 0)).2.1 (i * q.2.2.1)) else none)))))
  | _ => .inl (X.2.2.2.2.2.2.2, q.2.1, .inr (.inr (.inr (.inr (fun i => if i < q.2.1 then some (X.2.2.1 (q.2.2.2.getD 0 (0, 0, 0, 0)).2.1 (i * q.2.2.1)) else none)))))
def pp_cell (X : pp_X) (σ : pp_M) (t o : Nat) : va_E := pp_cellOf X σ t o (pp_e t)
def pp_wd (X : pp_X) (ds : List (Nat × Nat)) (σ : pp_M) : va_W := ds.map (fun d => (X.2.2.1 d.1 d.2, pp_cell X σ d.1 d.2))
def pp_A (X : pp_X) (ds : List (Nat × Nat)) : Nat → Prop := fun q => ∃ d ∈ ds, q = X.2.2.1 d.1 d.2
/-- different cells have different addresses; no cell stands twice in the list -/
def pp_inj (X : pp_X) (ds : List (Nat × Nat)) : Prop := ∀ (i j : Nat) (d d' : Nat × Nat), ds[i]? = some d → ds[j]? = some d' → X.2.2.1 d.1 d.2 = X.2.2.1 d'.1 d'.2 → i = j
/-- rows of a token lie at its multiples of the width -/
def pp_row (d : Nat × Nat) : Prop := d.2 % (pp_e d.1).2.2.1 = 0
theorem pp_wd_at {X : pp_X} {ds : List (Nat × Nat)} {σ : pp_M} {t o : Nat} (h : (t, o) ∈ ds) : ∃ k : Nat, ds[k]? = some (t, o) ∧ (pp_wd X ds σ)[k]? = some (X.2.2.1 t o, pp_cell X σ t o) := by
  obtain ⟨k, hk⟩ := List.getElem?_of_mem h
  exact ⟨k, hk, by unfold pp_wd; rw [List.getElem?_map, hk]; rfl⟩
theorem pp_wd_D {X : pp_X} {ds : List (Nat × Nat)} {σ : pp_M} {A : Nat → Prop} (hi : pp_inj X ds) (hA : ∀ q, pp_A X ds q → A q) : va_D A (pp_wd X ds σ) := by
  have key : ∀ (k : Nat) (q : Nat × va_E), (pp_wd X ds σ)[k]? = some q → ∃ d, ds[k]? = some d ∧ q.1 = X.2.2.1 d.1 d.2 := by
    intro k q hk
    unfold pp_wd at hk
    rw [List.getElem?_map] at hk
    cases hd : ds[k]? with
    | none => rw [hd] at hk; cases hk
    | some d => rw [hd] at hk; cases hk; exact ⟨d, rfl, rfl⟩
  refine ⟨fun i j p q h1 h2 h3 => ?_, fun k q hk => ?_⟩
  · obtain ⟨d, e1, e2⟩ := key i p h1
    obtain ⟨d', e3, e4⟩ := key j q h2
    exact hi i j d d' e1 e3 (e2.symm.trans (h3.trans e4))
  · obtain ⟨d, e1, e2⟩ := key k q hk
    exact hA q.1 ⟨d, List.mem_of_getElem? e1, e2⟩
/-- one cell changes: the world with the memory that tells so -/
theorem pp_wd_set {X : pp_X} {ds : List (Nat × Nat)} {σ σ' : pp_M} {t o k : Nat} {a : Nat} {e : va_E} (hk : ds[k]? = some (t, o)) (hi : pp_inj X ds) (ha : a = X.2.2.1 t o) (he : e = pp_cell X σ' t o) (ho : ∀ d ∈ ds, d ≠ (t, o) → pp_cell X σ' d.1 d.2 = pp_cell X σ d.1 d.2) : (pp_wd X ds σ).set k (a, e) = pp_wd X ds σ' := by
  have hl := (List.getElem?_eq_some_iff.mp hk).1
  apply List.ext_getElem?
  intro j
  by_cases hj : j = k
  · subst hj
    rw [List.getElem?_set_self (by unfold pp_wd; rw [List.length_map]; exact hl)]
    unfold pp_wd
    rw [List.getElem?_map, hk, ha, he]
    rfl
  · rw [List.getElem?_set_ne (Ne.symm hj)]
    unfold pp_wd
    rw [List.getElem?_map, List.getElem?_map]
    cases hd : ds[j]? with
    | none => rfl
    | some d =>
      have hne : d ≠ (t, o) := fun h => hj (hi j k d (t, o) hd hk (by rw [h]))
      simp only [Option.map_some]
      rw [ho d (List.mem_of_getElem? hd) hne]
theorem pp_fl_at (ad : Nat → Nat → Nat) (σ : pp_M) (t : Nat) : ∀ (l : List (Nat × Nat × Nat × Nat)) (j k : Nat), (pp_fl ad σ t j l)[k]? = (l[k]?).map (pp_fv ad σ t (j + k))
  | [], j, k => by simp [pp_fl]
  | f :: l, j, 0 => by simp [pp_fl]
  | f :: l, j, k + 1 => by
    simp only [pp_fl, List.getElem?_cons_succ]
    rw [pp_fl_at ad σ t l (j + 1) k]
    rw [show j + 1 + k = j + (k + 1) by omega]
theorem pp_fl_len (ad : Nat → Nat → Nat) (σ : pp_M) (t : Nat) : ∀ (l : List (Nat × Nat × Nat × Nat)) (j : Nat), (pp_fl ad σ t j l).length = l.length
  | [], j => rfl
  | f :: l, j => by simp only [pp_fl, List.length_cons]; rw [pp_fl_len ad σ t l (j + 1)]
