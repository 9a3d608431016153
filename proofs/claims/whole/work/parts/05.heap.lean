/-! rules for the heap: arrays, fields; ends; calls -/
def pp_k (t : Nat) : Nat × Nat := ((pp_e t).1, (pp_e t).2.2.1)
/-- a row of ints, of longs, of booleans -/
def pp_ai (ds : List (Nat × Nat)) (t o n : Nat) : Prop := (t, o) ∈ ds ∧ pp_k t = (1, n)
def pp_al (ds : List (Nat × Nat)) (t o n : Nat) : Prop := (t, o) ∈ ds ∧ pp_k t = (2, n)
def pp_az (ds : List (Nat × Nat)) (t o n : Nat) : Prop := (t, o) ∈ ds ∧ pp_k t = (3, n)
def pp_oi (ds : List (Nat × Nat)) (t n w g : Nat) : Prop := (t, 0) ∈ ds ∧ pp_e t = (4, n, w, [(2, g, 0, 0)])
def pp_ol (ds : List (Nat × Nat)) (t n w g : Nat) : Prop := (t, 0) ∈ ds ∧ pp_e t = (5, n, w, [(2, g, 0, 0)])
theorem vp_lt {i : Int32} {n : Nat} (h : vp_in i n) : i.toNatClampNeg < n := Nat.not_le.mp fun q => h (Or.inr q)
theorem pp_cell_i {X : pp_X} {σ : pp_M} {t o n : Nat} (h : pp_k t = (1, n)) : pp_cell X σ t o = .inl (X.2.2.2.1, n, .inl (fun j => if j < n then σ.1 t (o + j) else 0)) := by
  unfold pp_k at h
  have h1 : (pp_e t).1 = 1 := congrArg Prod.fst h
  have h2 : (pp_e t).2.2.1 = n := congrArg Prod.snd h
  subst h2
  unfold pp_cell pp_cellOf
  rw [h1]
  rfl
theorem pp_cell_l {X : pp_X} {σ : pp_M} {t o n : Nat} (h : pp_k t = (2, n)) : pp_cell X σ t o = .inl (X.2.2.2.2.1, n, .inr (.inl (fun j => if j < n then σ.2 t (o + j) else 0))) := by
  unfold pp_k at h
  have h1 : (pp_e t).1 = 2 := congrArg Prod.fst h
  have h2 : (pp_e t).2.2.1 = n := congrArg Prod.snd h
  subst h2
  unfold pp_cell pp_cellOf
  rw [h1]
  rfl
theorem pp_cell_z {X : pp_X} {σ : pp_M} {t o n : Nat} (h : pp_k t = (3, n)) : pp_cell X σ t o = .inl (X.2.2.2.2.2.1, n, .inl (fun j => if j < n then σ.1 t (o + j) else 0)) := by
  unfold pp_k at h
  have h1 : (pp_e t).1 = 3 := congrArg Prod.fst h
  have h2 : (pp_e t).2.2.1 = n := congrArg Prod.snd h
  subst h2
  unfold pp_cell pp_cellOf
  rw [h1]
  rfl
theorem pp_cell_oi {X : pp_X} {σ : pp_M} {t o n w g : Nat} (h : pp_e t = (4, n, w, [(2, g, 0, 0)])) : pp_cell X σ t o = .inl (X.2.2.2.2.2.2.1, n, .inr (.inr (.inr (.inr (fun i => if i < n then some (X.2.2.1 g (i * w)) else none))))) := by
  unfold pp_cell pp_cellOf
  rw [h]
  rfl
theorem pp_cell_ol {X : pp_X} {σ : pp_M} {t o n w g : Nat} (h : pp_e t = (5, n, w, [(2, g, 0, 0)])) : pp_cell X σ t o = .inl (X.2.2.2.2.2.2.2, n, .inr (.inr (.inr (.inr (fun i => if i < n then some (X.2.2.1 g (i * w)) else none))))) := by
  unfold pp_cell pp_cellOf
  rw [h]
  rfl
theorem pp_cell_o {X : pp_X} {σ : pp_M} {t ci N : Nat} {fs : List (Nat × Nat × Nat × Nat)} (h : pp_e t = (0, ci, N, fs)) : pp_cell X σ t 0 = .inr (ci, pp_fl X.2.2.1 σ t 0 fs) := by
  unfold pp_cell pp_cellOf
  rw [h]
  rfl
theorem pp_fl_cong (ad : Nat → Nat → Nat) {σ σ' : pp_M} {t : Nat} (h1 : ∀ j, σ'.1 t j = σ.1 t j) (h2 : ∀ j, σ'.2 t j = σ.2 t j) : ∀ (l : List (Nat × Nat × Nat × Nat)) (j : Nat), pp_fl ad σ' t j l = pp_fl ad σ t j l
  | [], j => rfl
  | f :: l, j => by
    simp only [pp_fl]
    rw [pp_fl_cong ad h1 h2 l (j + 1)]
    unfold pp_fv
    rw [h1, h2]
theorem pp_cell_cong {X : pp_X} {σ σ' : pp_M} {t o : Nat} (h1 : ∀ j, σ'.1 t j = σ.1 t j) (h2 : ∀ j, σ'.2 t j = σ.2 t j) : pp_cell X σ' t o = pp_cell X σ t o := by
  unfold pp_cell pp_cellOf
  simp only [h1, h2, pp_fl_cong X.2.2.1 h1 h2]
theorem pp_row_ne {w o o' i j : Nat} (h1 : o % w = 0) (h2 : o' % w = 0) (hi : i < w) (hj : j < w) (hn : o' ≠ o) : o' + j ≠ o + i := by
  intro h
  have e1 : (o + i) / w = o / w := by
    have := Nat.div_add_mod o w
    rw [h1, Nat.add_zero] at this
    rw [← this, Nat.mul_add_div (by omega), Nat.mul_div_cancel_left _ (by omega), Nat.div_eq_of_lt hi, Nat.add_zero]
  have e2 : (o' + j) / w = o' / w := by
    have := Nat.div_add_mod o' w
    rw [h2, Nat.add_zero] at this
    rw [← this, Nat.mul_add_div (by omega), Nat.mul_div_cancel_left _ (by omega), Nat.div_eq_of_lt hj, Nat.add_zero]
  rw [h, e1] at e2
  have a1 := Nat.div_add_mod o w
  have a2 := Nat.div_add_mod o' w
  rw [h1] at a1
  rw [h2] at a2
  apply hn
  rw [← a1, ← a2, e2]
/-- a row of ints (or booleans) changes within: the other cells stay -/
theorem pp_other {X : pp_X} {ds : List (Nat × Nat)} {σ σ' : pp_M} {t o n kd : Nat} (hok : pp_ok ds) (hm : (t, o) ∈ ds) (hk : pp_k t = (kd, n)) (hkd : kd = 1 ∨ kd = 3) (h2 : σ'.2 = σ.2) (ho : ∀ a b, ¬ (a = t ∧ o ≤ b ∧ b < o + n) → σ'.1 a b = σ.1 a b) : ∀ d ∈ ds, d ≠ (t, o) → pp_cell X σ' d.1 d.2 = pp_cell X σ d.1 d.2 := by
  intro d hd hne
  obtain ⟨t', o'⟩ := d
  by_cases ht : t' = t
  · subst ht
    have hno : o' ≠ o := fun h => hne (by rw [h])
    have e1 := (hok _ hd).2
    have e2 := (hok _ hm).2
    have hw : (pp_e t').2.2.1 = n := congrArg Prod.snd hk
    simp only [hw] at e1 e2
    have key : (fun j => if j < n then σ'.1 t' (o' + j) else 0) = (fun j => if j < n then σ.1 t' (o' + j) else 0) := by
      funext j
      by_cases hj : j < n
      · rw [if_pos hj, if_pos hj]
        refine ho t' (o' + j) (fun h => ?_)
        exact pp_row_ne (i := o' + j - o) e2 e1 (by omega) hj hno (by omega)
      · rw [if_neg hj, if_neg hj]
    rcases hkd with rfl | rfl
    · rw [pp_cell_i hk, pp_cell_i hk, key]
    · rw [pp_cell_z hk, pp_cell_z hk, key]
  · exact pp_cell_cong (fun j => ho t' j (fun h => ht h.1)) (fun j => by rw [h2])
theorem pp_otherL {X : pp_X} {ds : List (Nat × Nat)} {σ σ' : pp_M} {t o n : Nat} (hok : pp_ok ds) (hm : (t, o) ∈ ds) (hk : pp_k t = (2, n)) (h1 : σ'.1 = σ.1) (ho : ∀ a b, ¬ (a = t ∧ o ≤ b ∧ b < o + n) → σ'.2 a b = σ.2 a b) : ∀ d ∈ ds, d ≠ (t, o) → pp_cell X σ' d.1 d.2 = pp_cell X σ d.1 d.2 := by
  intro d hd hne
  obtain ⟨t', o'⟩ := d
  by_cases ht : t' = t
  · subst ht
    have hno : o' ≠ o := fun h => hne (by rw [h])
    have e1 := (hok _ hd).2
    have e2 := (hok _ hm).2
    have hw : (pp_e t').2.2.1 = n := congrArg Prod.snd hk
    simp only [hw] at e1 e2
    have key : (fun j => if j < n then σ'.2 t' (o' + j) else 0) = (fun j => if j < n then σ.2 t' (o' + j) else 0) := by
      funext j
      by_cases hj : j < n
      · rw [if_pos hj, if_pos hj]
        refine ho t' (o' + j) (fun h => ?_)
        exact pp_row_ne (i := o' + j - o) e2 e1 (by omega) hj hno (by omega)
      · rw [if_neg hj, if_neg hj]
    rw [pp_cell_l hk, pp_cell_l hk, key]
  · exact pp_cell_cong (fun j => by rw [h1]) (fun j => ho t' j (fun h => ht h.1))
section PPH
variable {Γ : pp_G} {ds : List (Nat × Nat)} {cc : ByteArray} {nL : Nat} {own : String} {F L pc : Nat} {lv lv' : List (Nat × pp_V)} {st : List pp_V} {σ : pp_M}
theorem pp_iaload {i : Int32} {t o n : Nat} (hF : pp_Fx Γ ds cc nL own F L) (ha : pp_ai ds t o n) (hin : vp_in i n) (d : decode cc pc = .ok (.iaload, 1)) (k : pp_E Γ ds cc nL (pc + 1) lv (ppI (σ.1 t (o + i.toNatClampNeg)) :: st) σ) : pp_E Γ ds cc nL pc lv (ppI i :: ppR t o n :: st) σ := by
  obtain ⟨⟨p, l, e, R, s, m, args, below, meth, c, Q, cl, sl, A⟩, X⟩ := Γ
  intro H locs ls hP hS hl
  obtain ⟨q, hq, hw⟩ := pp_wd_at (X := X) (σ := σ) ha.1
  rw [pp_cell_i ha.2] at hw
  have k1 := k H locs ls hP hS hl
  have e9 : (if i.toNatClampNeg < n then σ.1 t (o + i.toNatClampNeg) else 0) = σ.1 t (o + i.toNatClampNeg) := if_pos (vp_lt hin)
  refine va_iald hF.1 hF.2.1 hF.2.2.2.2.2.1 hP q 0 hw rfl hin d ?_
  show W _ _ _ _ _ _ _ _ _ _ _ _ _ _ _ (F0 m (pc + 1) ls (.int (if i.toNatClampNeg < n then σ.1 t (o + i.toNatClampNeg) else 0) :: _))
  rw [e9]
  exact k1
theorem pp_laload {i : Int32} {t o n : Nat} (hF : pp_Fx Γ ds cc nL own F L) (ha : pp_al ds t o n) (hin : vp_in i n) (d : decode cc pc = .ok (.laload, 1)) (k : pp_E Γ ds cc nL (pc + 1) lv (ppL (σ.2 t (o + i.toNatClampNeg)) :: st) σ) : pp_E Γ ds cc nL pc lv (ppI i :: ppR t o n :: st) σ := by
  obtain ⟨⟨p, l, e, R, s, m, args, below, meth, c, Q, cl, sl, A⟩, X⟩ := Γ
  intro H locs ls hP hS hl
  obtain ⟨q, hq, hw⟩ := pp_wd_at (X := X) (σ := σ) ha.1
  rw [pp_cell_l ha.2] at hw
  have k1 := k H locs ls hP hS hl
  have e9 : (if i.toNatClampNeg < n then σ.2 t (o + i.toNatClampNeg) else 0) = σ.2 t (o + i.toNatClampNeg) := if_pos (vp_lt hin)
  refine va_lald hF.1 hF.2.1 hF.2.2.2.2.2.1 hP q 1 hw rfl hin d ?_
  show W _ _ _ _ _ _ _ _ _ _ _ _ _ _ _ (F0 m (pc + 1) ls (.long (if i.toNatClampNeg < n then σ.2 t (o + i.toNatClampNeg) else 0) :: _))
  rw [e9]
  exact k1
theorem pp_baload {i : Int32} {t o n : Nat} (hF : pp_Fx Γ ds cc nL own F L) (ha : pp_az ds t o n) (hin : vp_in i n) (d : decode cc pc = .ok (.baload, 1)) (k : pp_E Γ ds cc nL (pc + 1) lv (ppI (σ.1 t (o + i.toNatClampNeg)) :: st) σ) : pp_E Γ ds cc nL pc lv (ppI i :: ppR t o n :: st) σ := by
  obtain ⟨⟨p, l, e, R, s, m, args, below, meth, c, Q, cl, sl, A⟩, X⟩ := Γ
  intro H locs ls hP hS hl
  obtain ⟨q, hq, hw⟩ := pp_wd_at (X := X) (σ := σ) ha.1
  rw [pp_cell_z ha.2] at hw
  have k1 := k H locs ls hP hS hl
  have e9 : (if i.toNatClampNeg < n then σ.1 t (o + i.toNatClampNeg) else 0) = σ.1 t (o + i.toNatClampNeg) := if_pos (vp_lt hin)
  refine va_zald hF.1 hF.2.1 hF.2.2.2.2.2.1 hP q 2 hw rfl hin d ?_
  show W _ _ _ _ _ _ _ _ _ _ _ _ _ _ _ (F0 m (pc + 1) ls (.int (if i.toNatClampNeg < n then σ.1 t (o + i.toNatClampNeg) else 0) :: _))
  rw [e9]
  exact k1
theorem pp_aaloadI {i : Int32} {t n w g : Nat} (hF : pp_Fx Γ ds cc nL own F L) (ha : pp_oi ds t n w g) (hin : vp_in i n) (d : decode cc pc = .ok (.aaload, 1)) (k : pp_E Γ ds cc nL (pc + 1) lv (ppR g (i.toNatClampNeg * w) w :: st) σ) : pp_E Γ ds cc nL pc lv (ppI i :: ppR t 0 n :: st) σ := by
  obtain ⟨⟨p, l, e, R, s, m, args, below, meth, c, Q, cl, sl, A⟩, X⟩ := Γ
  intro H locs ls hP hS hl
  obtain ⟨q, hq, hw⟩ := pp_wd_at (X := X) (σ := σ) ha.1
  rw [pp_cell_oi ha.2] at hw
  have hlt := vp_lt hin
  refine W.aald (v := .ref (X.2.2.1 g (i.toNatClampNeg * w))) (ty := .array .int) hF.1 hF.2.1 (hP q _ hw) ((hF.2.2.2.2.2.1.2 3 _ rfl).1 n (fun j => va_rf (if j < n then some (X.2.2.1 g (j * w)) else none))) rfl (fun q => by cases q) (by show ¬ (i < 0 ∨ (arrV _ _ _).slots.size ≤ _); rw [arrV_size]; exact hin) (by show (arrV _ _ _).slots[_]? = _; rw [arrV_read _ _ hlt]; show some (va_rf (if i.toNatClampNeg < n then some (X.2.2.1 g (i.toNatClampNeg * w)) else none)) = _; rw [if_pos hlt]; rfl) rfl rfl d (k H locs ls hP hS hl)
theorem pp_aaloadL {i : Int32} {t n w g : Nat} (hF : pp_Fx Γ ds cc nL own F L) (ha : pp_ol ds t n w g) (hin : vp_in i n) (d : decode cc pc = .ok (.aaload, 1)) (k : pp_E Γ ds cc nL (pc + 1) lv (ppR g (i.toNatClampNeg * w) w :: st) σ) : pp_E Γ ds cc nL pc lv (ppI i :: ppR t 0 n :: st) σ := by
  obtain ⟨⟨p, l, e, R, s, m, args, below, meth, c, Q, cl, sl, A⟩, X⟩ := Γ
  intro H locs ls hP hS hl
  obtain ⟨q, hq, hw⟩ := pp_wd_at (X := X) (σ := σ) ha.1
  rw [pp_cell_ol ha.2] at hw
  have hlt := vp_lt hin
  refine W.aald (v := .ref (X.2.2.1 g (i.toNatClampNeg * w))) (ty := .array .long) hF.1 hF.2.1 (hP q _ hw) ((hF.2.2.2.2.2.1.2 4 _ rfl).1 n (fun j => va_rf (if j < n then some (X.2.2.1 g (j * w)) else none))) rfl (fun q => by cases q) (by show ¬ (i < 0 ∨ (arrV _ _ _).slots.size ≤ _); rw [arrV_size]; exact hin) (by show (arrV _ _ _).slots[_]? = _; rw [arrV_read _ _ hlt]; show some (va_rf (if i.toNatClampNeg < n then some (X.2.2.1 g (i.toNatClampNeg * w)) else none)) = _; rw [if_pos hlt]; rfl) rfl rfl d (k H locs ls hP hS hl)
theorem pp_iastore {i x : Int32} {t o n : Nat} (hF : pp_Fx Γ ds cc nL own F L) (ha : pp_ai ds t o n) (hin : vp_in i n) (d : decode cc pc = .ok (.iastore, 1)) (k : pp_E Γ ds cc nL (pc + 1) lv st (ppS σ t (o + i.toNatClampNeg) x)) : pp_E Γ ds cc nL pc lv (ppI x :: ppI i :: ppR t o n :: st) σ := by
  obtain ⟨⟨p, l, e, R, s, m, args, below, meth, c, Q, cl, sl, A⟩, X⟩ := Γ
  intro H locs ls hP hS hl
  obtain ⟨q, hq, hw⟩ := pp_wd_at (X := X) (σ := σ) ha.1
  rw [pp_cell_i ha.2] at hw
  have hlt := vp_lt hin
  obtain ⟨hI, hok, hA⟩ := hF.2.2.2.2.2.2.1
  refine va_iast hF.1 hF.2.1 hF.2.2.2.2.2.1 hP (pp_wd_D hI hA) hS q 0 hw rfl hin d (fun H1 locs1 hP1 _ hS1 => k H1 locs1 ls ?_ hS1 hl)
  rw [pp_wd_set (σ := σ) (σ' := ppS σ t (o + i.toNatClampNeg) x) hq hI rfl ?_ (pp_other hok ha.1 ha.2 (Or.inl rfl) rfl ?_)] at hP1
  · exact hP1
  · rw [pp_cell_i ha.2]
    congr 4
    funext j
    unfold upd ppS
    by_cases hj : j = i.toNatClampNeg
    · subst hj
      simp [hlt]
    · by_cases hjn : j < n
      · simp [hj, hjn]
      · simp [hj, hjn]
  · intro a b hab
    unfold ppS
    refine if_neg (fun h => hab ⟨h.1, ?_⟩)
    omega
theorem pp_bastore {i x : Int32} {t o n : Nat} (hF : pp_Fx Γ ds cc nL own F L) (ha : pp_az ds t o n) (hin : vp_in i n) (hx : vp_nar .boolean x = x) (d : decode cc pc = .ok (.bastore, 1)) (k : pp_E Γ ds cc nL (pc + 1) lv st (ppS σ t (o + i.toNatClampNeg) x)) : pp_E Γ ds cc nL pc lv (ppI x :: ppI i :: ppR t o n :: st) σ := by
  obtain ⟨⟨p, l, e, R, s, m, args, below, meth, c, Q, cl, sl, A⟩, X⟩ := Γ
  intro H locs ls hP hS hl
  obtain ⟨q, hq, hw⟩ := pp_wd_at (X := X) (σ := σ) ha.1
  rw [pp_cell_z ha.2] at hw
  have hlt := vp_lt hin
  obtain ⟨hI, hok, hA⟩ := hF.2.2.2.2.2.2.1
  refine va_zast hF.1 hF.2.1 hF.2.2.2.2.2.1 hP (pp_wd_D hI hA) hS q 2 hw rfl hin d (fun H1 locs1 hP1 _ hS1 => k H1 locs1 ls ?_ hS1 hl)
  rw [hx] at hP1
  rw [pp_wd_set (σ := σ) (σ' := ppS σ t (o + i.toNatClampNeg) x) hq hI rfl ?_ (pp_other hok ha.1 ha.2 (Or.inr rfl) rfl ?_)] at hP1
  · exact hP1
  · rw [pp_cell_z ha.2]
    congr 4
    funext j
    unfold upd ppS
    by_cases hj : j = i.toNatClampNeg
    · subst hj
      simp [hlt]
    · by_cases hjn : j < n
      · simp [hj, hjn]
      · simp [hj, hjn]
  · intro a b hab
    unfold ppS
    refine if_neg (fun h => hab ⟨h.1, ?_⟩)
    omega
theorem pp_lastore {i : Int32} {x : Int64} {t o n : Nat} (hF : pp_Fx Γ ds cc nL own F L) (ha : pp_al ds t o n) (hin : vp_in i n) (d : decode cc pc = .ok (.lastore, 1)) (k : pp_E Γ ds cc nL (pc + 1) lv st (ppT σ t (o + i.toNatClampNeg) x)) : pp_E Γ ds cc nL pc lv (ppL x :: ppI i :: ppR t o n :: st) σ := by
  obtain ⟨⟨p, l, e, R, s, m, args, below, meth, c, Q, cl, sl, A⟩, X⟩ := Γ
  intro H locs ls hP hS hl
  obtain ⟨q, hq, hw⟩ := pp_wd_at (X := X) (σ := σ) ha.1
  rw [pp_cell_l ha.2] at hw
  have hlt := vp_lt hin
  obtain ⟨hI, hok, hA⟩ := hF.2.2.2.2.2.2.1
  refine va_last hF.1 hF.2.1 hF.2.2.2.2.2.1 hP (pp_wd_D hI hA) hS q 1 hw rfl hin d (fun H1 locs1 hP1 _ hS1 => k H1 locs1 ls ?_ hS1 hl)
  rw [pp_wd_set (σ := σ) (σ' := ppT σ t (o + i.toNatClampNeg) x) hq hI rfl ?_ (pp_otherL hok ha.1 ha.2 rfl ?_)] at hP1
  · exact hP1
  · rw [pp_cell_l ha.2]
    congr 5
    funext j
    unfold vp_updL ppT
    by_cases hj : j = i.toNatClampNeg
    · subst hj
      simp [hlt]
    · by_cases hjn : j < n
      · simp [hj, hjn]
      · simp [hj, hjn]
  · intro a b hab
    unfold ppT
    refine if_neg (fun h => hab ⟨h.1, ?_⟩)
    omega
/-- field k of the object t, as the class own names it by idx -/
def pp_Fd (ds : List (Nat × Nat)) (own : String) (idx t k : Nat) (f : Nat × Nat × Nat × Nat) : Prop := ∃ (C : String) (T : u_T) (N ci : Nat) (fs : List (Nat × Nat × Nat × Nat)), (t, 0) ∈ ds ∧ pp_cl[ci]? = some (C, T, N) ∧ (∀ w ∈ u_ws C T N, w ∈ pp_tb) ∧ pp_e t = (0, ci, N, fs) ∧ k < N ∧ fs[k]? = some f ∧ (T k).1 = C ∧ Cond.fieldLink own idx C (T k).2.1 (T k).2.2.1 ∈ pp_tb
/-- .. and may be written, with values of its type -/
def pp_Fw (ds : List (Nat × Nat)) (own : String) (idx t k : Nat) (f : Nat × Nat × Nat × Nat) (ty : FieldType) : Prop := ∃ (C : String) (T : u_T) (N ci : Nat) (fs : List (Nat × Nat × Nat × Nat)) (ty0 : Nat → FieldType), (t, 0) ∈ ds ∧ pp_cl[ci]? = some (C, T, N) ∧ (∀ w ∈ u_ws C T N, w ∈ pp_tb) ∧ pp_e t = (0, ci, N, fs) ∧ k < N ∧ fs[k]? = some f ∧ (T k).1 = C ∧ Cond.fieldLink own idx C (T k).2.1 (T k).2.2.1 ∈ pp_tb ∧ (∀ j, j < N → parseFieldDescriptor (T j).2.2.1 = some (ty0 j)) ∧ (∀ a, a < N → ∀ b, b < N → a ≠ b → (T a).2.1 ≠ (T b).2.1) ∧ (T k).2.2.2 = false ∧ parseFieldDescriptor (T k).2.2.1 = some ty
theorem pp_getI {idx t k a1 a2 a3 : Nat} (hF : pp_Fx Γ ds cc nL own F L) (hf : pp_Fd ds own idx t k (0, a1, a2, a3)) (d : decode cc pc = .ok (.getfield idx, 3)) (kk : pp_E Γ ds cc nL (pc + 3) lv (ppI (σ.1 t k) :: st) σ) : pp_E Γ ds cc nL pc lv (ppR t 0 0 :: st) σ := by
  obtain ⟨⟨p, l, e, R, s, m, args, below, meth, c, Q, cl, sl, A⟩, X⟩ := Γ
  intro H locs ls hP hS hl
  obtain ⟨C, T, N, ci, fs, hm, hc, hin, he, hk, hfs, hC, hlk⟩ := hf
  obtain ⟨q, hq, hw⟩ := pp_wd_at (X := X) (σ := σ) hm
  rw [pp_cell_o he] at hw
  refine va_get hF.1 hF.2.1 hF.2.2.2.2.1 hin hF.2.2.2.1 hF.2.2.2.2.2.1 hP q hw hc k hk (hF.2.2.2.2.1 _ hlk) (fun x hx => by rw [hC] at hx; exact hx) ?_ d (kk H locs ls hP hS hl)
  rw [pp_fl_at, hfs, Nat.zero_add]
  rfl
theorem pp_getL {idx t k a1 a2 a3 : Nat} (hF : pp_Fx Γ ds cc nL own F L) (hf : pp_Fd ds own idx t k (1, a1, a2, a3)) (d : decode cc pc = .ok (.getfield idx, 3)) (kk : pp_E Γ ds cc nL (pc + 3) lv (ppL (σ.2 t k) :: st) σ) : pp_E Γ ds cc nL pc lv (ppR t 0 0 :: st) σ := by
  obtain ⟨⟨p, l, e, R, s, m, args, below, meth, c, Q, cl, sl, A⟩, X⟩ := Γ
  intro H locs ls hP hS hl
  obtain ⟨C, T, N, ci, fs, hm, hc, hin, he, hk, hfs, hC, hlk⟩ := hf
  obtain ⟨q, hq, hw⟩ := pp_wd_at (X := X) (σ := σ) hm
  rw [pp_cell_o he] at hw
  refine va_get hF.1 hF.2.1 hF.2.2.2.2.1 hin hF.2.2.2.1 hF.2.2.2.2.2.1 hP q hw hc k hk (hF.2.2.2.2.1 _ hlk) (fun x hx => by rw [hC] at hx; exact hx) ?_ d (kk H locs ls hP hS hl)
  rw [pp_fl_at, hfs, Nat.zero_add]
  rfl
theorem pp_getR {idx t k a1 a2 a3 : Nat} (hF : pp_Fx Γ ds cc nL own F L) (hf : pp_Fd ds own idx t k (2, a1, a2, a3)) (d : decode cc pc = .ok (.getfield idx, 3)) (kk : pp_E Γ ds cc nL (pc + 3) lv (ppR a1 a2 a3 :: st) σ) : pp_E Γ ds cc nL pc lv (ppR t 0 0 :: st) σ := by
  obtain ⟨⟨p, l, e, R, s, m, args, below, meth, c, Q, cl, sl, A⟩, X⟩ := Γ
  intro H locs ls hP hS hl
  obtain ⟨C, T, N, ci, fs, hm, hc, hin, he, hk, hfs, hC, hlk⟩ := hf
  obtain ⟨q, hq, hw⟩ := pp_wd_at (X := X) (σ := σ) hm
  rw [pp_cell_o he] at hw
  refine va_get hF.1 hF.2.1 hF.2.2.2.2.1 hin hF.2.2.2.1 hF.2.2.2.2.2.1 hP q hw hc k hk (hF.2.2.2.2.1 _ hlk) (fun x hx => by rw [hC] at hx; exact hx) ?_ d (kk H locs ls hP hS hl)
  rw [pp_fl_at, hfs, Nat.zero_add]
  rfl
theorem pp_fl_set {ad : Nat → Nat → Nat} {σ σ' : pp_M} {t k : Nat} {v : Value} {f : Nat × Nat × Nat × Nat} {l : List (Nat × Nat × Nat × Nat)} (hf : l[k]? = some f) (hv : pp_fv ad σ' t k f = v) (ho : ∀ j, j ≠ k → σ'.1 t j = σ.1 t j ∧ σ'.2 t j = σ.2 t j) : (pp_fl ad σ t 0 l).set k v = pp_fl ad σ' t 0 l := by
  apply List.ext_getElem?
  intro j
  have hl := (List.getElem?_eq_some_iff.mp hf).1
  by_cases hj : j = k
  · subst hj
    rw [List.getElem?_set_self (by rw [pp_fl_len]; exact hl), pp_fl_at, hf, Nat.zero_add]
    exact congrArg some hv.symm
  · rw [List.getElem?_set_ne (Ne.symm hj), pp_fl_at, pp_fl_at, Nat.zero_add]
    cases hx : l[j]? with
    | none => rfl
    | some g =>
      simp only [Option.map_some]
      congr 1
      unfold pp_fv
      rw [(ho j hj).1, (ho j hj).2]
theorem pp_putI {idx t k a1 a2 a3 : Nat} {x : Int32} (hF : pp_Fx Γ ds cc nL own F L) (hf : pp_Fw ds own idx t k (0, a1, a2, a3) .int) (d : decode cc pc = .ok (.putfield idx, 3)) (kk : pp_E Γ ds cc nL (pc + 3) lv st (ppS σ t k x)) : pp_E Γ ds cc nL pc lv (ppI x :: ppR t 0 0 :: st) σ := by
  obtain ⟨⟨p, l, e, R, s, m, args, below, meth, c, Q, cl, sl, A⟩, X⟩ := Γ
  intro H locs ls hP hS hl
  obtain ⟨C, T, N, ci, fs, ty0, hm, hc, hin, he, hk, hfs, hC, hlk, hty, hnm, hfin, hpd⟩ := hf
  obtain ⟨q, hq, hw⟩ := pp_wd_at (X := X) (σ := σ) hm
  rw [pp_cell_o he] at hw
  obtain ⟨hI, hok, hA⟩ := hF.2.2.2.2.2.2.1
  refine va_put hF.1 hF.2.1 hF.2.2.2.2.1 hin ty0 hty hnm hF.2.2.2.1 hF.2.2.2.2.2.1 hP (pp_wd_D hI hA) hS q hw hc k hk (hF.2.2.2.2.1 _ hlk) (fun z hz => by rw [hC] at hz; exact hz) hfin hpd rfl rfl (by rw [pp_fl_len]; exact (List.getElem?_eq_some_iff.mp hfs).1) d (fun H1 locs1 hP1 _ hS1 => kk H1 locs1 ls ?_ hS1 hl)
  rw [pp_wd_set (σ := σ) (σ' := ppS σ t k x) hq hI rfl ?_ ?_] at hP1
  · exact hP1
  · rw [pp_cell_o he, pp_fl_set (σ' := ppS σ t k x) hfs ?_ ?_]
    · simp [pp_fv, ppS, ppT, ppv, ppI, ppL]
    · intro j hj
      simp [ppS, ppT, hj]
  · intro d2 hd2 hne
    obtain ⟨t2, o2⟩ := d2
    refine pp_cell_cong (fun j => ?_) (fun j => ?_) <;>
    · simp only [ppS, ppT]
      try refine if_neg (fun h => hne ?_)
      try rw [h.1] at hd2
      try have h9 := (hok _ hd2).1 (by rw [he])
      try (rw [h.1]; exact congrArg (Prod.mk t) h9)
theorem pp_putZ {idx t k a1 a2 a3 : Nat} {x : Int32} (hF : pp_Fx Γ ds cc nL own F L) (hf : pp_Fw ds own idx t k (0, a1, a2, a3) .boolean) (hn : narrow .boolean (.int x) = .int x) (hfit : fits .boolean (.int x) = true) (d : decode cc pc = .ok (.putfield idx, 3)) (kk : pp_E Γ ds cc nL (pc + 3) lv st (ppS σ t k x)) : pp_E Γ ds cc nL pc lv (ppI x :: ppR t 0 0 :: st) σ := by
  obtain ⟨⟨p, l, e, R, s, m, args, below, meth, c, Q, cl, sl, A⟩, X⟩ := Γ
  intro H locs ls hP hS hl
  obtain ⟨C, T, N, ci, fs, ty0, hm, hc, hin, he, hk, hfs, hC, hlk, hty, hnm, hfin, hpd⟩ := hf
  obtain ⟨q, hq, hw⟩ := pp_wd_at (X := X) (σ := σ) hm
  rw [pp_cell_o he] at hw
  obtain ⟨hI, hok, hA⟩ := hF.2.2.2.2.2.2.1
  refine va_put hF.1 hF.2.1 hF.2.2.2.2.1 hin ty0 hty hnm hF.2.2.2.1 hF.2.2.2.2.2.1 hP (pp_wd_D hI hA) hS q hw hc k hk (hF.2.2.2.2.1 _ hlk) (fun z hz => by rw [hC] at hz; exact hz) hfin hpd hn hfit (by rw [pp_fl_len]; exact (List.getElem?_eq_some_iff.mp hfs).1) d (fun H1 locs1 hP1 _ hS1 => kk H1 locs1 ls ?_ hS1 hl)
  rw [pp_wd_set (σ := σ) (σ' := ppS σ t k x) hq hI rfl ?_ ?_] at hP1
  · exact hP1
  · rw [pp_cell_o he, pp_fl_set (σ' := ppS σ t k x) hfs ?_ ?_]
    · simp [pp_fv, ppS, ppT, ppv, ppI, ppL]
    · intro j hj
      simp [ppS, ppT, hj]
  · intro d2 hd2 hne
    obtain ⟨t2, o2⟩ := d2
    refine pp_cell_cong (fun j => ?_) (fun j => ?_) <;>
    · simp only [ppS, ppT]
      try refine if_neg (fun h => hne ?_)
      try rw [h.1] at hd2
      try have h9 := (hok _ hd2).1 (by rw [he])
      try (rw [h.1]; exact congrArg (Prod.mk t) h9)
theorem pp_putL {idx t k a1 a2 a3 : Nat} {x : Int64} (hF : pp_Fx Γ ds cc nL own F L) (hf : pp_Fw ds own idx t k (1, a1, a2, a3) .long) (d : decode cc pc = .ok (.putfield idx, 3)) (kk : pp_E Γ ds cc nL (pc + 3) lv st (ppT σ t k x)) : pp_E Γ ds cc nL pc lv (ppL x :: ppR t 0 0 :: st) σ := by
  obtain ⟨⟨p, l, e, R, s, m, args, below, meth, c, Q, cl, sl, A⟩, X⟩ := Γ
  intro H locs ls hP hS hl
  obtain ⟨C, T, N, ci, fs, ty0, hm, hc, hin, he, hk, hfs, hC, hlk, hty, hnm, hfin, hpd⟩ := hf
  obtain ⟨q, hq, hw⟩ := pp_wd_at (X := X) (σ := σ) hm
  rw [pp_cell_o he] at hw
  obtain ⟨hI, hok, hA⟩ := hF.2.2.2.2.2.2.1
  refine va_put hF.1 hF.2.1 hF.2.2.2.2.1 hin ty0 hty hnm hF.2.2.2.1 hF.2.2.2.2.2.1 hP (pp_wd_D hI hA) hS q hw hc k hk (hF.2.2.2.2.1 _ hlk) (fun z hz => by rw [hC] at hz; exact hz) hfin hpd rfl rfl (by rw [pp_fl_len]; exact (List.getElem?_eq_some_iff.mp hfs).1) d (fun H1 locs1 hP1 _ hS1 => kk H1 locs1 ls ?_ hS1 hl)
  rw [pp_wd_set (σ := σ) (σ' := ppT σ t k x) hq hI rfl ?_ ?_] at hP1
  · exact hP1
  · rw [pp_cell_o he, pp_fl_set (σ' := ppT σ t k x) hfs ?_ ?_]
    · simp [pp_fv, ppS, ppT, ppv, ppI, ppL]
    · intro j hj
      simp [ppS, ppT, hj]
  · intro d2 hd2 hne
    obtain ⟨t2, o2⟩ := d2
    refine pp_cell_cong (fun j => ?_) (fun j => ?_) <;>
    · simp only [ppS, ppT]
      try refine if_neg (fun h => hne ?_)
      try rw [h.1] at hd2
      try have h9 := (hok _ hd2).1 (by rw [he])
      try (rw [h.1]; exact congrArg (Prod.mk t) h9)
theorem pp_ialoadJ {i : Int32} {t o n j : Nat} (hF : pp_Fx Γ ds cc nL own F L) (ha : pp_ai ds t o n) (hin : vp_in i n) (hj : o + i.toNatClampNeg = j) (d : decode cc pc = .ok (.iaload, 1)) (k : pp_E Γ ds cc nL (pc + 1) lv (ppI (σ.1 t j) :: st) σ) : pp_E Γ ds cc nL pc lv (ppI i :: ppR t o n :: st) σ := by
  subst hj
  exact pp_iaload hF ha hin d k
theorem pp_laloadJ {i : Int32} {t o n j : Nat} (hF : pp_Fx Γ ds cc nL own F L) (ha : pp_al ds t o n) (hin : vp_in i n) (hj : o + i.toNatClampNeg = j) (d : decode cc pc = .ok (.laload, 1)) (k : pp_E Γ ds cc nL (pc + 1) lv (ppL (σ.2 t j) :: st) σ) : pp_E Γ ds cc nL pc lv (ppI i :: ppR t o n :: st) σ := by
  subst hj
  exact pp_laload hF ha hin d k
theorem pp_baloadJ {i : Int32} {t o n j : Nat} (hF : pp_Fx Γ ds cc nL own F L) (ha : pp_az ds t o n) (hin : vp_in i n) (hj : o + i.toNatClampNeg = j) (d : decode cc pc = .ok (.baload, 1)) (k : pp_E Γ ds cc nL (pc + 1) lv (ppI (σ.1 t j) :: st) σ) : pp_E Γ ds cc nL pc lv (ppI i :: ppR t o n :: st) σ := by
  subst hj
  exact pp_baload hF ha hin d k
theorem pp_iastoreJ {i : Int32} {x : Int32} {t o n j : Nat} (hF : pp_Fx Γ ds cc nL own F L) (ha : pp_ai ds t o n) (hin : vp_in i n) (hj : o + i.toNatClampNeg = j) (d : decode cc pc = .ok (.iastore, 1)) (k : pp_E Γ ds cc nL (pc + 1) lv st (ppS σ t j x)) : pp_E Γ ds cc nL pc lv (ppI x :: ppI i :: ppR t o n :: st) σ := by
  subst hj
  exact pp_iastore hF ha hin d k
theorem pp_lastoreJ {i : Int32} {x : Int64} {t o n j : Nat} (hF : pp_Fx Γ ds cc nL own F L) (ha : pp_al ds t o n) (hin : vp_in i n) (hj : o + i.toNatClampNeg = j) (d : decode cc pc = .ok (.lastore, 1)) (k : pp_E Γ ds cc nL (pc + 1) lv st (ppT σ t j x)) : pp_E Γ ds cc nL pc lv (ppL x :: ppI i :: ppR t o n :: st) σ := by
  subst hj
  exact pp_lastore hF ha hin d k
theorem pp_bastoreJ {i : Int32} {x : Int32} {t o n j : Nat} (hF : pp_Fx Γ ds cc nL own F L) (ha : pp_az ds t o n) (hin : vp_in i n) (hx : vp_nar .boolean x = x) (hj : o + i.toNatClampNeg = j) (d : decode cc pc = .ok (.bastore, 1)) (k : pp_E Γ ds cc nL (pc + 1) lv st (ppS σ t j x)) : pp_E Γ ds cc nL pc lv (ppI x :: ppI i :: ppR t o n :: st) σ := by
  subst hj
  exact pp_bastore hF ha hin hx d k
theorem pp_aaloadIJ {i : Int32} {t n w g j : Nat} (hF : pp_Fx Γ ds cc nL own F L) (ha : pp_oi ds t n w g) (hin : vp_in i n) (hj : i.toNatClampNeg * w = j) (d : decode cc pc = .ok (.aaload, 1)) (k : pp_E Γ ds cc nL (pc + 1) lv (ppR g j w :: st) σ) : pp_E Γ ds cc nL pc lv (ppI i :: ppR t 0 n :: st) σ := by
  subst hj
  exact pp_aaloadI hF ha hin d k
theorem pp_aaloadLJ {i : Int32} {t n w g j : Nat} (hF : pp_Fx Γ ds cc nL own F L) (ha : pp_ol ds t n w g) (hin : vp_in i n) (hj : i.toNatClampNeg * w = j) (d : decode cc pc = .ok (.aaload, 1)) (k : pp_E Γ ds cc nL (pc + 1) lv (ppR g j w :: st) σ) : pp_E Γ ds cc nL pc lv (ppI i :: ppR t 0 n :: st) σ := by
  subst hj
  exact pp_aaloadL hF ha hin d k
theorem pp_tsw9 {x : Int32} {dflt : Int} {len : Nat} {o0 o1 o2 o3 o4 o5 o6 o7 o8 : Int} {t0 t1 t2 t3 t4 t5 t6 t7 t8 td : Nat} (hF : pp_Fx Γ ds cc nL own F L) (d : decode cc pc = .ok (.tableswitch dflt 0 8 #[o0, o1, o2, o3, o4, o5, o6, o7, o8], len)) (h0 : (pc : Int) + o0 = (t0 : Int)) (h1 : (pc : Int) + o1 = (t1 : Int)) (h2 : (pc : Int) + o2 = (t2 : Int)) (h3 : (pc : Int) + o3 = (t3 : Int)) (h4 : (pc : Int) + o4 = (t4 : Int)) (h5 : (pc : Int) + o5 = (t5 : Int)) (h6 : (pc : Int) + o6 = (t6 : Int)) (h7 : (pc : Int) + o7 = (t7 : Int)) (h8 : (pc : Int) + o8 = (t8 : Int)) (hd : (pc : Int) + dflt = (td : Int)) (k0 : x = 0 → pp_E Γ ds cc nL t0 lv st σ) (k1 : x = 1 → pp_E Γ ds cc nL t1 lv st σ) (k2 : x = 2 → pp_E Γ ds cc nL t2 lv st σ) (k3 : x = 3 → pp_E Γ ds cc nL t3 lv st σ) (k4 : x = 4 → pp_E Γ ds cc nL t4 lv st σ) (k5 : x = 5 → pp_E Γ ds cc nL t5 lv st σ) (k6 : x = 6 → pp_E Γ ds cc nL t6 lv st σ) (k7 : x = 7 → pp_E Γ ds cc nL t7 lv st σ) (k8 : x = 8 → pp_E Γ ds cc nL t8 lv st σ) (kd : ¬ x = 0 → ¬ x = 1 → ¬ x = 2 → ¬ x = 3 → ¬ x = 4 → ¬ x = 5 → ¬ x = 6 → ¬ x = 7 → ¬ x = 8 → pp_E Γ ds cc nL td lv st σ) : pp_E Γ ds cc nL pc lv (ppI x :: st) σ := by
  obtain ⟨⟨p, l, e, R, s, m, args, below, meth, c, Q, cl, sl, A⟩, X⟩ := Γ
  intro H locs ls hP hS hl
  by_cases c0 : x = 0
  · subst c0
    exact lv_tableIn (off := o0) hF.1 hF.2.1 d (by decide) (by decide) rfl h0 (k0 rfl H locs ls hP hS hl)
  by_cases c1 : x = 1
  · subst c1
    exact lv_tableIn (off := o1) hF.1 hF.2.1 d (by decide) (by decide) rfl h1 (k1 rfl H locs ls hP hS hl)
  by_cases c2 : x = 2
  · subst c2
    exact lv_tableIn (off := o2) hF.1 hF.2.1 d (by decide) (by decide) rfl h2 (k2 rfl H locs ls hP hS hl)
  by_cases c3 : x = 3
  · subst c3
    exact lv_tableIn (off := o3) hF.1 hF.2.1 d (by decide) (by decide) rfl h3 (k3 rfl H locs ls hP hS hl)
  by_cases c4 : x = 4
  · subst c4
    exact lv_tableIn (off := o4) hF.1 hF.2.1 d (by decide) (by decide) rfl h4 (k4 rfl H locs ls hP hS hl)
  by_cases c5 : x = 5
  · subst c5
    exact lv_tableIn (off := o5) hF.1 hF.2.1 d (by decide) (by decide) rfl h5 (k5 rfl H locs ls hP hS hl)
  by_cases c6 : x = 6
  · subst c6
    exact lv_tableIn (off := o6) hF.1 hF.2.1 d (by decide) (by decide) rfl h6 (k6 rfl H locs ls hP hS hl)
  by_cases c7 : x = 7
  · subst c7
    exact lv_tableIn (off := o7) hF.1 hF.2.1 d (by decide) (by decide) rfl h7 (k7 rfl H locs ls hP hS hl)
  by_cases c8 : x = 8
  · subst c8
    exact lv_tableIn (off := o8) hF.1 hF.2.1 d (by decide) (by decide) rfl h8 (k8 rfl H locs ls hP hS hl)
  have e1 : x.toInt < 0 ∨ 8 < x.toInt := by
    by_cases q1 : x.toInt < 0
    · exact Or.inl q1
    · by_cases q2 : 8 < x.toInt
      · exact Or.inr q2
      · exfalso
        have hh : x.toInt = 0 ∨ x.toInt = 1 ∨ x.toInt = 2 ∨ x.toInt = 3 ∨ x.toInt = 4 ∨ x.toInt = 5 ∨ x.toInt = 6 ∨ x.toInt = 7 ∨ x.toInt = 8 := by omega
        rcases hh with h | h | h | h | h | h | h | h | h
        · exact c0 (Int32.toInt_inj.mp h)
        · exact c1 (Int32.toInt_inj.mp h)
        · exact c2 (Int32.toInt_inj.mp h)
        · exact c3 (Int32.toInt_inj.mp h)
        · exact c4 (Int32.toInt_inj.mp h)
        · exact c5 (Int32.toInt_inj.mp h)
        · exact c6 (Int32.toInt_inj.mp h)
        · exact c7 (Int32.toInt_inj.mp h)
        · exact c8 (Int32.toInt_inj.mp h)
  exact lv_tableOut hF.1 hF.2.1 d e1 hd (kd c0 c1 c2 c3 c4 c5 c6 c7 c8 H locs ls hP hS hl)
end PPH
