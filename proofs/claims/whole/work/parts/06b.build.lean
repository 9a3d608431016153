/-! making objects: worlds that grow; an object that is being made is 'raw': its fields as they stand -/
abbrev pp_Z : Type := Nat × Nat × List (Option pp_V)
def pp_zf (ad : Nat → Nat → Nat) : Option pp_V → Value
  | none => .null
  | some v => ppv ad v
def pp_zc (X : pp_X) (z : pp_Z) : Nat × va_E := (X.2.2.1 z.1 0, .inr (z.2.1, z.2.2.map (pp_zf X.2.2.1)))
def pp_zk (zs : List pp_Z) : List (Nat × Nat) := zs.map (fun z => (z.1, 0))
/-- addresses are apart, and of a kind -/
def pp_I (X : pp_X) (A : Nat → Prop) (ks : List (Nat × Nat)) : Prop := (∀ d ∈ ks, ∀ d' ∈ ks, X.2.2.1 d.1 d.2 = X.2.2.1 d'.1 d'.2 → d = d') ∧ ∀ d ∈ ks, A (X.2.2.1 d.1 d.2)
def pp_P (X : pp_X) (ds : List (Nat × Nat)) (zs : List pp_Z) (σ : pp_M) (H : Heap) : Prop := (∀ d ∈ ds, va_at (X.1, X.2.1) pp_cl (X.2.2.1 d.1 d.2, pp_cell X σ d.1 d.2) H) ∧ ∀ z ∈ zs, va_at (X.1, X.2.1) pp_cl (pp_zc X z) H
/-- X grew by the tokens new -/
def pp_gr (new : List Nat) (X X' : pp_X) : Prop := X'.1 = X.1 ∧ X'.2.1 = X.2.1 ∧ X'.2.2.2 = X.2.2.2 ∧ ∀ a b, a ∉ new → X'.2.2.1 a b = X.2.2.1 a b
def pp_B (Y : pp_Y) (X : pp_X) (ds : List (Nat × Nat)) (zs : List pp_Z) (cl sl : Nat) (cc : ByteArray) (nL : Nat) (pc : Nat) (lv : List (Nat × pp_V)) (st : List pp_V) (σ : pp_M) : Prop := match Y with
  | (p, l, e, R, s, m, args, below, meth, c, Q, _, _, A) => ∀ (H : Heap) (locs : List Loc) (ls : Array Slot), va_K (X.1, X.2.1) pp_cl (pp_ty X) s → pp_P X ds zs σ H → pp_I X A (ds ++ pp_zk zs) → va_S A s.heap H locs → lv_has ls nL (pp_lv X lv) → W p l e R s m args below meth c H locs cl sl Q (F0 m pc ls (st.map (ppv X.2.2.1)))
def pp_Ao (U : State) : Prop := (Cond.arrayOver (.array .int)).before #[] U = true ∧ (Cond.arrayOver (.array .long)).before #[] U = true
theorem pp_Ao.moved {u U : State} (h : u.vm.Alike U.vm) (hu : pp_Ao u) : pp_Ao U := ⟨over_moved h hu.1, over_moved h hu.2⟩
def pp_Bx (Y : pp_Y) (cc : ByteArray) (nL : Nat) (own : String) (F L mc ms : Nat) : Prop := match Y with
  | (p, l, e, R, s, m, args, below, meth, c, Q, _, _, A) => p.tables.exec = Jvm.exec ∧ c.code = cc ∧ c.maxLocals = nL ∧ s.vm.findClass own = some m.cls ∧ (∀ w ∈ pp_tb, w.before args s = true) ∧ (∀ q, s.heap.size ≤ q → A q) ∧ (F ≤ R.frames ∧ L ≤ R.locals) ∧ (mc ≤ R.cells ∧ ms ≤ R.slots) ∧ meth.locks = false ∧ pp_Nw s ∧ meth.name = "<init>" ∧ pp_Ao s
-- mention of tokens
def pp_vn (new : List Nat) : pp_V → Bool
  | .inr (.inr (t, _, _)) => !(new.contains t)
  | _ => true
def pp_on (new : List Nat) : Option pp_V → Bool
  | none => true
  | some v => pp_vn new v
def pp_rn (new : List Nat) (t : Nat) : Bool := !(new.contains t) && (!(new.contains 0) && (pp_e t).2.2.2.all (fun f => !(new.contains f.2.1)))
/-- nothing of what stands there names the tokens new -/
def pp_fr (new : List Nat) (ds : List (Nat × Nat)) (zs : List pp_Z) (lv : List (Nat × pp_V)) (st : List pp_V) : Bool := ds.all (fun d => pp_rn new d.1) && (zs.all (fun z => !(new.contains z.1) && z.2.2.all (pp_on new)) && (lv.all (fun q => pp_vn new q.2) && st.all (pp_vn new)))
theorem pp_nc {new : List Nat} {t : Nat} (h : (!(new.contains t)) = true) : t ∉ new := fun q => by
  rw [List.contains_iff_mem.mpr q] at h
  cases h
theorem pp_vn_eq {new : List Nat} {X X' : pp_X} (hg : pp_gr new X X') {v : pp_V} (h : pp_vn new v = true) : ppv X'.2.2.1 v = ppv X.2.2.1 v := by
  rcases v with x | x | ⟨t, o, n⟩
  · rfl
  · rfl
  · show Value.ref _ = Value.ref _
    rw [hg.2.2.2 t o (pp_nc h)]
theorem pp_on_eq {new : List Nat} {X X' : pp_X} (hg : pp_gr new X X') {v : Option pp_V} (h : pp_on new v = true) : pp_zf X'.2.2.1 v = pp_zf X.2.2.1 v := by
  cases v with
  | none => rfl
  | some v => exact pp_vn_eq hg h
theorem pp_fl_gr {new : List Nat} {X X' : pp_X} (hg : pp_gr new X X') (σ : pp_M) (t : Nat) : ∀ (l : List (Nat × Nat × Nat × Nat)) (j : Nat), l.all (fun f => !(new.contains f.2.1)) = true → pp_fl X'.2.2.1 σ t j l = pp_fl X.2.2.1 σ t j l
  | [], j, _ => rfl
  | f :: l, j, h => by
    simp only [List.all_cons, Bool.and_eq_true] at h
    simp only [pp_fl]
    rw [pp_fl_gr hg σ t l (j + 1) h.2]
    congr 1
    unfold pp_fv
    rw [hg.2.2.2 f.2.1 f.2.2.1 (pp_nc h.1)]
theorem pp_cell_gr {new : List Nat} {X X' : pp_X} (hg : pp_gr new X X') {σ : pp_M} {t o : Nat} (h : pp_rn new t = true) : pp_cell X' σ t o = pp_cell X σ t o := by
  unfold pp_rn at h
  simp only [Bool.and_eq_true] at h
  have hids : X'.2.2.2 = X.2.2.2 := hg.2.2.1
  have hg4 : ∀ o, X'.2.2.1 ((pp_e t).2.2.2.getD 0 (0, 0, 0, 0)).2.1 o = X.2.2.1 ((pp_e t).2.2.2.getD 0 (0, 0, 0, 0)).2.1 o := by
    intro o
    cases hl : (pp_e t).2.2.2 with
    | nil => exact hg.2.2.2 _ _ (pp_nc h.2.1)
    | cons f l => exact hg.2.2.2 _ _ (pp_nc (List.all_eq_true.mp h.2.2 f (by rw [hl]; exact List.mem_cons_self)))
  unfold pp_cell pp_cellOf
  rw [hids, pp_fl_gr hg σ t _ 0 h.2.2]
  simp only [hg4]
theorem pp_gr_P {new : List Nat} {X X' : pp_X} (hg : pp_gr new X X') {ds : List (Nat × Nat)} {zs : List pp_Z} {σ σ' : pp_M} {lv : List (Nat × pp_V)} {st : List pp_V} {H H1 : Heap} (hf : pp_fr new ds zs lv st = true) (hσ : ∀ a, a ∉ new → (∀ j, σ'.1 a j = σ.1 a j) ∧ ∀ j, σ'.2 a j = σ.2 a j) (hP : pp_P X ds zs σ H) (hq : ∀ q : Nat, q < H.size → (∃ d ∈ ds ++ pp_zk zs, q = X.2.2.1 d.1 d.2) → H1[q]? = H[q]?) : pp_P X' ds zs σ' H1 := by
  unfold pp_fr at hf
  simp only [Bool.and_eq_true] at hf
  obtain ⟨h1, h2, -, -⟩ := hf
  refine ⟨fun d hd => ?_, fun z hz => ?_⟩
  · have hr := List.all_eq_true.mp h1 d hd
    have hn : d.1 ∉ new := by
      unfold pp_rn at hr
      simp only [Bool.and_eq_true] at hr
      exact pp_nc hr.1
    rw [pp_cell_gr hg hr, hg.2.2.2 _ _ hn, pp_cell_cong (hσ d.1 hn).1 (hσ d.1 hn).2, hg.1, hg.2.1]
    have h0 := hP.1 d hd
    exact h0.kept (hq _ h0.lt ⟨d, List.mem_append_left _ hd, rfl⟩)
  · have hr := List.all_eq_true.mp h2 z hz
    simp only [Bool.and_eq_true] at hr
    have e : pp_zc X' z = pp_zc X z := by
      unfold pp_zc
      rw [hg.2.2.2 _ _ (pp_nc hr.1)]
      congr 3
      apply List.map_congr_left
      intro v hv
      exact pp_on_eq hg (List.all_eq_true.mp hr.2 v hv)
    rw [e, hg.1, hg.2.1]
    have h0 := hP.2 z hz
    exact h0.kept (hq _ h0.lt ⟨(z.1, 0), List.mem_append_right _ (List.mem_map.mpr ⟨z, hz, rfl⟩), rfl⟩)
theorem pp_gr_lv {new : List Nat} {X X' : pp_X} (hg : pp_gr new X X') {ds : List (Nat × Nat)} {zs : List pp_Z} {lv : List (Nat × pp_V)} {st : List pp_V} (hf : pp_fr new ds zs lv st = true) : pp_lv X' lv = pp_lv X lv ∧ st.map (ppv X'.2.2.1) = st.map (ppv X.2.2.1) := by
  unfold pp_fr at hf
  simp only [Bool.and_eq_true] at hf
  obtain ⟨-, -, h3, h4⟩ := hf
  refine ⟨?_, ?_⟩
  · unfold pp_lv
    apply List.map_congr_left
    intro q hq
    rw [pp_vn_eq hg (List.all_eq_true.mp h3 q hq)]
  · apply List.map_congr_left
    intro q hq
    exact pp_vn_eq hg (List.all_eq_true.mp h4 q hq)
theorem pp_gr_key {new : List Nat} {X X' : pp_X} (hg : pp_gr new X X') {ds : List (Nat × Nat)} {zs : List pp_Z} {lv : List (Nat × pp_V)} {st : List pp_V} (hf : pp_fr new ds zs lv st = true) : ∀ d ∈ ds ++ pp_zk zs, X'.2.2.1 d.1 d.2 = X.2.2.1 d.1 d.2 := by
  unfold pp_fr at hf
  simp only [Bool.and_eq_true] at hf
  obtain ⟨h1, h2, -, -⟩ := hf
  intro d hd
  rcases List.mem_append.mp hd with h | h
  · have hr := List.all_eq_true.mp h1 d h
    unfold pp_rn at hr
    simp only [Bool.and_eq_true] at hr
    exact hg.2.2.2 _ _ (pp_nc hr.1)
  · obtain ⟨z, hz, rfl⟩ := List.mem_map.mp h
    have hr := List.all_eq_true.mp h2 z hz
    simp only [Bool.and_eq_true] at hr
    exact hg.2.2.2 _ _ (pp_nc hr.1)
theorem pp_P_lt {X : pp_X} {ds : List (Nat × Nat)} {zs : List pp_Z} {σ : pp_M} {H : Heap} (hP : pp_P X ds zs σ H) : ∀ d ∈ ds ++ pp_zk zs, X.2.2.1 d.1 d.2 < H.size := by
  intro d hd
  rcases List.mem_append.mp hd with h | h
  · exact (hP.1 d h).lt
  · obtain ⟨z, hz, rfl⟩ := List.mem_map.mp h
    exact (hP.2 z hz).lt
theorem pp_ty_gr {new : List Nat} {X X' : pp_X} (hg : pp_gr new X X') : pp_ty X' = pp_ty X := by
  unfold pp_ty
  rw [hg.2.2.1]
theorem pp_gr_tr {n1 n2 : List Nat} {X X1 X2 : pp_X} (h1 : pp_gr n1 X X1) (h2 : pp_gr n2 X1 X2) : pp_gr (n1 ++ n2) X X2 := ⟨h2.1.trans h1.1, h2.2.1.trans h1.2.1, h2.2.2.1.trans h1.2.2.1, fun a b h => (h2.2.2.2 a b (fun q => h (List.mem_append_right _ q))).trans (h1.2.2.2 a b (fun q => h (List.mem_append_left _ q)))⟩
def pp_z (σ : pp_M) (t : Nat) : pp_M := (fun a b => if a = t then 0 else σ.1 a b, fun a b => if a = t then 0 else σ.2 a b)
/-- the list that the kit's rows want -/
def pp_ws (X : pp_X) (ds : List (Nat × Nat)) (zs : List pp_Z) (σ : pp_M) : va_W := pp_wd X ds σ ++ zs.map (pp_zc X)
theorem pp_P_ws {X : pp_X} {ds : List (Nat × Nat)} {zs : List pp_Z} {σ : pp_M} {H : Heap} : pp_P X ds zs σ H ↔ va_P (X.1, X.2.1) pp_cl (pp_ws X ds zs σ) H := by
  constructor
  · intro h k q hq
    rcases List.mem_append.mp (List.mem_of_getElem? hq) with h1 | h1
    · obtain ⟨d, hd, rfl⟩ := List.mem_map.mp h1
      exact h.1 d hd
    · obtain ⟨z, hz, rfl⟩ := List.mem_map.mp h1
      exact h.2 z hz
  · intro h
    have key : ∀ q ∈ pp_ws X ds zs σ, va_at (X.1, X.2.1) pp_cl q H := fun q hq => by
      obtain ⟨k, hk⟩ := List.getElem?_of_mem hq
      exact h k q hk
    exact ⟨fun d hd => key _ (List.mem_append_left _ (List.mem_map.mpr ⟨d, hd, rfl⟩)), fun z hz => key _ (List.mem_append_right _ (List.mem_map.mpr ⟨z, hz, rfl⟩))⟩
theorem pp_I_inj {X : pp_X} {A : Nat → Prop} {ks : List (Nat × Nat)} (hn : ks.Nodup) (h : pp_I X A ks) : pp_inj X ks := by
  intro i j d d' h1 h2 h3
  have e := h.1 d (List.mem_of_getElem? h1) d' (List.mem_of_getElem? h2) h3
  subst e
  exact (List.getElem?_inj (List.getElem?_eq_some_iff.mp h1).1 hn).mp (h1.trans h2.symm)
theorem pp_ws_key {X : pp_X} {ds : List (Nat × Nat)} {zs : List pp_Z} {σ : pp_M} {k : Nat} {q : Nat × va_E} (h : (pp_ws X ds zs σ)[k]? = some q) : ∃ d, (ds ++ pp_zk zs)[k]? = some d ∧ q.1 = X.2.2.1 d.1 d.2 := by
  have e : (pp_ws X ds zs σ).map Prod.fst = (ds ++ pp_zk zs).map (fun d => X.2.2.1 d.1 d.2) := by
    unfold pp_ws pp_wd pp_zk
    simp only [List.map_append, List.map_map]
    rfl
  have h1 : ((pp_ws X ds zs σ).map Prod.fst)[k]? = some q.1 := by rw [List.getElem?_map, h]; rfl
  rw [e, List.getElem?_map] at h1
  cases hd : (ds ++ pp_zk zs)[k]? with
  | none => rw [hd] at h1; cases h1
  | some d => rw [hd] at h1; exact ⟨d, rfl, (Option.some.inj h1).symm⟩
theorem pp_I_D {X : pp_X} {A : Nat → Prop} {ds : List (Nat × Nat)} {zs : List pp_Z} {σ : pp_M} (hn : (ds ++ pp_zk zs).Nodup) (h : pp_I X A (ds ++ pp_zk zs)) : va_D A (pp_ws X ds zs σ) := by
  refine ⟨fun i j p q h1 h2 h3 => ?_, fun k q hk => ?_⟩
  · obtain ⟨d, e1, e2⟩ := pp_ws_key h1
    obtain ⟨d', e3, e4⟩ := pp_ws_key h2
    exact pp_I_inj hn h i j d d' e1 e3 (e2.symm.trans (h3.trans e4))
  · obtain ⟨d, e1, e2⟩ := pp_ws_key hk
    rw [e2]
    exact h.2 d (List.mem_of_getElem? e1)
