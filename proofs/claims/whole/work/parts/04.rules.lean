/-! the judgement pp_E: a method's body at a place, with locals, stack and memory in my own words; a rule an instruction -/
/-- the machine: program .. code, the end, cells and slots made so far, what may change -/
abbrev pp_Y : Type := Program × Launch × Env × Room × State × MethodId × Array Value × List Frame × Method × Code × (State → Prop) × Nat × Nat × (Nat → Prop)
abbrev pp_G : Type := pp_Y × pp_X
def pp_ok (ds : List (Nat × Nat)) : Prop := ∀ d ∈ ds, ((pp_e d.1).1 = 0 → d.2 = 0) ∧ d.2 % (pp_e d.1).2.2.1 = 0
def pp_nb : List (String × Nat × MethodName) := [("PedlarPack", 25, ⟨"PedlarPack$Market", "<init>", "()V"⟩), ("PedlarPack", 32, ⟨"PedlarPack$Line", "<init>", "()V"⟩), ("PedlarPack$Goods", 16, ⟨"PedlarPack", "within", "(III)Z"⟩), ("PedlarPack$Line", 58, ⟨"PedlarPack", "within", "(III)Z"⟩), ("PedlarPack$Line", 44, ⟨"PedlarPack", "isFarm", "(I)Z"⟩), ("PedlarPack$Line", 52, ⟨"PedlarPack", "isThing", "(I)Z"⟩), ("PedlarPack$Market", 20, ⟨"PedlarPack", "within", "(III)Z"⟩), ("PedlarPack$Sheets", 31, ⟨"PedlarPack", "within", "(III)Z"⟩)]
/-- links to private members of nest mates -/
def pp_Nw (U : State) : Prop := ∀ q ∈ pp_nb, va_Nw (.methodLinkNest q.1 q.2.1 q.2.2 "PedlarPack") U
theorem pp_Nw.warm {s U : State} (hW : s.WarmedH U.vm) (h : pp_Nw s) : pp_Nw U := fun q hq => va_Nw.warmM hW (h q hq)
theorem pp_Nw.same {u U : State} (e : u.vm = U.vm) (h : pp_Nw u) : pp_Nw U := fun q hq => va_Nw.same rfl e (h q hq)
def pp_lv (X : pp_X) (lv : List (Nat × pp_V)) : List (Nat × Value) := lv.map (fun q => (q.1, ppv X.2.2.1 q.2))
def pp_Fx (Γ : pp_G) (ds : List (Nat × Nat)) (cc : ByteArray) (nL : Nat) (own : String) (F L : Nat) : Prop := match Γ with
  | ((p, l, e, R, s, m, args, below, meth, c, Q, cl, sl, A), X) => p.tables.exec = Jvm.exec ∧ c.code = cc ∧ c.maxLocals = nL ∧ s.vm.findClass own = some m.cls ∧ (∀ w ∈ pp_tb, w.before args s = true) ∧ va_K (X.1, X.2.1) pp_cl (pp_ty X) s ∧ (pp_inj X ds ∧ pp_ok ds ∧ ∀ q, pp_A X ds q → A q) ∧ (F ≤ R.frames ∧ L ≤ R.locals) ∧ (cl ≤ R.cells ∧ sl ≤ R.slots) ∧ meth.locks = false ∧ pp_Nw s
def pp_E (Γ : pp_G) (ds : List (Nat × Nat)) (cc : ByteArray) (nL : Nat) (pc : Nat) (lv : List (Nat × pp_V)) (st : List pp_V) (σ : pp_M) : Prop := match Γ with
  | ((p, l, e, R, s, m, args, below, meth, c, Q, cl, sl, A), X) => ∀ (H : Heap) (locs : List Loc) (ls : Array Slot), va_P (X.1, X.2.1) pp_cl (pp_wd X ds σ) H → va_S A s.heap H locs → lv_has ls nL (pp_lv X lv) → W p l e R s m args below meth c H locs cl sl Q (F0 m pc ls (st.map (ppv X.2.2.1)))
def pp_Qc (X : pp_X) (ds : List (Nat × Nat)) (A : Nat → Prop) (r : Option pp_V) (σ : pp_M) : Array Value → State → Outcome → State → Prop := fun _ st oc t => oc = .returned (r.map (ppv X.2.2.1)) ∧ va_P (X.1, X.2.1) pp_cl (pp_wd X ds σ) t.heap ∧ va_K (X.1, X.2.1) pp_cl (pp_ty X) t ∧ va_F A st t
/-- the end that is due: the answer r, the memory σ -/
def pp_Rt (Γ : pp_G) (ds : List (Nat × Nat)) (ret : Option FieldType) (r : Option pp_V) (σ : pp_M) : Prop := match Γ with
  | ((p, l, e, R, s, m, args, below, meth, c, Q, cl, sl, A), X) => meth.sig.returnType = ret ∧ Q = MQ below (pp_Qc X ds A r σ) args s cl sl A
-- locals
def pp_at : List (Nat × pp_V) → Nat → Option pp_V
  | [], _ => none
  | q :: l, i => cond (Nat.beq q.1 i) (some q.2) (pp_at l i)
def pp_isL : pp_V → Bool
  | .inr (.inl _) => true
  | _ => false
def pp_kp (i : Nat) (b : Bool) (q : Nat × pp_V) : Bool := !(Nat.beq q.1 i) && (!(b && Nat.beq q.1 (i + 1)) && !(Nat.beq (q.1 + 1) i && pp_isL q.2))
def pp_ins (i : Nat) (v : pp_V) : List (Nat × pp_V) → List (Nat × pp_V)
  | [] => [(i, v)]
  | q :: l => cond (Nat.blt q.1 i) (q :: pp_ins i v l) ((i, v) :: q :: l)
def pp_put (i : Nat) (v : pp_V) (lv : List (Nat × pp_V)) : List (Nat × pp_V) := pp_ins i v (lv.filter (pp_kp i (pp_isL v)))
theorem pp_bq (a b : Nat) : (a == b) = Nat.beq a b := by
  by_cases e : a = b
  · subst e; rw [beq_self_eq_true]; exact (Nat.beq_refl a).symm
  · rw [beq_eq_false_iff_ne.mpr e]
    cases h : Nat.beq a b with
    | false => rfl
    | true => exact absurd (Nat.eq_of_beq_eq_true h) e
theorem pp_at_mem : ∀ {lv : List (Nat × pp_V)} {i : Nat} {v : pp_V}, pp_at lv i = some v → (i, v) ∈ lv
  | [], i, v, h => by simp [pp_at] at h
  | q :: l, i, v, h => by
    unfold pp_at at h
    cases hb : Nat.beq q.1 i with
    | true =>
      rw [hb] at h
      have e : q.1 = i := Nat.eq_of_beq_eq_true hb
      have e2 : q.2 = v := Option.some.inj h
      rw [← e, ← e2]
      exact List.mem_cons_self
    | false =>
      rw [hb] at h
      exact List.mem_cons_of_mem _ (pp_at_mem h)
theorem pp_ins_mem {i : Nat} {v : pp_V} : ∀ {l : List (Nat × pp_V)} {q : Nat × pp_V}, q ∈ pp_ins i v l → q = (i, v) ∨ q ∈ l
  | [], q, h => Or.inl (List.mem_singleton.mp h)
  | x :: l, q, h => by
    unfold pp_ins at h
    cases hb : Nat.blt x.1 i with
    | true =>
      rw [hb] at h
      rcases List.mem_cons.mp h with h | h
      · exact Or.inr (by rw [h]; exact List.mem_cons_self)
      · rcases pp_ins_mem h with h | h
        · exact Or.inl h
        · exact Or.inr (List.mem_cons_of_mem _ h)
    | false =>
      rw [hb] at h
      rcases List.mem_cons.mp h with h | h
      · exact Or.inl h
      · exact Or.inr h
theorem pp_has_sub {ls : Array Slot} {n : Nat} {l l' : List (Nat × Value)} (h : lv_has ls n l) (hs : ∀ q ∈ l', q ∈ l) : lv_has ls n l' := ⟨h.1, h.2.1, fun q hq => h.2.2 q (hs q hq)⟩
theorem pp_has_at {ls : Array Slot} {n : Nat} {X : pp_X} {lv : List (Nat × pp_V)} {i : Nat} {v : pp_V} (h : lv_has ls n (pp_lv X lv)) (hv : pp_at lv i = some v) : ls[i]? = some (.val (ppv X.2.2.1 v)) := h.2.2 (i, ppv X.2.2.1 v) (List.mem_map.mpr ⟨(i, v), pp_at_mem hv, rfl⟩)
theorem pp_cat (ad : Nat → Nat → Nat) (v : pp_V) : ((ppv ad v).category == 2) = pp_isL v := by
  rcases v with x | x | ⟨t, o, n⟩ <;> rfl
theorem pp_put1 {ls : Array Slot} {n : Nat} {X : pp_X} {lv lv' : List (Nat × pp_V)} {i : Nat} {v : pp_V} (hv : pp_isL v = false) (hl : pp_put i v lv = lv') (h : lv_has ls n ((i, ppv X.2.2.1 v) :: (pp_lv X lv).filter (fun q => !(q.1 == i) && !(q.1 + 1 == i && q.2.category == 2)))) : lv_has ls n (pp_lv X lv') := by
  refine pp_has_sub h (fun q hq => ?_)
  subst hl
  obtain ⟨q0, h0, rfl⟩ := List.mem_map.mp hq
  rcases pp_ins_mem h0 with h1 | h1
  · subst h1; exact List.mem_cons_self
  · obtain ⟨h2, h3⟩ := List.mem_filter.mp h1
    refine List.mem_cons_of_mem _ (List.mem_filter.mpr ⟨List.mem_map.mpr ⟨q0, h2, rfl⟩, ?_⟩)
    unfold pp_kp at h3
    rw [hv] at h3
    simp only [Bool.false_and, Bool.not_false, Bool.true_and] at h3
    show (!(q0.1 == i) && !(q0.1 + 1 == i && ((ppv X.2.2.1 q0.2).category == 2))) = true
    rw [pp_cat, pp_bq, pp_bq]
    exact h3
theorem pp_put2 {ls : Array Slot} {n : Nat} {X : pp_X} {lv lv' : List (Nat × pp_V)} {i : Nat} {v : pp_V} (hv : pp_isL v = true) (hl : pp_put i v lv = lv') (h : lv_has ls n ((i, ppv X.2.2.1 v) :: (pp_lv X lv).filter (fun q => !(q.1 == i) && (!(q.1 == i + 1) && !(q.1 + 1 == i && q.2.category == 2))))) : lv_has ls n (pp_lv X lv') := by
  refine pp_has_sub h (fun q hq => ?_)
  subst hl
  obtain ⟨q0, h0, rfl⟩ := List.mem_map.mp hq
  rcases pp_ins_mem h0 with h1 | h1
  · subst h1; exact List.mem_cons_self
  · obtain ⟨h2, h3⟩ := List.mem_filter.mp h1
    refine List.mem_cons_of_mem _ (List.mem_filter.mpr ⟨List.mem_map.mpr ⟨q0, h2, rfl⟩, ?_⟩)
    unfold pp_kp at h3
    rw [hv] at h3
    simp only [Bool.true_and] at h3
    show (!(q0.1 == i) && (!(q0.1 == i + 1) && !(q0.1 + 1 == i && ((ppv X.2.2.1 q0.2).category == 2)))) = true
    rw [pp_cat, pp_bq, pp_bq, pp_bq]
    exact h3
section PPE
variable {Γ : pp_G} {ds : List (Nat × Nat)} {cc : ByteArray} {nL : Nat} {own : String} {F L pc : Nat} {lv lv' : List (Nat × pp_V)} {st : List pp_V} {σ : pp_M}
theorem pp_iconst {n : Int} {v : Int32} (hF : pp_Fx Γ ds cc nL own F L) (d : decode cc pc = .ok (.iconst n, 1)) (hv : Int32.ofInt n = v) (k : pp_E Γ ds cc nL (pc + 1) lv (ppI v :: st) σ) : pp_E Γ ds cc nL pc lv st σ := by
  obtain ⟨⟨p, l, e, R, s, m, args, below, meth, c, Q, cl, sl, A⟩, X⟩ := Γ
  intro H locs ls hP hS hl
  exact lv_iconst hF.1 hF.2.1 d hv (k H locs ls hP hS hl)
theorem pp_bipush {n : Int} {v : Int32} (hF : pp_Fx Γ ds cc nL own F L) (d : decode cc pc = .ok (.bipush n, 2)) (hv : (Int8.ofInt n).toInt32 = v) (k : pp_E Γ ds cc nL (pc + 2) lv (ppI v :: st) σ) : pp_E Γ ds cc nL pc lv st σ := by
  obtain ⟨⟨p, l, e, R, s, m, args, below, meth, c, Q, cl, sl, A⟩, X⟩ := Γ
  intro H locs ls hP hS hl
  exact lv_bipush hF.1 hF.2.1 d hv (k H locs ls hP hS hl)
theorem pp_sipush {n : Int} {v : Int32} (hF : pp_Fx Γ ds cc nL own F L) (d : decode cc pc = .ok (.sipush n, 3)) (hv : (Int16.ofInt n).toInt32 = v) (k : pp_E Γ ds cc nL (pc + 3) lv (ppI v :: st) σ) : pp_E Γ ds cc nL pc lv st σ := by
  obtain ⟨⟨p, l, e, R, s, m, args, below, meth, c, Q, cl, sl, A⟩, X⟩ := Γ
  intro H locs ls hP hS hl
  exact lv_sipush hF.1 hF.2.1 d hv (k H locs ls hP hS hl)
theorem pp_lconst {n : Fin 2} {v : Int64} (hF : pp_Fx Γ ds cc nL own F L) (d : decode cc pc = .ok (.lconst n, 1)) (hv : Int64.ofNat (n : Nat) = v) (k : pp_E Γ ds cc nL (pc + 1) lv (ppL v :: st) σ) : pp_E Γ ds cc nL pc lv st σ := by
  obtain ⟨⟨p, l, e, R, s, m, args, below, meth, c, Q, cl, sl, A⟩, X⟩ := Γ
  intro H locs ls hP hS hl
  exact lv_lconst hF.1 hF.2.1 d hv (k H locs ls hP hS hl)
theorem pp_ldcw {i : Nat} {v : Int32} (hF : pp_Fx Γ ds cc nL own F L) (hw : Cond.constant own i v ∈ pp_tb) (d : decode cc pc = .ok (.ldc_w i, 3)) (k : pp_E Γ ds cc nL (pc + 3) lv (ppI v :: st) σ) : pp_E Γ ds cc nL pc lv st σ := by
  obtain ⟨⟨p, l, e, R, s, m, args, below, meth, c, Q, cl, sl, A⟩, X⟩ := Γ
  intro H locs ls hP hS hl
  exact lv_ldcw hF.1 hF.2.1 hF.2.2.2.1 (hF.2.2.2.2.1 _ hw) d (k H locs ls hP hS hl)
theorem pp_ldc2 {i : Nat} {v : Int64} (hF : pp_Fx Γ ds cc nL own F L) (hw : Cond.constantLong own i v ∈ pp_tb) (d : decode cc pc = .ok (.ldc2_w i, 3)) (k : pp_E Γ ds cc nL (pc + 3) lv (ppL v :: st) σ) : pp_E Γ ds cc nL pc lv st σ := by
  obtain ⟨⟨p, l, e, R, s, m, args, below, meth, c, Q, cl, sl, A⟩, X⟩ := Γ
  intro H locs ls hP hS hl
  exact lv_ldc2 hF.1 hF.2.1 hF.2.2.2.1 (hF.2.2.2.2.1 _ hw) d (k H locs ls hP hS hl)
theorem pp_iload_n {j : Fin 4} {i : Nat} {x : Int32} (hF : pp_Fx Γ ds cc nL own F L) (d : decode cc pc = .ok (.iload_n j, 1)) (hi : (j : Nat) = i) (ha : pp_at lv i = some (ppI x)) (k : pp_E Γ ds cc nL (pc + 1) lv (ppI x :: st) σ) : pp_E Γ ds cc nL pc lv st σ := by
  obtain ⟨⟨p, l, e, R, s, m, args, below, meth, c, Q, cl, sl, A⟩, X⟩ := Γ
  intro H locs ls hP hS hl
  exact lv_iload_n hF.1 hF.2.1 d hi (pp_has_at hl ha) (k H locs ls hP hS hl)
theorem pp_iload {i : Nat} {x : Int32} (hF : pp_Fx Γ ds cc nL own F L) (d : decode cc pc = .ok (.iload i, 2)) (ha : pp_at lv i = some (ppI x)) (k : pp_E Γ ds cc nL (pc + 2) lv (ppI x :: st) σ) : pp_E Γ ds cc nL pc lv st σ := by
  obtain ⟨⟨p, l, e, R, s, m, args, below, meth, c, Q, cl, sl, A⟩, X⟩ := Γ
  intro H locs ls hP hS hl
  exact lv_iload hF.1 hF.2.1 d (pp_has_at hl ha) (k H locs ls hP hS hl)
theorem pp_lload_n {j : Fin 4} {i : Nat} {x : Int64} (hF : pp_Fx Γ ds cc nL own F L) (d : decode cc pc = .ok (.lload_n j, 1)) (hi : (j : Nat) = i) (ha : pp_at lv i = some (ppL x)) (k : pp_E Γ ds cc nL (pc + 1) lv (ppL x :: st) σ) : pp_E Γ ds cc nL pc lv st σ := by
  obtain ⟨⟨p, l, e, R, s, m, args, below, meth, c, Q, cl, sl, A⟩, X⟩ := Γ
  intro H locs ls hP hS hl
  exact lv_lload_n hF.1 hF.2.1 d hi (pp_has_at hl ha) (k H locs ls hP hS hl)
theorem pp_lload {i : Nat} {x : Int64} (hF : pp_Fx Γ ds cc nL own F L) (d : decode cc pc = .ok (.lload i, 2)) (ha : pp_at lv i = some (ppL x)) (k : pp_E Γ ds cc nL (pc + 2) lv (ppL x :: st) σ) : pp_E Γ ds cc nL pc lv st σ := by
  obtain ⟨⟨p, l, e, R, s, m, args, below, meth, c, Q, cl, sl, A⟩, X⟩ := Γ
  intro H locs ls hP hS hl
  exact lv_lload hF.1 hF.2.1 d (pp_has_at hl ha) (k H locs ls hP hS hl)
theorem pp_aload_n {j : Fin 4} {i t o n : Nat} (hF : pp_Fx Γ ds cc nL own F L) (d : decode cc pc = .ok (.aload_n j, 1)) (hi : (j : Nat) = i) (ha : pp_at lv i = some (ppR t o n)) (k : pp_E Γ ds cc nL (pc + 1) lv (ppR t o n :: st) σ) : pp_E Γ ds cc nL pc lv st σ := by
  obtain ⟨⟨p, l, e, R, s, m, args, below, meth, c, Q, cl, sl, A⟩, X⟩ := Γ
  intro H locs ls hP hS hl
  exact lv_aload_n hF.1 hF.2.1 d hi (pp_has_at hl ha) (k H locs ls hP hS hl)
theorem pp_aload {i t o n : Nat} (hF : pp_Fx Γ ds cc nL own F L) (d : decode cc pc = .ok (.aload i, 2)) (ha : pp_at lv i = some (ppR t o n)) (k : pp_E Γ ds cc nL (pc + 2) lv (ppR t o n :: st) σ) : pp_E Γ ds cc nL pc lv st σ := by
  obtain ⟨⟨p, l, e, R, s, m, args, below, meth, c, Q, cl, sl, A⟩, X⟩ := Γ
  intro H locs ls hP hS hl
  exact lv_aload hF.1 hF.2.1 d (pp_has_at hl ha) (k H locs ls hP hS hl)
theorem pp_istore_n {j : Fin 4} {i : Nat} {x : Int32} (hF : pp_Fx Γ ds cc nL own F L) (d : decode cc pc = .ok (.istore_n j, 1)) (hi : (j : Nat) = i) (hn : i < nL) (hp : pp_put i (ppI x) lv = lv') (k : pp_E Γ ds cc nL (pc + 1) lv' st σ) : pp_E Γ ds cc nL pc lv (ppI x :: st) σ := by
  obtain ⟨⟨p, l, e, R, s, m, args, below, meth, c, Q, cl, sl, A⟩, X⟩ := Γ
  intro H locs ls hP hS hl
  exact lv_istore_n hF.1 hF.2.1 d hi hl hn rfl (fun ls' hl' => k H locs ls' hP hS (pp_put1 rfl hp hl'))
theorem pp_istore {i : Nat} {x : Int32} (hF : pp_Fx Γ ds cc nL own F L) (d : decode cc pc = .ok (.istore i, 2)) (hn : i < nL) (hp : pp_put i (ppI x) lv = lv') (k : pp_E Γ ds cc nL (pc + 2) lv' st σ) : pp_E Γ ds cc nL pc lv (ppI x :: st) σ := by
  obtain ⟨⟨p, l, e, R, s, m, args, below, meth, c, Q, cl, sl, A⟩, X⟩ := Γ
  intro H locs ls hP hS hl
  exact lv_istore hF.1 hF.2.1 d hl hn rfl (fun ls' hl' => k H locs ls' hP hS (pp_put1 rfl hp hl'))
theorem pp_lstore_n {j : Fin 4} {i : Nat} {x : Int64} (hF : pp_Fx Γ ds cc nL own F L) (d : decode cc pc = .ok (.lstore_n j, 1)) (hi : (j : Nat) = i) (hn : i + 1 < nL) (hp : pp_put i (ppL x) lv = lv') (k : pp_E Γ ds cc nL (pc + 1) lv' st σ) : pp_E Γ ds cc nL pc lv (ppL x :: st) σ := by
  obtain ⟨⟨p, l, e, R, s, m, args, below, meth, c, Q, cl, sl, A⟩, X⟩ := Γ
  intro H locs ls hP hS hl
  exact lv_lstore_n hF.1 hF.2.1 d hi hl hn rfl (fun ls' hl' => k H locs ls' hP hS (pp_put2 rfl hp hl'))
theorem pp_lstore {i : Nat} {x : Int64} (hF : pp_Fx Γ ds cc nL own F L) (d : decode cc pc = .ok (.lstore i, 2)) (hn : i + 1 < nL) (hp : pp_put i (ppL x) lv = lv') (k : pp_E Γ ds cc nL (pc + 2) lv' st σ) : pp_E Γ ds cc nL pc lv (ppL x :: st) σ := by
  obtain ⟨⟨p, l, e, R, s, m, args, below, meth, c, Q, cl, sl, A⟩, X⟩ := Γ
  intro H locs ls hP hS hl
  exact lv_lstore hF.1 hF.2.1 d hl hn rfl (fun ls' hl' => k H locs ls' hP hS (pp_put2 rfl hp hl'))
theorem pp_astore_n {j : Fin 4} {i : Nat} {t o n : Nat} (hF : pp_Fx Γ ds cc nL own F L) (d : decode cc pc = .ok (.astore_n j, 1)) (hi : (j : Nat) = i) (hn : i < nL) (hp : pp_put i (ppR t o n) lv = lv') (k : pp_E Γ ds cc nL (pc + 1) lv' st σ) : pp_E Γ ds cc nL pc lv (ppR t o n :: st) σ := by
  obtain ⟨⟨p, l, e, R, s, m, args, below, meth, c, Q, cl, sl, A⟩, X⟩ := Γ
  intro H locs ls hP hS hl
  exact lv_astore_n hF.1 hF.2.1 d hi hl hn rfl (fun ls' hl' => k H locs ls' hP hS (pp_put1 rfl hp hl'))
theorem pp_astore {i : Nat} {t o n : Nat} (hF : pp_Fx Γ ds cc nL own F L) (d : decode cc pc = .ok (.astore i, 2)) (hn : i < nL) (hp : pp_put i (ppR t o n) lv = lv') (k : pp_E Γ ds cc nL (pc + 2) lv' st σ) : pp_E Γ ds cc nL pc lv (ppR t o n :: st) σ := by
  obtain ⟨⟨p, l, e, R, s, m, args, below, meth, c, Q, cl, sl, A⟩, X⟩ := Γ
  intro H locs ls hP hS hl
  exact lv_astore hF.1 hF.2.1 d hl hn rfl (fun ls' hl' => k H locs ls' hP hS (pp_put1 rfl hp hl'))
theorem pp_iinc {i : Nat} {n : Int} {x v : Int32} (hF : pp_Fx Γ ds cc nL own F L) (d : decode cc pc = .ok (.iinc i n, 3)) (ha : pp_at lv i = some (ppI x)) (hv : x + Int32.ofInt n = v) (hn : i < nL) (hp : pp_put i (ppI v) lv = lv') (k : pp_E Γ ds cc nL (pc + 3) lv' st σ) : pp_E Γ ds cc nL pc lv st σ := by
  obtain ⟨⟨p, l, e, R, s, m, args, below, meth, c, Q, cl, sl, A⟩, X⟩ := Γ
  intro H locs ls hP hS hl
  have hm : ((i, Value.int x) : Nat × Value) ∈ pp_lv X lv := List.mem_map.mpr ⟨(i, ppI x), pp_at_mem ha, rfl⟩
  obtain ⟨q, hq⟩ := List.getElem?_of_mem hm
  exact lv_iinc (k := q) hF.1 hF.2.1 d hl hq hv hn rfl (fun ls' hl' => k H locs ls' hP hS (pp_put1 rfl hp hl'))
theorem pp_iadd {x y : Int32} (hF : pp_Fx Γ ds cc nL own F L) (d : decode cc pc = .ok (.iadd, 1)) (k : pp_E Γ ds cc nL (pc + 1) lv (ppI (x + y) :: st) σ) : pp_E Γ ds cc nL pc lv (ppI y :: ppI x :: st) σ := by
  obtain ⟨⟨p, l, e, R, s, m, args, below, meth, c, Q, cl, sl, A⟩, X⟩ := Γ
  intro H locs ls hP hS hl
  exact lv_iadd hF.1 hF.2.1 d (k H locs ls hP hS hl)
theorem pp_isub {x y : Int32} (hF : pp_Fx Γ ds cc nL own F L) (d : decode cc pc = .ok (.isub, 1)) (k : pp_E Γ ds cc nL (pc + 1) lv (ppI (x - y) :: st) σ) : pp_E Γ ds cc nL pc lv (ppI y :: ppI x :: st) σ := by
  obtain ⟨⟨p, l, e, R, s, m, args, below, meth, c, Q, cl, sl, A⟩, X⟩ := Γ
  intro H locs ls hP hS hl
  exact lv_isub hF.1 hF.2.1 d (k H locs ls hP hS hl)
theorem pp_imul {x y : Int32} (hF : pp_Fx Γ ds cc nL own F L) (d : decode cc pc = .ok (.imul, 1)) (k : pp_E Γ ds cc nL (pc + 1) lv (ppI (x * y) :: st) σ) : pp_E Γ ds cc nL pc lv (ppI y :: ppI x :: st) σ := by
  obtain ⟨⟨p, l, e, R, s, m, args, below, meth, c, Q, cl, sl, A⟩, X⟩ := Γ
  intro H locs ls hP hS hl
  exact lv_imul hF.1 hF.2.1 d (k H locs ls hP hS hl)
theorem pp_iand {x y : Int32} (hF : pp_Fx Γ ds cc nL own F L) (d : decode cc pc = .ok (.iand, 1)) (k : pp_E Γ ds cc nL (pc + 1) lv (ppI (x &&& y) :: st) σ) : pp_E Γ ds cc nL pc lv (ppI y :: ppI x :: st) σ := by
  obtain ⟨⟨p, l, e, R, s, m, args, below, meth, c, Q, cl, sl, A⟩, X⟩ := Γ
  intro H locs ls hP hS hl
  exact lv_iand hF.1 hF.2.1 d (k H locs ls hP hS hl)
theorem pp_ior {x y : Int32} (hF : pp_Fx Γ ds cc nL own F L) (d : decode cc pc = .ok (.ior, 1)) (k : pp_E Γ ds cc nL (pc + 1) lv (ppI (x ||| y) :: st) σ) : pp_E Γ ds cc nL pc lv (ppI y :: ppI x :: st) σ := by
  obtain ⟨⟨p, l, e, R, s, m, args, below, meth, c, Q, cl, sl, A⟩, X⟩ := Γ
  intro H locs ls hP hS hl
  exact lv_ior hF.1 hF.2.1 d (k H locs ls hP hS hl)
theorem pp_ixor {x y : Int32} (hF : pp_Fx Γ ds cc nL own F L) (d : decode cc pc = .ok (.ixor, 1)) (k : pp_E Γ ds cc nL (pc + 1) lv (ppI (x ^^^ y) :: st) σ) : pp_E Γ ds cc nL pc lv (ppI y :: ppI x :: st) σ := by
  obtain ⟨⟨p, l, e, R, s, m, args, below, meth, c, Q, cl, sl, A⟩, X⟩ := Γ
  intro H locs ls hP hS hl
  exact lv_ixor hF.1 hF.2.1 d (k H locs ls hP hS hl)
theorem pp_ishl {x y : Int32} (hF : pp_Fx Γ ds cc nL own F L) (d : decode cc pc = .ok (.ishl, 1)) (k : pp_E Γ ds cc nL (pc + 1) lv (ppI (x <<< (y &&& 31)) :: st) σ) : pp_E Γ ds cc nL pc lv (ppI y :: ppI x :: st) σ := by
  obtain ⟨⟨p, l, e, R, s, m, args, below, meth, c, Q, cl, sl, A⟩, X⟩ := Γ
  intro H locs ls hP hS hl
  exact lv_ishl hF.1 hF.2.1 d (k H locs ls hP hS hl)
theorem pp_ishr {x y : Int32} (hF : pp_Fx Γ ds cc nL own F L) (d : decode cc pc = .ok (.ishr, 1)) (k : pp_E Γ ds cc nL (pc + 1) lv (ppI (x >>> (y &&& 31)) :: st) σ) : pp_E Γ ds cc nL pc lv (ppI y :: ppI x :: st) σ := by
  obtain ⟨⟨p, l, e, R, s, m, args, below, meth, c, Q, cl, sl, A⟩, X⟩ := Γ
  intro H locs ls hP hS hl
  exact lv_ishr hF.1 hF.2.1 d (k H locs ls hP hS hl)
theorem pp_iushr {x y : Int32} (hF : pp_Fx Γ ds cc nL own F L) (d : decode cc pc = .ok (.iushr, 1)) (k : pp_E Γ ds cc nL (pc + 1) lv (ppI ((x.toUInt32 >>> (y.toUInt32 &&& Int32.toUInt32 31)).toInt32) :: st) σ) : pp_E Γ ds cc nL pc lv (ppI y :: ppI x :: st) σ := by
  obtain ⟨⟨p, l, e, R, s, m, args, below, meth, c, Q, cl, sl, A⟩, X⟩ := Γ
  intro H locs ls hP hS hl
  exact lv_iushr hF.1 hF.2.1 d rfl (k H locs ls hP hS hl)
theorem pp_idiv {x y : Int32} (hF : pp_Fx Γ ds cc nL own F L) (d : decode cc pc = .ok (.idiv, 1)) (hne : ¬ y = 0) (k : pp_E Γ ds cc nL (pc + 1) lv (ppI (x / y) :: st) σ) : pp_E Γ ds cc nL pc lv (ppI y :: ppI x :: st) σ := by
  obtain ⟨⟨p, l, e, R, s, m, args, below, meth, c, Q, cl, sl, A⟩, X⟩ := Γ
  intro H locs ls hP hS hl
  exact lv_idiv hF.1 hF.2.1 d hne (k H locs ls hP hS hl)
theorem pp_irem {x y : Int32} (hF : pp_Fx Γ ds cc nL own F L) (d : decode cc pc = .ok (.irem, 1)) (hne : ¬ y = 0) (k : pp_E Γ ds cc nL (pc + 1) lv (ppI (x - x / y * y) :: st) σ) : pp_E Γ ds cc nL pc lv (ppI y :: ppI x :: st) σ := by
  obtain ⟨⟨p, l, e, R, s, m, args, below, meth, c, Q, cl, sl, A⟩, X⟩ := Γ
  intro H locs ls hP hS hl
  exact lv_irem hF.1 hF.2.1 d hne (k H locs ls hP hS hl)
theorem pp_ladd {x y : Int64} (hF : pp_Fx Γ ds cc nL own F L) (d : decode cc pc = .ok (.ladd, 1)) (k : pp_E Γ ds cc nL (pc + 1) lv (ppL (x + y) :: st) σ) : pp_E Γ ds cc nL pc lv (ppL y :: ppL x :: st) σ := by
  obtain ⟨⟨p, l, e, R, s, m, args, below, meth, c, Q, cl, sl, A⟩, X⟩ := Γ
  intro H locs ls hP hS hl
  exact lv_ladd hF.1 hF.2.1 d (k H locs ls hP hS hl)
theorem pp_lsub {x y : Int64} (hF : pp_Fx Γ ds cc nL own F L) (d : decode cc pc = .ok (.lsub, 1)) (k : pp_E Γ ds cc nL (pc + 1) lv (ppL (x - y) :: st) σ) : pp_E Γ ds cc nL pc lv (ppL y :: ppL x :: st) σ := by
  obtain ⟨⟨p, l, e, R, s, m, args, below, meth, c, Q, cl, sl, A⟩, X⟩ := Γ
  intro H locs ls hP hS hl
  exact lv_lsub hF.1 hF.2.1 d (k H locs ls hP hS hl)
theorem pp_lmul {x y : Int64} (hF : pp_Fx Γ ds cc nL own F L) (d : decode cc pc = .ok (.lmul, 1)) (k : pp_E Γ ds cc nL (pc + 1) lv (ppL (x * y) :: st) σ) : pp_E Γ ds cc nL pc lv (ppL y :: ppL x :: st) σ := by
  obtain ⟨⟨p, l, e, R, s, m, args, below, meth, c, Q, cl, sl, A⟩, X⟩ := Γ
  intro H locs ls hP hS hl
  exact lv_lmul hF.1 hF.2.1 d (k H locs ls hP hS hl)
theorem pp_ldiv {x y : Int64} (hF : pp_Fx Γ ds cc nL own F L) (d : decode cc pc = .ok (.ldiv, 1)) (hne : ¬ y = 0) (k : pp_E Γ ds cc nL (pc + 1) lv (ppL (x / y) :: st) σ) : pp_E Γ ds cc nL pc lv (ppL y :: ppL x :: st) σ := by
  obtain ⟨⟨p, l, e, R, s, m, args, below, meth, c, Q, cl, sl, A⟩, X⟩ := Γ
  intro H locs ls hP hS hl
  exact lv_ldiv hF.1 hF.2.1 d hne (k H locs ls hP hS hl)
theorem pp_lrem {x y : Int64} (hF : pp_Fx Γ ds cc nL own F L) (d : decode cc pc = .ok (.lrem, 1)) (hne : ¬ y = 0) (k : pp_E Γ ds cc nL (pc + 1) lv (ppL (x - x / y * y) :: st) σ) : pp_E Γ ds cc nL pc lv (ppL y :: ppL x :: st) σ := by
  obtain ⟨⟨p, l, e, R, s, m, args, below, meth, c, Q, cl, sl, A⟩, X⟩ := Γ
  intro H locs ls hP hS hl
  exact lv_lrem hF.1 hF.2.1 d hne (k H locs ls hP hS hl)
theorem pp_lneg {x : Int64} (hF : pp_Fx Γ ds cc nL own F L) (d : decode cc pc = .ok (.lneg, 1)) (k : pp_E Γ ds cc nL (pc + 1) lv (ppL (-x) :: st) σ) : pp_E Γ ds cc nL pc lv (ppL x :: st) σ := by
  obtain ⟨⟨p, l, e, R, s, m, args, below, meth, c, Q, cl, sl, A⟩, X⟩ := Γ
  intro H locs ls hP hS hl
  exact lv_lneg hF.1 hF.2.1 d (k H locs ls hP hS hl)
theorem pp_lshl {x : Int64} {y : Int32} (hF : pp_Fx Γ ds cc nL own F L) (d : decode cc pc = .ok (.lshl, 1)) (k : pp_E Γ ds cc nL (pc + 1) lv (ppL (x <<< (y.toInt64 &&& 63)) :: st) σ) : pp_E Γ ds cc nL pc lv (ppI y :: ppL x :: st) σ := by
  obtain ⟨⟨p, l, e, R, s, m, args, below, meth, c, Q, cl, sl, A⟩, X⟩ := Γ
  intro H locs ls hP hS hl
  exact lv_lshl hF.1 hF.2.1 d rfl (k H locs ls hP hS hl)
theorem pp_i2l {x : Int32} (hF : pp_Fx Γ ds cc nL own F L) (d : decode cc pc = .ok (.i2l, 1)) (k : pp_E Γ ds cc nL (pc + 1) lv (ppL x.toInt64 :: st) σ) : pp_E Γ ds cc nL pc lv (ppI x :: st) σ := by
  obtain ⟨⟨p, l, e, R, s, m, args, below, meth, c, Q, cl, sl, A⟩, X⟩ := Γ
  intro H locs ls hP hS hl
  exact lv_i2l hF.1 hF.2.1 d rfl (k H locs ls hP hS hl)
theorem pp_i2b {x : Int32} (hF : pp_Fx Γ ds cc nL own F L) (d : decode cc pc = .ok (.i2b, 1)) (k : pp_E Γ ds cc nL (pc + 1) lv (ppI x.toInt8.toInt32 :: st) σ) : pp_E Γ ds cc nL pc lv (ppI x :: st) σ := by
  obtain ⟨⟨p, l, e, R, s, m, args, below, meth, c, Q, cl, sl, A⟩, X⟩ := Γ
  intro H locs ls hP hS hl
  exact lv_i2b hF.1 hF.2.1 d rfl (k H locs ls hP hS hl)
theorem pp_i2s {x : Int32} (hF : pp_Fx Γ ds cc nL own F L) (d : decode cc pc = .ok (.i2s, 1)) (k : pp_E Γ ds cc nL (pc + 1) lv (ppI x.toInt16.toInt32 :: st) σ) : pp_E Γ ds cc nL pc lv (ppI x :: st) σ := by
  obtain ⟨⟨p, l, e, R, s, m, args, below, meth, c, Q, cl, sl, A⟩, X⟩ := Γ
  intro H locs ls hP hS hl
  exact lv_i2s hF.1 hF.2.1 d rfl (k H locs ls hP hS hl)
theorem pp_popI {x : Int32} (hF : pp_Fx Γ ds cc nL own F L) (d : decode cc pc = .ok (.pop, 1)) (k : pp_E Γ ds cc nL (pc + 1) lv st σ) : pp_E Γ ds cc nL pc lv (ppI x :: st) σ := by
  obtain ⟨⟨p, l, e, R, s, m, args, below, meth, c, Q, cl, sl, A⟩, X⟩ := Γ
  intro H locs ls hP hS hl
  exact lv_pop hF.1 hF.2.1 d rfl (k H locs ls hP hS hl)
theorem pp_dupR {t o n : Nat} (hF : pp_Fx Γ ds cc nL own F L) (d : decode cc pc = .ok (.dup, 1)) (k : pp_E Γ ds cc nL (pc + 1) lv (ppR t o n :: ppR t o n :: st) σ) : pp_E Γ ds cc nL pc lv (ppR t o n :: st) σ := by
  obtain ⟨⟨p, l, e, R, s, m, args, below, meth, c, Q, cl, sl, A⟩, X⟩ := Γ
  intro H locs ls hP hS hl
  exact lv_dup hF.1 hF.2.1 d rfl (k H locs ls hP hS hl)
theorem pp_dup2 {x : Int32} {t o n : Nat} (hF : pp_Fx Γ ds cc nL own F L) (d : decode cc pc = .ok (.dup2, 1)) (k : pp_E Γ ds cc nL (pc + 1) lv (ppI x :: ppR t o n :: ppI x :: ppR t o n :: st) σ) : pp_E Γ ds cc nL pc lv (ppI x :: ppR t o n :: st) σ := by
  obtain ⟨⟨p, l, e, R, s, m, args, below, meth, c, Q, cl, sl, A⟩, X⟩ := Γ
  intro H locs ls hP hS hl
  exact lv_dup2_11 hF.1 hF.2.1 d rfl rfl (k H locs ls hP hS hl)
theorem pp_goto {off : Int} {tgt : Nat} (hF : pp_Fx Γ ds cc nL own F L) (d : decode cc pc = .ok (.goto off, 3)) (ht : (pc : Int) + off = (tgt : Int)) (k : pp_E Γ ds cc nL tgt lv st σ) : pp_E Γ ds cc nL pc lv st σ := by
  obtain ⟨⟨p, l, e, R, s, m, args, below, meth, c, Q, cl, sl, A⟩, X⟩ := Γ
  intro H locs ls hP hS hl
  exact lv_goto hF.1 hF.2.1 d ht (k H locs ls hP hS hl)
theorem pp_nlt {x y : Int32} (h : y ≤ x) : ¬ x < y := fun q => by
  rw [Int32.le_iff_toInt_le] at h
  rw [Int32.lt_iff_toInt_lt] at q
  omega
theorem pp_nle {x y : Int32} (h : ¬ y ≤ x) : x < y := by
  rw [Int32.le_iff_toInt_le] at h
  rw [Int32.lt_iff_toInt_lt]
  omega
theorem pp_icmp_eq {x y : Int32} {off : Int} {tgt : Nat} (hF : pp_Fx Γ ds cc nL own F L) (d : decode cc pc = .ok (.if_icmp .eq off, 3)) (ht : (pc : Int) + off = (tgt : Int)) (kt : (x = y) → pp_E Γ ds cc nL tgt lv st σ) (kf : ¬ (x = y) → pp_E Γ ds cc nL (pc + 3) lv st σ) : pp_E Γ ds cc nL pc lv (ppI y :: ppI x :: st) σ := by
  obtain ⟨⟨p, l, e, R, s, m, args, below, meth, c, Q, cl, sl, A⟩, X⟩ := Γ
  intro H locs ls hP hS hl
  exact lv_icmp_eq hF.1 hF.2.1 d ht (fun h => kt h H locs ls hP hS hl) (fun h => kf h H locs ls hP hS hl)
theorem pp_if_eq {x : Int32} {off : Int} {tgt : Nat} (hF : pp_Fx Γ ds cc nL own F L) (d : decode cc pc = .ok (.ifCond .eq off, 3)) (ht : (pc : Int) + off = (tgt : Int)) (kt : (x = 0) → pp_E Γ ds cc nL tgt lv st σ) (kf : ¬ (x = 0) → pp_E Γ ds cc nL (pc + 3) lv st σ) : pp_E Γ ds cc nL pc lv (ppI x :: st) σ := by
  obtain ⟨⟨p, l, e, R, s, m, args, below, meth, c, Q, cl, sl, A⟩, X⟩ := Γ
  intro H locs ls hP hS hl
  exact lv_if_eq hF.1 hF.2.1 d ht (fun h => kt h H locs ls hP hS hl) (fun h => kf h H locs ls hP hS hl)
theorem pp_icmp_ne {x y : Int32} {off : Int} {tgt : Nat} (hF : pp_Fx Γ ds cc nL own F L) (d : decode cc pc = .ok (.if_icmp .ne off, 3)) (ht : (pc : Int) + off = (tgt : Int)) (kt : (x = y) → pp_E Γ ds cc nL (pc + 3) lv st σ) (kf : ¬ (x = y) → pp_E Γ ds cc nL tgt lv st σ) : pp_E Γ ds cc nL pc lv (ppI y :: ppI x :: st) σ := by
  obtain ⟨⟨p, l, e, R, s, m, args, below, meth, c, Q, cl, sl, A⟩, X⟩ := Γ
  intro H locs ls hP hS hl
  exact lv_icmp_ne hF.1 hF.2.1 d ht (fun h => kf h H locs ls hP hS hl) (fun h => kt h H locs ls hP hS hl)
theorem pp_if_ne {x : Int32} {off : Int} {tgt : Nat} (hF : pp_Fx Γ ds cc nL own F L) (d : decode cc pc = .ok (.ifCond .ne off, 3)) (ht : (pc : Int) + off = (tgt : Int)) (kt : (x = 0) → pp_E Γ ds cc nL (pc + 3) lv st σ) (kf : ¬ (x = 0) → pp_E Γ ds cc nL tgt lv st σ) : pp_E Γ ds cc nL pc lv (ppI x :: st) σ := by
  obtain ⟨⟨p, l, e, R, s, m, args, below, meth, c, Q, cl, sl, A⟩, X⟩ := Γ
  intro H locs ls hP hS hl
  exact lv_if_ne hF.1 hF.2.1 d ht (fun h => kf h H locs ls hP hS hl) (fun h => kt h H locs ls hP hS hl)
theorem pp_icmp_lt {x y : Int32} {off : Int} {tgt : Nat} (hF : pp_Fx Γ ds cc nL own F L) (d : decode cc pc = .ok (.if_icmp .lt off, 3)) (ht : (pc : Int) + off = (tgt : Int)) (kt : (x < y) → pp_E Γ ds cc nL tgt lv st σ) (kf : ¬ (x < y) → pp_E Γ ds cc nL (pc + 3) lv st σ) : pp_E Γ ds cc nL pc lv (ppI y :: ppI x :: st) σ := by
  obtain ⟨⟨p, l, e, R, s, m, args, below, meth, c, Q, cl, sl, A⟩, X⟩ := Γ
  intro H locs ls hP hS hl
  exact lv_icmp_lt hF.1 hF.2.1 d ht (fun h => kt h H locs ls hP hS hl) (fun h => kf h H locs ls hP hS hl)
theorem pp_if_lt {x : Int32} {off : Int} {tgt : Nat} (hF : pp_Fx Γ ds cc nL own F L) (d : decode cc pc = .ok (.ifCond .lt off, 3)) (ht : (pc : Int) + off = (tgt : Int)) (kt : (x < 0) → pp_E Γ ds cc nL tgt lv st σ) (kf : ¬ (x < 0) → pp_E Γ ds cc nL (pc + 3) lv st σ) : pp_E Γ ds cc nL pc lv (ppI x :: st) σ := by
  obtain ⟨⟨p, l, e, R, s, m, args, below, meth, c, Q, cl, sl, A⟩, X⟩ := Γ
  intro H locs ls hP hS hl
  exact lv_if_lt hF.1 hF.2.1 d ht (fun h => kt h H locs ls hP hS hl) (fun h => kf h H locs ls hP hS hl)
theorem pp_icmp_ge {x y : Int32} {off : Int} {tgt : Nat} (hF : pp_Fx Γ ds cc nL own F L) (d : decode cc pc = .ok (.if_icmp .ge off, 3)) (ht : (pc : Int) + off = (tgt : Int)) (kt : (x < y) → pp_E Γ ds cc nL (pc + 3) lv st σ) (kf : ¬ (x < y) → pp_E Γ ds cc nL tgt lv st σ) : pp_E Γ ds cc nL pc lv (ppI y :: ppI x :: st) σ := by
  obtain ⟨⟨p, l, e, R, s, m, args, below, meth, c, Q, cl, sl, A⟩, X⟩ := Γ
  intro H locs ls hP hS hl
  exact lv_icmp_ge hF.1 hF.2.1 d ht (fun h => kf (pp_nlt h) H locs ls hP hS hl) (fun h => kt (pp_nle h) H locs ls hP hS hl)
theorem pp_if_ge {x : Int32} {off : Int} {tgt : Nat} (hF : pp_Fx Γ ds cc nL own F L) (d : decode cc pc = .ok (.ifCond .ge off, 3)) (ht : (pc : Int) + off = (tgt : Int)) (kt : (x < 0) → pp_E Γ ds cc nL (pc + 3) lv st σ) (kf : ¬ (x < 0) → pp_E Γ ds cc nL tgt lv st σ) : pp_E Γ ds cc nL pc lv (ppI x :: st) σ := by
  obtain ⟨⟨p, l, e, R, s, m, args, below, meth, c, Q, cl, sl, A⟩, X⟩ := Γ
  intro H locs ls hP hS hl
  exact lv_if_ge hF.1 hF.2.1 d ht (fun h => kf (pp_nlt h) H locs ls hP hS hl) (fun h => kt (pp_nle h) H locs ls hP hS hl)
theorem pp_icmp_gt {x y : Int32} {off : Int} {tgt : Nat} (hF : pp_Fx Γ ds cc nL own F L) (d : decode cc pc = .ok (.if_icmp .gt off, 3)) (ht : (pc : Int) + off = (tgt : Int)) (kt : (y < x) → pp_E Γ ds cc nL tgt lv st σ) (kf : ¬ (y < x) → pp_E Γ ds cc nL (pc + 3) lv st σ) : pp_E Γ ds cc nL pc lv (ppI y :: ppI x :: st) σ := by
  obtain ⟨⟨p, l, e, R, s, m, args, below, meth, c, Q, cl, sl, A⟩, X⟩ := Γ
  intro H locs ls hP hS hl
  exact lv_icmp_gt hF.1 hF.2.1 d ht (fun h => kt h H locs ls hP hS hl) (fun h => kf h H locs ls hP hS hl)
theorem pp_if_gt {x : Int32} {off : Int} {tgt : Nat} (hF : pp_Fx Γ ds cc nL own F L) (d : decode cc pc = .ok (.ifCond .gt off, 3)) (ht : (pc : Int) + off = (tgt : Int)) (kt : (0 < x) → pp_E Γ ds cc nL tgt lv st σ) (kf : ¬ (0 < x) → pp_E Γ ds cc nL (pc + 3) lv st σ) : pp_E Γ ds cc nL pc lv (ppI x :: st) σ := by
  obtain ⟨⟨p, l, e, R, s, m, args, below, meth, c, Q, cl, sl, A⟩, X⟩ := Γ
  intro H locs ls hP hS hl
  exact lv_if_gt hF.1 hF.2.1 d ht (fun h => kt h H locs ls hP hS hl) (fun h => kf h H locs ls hP hS hl)
theorem pp_icmp_le {x y : Int32} {off : Int} {tgt : Nat} (hF : pp_Fx Γ ds cc nL own F L) (d : decode cc pc = .ok (.if_icmp .le off, 3)) (ht : (pc : Int) + off = (tgt : Int)) (kt : (y < x) → pp_E Γ ds cc nL (pc + 3) lv st σ) (kf : ¬ (y < x) → pp_E Γ ds cc nL tgt lv st σ) : pp_E Γ ds cc nL pc lv (ppI y :: ppI x :: st) σ := by
  obtain ⟨⟨p, l, e, R, s, m, args, below, meth, c, Q, cl, sl, A⟩, X⟩ := Γ
  intro H locs ls hP hS hl
  exact lv_icmp_le hF.1 hF.2.1 d ht (fun h => kf (pp_nlt h) H locs ls hP hS hl) (fun h => kt (pp_nle h) H locs ls hP hS hl)
theorem pp_if_le {x : Int32} {off : Int} {tgt : Nat} (hF : pp_Fx Γ ds cc nL own F L) (d : decode cc pc = .ok (.ifCond .le off, 3)) (ht : (pc : Int) + off = (tgt : Int)) (kt : (0 < x) → pp_E Γ ds cc nL (pc + 3) lv st σ) (kf : ¬ (0 < x) → pp_E Γ ds cc nL tgt lv st σ) : pp_E Γ ds cc nL pc lv (ppI x :: st) σ := by
  obtain ⟨⟨p, l, e, R, s, m, args, below, meth, c, Q, cl, sl, A⟩, X⟩ := Γ
  intro H locs ls hP hS hl
  exact lv_if_le hF.1 hF.2.1 d ht (fun h => kf (pp_nlt h) H locs ls hP hS hl) (fun h => kt (pp_nle h) H locs ls hP hS hl)
theorem pp_lg_eq {x y : Int64} : lg_cmp x y = 0 ↔ x = y := by
  unfold lg_cmp
  by_cases h1 : y < x
  · have : ¬ x = y := fun h => by subst h; exact absurd h1 (by rw [Int64.lt_iff_toInt_lt]; omega)
    simp [h1, this]
  · by_cases h2 : x = y
    · simp [h2]
    · simp [h1, h2]
theorem pp_lg_lt {x y : Int64} : lg_cmp x y < 0 ↔ x < y := by
  have e : x < y ↔ x.toInt < y.toInt := Int64.lt_iff_toInt_lt
  have e' : y < x ↔ y.toInt < x.toInt := Int64.lt_iff_toInt_lt
  have e2 : x = y ↔ x.toInt = y.toInt := Int64.toInt_inj.symm
  unfold lg_cmp
  by_cases h1 : y < x
  · have h3 : ¬ x < y := by rw [e]; rw [e'] at h1; omega
    simp only [h1, h3, if_true, iff_false]; decide
  · by_cases h2 : x = y
    · have h3 : ¬ x < y := by rw [e]; rw [e2] at h2; omega
      simp only [h1, h2, if_false, if_true]
      rw [h2] at h3
      simp only [h3, iff_false]; decide
    · have h3 : x < y := by rw [e]; rw [e'] at h1; rw [e2] at h2; omega
      simp only [h1, h2, h3, if_false, iff_true]; decide
theorem pp_lg_gt {x y : Int64} : 0 < lg_cmp x y ↔ y < x := by
  have e : x < y ↔ x.toInt < y.toInt := Int64.lt_iff_toInt_lt
  have e' : y < x ↔ y.toInt < x.toInt := Int64.lt_iff_toInt_lt
  unfold lg_cmp
  by_cases h1 : y < x
  · simp only [h1, if_true, iff_true]; decide
  · by_cases h2 : x = y
    · simp only [h1, h2, if_false, if_true]
      rw [h2] at h1
      simp only [h1, iff_false]; decide
    · simp only [h1, h2, if_false, iff_false]; decide
theorem pp_lcmp_eq {x y : Int64} {off : Int} {tgt : Nat} (hF : pp_Fx Γ ds cc nL own F L) (d1 : decode cc pc = .ok (.lcmp, 1)) (d : decode cc (pc + 1) = .ok (.ifCond .eq off, 3)) (ht : ((pc + 1 : Nat) : Int) + off = (tgt : Int)) (kt : (x = y) → pp_E Γ ds cc nL tgt lv st σ) (kf : ¬ (x = y) → pp_E Γ ds cc nL (pc + 1 + 3) lv st σ) : pp_E Γ ds cc nL pc lv (ppL y :: ppL x :: st) σ := by
  have h0 : pp_E Γ ds cc nL (pc + 1) lv (ppI (lg_cmp x y) :: st) σ := pp_if_eq hF d ht (fun h => kt (pp_lg_eq.mp h)) (fun h => kf (fun q => h (pp_lg_eq.mpr q)))
  obtain ⟨⟨p, l, e, R, s, m, args, below, meth, c, Q, cl, sl, A⟩, X⟩ := Γ
  intro H locs ls hP hS hl
  exact W.lcmp hF.1 hF.2.1 d1 (h0 H locs ls hP hS hl)
theorem pp_lcmp_ne {x y : Int64} {off : Int} {tgt : Nat} (hF : pp_Fx Γ ds cc nL own F L) (d1 : decode cc pc = .ok (.lcmp, 1)) (d : decode cc (pc + 1) = .ok (.ifCond .ne off, 3)) (ht : ((pc + 1 : Nat) : Int) + off = (tgt : Int)) (kt : (x = y) → pp_E Γ ds cc nL (pc + 1 + 3) lv st σ) (kf : ¬ (x = y) → pp_E Γ ds cc nL tgt lv st σ) : pp_E Γ ds cc nL pc lv (ppL y :: ppL x :: st) σ := by
  have h0 : pp_E Γ ds cc nL (pc + 1) lv (ppI (lg_cmp x y) :: st) σ := pp_if_ne hF d ht (fun h => kt (pp_lg_eq.mp h)) (fun h => kf (fun q => h (pp_lg_eq.mpr q)))
  obtain ⟨⟨p, l, e, R, s, m, args, below, meth, c, Q, cl, sl, A⟩, X⟩ := Γ
  intro H locs ls hP hS hl
  exact W.lcmp hF.1 hF.2.1 d1 (h0 H locs ls hP hS hl)
theorem pp_lcmp_lt {x y : Int64} {off : Int} {tgt : Nat} (hF : pp_Fx Γ ds cc nL own F L) (d1 : decode cc pc = .ok (.lcmp, 1)) (d : decode cc (pc + 1) = .ok (.ifCond .lt off, 3)) (ht : ((pc + 1 : Nat) : Int) + off = (tgt : Int)) (kt : (x < y) → pp_E Γ ds cc nL tgt lv st σ) (kf : ¬ (x < y) → pp_E Γ ds cc nL (pc + 1 + 3) lv st σ) : pp_E Γ ds cc nL pc lv (ppL y :: ppL x :: st) σ := by
  have h0 : pp_E Γ ds cc nL (pc + 1) lv (ppI (lg_cmp x y) :: st) σ := pp_if_lt hF d ht (fun h => kt (pp_lg_lt.mp h)) (fun h => kf (fun q => h (pp_lg_lt.mpr q)))
  obtain ⟨⟨p, l, e, R, s, m, args, below, meth, c, Q, cl, sl, A⟩, X⟩ := Γ
  intro H locs ls hP hS hl
  exact W.lcmp hF.1 hF.2.1 d1 (h0 H locs ls hP hS hl)
theorem pp_lcmp_ge {x y : Int64} {off : Int} {tgt : Nat} (hF : pp_Fx Γ ds cc nL own F L) (d1 : decode cc pc = .ok (.lcmp, 1)) (d : decode cc (pc + 1) = .ok (.ifCond .ge off, 3)) (ht : ((pc + 1 : Nat) : Int) + off = (tgt : Int)) (kt : (x < y) → pp_E Γ ds cc nL (pc + 1 + 3) lv st σ) (kf : ¬ (x < y) → pp_E Γ ds cc nL tgt lv st σ) : pp_E Γ ds cc nL pc lv (ppL y :: ppL x :: st) σ := by
  have h0 : pp_E Γ ds cc nL (pc + 1) lv (ppI (lg_cmp x y) :: st) σ := pp_if_ge hF d ht (fun h => kt (pp_lg_lt.mp h)) (fun h => kf (fun q => h (pp_lg_lt.mpr q)))
  obtain ⟨⟨p, l, e, R, s, m, args, below, meth, c, Q, cl, sl, A⟩, X⟩ := Γ
  intro H locs ls hP hS hl
  exact W.lcmp hF.1 hF.2.1 d1 (h0 H locs ls hP hS hl)
theorem pp_lcmp_gt {x y : Int64} {off : Int} {tgt : Nat} (hF : pp_Fx Γ ds cc nL own F L) (d1 : decode cc pc = .ok (.lcmp, 1)) (d : decode cc (pc + 1) = .ok (.ifCond .gt off, 3)) (ht : ((pc + 1 : Nat) : Int) + off = (tgt : Int)) (kt : (y < x) → pp_E Γ ds cc nL tgt lv st σ) (kf : ¬ (y < x) → pp_E Γ ds cc nL (pc + 1 + 3) lv st σ) : pp_E Γ ds cc nL pc lv (ppL y :: ppL x :: st) σ := by
  have h0 : pp_E Γ ds cc nL (pc + 1) lv (ppI (lg_cmp x y) :: st) σ := pp_if_gt hF d ht (fun h => kt (pp_lg_gt.mp h)) (fun h => kf (fun q => h (pp_lg_gt.mpr q)))
  obtain ⟨⟨p, l, e, R, s, m, args, below, meth, c, Q, cl, sl, A⟩, X⟩ := Γ
  intro H locs ls hP hS hl
  exact W.lcmp hF.1 hF.2.1 d1 (h0 H locs ls hP hS hl)
theorem pp_lcmp_le {x y : Int64} {off : Int} {tgt : Nat} (hF : pp_Fx Γ ds cc nL own F L) (d1 : decode cc pc = .ok (.lcmp, 1)) (d : decode cc (pc + 1) = .ok (.ifCond .le off, 3)) (ht : ((pc + 1 : Nat) : Int) + off = (tgt : Int)) (kt : (y < x) → pp_E Γ ds cc nL (pc + 1 + 3) lv st σ) (kf : ¬ (y < x) → pp_E Γ ds cc nL tgt lv st σ) : pp_E Γ ds cc nL pc lv (ppL y :: ppL x :: st) σ := by
  have h0 : pp_E Γ ds cc nL (pc + 1) lv (ppI (lg_cmp x y) :: st) σ := pp_if_le hF d ht (fun h => kt (pp_lg_gt.mp h)) (fun h => kf (fun q => h (pp_lg_gt.mpr q)))
  obtain ⟨⟨p, l, e, R, s, m, args, below, meth, c, Q, cl, sl, A⟩, X⟩ := Γ
  intro H locs ls hP hS hl
  exact W.lcmp hF.1 hF.2.1 d1 (h0 H locs ls hP hS hl)
end PPE
