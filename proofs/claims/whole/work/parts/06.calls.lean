/-! ends of methods, contracts, calls -/
def pp_Pc (X : pp_X) (ds : List (Nat × Nat)) (as : List pp_V) (σ : pp_M) : Array Value → State → Prop := va_Pc (as.map (ppv X.2.2.1)) (fun U => va_P (X.1, X.2.1) pp_cl (pp_wd X ds σ) U.heap ∧ va_K (X.1, X.2.1) pp_cl (pp_ty X) U ∧ pp_Nw U)
/-- a method's contract: from memory σ with these arguments it answers r, and leaves σ' -/
def pp_Ct (y : MethodName) (cc : ByteArray) (nL : Nat) (ret : Option FieldType) (F L : Nat) (ds : List (Nat × Nat)) (as : List pp_V) (σ : pp_M) (r : Option pp_V) (σ' : pp_M) : Prop := ∀ (l : Launch) (X : pp_X), pp_inj X ds → Met l y (.code y cc nL ret :: pp_tb) { frames := F, cells := 0, slots := 0, locals := L } (pp_Pc X ds as σ) (pp_Qc X ds (pp_A X ds) r σ') 0 0 (pp_A X ds)
theorem pp_tb_mem {w : Cond} (h : w ∈ lw_tbl) (hg : goodWord w = true) : w ∈ pp_tb := List.mem_filter.mpr ⟨h, hg⟩
theorem pp_tb_good : ∀ w ∈ pp_tb, (w.onTables && w.keeps) = true ∨ ∃ ty, w = .arrayClass ty := fun w h => good_of_word (List.mem_filter.mp h).2
def pp_args : Nat → List pp_V → List (Nat × pp_V)
  | _, [] => []
  | i, v :: l => (i, v) :: pp_args (cond (pp_isL v) (i + 2) (i + 1)) l
def pp_cs : List pp_V → Nat
  | [] => 0
  | v :: l => cond (pp_isL v) 2 1 + pp_cs l
theorem pp_cat1 (ad : Nat → Nat → Nat) (v : pp_V) : (ppv ad v).category = cond (pp_isL v) 2 1 := by
  rcases v with x | x | ⟨t, o, n⟩ <;> rfl
theorem pp_cs_eq (ad : Nat → Nat → Nat) : ∀ l : List pp_V, (((l.map (ppv ad))).map fun v => v.category).sum = pp_cs l
  | [] => rfl
  | v :: l => by simp only [List.map_cons, List.sum_cons, pp_cs, pp_cat1]; rw [← pp_cs_eq ad l]
theorem pp_sl_len (ad : Nat → Nat → Nat) : ∀ l : List pp_V, (lg_sl (l.map (ppv ad))).length = pp_cs l
  | [] => rfl
  | v :: l => by
    have ih := pp_sl_len ad l
    unfold lg_sl at ih ⊢
    simp only [List.map_cons, List.flatMap_cons, List.length_append, pp_cs, ih]
    rw [pp_cat1]
    cases pp_isL v <;> rfl
theorem pp_args_eq (X : pp_X) : ∀ (l : List pp_V) (i : Nat), lv_args i (l.map (ppv X.2.2.1)) = pp_lv X (pp_args i l)
  | [], i => rfl
  | v :: l, i => by
    simp only [List.map_cons, lv_args, pp_args, pp_lv]
    rw [pp_args_eq X l, pp_cat1]
    unfold pp_lv
    cases pp_isL v <;> rfl
section PPC
variable {Γ : pp_G} {ds : List (Nat × Nat)} {cc : ByteArray} {nL : Nat} {own : String} {F L pc : Nat} {lv lv' : List (Nat × pp_V)} {st : List pp_V} {σ : pp_M}
theorem pp_ireturn {v : Int32} (hF : pp_Fx Γ ds cc nL own F L) (hR : pp_Rt Γ ds (some .int) (some (ppI v)) σ) (d : decode cc pc = .ok (.ireturn, 1)) : pp_E Γ ds cc nL pc lv [ppI v] σ := by
  obtain ⟨⟨p, l, e, R, s, m, args, below, meth, c, Q, cl, sl, A⟩, X⟩ := Γ
  intro H locs ls hP hS hl
  obtain ⟨hr, rfl⟩ := hR
  exact W.iret hF.1 hF.2.1 hr (fun t ht hW => ⟨rfl, by rw [ht]; exact hP, va_K.moved hW.alike hF.2.2.2.2.2.1, hS.F ht⟩) hS.2.2 d hF.2.2.2.2.2.2.2.2.2.1
theorem pp_zreturn {v : Int32} (hF : pp_Fx Γ ds cc nL own F L) (hR : pp_Rt Γ ds (some .boolean) (some (ppI v)) σ) (hn : narrow .boolean (.int v) = .int v) (d : decode cc pc = .ok (.ireturn, 1)) : pp_E Γ ds cc nL pc lv [ppI v] σ := by
  obtain ⟨⟨p, l, e, R, s, m, args, below, meth, c, Q, cl, sl, A⟩, X⟩ := Γ
  intro H locs ls hP hS hl
  obtain ⟨hr, rfl⟩ := hR
  exact W.zret hF.1 hF.2.1 hr hn (fun t ht hW => ⟨rfl, by rw [ht]; exact hP, va_K.moved hW.alike hF.2.2.2.2.2.1, hS.F ht⟩) hS.2.2 d hF.2.2.2.2.2.2.2.2.2.1
theorem pp_lreturn {v : Int64} (hF : pp_Fx Γ ds cc nL own F L) (hR : pp_Rt Γ ds (some .long) (some (ppL v)) σ) (d : decode cc pc = .ok (.lreturn, 1)) : pp_E Γ ds cc nL pc lv [ppL v] σ := by
  obtain ⟨⟨p, l, e, R, s, m, args, below, meth, c, Q, cl, sl, A⟩, X⟩ := Γ
  intro H locs ls hP hS hl
  obtain ⟨hr, rfl⟩ := hR
  exact W.lret hF.1 hF.2.1 hr (fun t ht hW => ⟨rfl, by rw [ht]; exact hP, va_K.moved hW.alike hF.2.2.2.2.2.1, hS.F ht⟩) hS.2.2 d hF.2.2.2.2.2.2.2.2.2.1
theorem pp_return (hF : pp_Fx Γ ds cc nL own F L) (hR : pp_Rt Γ ds none none σ) (d : decode cc pc = .ok (.return_, 1)) : pp_E Γ ds cc nL pc lv [] σ := by
  obtain ⟨⟨p, l, e, R, s, m, args, below, meth, c, Q, cl, sl, A⟩, X⟩ := Γ
  intro H locs ls hP hS hl
  obtain ⟨hr, rfl⟩ := hR
  exact W.vret hF.1 hF.2.1 hr (fun t ht hW => ⟨rfl, by rw [ht]; exact hP, va_K.moved hW.alike hF.2.2.2.2.2.1, hS.F ht⟩) hS.2.2 d hF.2.2.2.2.2.2.2.2.2.1
/-- fewer locals -/
theorem pp_sub (hs : ∀ q ∈ lv', q ∈ lv) (k : pp_E Γ ds cc nL pc lv' st σ) : pp_E Γ ds cc nL pc lv st σ := by
  obtain ⟨⟨p, l, e, R, s, m, args, below, meth, c, Q, cl, sl, A⟩, X⟩ := Γ
  intro H locs ls hP hS hl
  exact k H locs ls hP hS (pp_has_sub hl (fun q hq => by
    obtain ⟨q0, h0, rfl⟩ := List.mem_map.mp hq
    exact List.mem_map.mpr ⟨q0, hs q0 h0, rfl⟩))
def pp_pick (l : List (Nat × pp_V)) : List Nat → List (Nat × pp_V)
  | [] => []
  | k :: ks => match l[k]? with
    | some q => q :: pp_pick l ks
    | none => pp_pick l ks
theorem pp_pick_mem {l : List (Nat × pp_V)} : ∀ {ks : List Nat} {q : Nat × pp_V}, q ∈ pp_pick l ks → q ∈ l
  | [], q, h => by simp [pp_pick] at h
  | k :: ks, q, h => by
    unfold pp_pick at h
    cases hk : l[k]? with
    | none => rw [hk] at h; exact pp_pick_mem h
    | some x =>
      rw [hk] at h
      rcases List.mem_cons.mp h with h | h
      · rw [h]; exact List.mem_of_getElem? hk
      · exact pp_pick_mem h
theorem pp_few (ks : List Nat) (hs : pp_pick lv ks = lv') (k : pp_E Γ ds cc nL pc lv' st σ) : pp_E Γ ds cc nL pc lv st σ := pp_sub (fun _ hq => pp_pick_mem (by rw [hs]; exact hq)) k
/-- a contract out of the walk of a body -/
theorem pp_met {y : MethodName} {ret : Option FieldType} {as : List pp_V} {σ' : pp_M} {r : Option pp_V} (hy : plainName y.cls = true) (hown : y.cls = own) (hok : pp_ok ds) (hn : pp_cs as ≤ nL) (hlv : pp_args 0 as = lv)
    (body : ∀ Γ : pp_G, pp_Fx Γ ds cc nL own F L → pp_Rt Γ ds ret r σ' → pp_E Γ ds cc nL 0 lv [] σ) : pp_Ct y cc nL ret F L ds as σ r σ' := by
  intro l X hI
  subst hown
  refine Met.ofW (cc := cc) (maxL := nL) (ret := ret) hy rfl ?_
  intro p e s m args below meth c s₁ B hml hv
  obtain ⟨rfl, hP, hK, hNw⟩ := hv
  have hts := atoms_spec (ws := .code y cc nL ret :: pp_tb) B.pre
  rw [lg_entry_eq]
  have hl := lv_entry (as.map (ppv X.2.2.1)) (n := nL) (by rw [pp_sl_len]; exact hn)
  rw [pp_args_eq, hlv] at hl
  exact body ((p, l, e, _, s, m, _, below, meth, c, MQ below (pp_Qc X ds (pp_A X ds) r σ') _ s 0 0 (pp_A X ds), 0, 0, pp_A X ds), X) ⟨B.exec, B.bytes, hml, findClass_of_methodNamed B.named, fun w hw => hts w (List.mem_cons_of_mem _ hw), hK, ⟨hI, hok, fun _ h => h⟩, ⟨Nat.le_refl _, Nat.le_refl _⟩, ⟨Nat.zero_le _, Nat.zero_le _⟩, B.notSynchronized, hNw⟩ ⟨B.returns, rfl⟩ s.heap [] _ hP va_S.rf hl
/-- what a call of an instance method needs of the tables; of a static one -/
def pp_MV (y : MethodName) (cc : ByteArray) (nL : Nat) (ret : Option FieldType) (n : Nat) : Prop := Cond.code y cc nL ret ∈ pp_tb ∧ Cond.initialized y.cls ∈ pp_tb ∧ (y.cls ≠ "java/lang/invoke/MethodHandle" ∧ y.cls ≠ "java/lang/invoke/VarHandle" ∧ (parseMethodDescriptor y.desc).map (fun d => d.parameters.length) = some n) ∧ Cond.instanceMethod y ∈ pp_tb ∧ Cond.selects y.cls y y ∈ pp_tb
def pp_MS (y : MethodName) (cc : ByteArray) (nL : Nat) (ret : Option FieldType) (n : Nat) : Prop := Cond.code y cc nL ret ∈ pp_tb ∧ Cond.initialized y.cls ∈ pp_tb ∧ (y.cls ≠ "java/lang/invoke/MethodHandle" ∧ y.cls ≠ "java/lang/invoke/VarHandle" ∧ (parseMethodDescriptor y.desc).map (fun d => d.parameters.length) = some n) ∧ Cond.static y ∈ pp_tb
/-- how the class own names the method y by idx -/
def pp_Lk (own : String) (idx : Nat) (y : MethodName) : Prop := Cond.methodLink own idx y ∈ pp_tb ∨ (own, idx, y) ∈ pp_nb
theorem pp_goodIn {y : MethodName} {ret : Option FieldType} (h : Cond.code y cc nL ret ∈ pp_tb) : GoodIn pp_tb (.code y cc nL ret :: pp_tb) := fun w hw => by
  rcases List.mem_cons.mp hw with h1 | h1
  · subst h1; exact ⟨h, pp_tb_good _ h⟩
  · exact ⟨h1, pp_tb_good _ h1⟩
theorem pp_blind {X : pp_X} {as : List pp_V} : FrameBlind (pp_Pc X ds as σ) := fun a U g mk q => ⟨q.1, q.2.1, va_K.moved (u := U) (U := U.calling g mk a) (Vm.Alike.refl U.vm) q.2.2.1, pp_Nw.same (u := U) (U := U.calling g mk a) rfl q.2.2.2⟩
/-- behind a call -/
theorem pp_run {p : Program} {l : Launch} {e : Env} {R : Room} {s : State} {m : MethodId} {args : Array Value} {below : List Frame} {meth : Method} {c : Code} {Q : State → Prop} {cl sl : Nat} {A : Nat → Prop} {X : pp_X} {H : Heap} {locs : List Loc} {ls : Array Slot} {stk : List Value} {rest : List pp_V} {r : Option pp_V} {σ' : pp_M} {a : Array Value}
    (hr : va_Run p l e R s m args below meth c H locs cl sl 0 0 (F0 m pc ls stk) (rest.map (ppv X.2.2.1)) (pp_Qc X ds (pp_A X ds) r σ' a) (pp_A X ds)) (hA : ∀ q, pp_A X ds q → A q) (hS : va_S A s.heap H locs) (hl : lv_has ls nL (pp_lv X lv))
    (kk : pp_E ((p, l, e, R, s, m, args, below, meth, c, Q, cl, sl, A), X) ds cc nL (pc + 3) lv (r.toList ++ rest) σ') : W p l e R s m args below meth c H locs cl sl Q (F0 m pc ls stk) := by
  intro T hT Xs
  obtain ⟨v, st₀, t, T', L', h0, X', hL, e1, e2, ⟨hv, hP1, hK1, hz, hk⟩, stp⟩ := hr T hT Xs
  cases hv
  rw [h0] at hz hk
  have k1 := kk T'.heap (locs ++ L') ls (by rw [e1]; exact hP1) ⟨Nat.le_trans hS.1 (by rw [e1]; exact hz), fun q h1 h2 => by rw [e1, hk q (Nat.lt_of_lt_of_le h1 hS.1) (fun z => h2 (hA q z))]; exact hS.2.1 q h1 h2, fun q hq => by
      rcases List.mem_append.mp hq with h | h
      · exact hS.2.2 q h
      · exact hA _ (hL q h)⟩ hl T' rfl X'
  obtain ⟨t2, a1, b1⟩ := k1
  refine ⟨t2, stp t2 ?_, b1⟩
  rw [List.map_append] at a1
  cases r <;> exact a1
/-- the token t is an object of the class C -/
def pp_ob (ds : List (Nat × Nat)) (t : Nat) (C : String) : Prop := ∃ (ci N : Nat) (T : u_T) (fs : List (Nat × Nat × Nat × Nat)), (t, 0) ∈ ds ∧ pp_cl[ci]? = some (C, T, N) ∧ pp_e t = (0, ci, N, fs)
theorem pp_callV {y : MethodName} {cc' : ByteArray} {nL' F' L' n idx t : Nat} {ret : Option FieldType} {as stk rest : List pp_V} {r : Option pp_V} {σ' : pp_M} (hF : pp_Fx Γ ds cc nL own F L) (hC : pp_Ct y cc' nL' ret F' L' ds (ppR t 0 0 :: as) σ r σ') (hM : pp_MV y cc' nL' ret n) (hk : pp_Lk own idx y) (hO : pp_ob ds t y.cls)
    (hn : as.length = n) (hst : stk = as.reverse ++ ppR t 0 0 :: rest) (hroom : F' + 1 ≤ F ∧ 8 + (nL' + 11) + L' ≤ L) (hcs : pp_cs rest ≤ 8) (d : decode cc pc = .ok (.invokevirtual idx, 3)) (kk : pp_E Γ ds cc nL (pc + 3) lv (r.toList ++ rest) σ') : pp_E Γ ds cc nL pc lv stk σ := by
  obtain ⟨⟨p, l, e, R, s, m, args, below, meth, c, Q, cl, sl, A⟩, X⟩ := Γ
  intro H locs ls hP hS hl
  subst hst
  obtain ⟨hx, hb, hml, hown, hts, hK, ⟨hI, hok, hA⟩, hrm, hcl0, hlocks, hNw⟩ := hF
  obtain ⟨m1, m2, m3, m4, m5⟩ := hM
  obtain ⟨ci, N, T, fs, ht, hcl, he⟩ := hO
  obtain ⟨q, hq, hw⟩ := pp_wd_at (X := X) (σ := σ) ht
  rw [pp_cell_o he] at hw
  have hrv : ∃ cellB : Cell, H[X.2.2.1 t 0]? = some cellB ∧ cellB.vm.isStatics = false ∧ s.vm.findClass y.cls = some cellB.cls := va_recv hK hP (ci := ci) (q0 := q) hcl hw
  have hpre : PreV s H y.cls (X.2.2.1 t 0) (pp_Pc X ds (ppR t 0 0 :: as) σ) (as.map (ppv X.2.2.1)) := ⟨pp_blind, hrv, fun U hU hW => ⟨rfl, by rw [hU]; exact hP, va_K.moved hW.alike hK, hNw.warm hW⟩⟩
  have hR' : F' + 1 ≤ R.frames ∧ 8 + (nL' + 11) + L' ≤ R.locals := ⟨Nat.le_trans hroom.1 hrm.1, Nat.le_trans hroom.2 hrm.2⟩
  have hcs' : 2 * (F0 m pc ls ((as.reverse ++ ppR t 0 0 :: rest).map (ppv X.2.2.1))).monitorRoom + ((rest.map (ppv X.2.2.1)).map fun v => v.category).sum ≤ 8 := lv_room (by rw [pp_cs_eq]; exact hcs)
  refine pp_run (a := (Value.ref (X.2.2.1 t 0) :: as.map (ppv X.2.2.1)).toArray) ?_ hA hS hl kk
  rcases hk with hk | hk
  · exact va_runV (As := as.map (ppv X.2.2.1)) (rest := rest.map (ppv X.2.2.1)) ⟨hx, hb, hml, hown, hts⟩ (hC l X hI) ⟨callB_of n hts (pp_goodIn m1) rfl rfl rfl (hts _ m2) (hts _ hk) m3 hR', hts _ m4, hts _ m5⟩ hpre rfl (by rw [List.length_map]; exact hn) hl.1 (by simp [ppv, ppR]) hcs' d hcl0
  · exact va_runVN (As := as.map (ppv X.2.2.1)) (rest := rest.map (ppv X.2.2.1)) ⟨hx, hb, hml, hown, hts⟩ (hC l X hI) ⟨⟨⟨rfl, rfl, hR'.1, hR'.2, pay_in hts (pp_goodIn m1), List.mem_cons_self⟩, hts _ m1, hts _ m2, ⟨m3.1, m3.2.1⟩, (fun sig h => by have h2 := m3.2.2; rw [h] at h2; exact (Option.some.inj h2).symm), va_Nw.use rfl (hNw _ hk)⟩, hts _ m4, hts _ m5⟩ hpre rfl (by rw [List.length_map]; exact hn) hl.1 (by simp [ppv, ppR]) hcs' d hcl0
theorem pp_callS {y : MethodName} {cc' : ByteArray} {nL' F' L' n idx : Nat} {ret : Option FieldType} {as stk rest : List pp_V} {r : Option pp_V} {σ' : pp_M} (hF : pp_Fx Γ ds cc nL own F L) (hC : pp_Ct y cc' nL' ret F' L' ds as σ r σ') (hM : pp_MS y cc' nL' ret n) (hk : pp_Lk own idx y)
    (hn : as.length = n) (hst : stk = as.reverse ++ rest) (hroom : F' + 1 ≤ F ∧ 8 + (nL' + 11) + L' ≤ L) (hcs : pp_cs rest ≤ 8) (d : decode cc pc = .ok (.invokestatic idx, 3)) (kk : pp_E Γ ds cc nL (pc + 3) lv (r.toList ++ rest) σ') : pp_E Γ ds cc nL pc lv stk σ := by
  obtain ⟨⟨p, l, e, R, s, m, args, below, meth, c, Q, cl, sl, A⟩, X⟩ := Γ
  intro H locs ls hP hS hl
  subst hst
  obtain ⟨hx, hb, hml, hown, hts, hK, ⟨hI, hok, hA⟩, hrm, hcl0, hlocks, hNw⟩ := hF
  obtain ⟨m1, m2, m3, m4⟩ := hM
  have hpre : PreS s H (pp_Pc X ds as σ) (as.map (ppv X.2.2.1)) := ⟨pp_blind, fun U hU hW => ⟨rfl, by rw [hU]; exact hP, va_K.moved hW.alike hK, hNw.warm hW⟩⟩
  have hR' : F' + 1 ≤ R.frames ∧ 8 + (nL' + 11) + L' ≤ R.locals := ⟨Nat.le_trans hroom.1 hrm.1, Nat.le_trans hroom.2 hrm.2⟩
  have hcs' : 2 * (F0 m pc ls ((as.reverse ++ rest).map (ppv X.2.2.1))).monitorRoom + ((rest.map (ppv X.2.2.1)).map fun v => v.category).sum ≤ 8 := lv_room (by rw [pp_cs_eq]; exact hcs)
  refine pp_run (a := (as.map (ppv X.2.2.1)).toArray) ?_ hA hS hl kk
  rcases hk with hk | hk
  · exact va_runS (As := as.map (ppv X.2.2.1)) (rest := rest.map (ppv X.2.2.1)) ⟨hx, hb, hml, hown, hts⟩ (hC l X hI) ⟨callB_of n hts (pp_goodIn m1) rfl rfl rfl (hts _ m2) (hts _ hk) m3 hR', hts _ m4⟩ hpre rfl (by rw [List.length_map]; exact hn) hl.1 (by simp [ppv, ppR]) hcs' d hcl0
  · exact va_runSN (As := as.map (ppv X.2.2.1)) (rest := rest.map (ppv X.2.2.1)) ⟨hx, hb, hml, hown, hts⟩ (hC l X hI) ⟨⟨⟨rfl, rfl, hR'.1, hR'.2, pay_in hts (pp_goodIn m1), List.mem_cons_self⟩, hts _ m1, hts _ m2, ⟨m3.1, m3.2.1⟩, (fun sig h => by have h2 := m3.2.2; rw [h] at h2; exact (Option.some.inj h2).symm), va_Nw.use rfl (hNw _ hk)⟩, hts _ m4, trivial⟩ hpre rfl (by rw [List.length_map]; exact hn) hl.1 (by simp [ppv, ppR]) hcs' d hcl0
theorem pp_callVi {y : MethodName} {cc' : ByteArray} {nL' F' L' n idx t : Nat} {ret : Option FieldType} {as stk rest : List pp_V} {v : Int32} {σ' : pp_M} (hF : pp_Fx Γ ds cc nL own F L) (hC : pp_Ct y cc' nL' ret F' L' ds (ppR t 0 0 :: as) σ (some (ppI v)) σ') (hM : pp_MV y cc' nL' ret n) (hk : pp_Lk own idx y) (hO : pp_ob ds t y.cls) (hn : as.length = n) (hst : stk = as.reverse ++ ppR t 0 0 :: rest) (hroom : F' + 1 ≤ F ∧ 8 + (nL' + 11) + L' ≤ L) (hcs : pp_cs rest ≤ 8) (d : decode cc pc = .ok (.invokevirtual idx, 3)) (kk : pp_E Γ ds cc nL (pc + 3) lv (ppI v :: rest) σ') : pp_E Γ ds cc nL pc lv stk σ := pp_callV hF hC hM hk hO hn hst hroom hcs d kk
theorem pp_callSi {y : MethodName} {cc' : ByteArray} {nL' F' L' n idx : Nat} {ret : Option FieldType} {as stk rest : List pp_V} {v : Int32} {σ' : pp_M} (hF : pp_Fx Γ ds cc nL own F L) (hC : pp_Ct y cc' nL' ret F' L' ds as σ (some (ppI v)) σ') (hM : pp_MS y cc' nL' ret n) (hk : pp_Lk own idx y) (hn : as.length = n) (hst : stk = as.reverse ++ rest) (hroom : F' + 1 ≤ F ∧ 8 + (nL' + 11) + L' ≤ L) (hcs : pp_cs rest ≤ 8) (d : decode cc pc = .ok (.invokestatic idx, 3)) (kk : pp_E Γ ds cc nL (pc + 3) lv (ppI v :: rest) σ') : pp_E Γ ds cc nL pc lv stk σ := pp_callS hF hC hM hk hn hst hroom hcs d kk
theorem pp_callVl {y : MethodName} {cc' : ByteArray} {nL' F' L' n idx t : Nat} {ret : Option FieldType} {as stk rest : List pp_V} {v : Int64} {σ' : pp_M} (hF : pp_Fx Γ ds cc nL own F L) (hC : pp_Ct y cc' nL' ret F' L' ds (ppR t 0 0 :: as) σ (some (ppL v)) σ') (hM : pp_MV y cc' nL' ret n) (hk : pp_Lk own idx y) (hO : pp_ob ds t y.cls) (hn : as.length = n) (hst : stk = as.reverse ++ ppR t 0 0 :: rest) (hroom : F' + 1 ≤ F ∧ 8 + (nL' + 11) + L' ≤ L) (hcs : pp_cs rest ≤ 8) (d : decode cc pc = .ok (.invokevirtual idx, 3)) (kk : pp_E Γ ds cc nL (pc + 3) lv (ppL v :: rest) σ') : pp_E Γ ds cc nL pc lv stk σ := pp_callV hF hC hM hk hO hn hst hroom hcs d kk
theorem pp_callSl {y : MethodName} {cc' : ByteArray} {nL' F' L' n idx : Nat} {ret : Option FieldType} {as stk rest : List pp_V} {v : Int64} {σ' : pp_M} (hF : pp_Fx Γ ds cc nL own F L) (hC : pp_Ct y cc' nL' ret F' L' ds as σ (some (ppL v)) σ') (hM : pp_MS y cc' nL' ret n) (hk : pp_Lk own idx y) (hn : as.length = n) (hst : stk = as.reverse ++ rest) (hroom : F' + 1 ≤ F ∧ 8 + (nL' + 11) + L' ≤ L) (hcs : pp_cs rest ≤ 8) (d : decode cc pc = .ok (.invokestatic idx, 3)) (kk : pp_E Γ ds cc nL (pc + 3) lv (ppL v :: rest) σ') : pp_E Γ ds cc nL pc lv stk σ := pp_callS hF hC hM hk hn hst hroom hcs d kk
theorem pp_callVv {y : MethodName} {cc' : ByteArray} {nL' F' L' n idx t : Nat} {ret : Option FieldType} {as stk rest : List pp_V} {σ' : pp_M} (hF : pp_Fx Γ ds cc nL own F L) (hC : pp_Ct y cc' nL' ret F' L' ds (ppR t 0 0 :: as) σ none σ') (hM : pp_MV y cc' nL' ret n) (hk : pp_Lk own idx y) (hO : pp_ob ds t y.cls) (hn : as.length = n) (hst : stk = as.reverse ++ ppR t 0 0 :: rest) (hroom : F' + 1 ≤ F ∧ 8 + (nL' + 11) + L' ≤ L) (hcs : pp_cs rest ≤ 8) (d : decode cc pc = .ok (.invokevirtual idx, 3)) (kk : pp_E Γ ds cc nL (pc + 3) lv (rest) σ') : pp_E Γ ds cc nL pc lv stk σ := pp_callV hF hC hM hk hO hn hst hroom hcs d kk
theorem pp_callSv {y : MethodName} {cc' : ByteArray} {nL' F' L' n idx : Nat} {ret : Option FieldType} {as stk rest : List pp_V} {σ' : pp_M} (hF : pp_Fx Γ ds cc nL own F L) (hC : pp_Ct y cc' nL' ret F' L' ds as σ none σ') (hM : pp_MS y cc' nL' ret n) (hk : pp_Lk own idx y) (hn : as.length = n) (hst : stk = as.reverse ++ rest) (hroom : F' + 1 ≤ F ∧ 8 + (nL' + 11) + L' ≤ L) (hcs : pp_cs rest ≤ 8) (d : decode cc pc = .ok (.invokestatic idx, 3)) (kk : pp_E Γ ds cc nL (pc + 3) lv (rest) σ') : pp_E Γ ds cc nL pc lv stk σ := pp_callS hF hC hM hk hn hst hroom hcs d kk
/-- System.arraycopy of ints -/
abbrev pp_cpOk (sp dp n : Int32) (w w' : Nat) : Prop := ¬ sp < 0 ∧ ¬ dp < 0 ∧ ¬ n < 0 ∧ sp.toNatClampNeg + n.toNatClampNeg ≤ w ∧ dp.toNatClampNeg + n.toNatClampNeg ≤ w'
theorem pp_acopy {sp dp n : Int32} {t o w u q w' idx : Nat} {rest : List pp_V} (hF : pp_Fx Γ ds cc nL own F L) (ha : pp_ai ds t o w) (hb : pp_ai ds u q w') (hc : pp_cpOk sp dp n w w') (hk : Cond.methodLink own idx arraycopyName ∈ pp_tb) (hnat : Cond.native arraycopyName ∈ pp_tb) (hstat : Cond.static arraycopyName ∈ pp_tb) (hini : Cond.initialized "java/lang/System" ∈ pp_tb) (hroom : 1 ≤ F ∧ 8 + (nativeFrameWords "java/lang/System" "arraycopy" 5 + 11) ≤ L) (hcs : pp_cs rest ≤ 8) (d : decode cc pc = .ok (.invokestatic idx, 3)) (kk : pp_E Γ ds cc nL (pc + 3) lv rest (ppC σ t o u q sp.toNatClampNeg dp.toNatClampNeg n.toNatClampNeg)) : pp_E Γ ds cc nL pc lv (ppI n :: ppI dp :: ppR u q w' :: ppI sp :: ppR t o w :: rest) σ := by
  obtain ⟨⟨p, l, e, R, s, m, args, below, meth, c, Q, cl, sl, A⟩, X⟩ := Γ
  intro H locs ls hP hS hl
  obtain ⟨hx, hbc, hml, hown, hts, hK, ⟨hI, hok, hA⟩, hrm, hcl0, hlocks, hNw⟩ := hF
  obtain ⟨k0, hk0, hw0⟩ := pp_wd_at (X := X) (σ := σ) ha.1
  obtain ⟨k1, hk1, hw1⟩ := pp_wd_at (X := X) (σ := σ) hb.1
  rw [pp_cell_i ha.2] at hw0
  rw [pp_cell_i hb.2] at hw1
  obtain ⟨h1, h2, h3, h4, h5⟩ := hc
  refine va_copyi hx hbc (hml.trans hl.1.symm) hown (hts _ hk) (hts _ hnat) (hts _ hstat) (hts _ hini) hK hP (pp_wd_D hI hA) hS k0 k1 0 0 hw0 hw1 rfl rfl rfl h1 h2 h3 h4 h5 (fun _ _ => rfl) (Nat.le_trans hroom.1 hrm.1) (by rw [pp_cs_eq]; have := hrm.2; have := hroom.2; omega) d (fun H1 locs1 hP1 _ hS1 => kk H1 locs1 ls ?_ hS1 hl)
  rw [pp_wd_set (σ := σ) (σ' := ppC σ t o u q sp.toNatClampNeg dp.toNatClampNeg n.toNatClampNeg) hk1 hI rfl ?_ (pp_other hok hb.1 hb.2 (Or.inl rfl) rfl ?_)] at hP1
  · exact hP1
  · rw [pp_cell_i hb.2]
    congr 4
    funext j
    unfold va_cpy ppC
    by_cases hj : dp.toNatClampNeg ≤ j ∧ j < dp.toNatClampNeg + n.toNatClampNeg
    · have a1 : sp.toNatClampNeg + (j - dp.toNatClampNeg) < w := by omega
      have a2 : j < w' := by omega
      have a3 : q + dp.toNatClampNeg ≤ q + j ∧ q + j < q + dp.toNatClampNeg + n.toNatClampNeg := ⟨by omega, by omega⟩
      simp only [if_pos hj, if_pos a1, if_pos a2, true_and, if_pos a3]
      rw [show q + j - (q + dp.toNatClampNeg) = j - dp.toNatClampNeg by omega, Nat.add_assoc]
    · have a3 : ¬ (q + dp.toNatClampNeg ≤ q + j ∧ q + j < q + dp.toNatClampNeg + n.toNatClampNeg) := fun h => hj ⟨by omega, by omega⟩
      simp only [if_neg hj, true_and, if_neg a3]
  · intro a b hab
    unfold ppC
    refine if_neg (fun h => hab ⟨h.1, ?_⟩)
    omega
end PPC
abbrev pp_ix (i : Int32) (n : Nat) : Prop := ¬ (i < 0 ∨ n ≤ i.toNatClampNeg)
abbrev pp_b (v : Int32) : Prop := v = 0 ∨ v = 1
theorem pp_bn {v : Int32} (h : pp_b v) : narrow .boolean (.int v) = .int v := by
  rcases h with rfl | rfl <;> rfl
/-! the shapes of the functions: a test that must hold, a call -/
theorem pp_ck {α : Type} {c : Prop} [Decidable c] {a : Option α} {r : α} (h : (if c then a else none) = some r) : c ∧ a = some r := by
  by_cases hc : c
  · rw [if_pos hc] at h; exact ⟨hc, h⟩
  · rw [if_neg hc] at h; cases h
theorem pp_bd {α β : Type} {a : Option α} {f : α → Option β} {r : β} (h : a.bind f = some r) : ∃ x, a = some x ∧ f x = some r := by
  cases a with
  | none => cases h
  | some x => exact ⟨x, rfl, h⟩
