/-! arrays of arrays, objects, constructors -/
theorem pp_outer (c : ClassId) (N h0 : Nat) : ∀ i : Nat, Jvm.Free.Multi.outerC c N h0 i = arrV c N (fun j => va_rf (if j < i then some (h0 + 1 + j) else none))
  | 0 => by
    show ({ cls := c, slots := Array.replicate N .null, vm := .none } : Cell) = _
    rw [arrV_new]
    refine congrArg (arrV c N) (funext fun j => ?_)
    simp [va_rf]
  | i + 1 => by
    show (Jvm.Free.Multi.outerC c N h0 i).setSlot i (.ref (h0 + 1 + i)) = _
    rw [pp_outer c N h0 i, arrV_store]
    refine congrArg (arrV c N) (funext fun j => ?_)
    by_cases e : j = i
    · subst e
      simp [updV, va_rf]
    · by_cases h : j < i
      · simp [updV, e, h, Nat.lt_succ_of_lt h]
      · simp [updV, e, h, show ¬ j < i + 1 by omega]
section PPB3
variable {Y : pp_Y} {X : pp_X} {ds : List (Nat × Nat)} {zs : List pp_Z} {cl sl cl' sl' : Nat} {cc : ByteArray} {nL : Nat} {own : String} {F L mc ms pc : Nat} {lv lv' : List (Nat × pp_V)} {st : List pp_V} {σ : pp_M}
theorem pb_mna_i {v w : Int32} {t g N n idx : Nat} {nw : List (Nat × Nat)} (hB : pp_Bx Y cc nL own F L mc ms) (ho : pp_e t = (4, N, n, [(2, g, 0, 0)])) (hk : pp_k g = (1, n)) (hpos : 0 < n) (htg : t ≠ g) (hnw : (t, 0) :: (List.range N).map (fun i => (g, i * n)) = nw) (hf : pp_fr [t, g] ds zs lv st = true) (hv : ¬ v < 0) (hn : v.toNatClampNeg = N) (hw : ¬ w < 0) (hm : w.toNatClampNeg = n) (hb1 : N * 4 ≤ 536870912) (hb2 : n * componentBytes .int ≤ 536870912) (hb3 : n ≤ 536870912) (harr : Cond.arrayClass .int ∈ pp_tb) (hlk : Cond.classLink own idx "[[I" ∈ pp_tb) (hcl : cl + (1 + N) = cl') (hsl : sl + (N + N * n) = sl') (hroom : cl' ≤ mc ∧ sl' ≤ ms) (d : decode cc pc = .ok (.multianewarray idx 2, 4)) (kk : ∀ X' : pp_X, pp_gr [t, g] X X' → pp_B Y X' (ds ++ nw) zs cl' sl' cc nL (pc + 4) lv (ppR t 0 N :: st) (pp_z (pp_z σ t) g)) : pp_B Y X ds zs cl sl cc nL pc lv (ppI w :: ppI v :: st) σ := by
  obtain ⟨p, l, e, R, s, m, args, below, meth, c, Q, cl0, sl0, A⟩ := Y
  intro H locs ls hK hP hI hS hl
  subst hcl
  subst hsl
  subst hnw
  have hAo : (Cond.arrayOver (.array .int)).before args s = true := over_moved (Vm.Alike.refl s.vm) hB.2.2.2.2.2.2.2.2.2.2.2.1
  intro T hT Xs
  obtain ⟨vm₁, cA, comp, -, fA, fC, -, -, XF, step⟩ := Xs.multianewarray2F (ty := .int) (n := v) (k := w) (rest := st.map (ppv X.2.2.1)) hB.1 hB.2.2.2.1 (hB.2.2.2.2.1 _ hlk) hAo (hB.2.2.2.2.1 _ harr) (g := F0 m pc ls ((ppI w :: ppI v :: st).map (ppv X.2.2.1))) rfl (by rw [hB.2.1]; exact d) rfl hv hw (by rw [hn]; exact hb1) (by rw [hm]; exact hb2) (by rw [hm]; exact hb3) rfl rfl (by rw [hn]; exact Nat.le_trans hroom.1 hB.2.2.2.2.2.2.2.1.1) (by rw [hn, hm]; exact Nat.le_trans hroom.2 hB.2.2.2.2.2.2.2.1.2)
  rw [hn, hm] at XF step
  have hcA : cA = X.2.2.2.2.2.2.1 := Option.some.inj (fA.symm.trans (hK.2 3 _ rfl).2)
  have hcC : comp = X.2.2.2.1 := Option.some.inj (fC.symm.trans (hK.2 0 _ rfl).2)
  subst hcA
  subst hcC
  generalize hFl : Jvm.Free.Multi.fill (T.setVm vm₁) (X.2.2.2.2.2.2.1) (X.2.2.2.1) N n (defaultValue .int) N = Fl at XF step
  have hTh : (T.setVm vm₁).heap = H := hT
  obtain ⟨f1, f2, -, -⟩ := Jvm.Free.Multi.fill_facts (T.setVm vm₁) (X.2.2.2.2.2.2.1) (X.2.2.2.1) N n (defaultValue .int) N
  rw [hFl, hTh] at f1 f2
  have hold : ∀ x : Nat, x < H.size → Fl.heap[x]? = H[x]? := fun x hx => by
    have := Jvm.Free.Multi.fill_old (T.setVm vm₁) (X.2.2.2.2.2.2.1) (X.2.2.2.1) N n (defaultValue .int) (a := x) (by rw [hTh]; exact hx) N
    rw [hFl, hTh] at this
    exact this
  have hrow : ∀ j : Nat, j < N → Fl.heap[H.size + 1 + j]? = some (Jvm.Free.Multi.innerC (X.2.2.2.1) n (defaultValue .int)) := fun j hj => by
    have := Jvm.Free.Multi.fill_inner (T.setVm vm₁) (X.2.2.2.2.2.2.1) (X.2.2.2.1) N n (defaultValue .int) N j hj
    rw [hFl, hTh] at this
    exact this
  rw [pp_outer] at f2
  obtain ⟨X', hX'⟩ : ∃ X' : pp_X, X' = (X.1, X.2.1, fun a b => if a = t then H.size else if a = g then H.size + 1 + b / n else X.2.2.1 a b, X.2.2.2) := ⟨_, rfl⟩
  have hg : pp_gr [t, g] X X' := by
    subst hX'
    refine ⟨rfl, rfl, rfl, fun a b h => ?_⟩
    show (if a = t then _ else if a = g then _ else _) = _
    rw [if_neg (fun q => h (by rw [q]; exact List.mem_cons_self)), if_neg (fun q => h (by rw [q]; exact List.mem_cons_of_mem _ List.mem_cons_self))]
  have hlt := pp_P_lt hP
  have had : X'.2.2.1 t 0 = H.size := by subst hX'; exact if_pos rfl
  have hag : ∀ i, X'.2.2.1 g (i * n) = H.size + 1 + i := fun i => by
    subst hX'
    show (if g = t then _ else if g = g then _ else _) = _
    rw [if_neg (Ne.symm htg), if_pos rfl, Nat.mul_div_cancel _ hpos]
  obtain ⟨e1, e2⟩ := pp_gr_lv hg hf
  have hσ : ∀ a, a ∉ [t, g] → (∀ j, (pp_z (pp_z σ t) g).1 a j = σ.1 a j) ∧ ∀ j, (pp_z (pp_z σ t) g).2 a j = σ.2 a j := fun a ha => by
    have h1 : a ≠ t := fun q => ha (by rw [q]; exact List.mem_cons_self)
    have h2 : a ≠ g := fun q => ha (by rw [q]; exact List.mem_cons_of_mem _ List.mem_cons_self)
    exact ⟨fun j => by simp [pp_z, h1, h2], fun j => by simp [pp_z, h1, h2]⟩
  have hid : X'.2.2.2 = X.2.2.2 := hg.2.2.1
  have hP0 : pp_P X' ds zs (pp_z (pp_z σ t) g) Fl.heap := pp_gr_P hg hf hσ hP (fun q hq _ => hold q hq)
  have hnewT : va_at (X'.1, X'.2.1) pp_cl (X'.2.2.1 t 0, pp_cell X' (pp_z (pp_z σ t) g) t 0) Fl.heap := by
    rw [had, pp_cell_oi ho]
    show Fl.heap[H.size]? = some (vp_cell _ _)
    rw [f2, hid, vp_cell_q]
    congr 2
    funext i
    rw [hag i]
  have hnewG : ∀ i, i < N → va_at (X'.1, X'.2.1) pp_cl (X'.2.2.1 g (i * n), pp_cell X' (pp_z (pp_z σ t) g) g (i * n)) Fl.heap := fun i hi => by
    rw [hag i, pp_cell_i hk]
    show Fl.heap[H.size + 1 + i]? = some (vp_cell _ _)
    rw [hrow i hi, hid]
    have ef : (fun j => if j < n then (pp_z (pp_z σ t) g).1 g (i * n + j) else 0) = (fun _ => 0) := by
      funext j
      simp [pp_z]
    rw [ef]
    show some ({ cls := _, slots := Array.replicate n (defaultValue .int), vm := .none } : Cell) = _
    rw [arrV_new]
    rfl
  have hmem : ∀ q ∈ ((t, 0) :: (List.range N).map (fun i => (g, i * n)) : List (Nat × Nat)), q = (t, 0) ∨ ∃ i, i < N ∧ q = (g, i * n) := fun q hq => by
    rcases List.mem_cons.mp hq with h | h
    · exact Or.inl h
    · obtain ⟨i, hi, rfl⟩ := List.mem_map.mp h
      exact Or.inr ⟨i, List.mem_range.mp hi, rfl⟩
  have hP' : pp_P X' (ds ++ ((t, 0) :: (List.range N).map (fun i => (g, i * n)))) zs (pp_z (pp_z σ t) g) Fl.heap := ⟨fun q hq => by
    rcases List.mem_append.mp hq with h | h
    · exact hP0.1 q h
    · rcases hmem q h with rfl | ⟨i, hi, rfl⟩
      · exact hnewT
      · exact hnewG i hi, hP0.2⟩
  have hI' : pp_I X' A ((ds ++ ((t, 0) :: (List.range N).map (fun i => (g, i * n)))) ++ pp_zk zs) := by
    refine pp_I_grow hg hf hI hlt (fun q hq => ?_) (fun q hq q' hq' he => ?_) (fun q hq => ?_)
    · rcases hmem q hq with rfl | ⟨i, hi, rfl⟩
      · exact Nat.le_of_eq had.symm
      · show _ ≤ X'.2.2.1 g (i * n)
        rw [hag i]; omega
    · rcases hmem q hq with rfl | ⟨i, hi, rfl⟩ <;> rcases hmem q' hq' with rfl | ⟨j, hj, rfl⟩
      · rfl
      · have he : X'.2.2.1 t 0 = X'.2.2.1 g (j * n) := he
        rw [had, hag] at he; omega
      · have he : X'.2.2.1 g (i * n) = X'.2.2.1 t 0 := he
        rw [had, hag] at he; omega
      · have he : X'.2.2.1 g (i * n) = X'.2.2.1 g (j * n) := he
        rw [hag, hag] at he
        have : i = j := by omega
        rw [this]
    · rcases hmem q hq with rfl | ⟨i, hi, rfl⟩
      · show A (X'.2.2.1 t 0)
        rw [had]; exact hB.2.2.2.2.2.1 _ hS.1
      · show A (X'.2.2.1 g (i * n))
        rw [hag i]; exact hB.2.2.2.2.2.1 _ (by have := hS.1; omega)
  have hK' : va_K (X'.1, X'.2.1) pp_cl (pp_ty X') s := by rw [pp_ty_gr hg, hg.1, hg.2.1]; exact hK
  have k1 := kk X' hg Fl.heap locs ls hK' hP' hI' ⟨by rw [f1]; have := hS.1; omega, fun q a1 a2 => (hold q (Nat.lt_of_lt_of_le a1 hS.1)).trans (hS.2.1 q a1 a2), hS.2.2⟩ (by rw [e1]; exact hl)
  have e3 : (ppR t 0 N :: st).map (ppv X'.2.2.1) = .ref H.size :: st.map (ppv X.2.2.1) := by
    rw [List.map_cons, e2]
    show Value.ref (X'.2.2.1 t 0) :: _ = _
    rw [had]
  rw [e3] at k1
  rw [show cl + 1 + N = cl + (1 + N) by omega, show sl + N + N * n = sl + (N + N * n) by omega] at XF
  obtain ⟨t2, a1, b1⟩ := k1 Fl rfl XF
  refine ⟨t2, step t2 ?_, b1⟩
  have eT : T.heap.size = H.size := by rw [hT]
  rw [eT]
  exact a1
theorem pb_mna_l {v w : Int32} {t g N n idx : Nat} {nw : List (Nat × Nat)} (hB : pp_Bx Y cc nL own F L mc ms) (ho : pp_e t = (5, N, n, [(2, g, 0, 0)])) (hk : pp_k g = (2, n)) (hpos : 0 < n) (htg : t ≠ g) (hnw : (t, 0) :: (List.range N).map (fun i => (g, i * n)) = nw) (hf : pp_fr [t, g] ds zs lv st = true) (hv : ¬ v < 0) (hn : v.toNatClampNeg = N) (hw : ¬ w < 0) (hm : w.toNatClampNeg = n) (hb1 : N * 4 ≤ 536870912) (hb2 : n * componentBytes .long ≤ 536870912) (hb3 : n ≤ 536870912) (harr : Cond.arrayClass .long ∈ pp_tb) (hlk : Cond.classLink own idx "[[J" ∈ pp_tb) (hcl : cl + (1 + N) = cl') (hsl : sl + (N + N * n) = sl') (hroom : cl' ≤ mc ∧ sl' ≤ ms) (d : decode cc pc = .ok (.multianewarray idx 2, 4)) (kk : ∀ X' : pp_X, pp_gr [t, g] X X' → pp_B Y X' (ds ++ nw) zs cl' sl' cc nL (pc + 4) lv (ppR t 0 N :: st) (pp_z (pp_z σ t) g)) : pp_B Y X ds zs cl sl cc nL pc lv (ppI w :: ppI v :: st) σ := by
  obtain ⟨p, l, e, R, s, m, args, below, meth, c, Q, cl0, sl0, A⟩ := Y
  intro H locs ls hK hP hI hS hl
  subst hcl
  subst hsl
  subst hnw
  have hAo : (Cond.arrayOver (.array .long)).before args s = true := over_moved (Vm.Alike.refl s.vm) hB.2.2.2.2.2.2.2.2.2.2.2.2
  intro T hT Xs
  obtain ⟨vm₁, cA, comp, -, fA, fC, -, -, XF, step⟩ := Xs.multianewarray2F (ty := .long) (n := v) (k := w) (rest := st.map (ppv X.2.2.1)) hB.1 hB.2.2.2.1 (hB.2.2.2.2.1 _ hlk) hAo (hB.2.2.2.2.1 _ harr) (g := F0 m pc ls ((ppI w :: ppI v :: st).map (ppv X.2.2.1))) rfl (by rw [hB.2.1]; exact d) rfl hv hw (by rw [hn]; exact hb1) (by rw [hm]; exact hb2) (by rw [hm]; exact hb3) rfl rfl (by rw [hn]; exact Nat.le_trans hroom.1 hB.2.2.2.2.2.2.2.1.1) (by rw [hn, hm]; exact Nat.le_trans hroom.2 hB.2.2.2.2.2.2.2.1.2)
  rw [hn, hm] at XF step
  have hcA : cA = X.2.2.2.2.2.2.2 := Option.some.inj (fA.symm.trans (hK.2 4 _ rfl).2)
  have hcC : comp = X.2.2.2.2.1 := Option.some.inj (fC.symm.trans (hK.2 1 _ rfl).2)
  subst hcA
  subst hcC
  generalize hFl : Jvm.Free.Multi.fill (T.setVm vm₁) (X.2.2.2.2.2.2.2) (X.2.2.2.2.1) N n (defaultValue .long) N = Fl at XF step
  have hTh : (T.setVm vm₁).heap = H := hT
  obtain ⟨f1, f2, -, -⟩ := Jvm.Free.Multi.fill_facts (T.setVm vm₁) (X.2.2.2.2.2.2.2) (X.2.2.2.2.1) N n (defaultValue .long) N
  rw [hFl, hTh] at f1 f2
  have hold : ∀ x : Nat, x < H.size → Fl.heap[x]? = H[x]? := fun x hx => by
    have := Jvm.Free.Multi.fill_old (T.setVm vm₁) (X.2.2.2.2.2.2.2) (X.2.2.2.2.1) N n (defaultValue .long) (a := x) (by rw [hTh]; exact hx) N
    rw [hFl, hTh] at this
    exact this
  have hrow : ∀ j : Nat, j < N → Fl.heap[H.size + 1 + j]? = some (Jvm.Free.Multi.innerC (X.2.2.2.2.1) n (defaultValue .long)) := fun j hj => by
    have := Jvm.Free.Multi.fill_inner (T.setVm vm₁) (X.2.2.2.2.2.2.2) (X.2.2.2.2.1) N n (defaultValue .long) N j hj
    rw [hFl, hTh] at this
    exact this
  rw [pp_outer] at f2
  obtain ⟨X', hX'⟩ : ∃ X' : pp_X, X' = (X.1, X.2.1, fun a b => if a = t then H.size else if a = g then H.size + 1 + b / n else X.2.2.1 a b, X.2.2.2) := ⟨_, rfl⟩
  have hg : pp_gr [t, g] X X' := by
    subst hX'
    refine ⟨rfl, rfl, rfl, fun a b h => ?_⟩
    show (if a = t then _ else if a = g then _ else _) = _
    rw [if_neg (fun q => h (by rw [q]; exact List.mem_cons_self)), if_neg (fun q => h (by rw [q]; exact List.mem_cons_of_mem _ List.mem_cons_self))]
  have hlt := pp_P_lt hP
  have had : X'.2.2.1 t 0 = H.size := by subst hX'; exact if_pos rfl
  have hag : ∀ i, X'.2.2.1 g (i * n) = H.size + 1 + i := fun i => by
    subst hX'
    show (if g = t then _ else if g = g then _ else _) = _
    rw [if_neg (Ne.symm htg), if_pos rfl, Nat.mul_div_cancel _ hpos]
  obtain ⟨e1, e2⟩ := pp_gr_lv hg hf
  have hσ : ∀ a, a ∉ [t, g] → (∀ j, (pp_z (pp_z σ t) g).1 a j = σ.1 a j) ∧ ∀ j, (pp_z (pp_z σ t) g).2 a j = σ.2 a j := fun a ha => by
    have h1 : a ≠ t := fun q => ha (by rw [q]; exact List.mem_cons_self)
    have h2 : a ≠ g := fun q => ha (by rw [q]; exact List.mem_cons_of_mem _ List.mem_cons_self)
    exact ⟨fun j => by simp [pp_z, h1, h2], fun j => by simp [pp_z, h1, h2]⟩
  have hid : X'.2.2.2 = X.2.2.2 := hg.2.2.1
  have hP0 : pp_P X' ds zs (pp_z (pp_z σ t) g) Fl.heap := pp_gr_P hg hf hσ hP (fun q hq _ => hold q hq)
  have hnewT : va_at (X'.1, X'.2.1) pp_cl (X'.2.2.1 t 0, pp_cell X' (pp_z (pp_z σ t) g) t 0) Fl.heap := by
    rw [had, pp_cell_ol ho]
    show Fl.heap[H.size]? = some (vp_cell _ _)
    rw [f2, hid, vp_cell_q]
    congr 2
    funext i
    rw [hag i]
  have hnewG : ∀ i, i < N → va_at (X'.1, X'.2.1) pp_cl (X'.2.2.1 g (i * n), pp_cell X' (pp_z (pp_z σ t) g) g (i * n)) Fl.heap := fun i hi => by
    rw [hag i, pp_cell_l hk]
    show Fl.heap[H.size + 1 + i]? = some (vp_cell _ _)
    rw [hrow i hi, hid]
    have ef : (fun j => if j < n then (pp_z (pp_z σ t) g).2 g (i * n + j) else 0) = (fun _ => 0) := by
      funext j
      simp [pp_z]
    rw [ef]
    show some ({ cls := _, slots := Array.replicate n (defaultValue .long), vm := .none } : Cell) = _
    rw [arrV_new]
    rfl
  have hmem : ∀ q ∈ ((t, 0) :: (List.range N).map (fun i => (g, i * n)) : List (Nat × Nat)), q = (t, 0) ∨ ∃ i, i < N ∧ q = (g, i * n) := fun q hq => by
    rcases List.mem_cons.mp hq with h | h
    · exact Or.inl h
    · obtain ⟨i, hi, rfl⟩ := List.mem_map.mp h
      exact Or.inr ⟨i, List.mem_range.mp hi, rfl⟩
  have hP' : pp_P X' (ds ++ ((t, 0) :: (List.range N).map (fun i => (g, i * n)))) zs (pp_z (pp_z σ t) g) Fl.heap := ⟨fun q hq => by
    rcases List.mem_append.mp hq with h | h
    · exact hP0.1 q h
    · rcases hmem q h with rfl | ⟨i, hi, rfl⟩
      · exact hnewT
      · exact hnewG i hi, hP0.2⟩
  have hI' : pp_I X' A ((ds ++ ((t, 0) :: (List.range N).map (fun i => (g, i * n)))) ++ pp_zk zs) := by
    refine pp_I_grow hg hf hI hlt (fun q hq => ?_) (fun q hq q' hq' he => ?_) (fun q hq => ?_)
    · rcases hmem q hq with rfl | ⟨i, hi, rfl⟩
      · exact Nat.le_of_eq had.symm
      · show _ ≤ X'.2.2.1 g (i * n)
        rw [hag i]; omega
    · rcases hmem q hq with rfl | ⟨i, hi, rfl⟩ <;> rcases hmem q' hq' with rfl | ⟨j, hj, rfl⟩
      · rfl
      · have he : X'.2.2.1 t 0 = X'.2.2.1 g (j * n) := he
        rw [had, hag] at he; omega
      · have he : X'.2.2.1 g (i * n) = X'.2.2.1 t 0 := he
        rw [had, hag] at he; omega
      · have he : X'.2.2.1 g (i * n) = X'.2.2.1 g (j * n) := he
        rw [hag, hag] at he
        have : i = j := by omega
        rw [this]
    · rcases hmem q hq with rfl | ⟨i, hi, rfl⟩
      · show A (X'.2.2.1 t 0)
        rw [had]; exact hB.2.2.2.2.2.1 _ hS.1
      · show A (X'.2.2.1 g (i * n))
        rw [hag i]; exact hB.2.2.2.2.2.1 _ (by have := hS.1; omega)
  have hK' : va_K (X'.1, X'.2.1) pp_cl (pp_ty X') s := by rw [pp_ty_gr hg, hg.1, hg.2.1]; exact hK
  have k1 := kk X' hg Fl.heap locs ls hK' hP' hI' ⟨by rw [f1]; have := hS.1; omega, fun q a1 a2 => (hold q (Nat.lt_of_lt_of_le a1 hS.1)).trans (hS.2.1 q a1 a2), hS.2.2⟩ (by rw [e1]; exact hl)
  have e3 : (ppR t 0 N :: st).map (ppv X'.2.2.1) = .ref H.size :: st.map (ppv X.2.2.1) := by
    rw [List.map_cons, e2]
    show Value.ref (X'.2.2.1 t 0) :: _ = _
    rw [had]
  rw [e3] at k1
  rw [show cl + 1 + N = cl + (1 + N) by omega, show sl + N + N * n = sl + (N + N * n) by omega] at XF
  obtain ⟨t2, a1, b1⟩ := k1 Fl rfl XF
  refine ⟨t2, step t2 ?_, b1⟩
  have eT : T.heap.size = H.size := by rw [hT]
  rw [eT]
  exact a1
end PPB3
