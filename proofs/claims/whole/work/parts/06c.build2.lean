/-! rules for making objects -/
section PPB
variable {Y : pp_Y} {X : pp_X} {ds : List (Nat × Nat)} {zs : List pp_Z} {cl sl cl' sl' : Nat} {cc : ByteArray} {nL : Nat} {own : String} {F L mc ms pc : Nat} {lv lv' : List (Nat × pp_V)} {st : List pp_V} {σ : pp_M}
theorem pb_iconst {n : Int} {v : Int32} (hB : pp_Bx Y cc nL own F L mc ms) (d : decode cc pc = .ok (.iconst n, 1)) (hv : Int32.ofInt n = v) (k : pp_B Y X ds zs cl sl cc nL (pc + 1) lv (ppI v :: st) σ) : pp_B Y X ds zs cl sl cc nL pc lv st σ := by
  obtain ⟨p, l, e, R, s, m, args, below, meth, c, Q, cl0, sl0, A⟩ := Y
  intro H locs ls hK hP hI hS hl
  exact lv_iconst hB.1 hB.2.1 d hv (k H locs ls hK hP hI hS hl)
theorem pb_bipush {n : Int} {v : Int32} (hB : pp_Bx Y cc nL own F L mc ms) (d : decode cc pc = .ok (.bipush n, 2)) (hv : (Int8.ofInt n).toInt32 = v) (k : pp_B Y X ds zs cl sl cc nL (pc + 2) lv (ppI v :: st) σ) : pp_B Y X ds zs cl sl cc nL pc lv st σ := by
  obtain ⟨p, l, e, R, s, m, args, below, meth, c, Q, cl0, sl0, A⟩ := Y
  intro H locs ls hK hP hI hS hl
  exact lv_bipush hB.1 hB.2.1 d hv (k H locs ls hK hP hI hS hl)
theorem pb_sipush {n : Int} {v : Int32} (hB : pp_Bx Y cc nL own F L mc ms) (d : decode cc pc = .ok (.sipush n, 3)) (hv : (Int16.ofInt n).toInt32 = v) (k : pp_B Y X ds zs cl sl cc nL (pc + 3) lv (ppI v :: st) σ) : pp_B Y X ds zs cl sl cc nL pc lv st σ := by
  obtain ⟨p, l, e, R, s, m, args, below, meth, c, Q, cl0, sl0, A⟩ := Y
  intro H locs ls hK hP hI hS hl
  exact lv_sipush hB.1 hB.2.1 d hv (k H locs ls hK hP hI hS hl)
theorem pb_lconst {n : Fin 2} {v : Int64} (hB : pp_Bx Y cc nL own F L mc ms) (d : decode cc pc = .ok (.lconst n, 1)) (hv : Int64.ofNat (n : Nat) = v) (k : pp_B Y X ds zs cl sl cc nL (pc + 1) lv (ppL v :: st) σ) : pp_B Y X ds zs cl sl cc nL pc lv st σ := by
  obtain ⟨p, l, e, R, s, m, args, below, meth, c, Q, cl0, sl0, A⟩ := Y
  intro H locs ls hK hP hI hS hl
  exact lv_lconst hB.1 hB.2.1 d hv (k H locs ls hK hP hI hS hl)
theorem pb_ldc2 {i : Nat} {v : Int64} (hB : pp_Bx Y cc nL own F L mc ms) (hw : Cond.constantLong own i v ∈ pp_tb) (d : decode cc pc = .ok (.ldc2_w i, 3)) (k : pp_B Y X ds zs cl sl cc nL (pc + 3) lv (ppL v :: st) σ) : pp_B Y X ds zs cl sl cc nL pc lv st σ := by
  obtain ⟨p, l, e, R, s, m, args, below, meth, c, Q, cl0, sl0, A⟩ := Y
  intro H locs ls hK hP hI hS hl
  exact lv_ldc2 hB.1 hB.2.1 hB.2.2.2.1 (hB.2.2.2.2.1 _ hw) d (k H locs ls hK hP hI hS hl)
theorem pb_aload_n {j : Fin 4} {i t o n : Nat} (hB : pp_Bx Y cc nL own F L mc ms) (d : decode cc pc = .ok (.aload_n j, 1)) (hi : (j : Nat) = i) (ha : pp_at lv i = some (ppR t o n)) (k : pp_B Y X ds zs cl sl cc nL (pc + 1) lv (ppR t o n :: st) σ) : pp_B Y X ds zs cl sl cc nL pc lv st σ := by
  obtain ⟨p, l, e, R, s, m, args, below, meth, c, Q, cl0, sl0, A⟩ := Y
  intro H locs ls hK hP hI hS hl
  exact lv_aload_n hB.1 hB.2.1 d hi (pp_has_at hl ha) (k H locs ls hK hP hI hS hl)
theorem pb_aload {i t o n : Nat} (hB : pp_Bx Y cc nL own F L mc ms) (d : decode cc pc = .ok (.aload i, 2)) (ha : pp_at lv i = some (ppR t o n)) (k : pp_B Y X ds zs cl sl cc nL (pc + 2) lv (ppR t o n :: st) σ) : pp_B Y X ds zs cl sl cc nL pc lv st σ := by
  obtain ⟨p, l, e, R, s, m, args, below, meth, c, Q, cl0, sl0, A⟩ := Y
  intro H locs ls hK hP hI hS hl
  exact lv_aload hB.1 hB.2.1 d (pp_has_at hl ha) (k H locs ls hK hP hI hS hl)
theorem pb_dupR {t o n : Nat} (hB : pp_Bx Y cc nL own F L mc ms) (d : decode cc pc = .ok (.dup, 1)) (k : pp_B Y X ds zs cl sl cc nL (pc + 1) lv (ppR t o n :: ppR t o n :: st) σ) : pp_B Y X ds zs cl sl cc nL pc lv (ppR t o n :: st) σ := by
  obtain ⟨p, l, e, R, s, m, args, below, meth, c, Q, cl0, sl0, A⟩ := Y
  intro H locs ls hK hP hI hS hl
  exact lv_dup hB.1 hB.2.1 d rfl (k H locs ls hK hP hI hS hl)
theorem pb_obj {t o n idx : Nat} (hB : pp_Bx Y cc nL own F L mc ms) (hk : Cond.methodLink own idx Lib.objectInit ∈ pp_tb) (hi : Cond.instanceMethod Lib.objectInit ∈ pp_tb) (hc : Cond.code Lib.objectInit ⟨#[0xb1]⟩ 1 none ∈ pp_tb) (hroom : 1 ≤ F ∧ 20 ≤ L) (hcs : pp_cs st ≤ 8) (d : decode cc pc = .ok (.invokespecial idx, 3)) (k : pp_B Y X ds zs cl sl cc nL (pc + 3) lv st σ) : pp_B Y X ds zs cl sl cc nL pc lv (ppR t o n :: st) σ := by
  obtain ⟨p, l, e, R, s, m, args, below, meth, c, Q, cl0, sl0, A⟩ := Y
  intro H locs ls hK hP hI hS hl
  have hw := lv_room (m := m) (pc := pc) (ls := ls) (rest := (ppR t o n :: st).map (ppv X.2.2.1)) (st := st.map (ppv X.2.2.1)) (by rw [pp_cs_eq]; exact hcs)
  exact W.objInit hB.1 hB.2.1 hB.2.2.2.1 (hB.2.2.2.2.1 _ hk) (hB.2.2.2.2.1 _ hi) (hB.2.2.2.2.1 _ hc) rfl (hl.1.trans hB.2.2.1.symm) rfl d (Nat.le_trans hroom.1 hB.2.2.2.2.2.2.1.1) (by have := hB.2.2.2.2.2.2.1.2; have := hroom.2; omega) (k H locs ls hK hP hI hS hl)
theorem pp_ws_at {z : pp_Z} {zs' : List pp_Z} : (pp_ws X ds (z :: zs') σ)[ds.length]? = some (pp_zc X z) := by
  unfold pp_ws pp_wd
  rw [List.getElem?_append_right (by rw [List.length_map]; exact Nat.le_refl _), List.length_map, Nat.sub_self]
  rfl
theorem pp_ws_set {t ci k : Nat} {fs : List (Option pp_V)} {zs' : List pp_Z} {v : pp_V} : (pp_ws X ds ((t, ci, fs) :: zs') σ).set ds.length (X.2.2.1 t 0, .inr (ci, (fs.map (pp_zf X.2.2.1)).set k (ppv X.2.2.1 v))) = pp_ws X ds ((t, ci, fs.set k (some v)) :: zs') σ := by
  unfold pp_ws pp_wd
  rw [List.set_append_right _ _ (by rw [List.length_map]; exact Nat.le_refl _), List.length_map, Nat.sub_self]
  congr 1
  simp only [List.map_cons, List.set_cons_zero]
  congr 1
  unfold pp_zc
  simp only [List.map_set]
  rfl
/-- the field k of a raw object of the class ci, as own names it by idx -/
def pp_Fr (own : String) (idx ci k : Nat) (fin : Bool) (ty : FieldType) : Prop := ∃ (C : String) (T : u_T) (N : Nat) (ty0 : Nat → FieldType), pp_cl[ci]? = some (C, T, N) ∧ (∀ w ∈ u_ws C T N, w ∈ pp_tb) ∧ k < N ∧ (T k).1 = C ∧ C = own ∧ Cond.fieldLink own idx C (T k).2.1 (T k).2.2.1 ∈ pp_tb ∧ (∀ j, j < N → parseFieldDescriptor (T j).2.2.1 = some (ty0 j)) ∧ (∀ a, a < N → ∀ b, b < N → a ≠ b → (T a).2.1 ≠ (T b).2.1) ∧ (T k).2.2.2 = fin ∧ parseFieldDescriptor (T k).2.2.1 = some ty
theorem pb_put {idx t ci k : Nat} {fin : Bool} {ty : FieldType} {fs fs' : List (Option pp_V)} {zs' : List pp_Z} {v : pp_V} (hB : pp_Bx Y cc nL own F L mc ms) (hf : pp_Fr own idx ci k fin ty) (hn : ∀ ad, narrow ty (ppv ad v) = ppv ad v) (hfit : ∀ ad, fits ty (ppv ad v) = true) (hl0 : k < fs.length) (hnd : (ds ++ pp_zk ((t, ci, fs) :: zs')).Nodup) (hfs : fs.set k (some v) = fs') (d : decode cc pc = .ok (.putfield idx, 3)) (kk : pp_B Y X ds ((t, ci, fs') :: zs') cl sl cc nL (pc + 3) lv st σ) : pp_B Y X ds ((t, ci, fs) :: zs') cl sl cc nL pc lv (v :: ppR t 0 0 :: st) σ := by
  obtain ⟨p, l, e, R, s, m, args, below, meth, c, Q, cl0, sl0, A⟩ := Y
  intro H locs ls hK hP hI hS hl
  obtain ⟨C, T, N, ty0, hc, hin, hk, hC, hCo, hlk, hty, hnm, hfin, hpd⟩ := hf
  subst hfs
  have hws := pp_P_ws.mp hP
  have hD := pp_I_D (σ := σ) hnd hI
  have he : (pp_ws X ds ((t, ci, fs) :: zs') σ)[ds.length]? = some (X.2.2.1 t 0, .inr (ci, fs.map (pp_zf X.2.2.1))) := pp_ws_at
  have hkf : k < (fs.map (pp_zf X.2.2.1)).length := by rw [List.length_map]; exact hl0
  have key : ∀ (H1 : Heap) (locs1 : List Loc), va_P (X.1, X.2.1) pp_cl ((pp_ws X ds ((t, ci, fs) :: zs') σ).set ds.length (X.2.2.1 t 0, .inr (ci, (fs.map (pp_zf X.2.2.1)).set k (ppv X.2.2.1 v)))) H1 → va_S A s.heap H1 locs1 → W p l e R s m args below meth c H1 locs1 cl sl Q (F0 m (pc + 3) ls (st.map (ppv X.2.2.1))) := fun H1 locs1 h1 h2 => by
    rw [pp_ws_set] at h1
    exact kk H1 locs1 ls hK (pp_P_ws.mpr h1) hI h2 hl
  cases fin with
  | true => exact va_putF hB.1 hB.2.1 hB.2.2.2.2.1 hin ty0 hty hnm hB.2.2.2.1 hK hws hD hS ds.length he hc k hk (hB.2.2.2.2.1 _ hlk) (fun z hz => by rw [hC] at hz; exact hz) hfin hB.2.2.2.2.2.2.2.2.2.2.1 (hC.trans hCo) hpd (hn _) (hfit _) hkf d (fun H1 locs1 h1 _ h3 => key H1 locs1 h1 h3)
  | false => exact va_put hB.1 hB.2.1 hB.2.2.2.2.1 hin ty0 hty hnm hB.2.2.2.1 hK hws hD hS ds.length he hc k hk (hB.2.2.2.2.1 _ hlk) (fun z hz => by rw [hC] at hz; exact hz) hfin hpd (hn _) (hfit _) hkf d (fun H1 locs1 h1 _ h3 => key H1 locs1 h1 h3)
theorem pb_get {idx t ci k t2 o2 n2 : Nat} {fin : Bool} {ty : FieldType} {fs : List (Option pp_V)} {zs' : List pp_Z} (hB : pp_Bx Y cc nL own F L mc ms) (hf : pp_Fr own idx ci k fin ty) (hfs : fs[k]? = some (some (ppR t2 o2 n2))) (d : decode cc pc = .ok (.getfield idx, 3)) (kk : pp_B Y X ds ((t, ci, fs) :: zs') cl sl cc nL (pc + 3) lv (ppR t2 o2 n2 :: st) σ) : pp_B Y X ds ((t, ci, fs) :: zs') cl sl cc nL pc lv (ppR t 0 0 :: st) σ := by
  obtain ⟨p, l, e, R, s, m, args, below, meth, c, Q, cl0, sl0, A⟩ := Y
  intro H locs ls hK hP hI hS hl
  obtain ⟨C, T, N, ty0, hc, hin, hk, hC, hCo, hlk, hty, hnm, hfin, hpd⟩ := hf
  have he : (pp_ws X ds ((t, ci, fs) :: zs') σ)[ds.length]? = some (X.2.2.1 t 0, .inr (ci, fs.map (pp_zf X.2.2.1))) := pp_ws_at
  exact va_get hB.1 hB.2.1 hB.2.2.2.2.1 hin hB.2.2.2.1 hK (pp_P_ws.mp hP) ds.length he hc k hk (hB.2.2.2.2.1 _ hlk) (fun z hz => by rw [hC] at hz; exact hz) (v := .ref (X.2.2.1 t2 o2)) (by rw [List.getElem?_map, hfs]; rfl) d (kk H locs ls hK hP hI hS hl)
theorem pp_I_grow {A : Nat → Prop} {new : List Nat} {X X' : pp_X} (hg : pp_gr new X X') {ds nw : List (Nat × Nat)} {zs : List pp_Z} {lv : List (Nat × pp_V)} {st : List pp_V} {n0 : Nat} (hf : pp_fr new ds zs lv st = true) (hI : pp_I X A (ds ++ pp_zk zs)) (hlt : ∀ d ∈ ds ++ pp_zk zs, X.2.2.1 d.1 d.2 < n0) (hge : ∀ d ∈ nw, n0 ≤ X'.2.2.1 d.1 d.2) (hin : ∀ d ∈ nw, ∀ d' ∈ nw, X'.2.2.1 d.1 d.2 = X'.2.2.1 d'.1 d'.2 → d = d') (hA : ∀ d ∈ nw, A (X'.2.2.1 d.1 d.2)) : pp_I X' A ((ds ++ nw) ++ pp_zk zs) := by
  have hk := pp_gr_key hg hf
  have split : ∀ d ∈ (ds ++ nw) ++ pp_zk zs, d ∈ ds ++ pp_zk zs ∨ d ∈ nw := fun d hd => by
    rcases List.mem_append.mp hd with h | h
    · rcases List.mem_append.mp h with h | h
      · exact Or.inl (List.mem_append_left _ h)
      · exact Or.inr h
    · exact Or.inl (List.mem_append_right _ h)
  refine ⟨fun d hd d' hd' e => ?_, fun d hd => ?_⟩
  · rcases split d hd with h | h <;> rcases split d' hd' with h' | h'
    · exact hI.1 d h d' h' (by rw [← hk d h, ← hk d' h']; exact e)
    · have a1 := hlt d h
      rw [← hk d h] at a1
      have a2 := hge d' h'
      omega
    · have a1 := hlt d' h'
      rw [← hk d' h'] at a1
      have a2 := hge d h
      omega
    · exact hin d h d' h' e
  · rcases split d hd with h | h
    · rw [hk d h]; exact hI.2 d h
    · exact hA d h
theorem pb_newa_i {v : Int32} {t n : Nat} (hB : pp_Bx Y cc nL own F L mc ms) (hk : pp_k t = (1, n)) (hf : pp_fr [t] ds zs lv st = true) (hv : ¬ v < 0) (hn : v.toNatClampNeg = n) (hbytes : n * componentBytes .int ≤ 536870912) (harr : Cond.arrayClass .int ∈ pp_tb) (hcl : cl + 1 = cl') (hsl : sl + n = sl') (hroom : cl' ≤ mc ∧ sl' ≤ ms) (d : decode cc pc = .ok (.newarray .int, 2)) (kk : ∀ X' : pp_X, pp_gr [t] X X' → pp_B Y X' (ds ++ [(t, 0)]) zs cl' sl' cc nL (pc + 2) lv (ppR t 0 n :: st) (pp_z σ t)) : pp_B Y X ds zs cl sl cc nL pc lv (ppI v :: st) σ := by
  obtain ⟨p, l, e, R, s, m, args, below, meth, c, Q, cl0, sl0, A⟩ := Y
  intro H locs ls hK hP hI hS hl
  subst hcl
  subst hsl
  refine va_newaK (atype := .int) (N := n) hB.1 hB.2.1 (hB.2.2.2.2.1 _ harr) (g := F0 m pc ls ((ppI v :: st).map (ppv X.2.2.1))) rfl d rfl hv hn hbytes (Nat.le_trans hroom.1 hB.2.2.2.2.2.2.2.1.1) (Nat.le_trans hroom.2 hB.2.2.2.2.2.2.2.1.2) rfl (fun H1 cA h1 h2 h3 h4 h5 => ?_)
  have hcA : cA = X.2.2.2.1 := Option.some.inj (h5.symm.trans (hK.2 0 _ rfl).2)
  subst hcA
  obtain ⟨X', hX'⟩ : ∃ X' : pp_X, X' = (X.1, X.2.1, fun a b => if a = t then H.size else X.2.2.1 a b, X.2.2.2) := ⟨_, rfl⟩
  have hg : pp_gr [t] X X' := by
    subst hX'
    refine ⟨rfl, rfl, rfl, fun a b h => if_neg (fun q => h (by rw [q]; exact List.mem_singleton.mpr rfl))⟩
  have hlt := pp_P_lt hP
  have had : X'.2.2.1 t 0 = H.size := by subst hX'; exact if_pos rfl
  obtain ⟨e1, e2⟩ := pp_gr_lv hg hf
  have hσ : ∀ a, a ∉ [t] → (∀ j, (pp_z σ t).1 a j = σ.1 a j) ∧ ∀ j, (pp_z σ t).2 a j = σ.2 a j := fun a ha => by
    have : a ≠ t := fun q => ha (by rw [q]; exact List.mem_singleton.mpr rfl)
    exact ⟨fun j => if_neg this, fun j => if_neg this⟩
  have hP0 : pp_P X' ds zs (pp_z σ t) H1 := pp_gr_P hg hf hσ hP (fun q hq _ => h3 q hq)
  have hnew : va_at (X'.1, X'.2.1) pp_cl (X'.2.2.1 t 0, pp_cell X' (pp_z σ t) t 0) H1 := by
    rw [had, pp_cell_i hk]
    have hid : X'.2.2.2 = X.2.2.2 := hg.2.2.1
    show H1[H.size]? = some (vp_cell _ _)
    rw [h1, hid]
    have ef : (fun j => if j < n then (pp_z σ t).1 t (0 + j) else 0) = (fun _ => 0) := by
      funext j
      simp [pp_z]
    rw [ef]
    rfl
  have hP' : pp_P X' (ds ++ [(t, 0)]) zs (pp_z σ t) H1 := ⟨fun q hq => by
    rcases List.mem_append.mp hq with h | h
    · exact hP0.1 q h
    · rw [List.mem_singleton.mp h]; exact hnew, hP0.2⟩
  have hI' : pp_I X' A ((ds ++ [(t, 0)]) ++ pp_zk zs) := by
    refine pp_I_grow hg hf hI hlt (fun q hq => ?_) (fun q hq q' hq' _ => ?_) (fun q hq => ?_)
    · rw [List.mem_singleton.mp hq]; exact Nat.le_of_eq had.symm
    · rw [List.mem_singleton.mp hq, List.mem_singleton.mp hq']
    · rw [List.mem_singleton.mp hq]
      show A (X'.2.2.1 t 0)
      rw [had]
      exact hB.2.2.2.2.2.1 _ hS.1
  have hK' : va_K (X'.1, X'.2.1) pp_cl (pp_ty X') s := by rw [pp_ty_gr hg, hg.1, hg.2.1]; exact hK
  have k1 := kk X' hg H1 locs ls hK' hP' hI' ⟨by rw [h2]; have := hS.1; omega, fun q a1 a2 => (h3 q (Nat.lt_of_lt_of_le a1 hS.1)).trans (hS.2.1 q a1 a2), hS.2.2⟩ (by rw [e1]; exact hl)
  have e3 : (ppR t 0 n :: st).map (ppv X'.2.2.1) = .ref H.size :: st.map (ppv X.2.2.1) := by
    rw [List.map_cons, e2]
    show Value.ref (X'.2.2.1 t 0) :: _ = _
    rw [had]
  rw [e3] at k1
  exact k1
theorem pb_newa_l {v : Int32} {t n : Nat} (hB : pp_Bx Y cc nL own F L mc ms) (hk : pp_k t = (2, n)) (hf : pp_fr [t] ds zs lv st = true) (hv : ¬ v < 0) (hn : v.toNatClampNeg = n) (hbytes : n * componentBytes .long ≤ 536870912) (harr : Cond.arrayClass .long ∈ pp_tb) (hcl : cl + 1 = cl') (hsl : sl + n = sl') (hroom : cl' ≤ mc ∧ sl' ≤ ms) (d : decode cc pc = .ok (.newarray .long, 2)) (kk : ∀ X' : pp_X, pp_gr [t] X X' → pp_B Y X' (ds ++ [(t, 0)]) zs cl' sl' cc nL (pc + 2) lv (ppR t 0 n :: st) (pp_z σ t)) : pp_B Y X ds zs cl sl cc nL pc lv (ppI v :: st) σ := by
  obtain ⟨p, l, e, R, s, m, args, below, meth, c, Q, cl0, sl0, A⟩ := Y
  intro H locs ls hK hP hI hS hl
  subst hcl
  subst hsl
  refine va_newaK (atype := .long) (N := n) hB.1 hB.2.1 (hB.2.2.2.2.1 _ harr) (g := F0 m pc ls ((ppI v :: st).map (ppv X.2.2.1))) rfl d rfl hv hn hbytes (Nat.le_trans hroom.1 hB.2.2.2.2.2.2.2.1.1) (Nat.le_trans hroom.2 hB.2.2.2.2.2.2.2.1.2) rfl (fun H1 cA h1 h2 h3 h4 h5 => ?_)
  have hcA : cA = X.2.2.2.2.1 := Option.some.inj (h5.symm.trans (hK.2 1 _ rfl).2)
  subst hcA
  obtain ⟨X', hX'⟩ : ∃ X' : pp_X, X' = (X.1, X.2.1, fun a b => if a = t then H.size else X.2.2.1 a b, X.2.2.2) := ⟨_, rfl⟩
  have hg : pp_gr [t] X X' := by
    subst hX'
    refine ⟨rfl, rfl, rfl, fun a b h => if_neg (fun q => h (by rw [q]; exact List.mem_singleton.mpr rfl))⟩
  have hlt := pp_P_lt hP
  have had : X'.2.2.1 t 0 = H.size := by subst hX'; exact if_pos rfl
  obtain ⟨e1, e2⟩ := pp_gr_lv hg hf
  have hσ : ∀ a, a ∉ [t] → (∀ j, (pp_z σ t).1 a j = σ.1 a j) ∧ ∀ j, (pp_z σ t).2 a j = σ.2 a j := fun a ha => by
    have : a ≠ t := fun q => ha (by rw [q]; exact List.mem_singleton.mpr rfl)
    exact ⟨fun j => if_neg this, fun j => if_neg this⟩
  have hP0 : pp_P X' ds zs (pp_z σ t) H1 := pp_gr_P hg hf hσ hP (fun q hq _ => h3 q hq)
  have hnew : va_at (X'.1, X'.2.1) pp_cl (X'.2.2.1 t 0, pp_cell X' (pp_z σ t) t 0) H1 := by
    rw [had, pp_cell_l hk]
    have hid : X'.2.2.2 = X.2.2.2 := hg.2.2.1
    show H1[H.size]? = some (vp_cell _ _)
    rw [h1, hid]
    have ef : (fun j => if j < n then (pp_z σ t).2 t (0 + j) else 0) = (fun _ => 0) := by
      funext j
      simp [pp_z]
    rw [ef]
    rfl
  have hP' : pp_P X' (ds ++ [(t, 0)]) zs (pp_z σ t) H1 := ⟨fun q hq => by
    rcases List.mem_append.mp hq with h | h
    · exact hP0.1 q h
    · rw [List.mem_singleton.mp h]; exact hnew, hP0.2⟩
  have hI' : pp_I X' A ((ds ++ [(t, 0)]) ++ pp_zk zs) := by
    refine pp_I_grow hg hf hI hlt (fun q hq => ?_) (fun q hq q' hq' _ => ?_) (fun q hq => ?_)
    · rw [List.mem_singleton.mp hq]; exact Nat.le_of_eq had.symm
    · rw [List.mem_singleton.mp hq, List.mem_singleton.mp hq']
    · rw [List.mem_singleton.mp hq]
      show A (X'.2.2.1 t 0)
      rw [had]
      exact hB.2.2.2.2.2.1 _ hS.1
  have hK' : va_K (X'.1, X'.2.1) pp_cl (pp_ty X') s := by rw [pp_ty_gr hg, hg.1, hg.2.1]; exact hK
  have k1 := kk X' hg H1 locs ls hK' hP' hI' ⟨by rw [h2]; have := hS.1; omega, fun q a1 a2 => (h3 q (Nat.lt_of_lt_of_le a1 hS.1)).trans (hS.2.1 q a1 a2), hS.2.2⟩ (by rw [e1]; exact hl)
  have e3 : (ppR t 0 n :: st).map (ppv X'.2.2.1) = .ref H.size :: st.map (ppv X.2.2.1) := by
    rw [List.map_cons, e2]
    show Value.ref (X'.2.2.1 t 0) :: _ = _
    rw [had]
  rw [e3] at k1
  exact k1
theorem pb_newa_z {v : Int32} {t n : Nat} (hB : pp_Bx Y cc nL own F L mc ms) (hk : pp_k t = (3, n)) (hf : pp_fr [t] ds zs lv st = true) (hv : ¬ v < 0) (hn : v.toNatClampNeg = n) (hbytes : n * componentBytes .boolean ≤ 536870912) (harr : Cond.arrayClass .boolean ∈ pp_tb) (hcl : cl + 1 = cl') (hsl : sl + n = sl') (hroom : cl' ≤ mc ∧ sl' ≤ ms) (d : decode cc pc = .ok (.newarray .boolean, 2)) (kk : ∀ X' : pp_X, pp_gr [t] X X' → pp_B Y X' (ds ++ [(t, 0)]) zs cl' sl' cc nL (pc + 2) lv (ppR t 0 n :: st) (pp_z σ t)) : pp_B Y X ds zs cl sl cc nL pc lv (ppI v :: st) σ := by
  obtain ⟨p, l, e, R, s, m, args, below, meth, c, Q, cl0, sl0, A⟩ := Y
  intro H locs ls hK hP hI hS hl
  subst hcl
  subst hsl
  refine va_newaK (atype := .boolean) (N := n) hB.1 hB.2.1 (hB.2.2.2.2.1 _ harr) (g := F0 m pc ls ((ppI v :: st).map (ppv X.2.2.1))) rfl d rfl hv hn hbytes (Nat.le_trans hroom.1 hB.2.2.2.2.2.2.2.1.1) (Nat.le_trans hroom.2 hB.2.2.2.2.2.2.2.1.2) rfl (fun H1 cA h1 h2 h3 h4 h5 => ?_)
  have hcA : cA = X.2.2.2.2.2.1 := Option.some.inj (h5.symm.trans (hK.2 2 _ rfl).2)
  subst hcA
  obtain ⟨X', hX'⟩ : ∃ X' : pp_X, X' = (X.1, X.2.1, fun a b => if a = t then H.size else X.2.2.1 a b, X.2.2.2) := ⟨_, rfl⟩
  have hg : pp_gr [t] X X' := by
    subst hX'
    refine ⟨rfl, rfl, rfl, fun a b h => if_neg (fun q => h (by rw [q]; exact List.mem_singleton.mpr rfl))⟩
  have hlt := pp_P_lt hP
  have had : X'.2.2.1 t 0 = H.size := by subst hX'; exact if_pos rfl
  obtain ⟨e1, e2⟩ := pp_gr_lv hg hf
  have hσ : ∀ a, a ∉ [t] → (∀ j, (pp_z σ t).1 a j = σ.1 a j) ∧ ∀ j, (pp_z σ t).2 a j = σ.2 a j := fun a ha => by
    have : a ≠ t := fun q => ha (by rw [q]; exact List.mem_singleton.mpr rfl)
    exact ⟨fun j => if_neg this, fun j => if_neg this⟩
  have hP0 : pp_P X' ds zs (pp_z σ t) H1 := pp_gr_P hg hf hσ hP (fun q hq _ => h3 q hq)
  have hnew : va_at (X'.1, X'.2.1) pp_cl (X'.2.2.1 t 0, pp_cell X' (pp_z σ t) t 0) H1 := by
    rw [had, pp_cell_z hk]
    have hid : X'.2.2.2 = X.2.2.2 := hg.2.2.1
    show H1[H.size]? = some (vp_cell _ _)
    rw [h1, hid]
    have ef : (fun j => if j < n then (pp_z σ t).1 t (0 + j) else 0) = (fun _ => 0) := by
      funext j
      simp [pp_z]
    rw [ef]
    rfl
  have hP' : pp_P X' (ds ++ [(t, 0)]) zs (pp_z σ t) H1 := ⟨fun q hq => by
    rcases List.mem_append.mp hq with h | h
    · exact hP0.1 q h
    · rw [List.mem_singleton.mp h]; exact hnew, hP0.2⟩
  have hI' : pp_I X' A ((ds ++ [(t, 0)]) ++ pp_zk zs) := by
    refine pp_I_grow hg hf hI hlt (fun q hq => ?_) (fun q hq q' hq' _ => ?_) (fun q hq => ?_)
    · rw [List.mem_singleton.mp hq]; exact Nat.le_of_eq had.symm
    · rw [List.mem_singleton.mp hq, List.mem_singleton.mp hq']
    · rw [List.mem_singleton.mp hq]
      show A (X'.2.2.1 t 0)
      rw [had]
      exact hB.2.2.2.2.2.1 _ hS.1
  have hK' : va_K (X'.1, X'.2.1) pp_cl (pp_ty X') s := by rw [pp_ty_gr hg, hg.1, hg.2.1]; exact hK
  have k1 := kk X' hg H1 locs ls hK' hP' hI' ⟨by rw [h2]; have := hS.1; omega, fun q a1 a2 => (h3 q (Nat.lt_of_lt_of_le a1 hS.1)).trans (hS.2.1 q a1 a2), hS.2.2⟩ (by rw [e1]; exact hl)
  have e3 : (ppR t 0 n :: st).map (ppv X'.2.2.1) = .ref H.size :: st.map (ppv X.2.2.1) := by
    rw [List.map_cons, e2]
    show Value.ref (X'.2.2.1 t 0) :: _ = _
    rw [had]
  rw [e3] at k1
  exact k1
end PPB
