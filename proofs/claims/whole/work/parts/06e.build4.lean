/-! new objects, constructors' contracts -/
def pp_An (X : pp_X) (t sz : Nat) : Nat → Prop := fun q => q = X.2.2.1 t 0 ∨ sz ≤ q
/-- behind a constructor: the object t and what it made, as the cells ds tell, in the memory σ -/
def pp_Qn (X : pp_X) (new : List Nat) (ds : List (Nat × Nat)) (A : Nat → Prop) (σ : pp_M) : Array Value → State → Outcome → State → Prop := fun _ st oc t => oc = .returned none ∧ (∃ X' : pp_X, pp_gr new X X' ∧ (∀ d ∈ ds, va_at (X'.1, X'.2.1) pp_cl (X'.2.2.1 d.1 d.2, pp_cell X' σ d.1 d.2) t.heap) ∧ pp_I X' A ds) ∧ va_K (X.1, X.2.1) pp_cl (pp_ty X) t ∧ va_F A st t
def pp_Pn (X : pp_X) (t ci : Nat) (fs : List (Option pp_V)) (as : List pp_V) (sz : Nat) : Array Value → State → Prop := va_Pc ((ppR t 0 0 :: as).map (ppv X.2.2.1)) (fun U => U.heap.size = sz ∧ va_at (X.1, X.2.1) pp_cl (pp_zc X (t, ci, fs)) U.heap ∧ va_K (X.1, X.2.1) pp_cl (pp_ty X) U ∧ pp_Nw U ∧ pp_Ao U)
def pp_Cn (y : MethodName) (cc : ByteArray) (nL F L mc ms t ci : Nat) (fs : List (Option pp_V)) (as : List pp_V) (new : List Nat) (ds : List (Nat × Nat)) (σ : pp_M) : Prop := ∀ (l : Launch) (X : pp_X) (sz : Nat), Met l y (.code y cc nL none :: pp_tb) { frames := F, cells := mc, slots := ms, locals := L } (pp_Pn X t ci fs as sz) (pp_Qn X new ds (pp_An X t sz) σ) mc ms (pp_An X t sz)
def pp_mx (P : List Nat) (σ σ' : pp_M) : pp_M := (fun a b => if a ∈ P then σ'.1 a b else σ.1 a b, fun a b => if a ∈ P then σ'.2 a b else σ.2 a b)
section PPB4
variable {Y : pp_Y} {X : pp_X} {ds : List (Nat × Nat)} {zs : List pp_Z} {cl sl cl' sl' : Nat} {cc : ByteArray} {nL : Nat} {own : String} {F L mc ms pc : Nat} {lv lv' : List (Nat × pp_V)} {st : List pp_V} {σ : pp_M}
theorem pp_K_gr {new : List Nat} {X X' : pp_X} {s : State} (hg : pp_gr new X X') (hK : va_K (X.1, X.2.1) pp_cl (pp_ty X) s) : va_K (X'.1, X'.2.1) pp_cl (pp_ty X') s := by rw [pp_ty_gr hg, hg.1, hg.2.1]; exact hK
theorem pb_new {t ci N idx : Nat} {C : String} {T : u_T} {ty : Nat → FieldType} {fs : List (Option pp_V)} {z : pp_Z} {zs' : List pp_Z} (hB : pp_Bx Y cc nL own F L mc ms) (hc : pp_cl[ci]? = some (C, T, N)) (hin : ∀ w ∈ u_ws C T N, w ∈ pp_tb) (hty : ∀ k, k < N → parseFieldDescriptor (T k).2.2.1 = some (ty k)) (hlk : Cond.classLink own idx C ∈ pp_tb) (hins : Cond.instantiable C N ∈ pp_tb) (hini : Cond.initialized C ∈ pp_tb) (hfs : ∀ ad j, j < N → defaultValue (ty j) = vp_V (fs.map (pp_zf ad)) j) (hfn : fs.all (pp_on [t]) = true) (hf : pp_fr [t] ds (z :: zs') lv st = true) (hnd : (ds ++ pp_zk (z :: zs')).Nodup) (hcl : cl + 1 = cl') (hsl : sl + N = sl') (hroom : cl' ≤ mc ∧ sl' ≤ ms) (d : decode cc pc = .ok (.new idx, 3)) (kk : ∀ X' : pp_X, pp_gr [t] X X' → pp_B Y X' ds (z :: (t, ci, fs) :: zs') cl' sl' cc nL (pc + 3) lv (ppR t 0 0 :: st) σ) : pp_B Y X ds (z :: zs') cl sl cc nL pc lv st σ := by
  obtain ⟨p, l, e, R, s, m, args, below, meth, c, Q, cl0, sl0, A⟩ := Y
  intro H locs ls hK hP hI hS hl
  subst hcl
  subst hsl
  have hD := pp_I_D (σ := σ) hnd hI
  refine va_new (ty := ty) hB.1 hB.2.1 hB.2.2.2.2.1 hin hty hB.2.2.2.1 (hB.2.2.2.2.1 _ hlk) (hB.2.2.2.2.1 _ hins) (hB.2.2.2.2.1 _ hini) hK (pp_P_ws.mp hP) hD hS hB.2.2.2.2.2.1 hc (fs := fs.map (pp_zf X.2.2.1)) (hfs _) (Nat.le_trans hroom.1 hB.2.2.2.2.2.2.2.1.1) (Nat.le_trans hroom.2 hB.2.2.2.2.2.2.2.1.2) d (fun q H1 hP1 hD1 hS1 => ?_)
  obtain ⟨X', hX'⟩ : ∃ X' : pp_X, X' = (X.1, X.2.1, fun a b => if a = t then q else X.2.2.1 a b, X.2.2.2) := ⟨_, rfl⟩
  have hg : pp_gr [t] X X' := by
    subst hX'
    refine ⟨rfl, rfl, rfl, fun a b h => if_neg (fun x => h (by rw [x]; exact List.mem_singleton.mpr rfl))⟩
  have had : X'.2.2.1 t 0 = q := by subst hX'; exact if_pos rfl
  obtain ⟨e1, e2⟩ := pp_gr_lv hg hf
  have hlen : (pp_ws X ds (z :: zs') σ).length = (pp_ws X ds (z :: zs') σ).length := rfl
  -- every old cell stands in H1
  have hPall : ∀ x ∈ pp_ws X ds (z :: zs') σ ++ [(q, .inr (ci, fs.map (pp_zf X.2.2.1)))], va_at (X.1, X.2.1) pp_cl x H1 := fun x hx => by
    obtain ⟨k, hk⟩ := List.getElem?_of_mem hx
    exact hP1 k x hk
  have hPold : pp_P X ds (z :: zs') σ H1 := ⟨fun d hd => hPall _ (List.mem_append_left _ (List.mem_append_left _ (List.mem_map.mpr ⟨d, hd, rfl⟩))), fun w hw => hPall _ (List.mem_append_left _ (List.mem_append_right _ (List.mem_map.mpr ⟨w, hw, rfl⟩)))⟩
  have hP0 : pp_P X' ds (z :: zs') σ H1 := pp_gr_P hg hf (fun a _ => ⟨fun _ => rfl, fun _ => rfl⟩) hPold (fun _ _ _ => rfl)
  have hzc : pp_zc X' (t, ci, fs) = (q, .inr (ci, fs.map (pp_zf X.2.2.1))) := by
    unfold pp_zc
    rw [had]
    congr 3
    apply List.map_congr_left
    intro v hv
    exact pp_on_eq hg (List.all_eq_true.mp hfn v hv)
  have hnew : va_at (X'.1, X'.2.1) pp_cl (pp_zc X' (t, ci, fs)) H1 := by
    rw [hzc, hg.1, hg.2.1]
    exact hPall _ (List.mem_append_right _ (List.mem_singleton.mpr rfl))
  have hP' : pp_P X' ds (z :: (t, ci, fs) :: zs') σ H1 := ⟨hP0.1, fun w hw => by
    rcases List.mem_cons.mp hw with h | h
    · rw [h]; exact hP0.2 z List.mem_cons_self
    · rcases List.mem_cons.mp h with h | h
      · rw [h]; exact hnew
      · exact hP0.2 w (List.mem_cons_of_mem _ h)⟩
  have hkk := pp_gr_key hg hf
  -- the new address is none of the old ones
  have hqne : ∀ k ∈ ds ++ pp_zk (z :: zs'), X.2.2.1 k.1 k.2 ≠ q := fun k hk hq => by
    obtain ⟨i, hi⟩ := List.getElem?_of_mem hk
    have hil : i < (pp_ws X ds (z :: zs') σ).length := by
      have := (List.getElem?_eq_some_iff.mp hi).1
      unfold pp_ws pp_wd pp_zk at *
      simpa using this
    obtain ⟨x, hx⟩ : ∃ x, (pp_ws X ds (z :: zs') σ)[i]? = some x := ⟨_, List.getElem?_eq_getElem hil⟩
    obtain ⟨k', hk', hx1⟩ := pp_ws_key hx
    rw [hi] at hk'
    cases hk'
    have a1 : (pp_ws X ds (z :: zs') σ ++ [(q, .inr (ci, fs.map (pp_zf X.2.2.1)))])[i]? = some x := by rw [List.getElem?_append_left hil]; exact hx
    have a2 : (pp_ws X ds (z :: zs') σ ++ [(q, .inr (ci, fs.map (pp_zf X.2.2.1)))])[(pp_ws X ds (z :: zs') σ).length]? = some (q, .inr (ci, fs.map (pp_zf X.2.2.1))) := by rw [List.getElem?_append_right (Nat.le_refl _), Nat.sub_self]; rfl
    have := hD1.1 _ _ _ _ a1 a2 (hx1.trans hq)
    omega
  have hAq : A q := by
    have a2 : (pp_ws X ds (z :: zs') σ ++ [(q, .inr (ci, fs.map (pp_zf X.2.2.1)))])[(pp_ws X ds (z :: zs') σ).length]? = some (q, .inr (ci, fs.map (pp_zf X.2.2.1))) := by rw [List.getElem?_append_right (Nat.le_refl _), Nat.sub_self]; rfl
    exact hD1.2 _ _ a2
  have split : ∀ k ∈ ds ++ pp_zk (z :: (t, ci, fs) :: zs'), k ∈ ds ++ pp_zk (z :: zs') ∨ k = (t, 0) := fun k hk => by
    rcases List.mem_append.mp hk with h | h
    · exact Or.inl (List.mem_append_left _ h)
    · rcases List.mem_cons.mp h with h | h
      · exact Or.inl (List.mem_append_right _ (by rw [h]; exact List.mem_cons_self))
      · rcases List.mem_cons.mp h with h | h
        · exact Or.inr h
        · exact Or.inl (List.mem_append_right _ (List.mem_cons_of_mem _ h))
  have hI' : pp_I X' A (ds ++ pp_zk (z :: (t, ci, fs) :: zs')) := by
    refine ⟨fun k hk k' hk' he => ?_, fun k hk => ?_⟩
    · rcases split k hk with h | h <;> rcases split k' hk' with h' | h'
      · exact hI.1 k h k' h' (by rw [← hkk k h, ← hkk k' h']; exact he)
      · subst h'
        rw [hkk k h] at he
        exact absurd (he.trans had) (hqne k h)
      · subst h
        rw [hkk k' h'] at he
        exact absurd (he.symm.trans had) (hqne k' h')
      · rw [h, h']
    · rcases split k hk with h | h
      · rw [hkk k h]; exact hI.2 k h
      · rw [h]
        show A (X'.2.2.1 t 0)
        rw [had]; exact hAq
  have k1 := kk X' hg H1 locs ls (pp_K_gr hg hK) hP' hI' hS1 (by rw [e1]; exact hl)
  have e3 : (ppR t 0 0 :: st).map (ppv X'.2.2.1) = .ref q :: st.map (ppv X.2.2.1) := by
    rw [List.map_cons, e2]
    show Value.ref (X'.2.2.1 t 0) :: _ = _
    rw [had]
  rw [e3] at k1
  exact k1

/-- all its fields stand: the object is one of the world -/
theorem pb_done {t ci N : Nat} {fs : List (Option pp_V)} {ffs : List (Nat × Nat × Nat × Nat)} {σ' σf : pp_M} {new : List Nat} {X0 : pp_X} {p : Program} {l : Launch} {e : Env} {R : Room} {s : State} {m : MethodId} {args : Array Value} {below : List Frame} {meth : Method} {c : Code} {cl0 sl0 : Nat} {A : Nat → Prop} {dsF : List (Nat × Nat)} (hB : pp_Bx (p, l, e, R, s, m, args, below, meth, c, MQ below (pp_Qn X0 new dsF A σf) args s mc ms A, cl0, sl0, A) cc nL own F L mc ms) (hg : pp_gr new X0 X) (he : pp_e t = (0, ci, N, ffs)) (hfs : ∀ ad, fs.map (pp_zf ad) = pp_fl ad σ' t 0 ffs) (hσ : ∀ a, a ≠ t → (∀ j, σ'.1 a j = σ.1 a j) ∧ ∀ j, σ'.2 a j = σ.2 a j) (hnt : ds.all (fun d => !(Nat.beq d.1 t)) = true) (hdsF : ds ++ [(t, 0)] = dsF) (hnd : dsF.Nodup) (hok : pp_ok dsF) (hret : meth.sig.returnType = none)
    (kk : ∀ Γ : pp_G, pp_Fx Γ dsF cc nL own F L → pp_Rt Γ dsF none none σf → pp_E Γ dsF cc nL pc lv st σ') : pp_B (p, l, e, R, s, m, args, below, meth, c, MQ below (pp_Qn X0 new dsF A σf) args s mc ms A, cl0, sl0, A) X ds [(t, ci, fs)] mc ms cc nL pc lv st σ := by
  intro H locs ls hK hP hI hS hl
  subst hdsF
  have hks : ds ++ pp_zk [(t, ci, fs)] = ds ++ [(t, 0)] := rfl
  rw [hks] at hI
  have hP' : ∀ d ∈ ds ++ [(t, 0)], va_at (X.1, X.2.1) pp_cl (X.2.2.1 d.1 d.2, pp_cell X σ' d.1 d.2) H := fun d hd => by
    rcases List.mem_append.mp hd with h | h
    · have hne : d.1 ≠ t := fun q => by
        have := List.all_eq_true.mp hnt d h
        rw [q, Nat.beq_refl] at this
        cases this
      rw [pp_cell_cong (hσ d.1 hne).1 (hσ d.1 hne).2]
      exact hP.1 d h
    · rw [List.mem_singleton.mp h]
      have h0 := hP.2 (t, ci, fs) List.mem_cons_self
      unfold pp_zc at h0
      rw [hfs] at h0
      rw [pp_cell_o he]
      exact h0
  have hw : va_P (X.1, X.2.1) pp_cl (pp_wd X (ds ++ [(t, 0)]) σ') H := fun k q hq => by
    obtain ⟨d, hd, rfl⟩ := List.mem_map.mp (List.mem_of_getElem? hq)
    exact hP' d hd
  have k1 := kk ((p, l, e, R, s, m, args, below, meth, c, MQ below (pp_Qc X (ds ++ [(t, 0)]) A none σf) args s mc ms A, mc, ms, A), X) ⟨hB.1, hB.2.1, hB.2.2.1, hB.2.2.2.1, hB.2.2.2.2.1, hK, ⟨pp_I_inj hnd hI, hok, fun q ⟨d, hd, hq⟩ => by rw [hq]; exact hI.2 d hd⟩, hB.2.2.2.2.2.2.1, hB.2.2.2.2.2.2.2.1, hB.2.2.2.2.2.2.2.2.1, hB.2.2.2.2.2.2.2.2.2.1⟩ ⟨hret, rfl⟩ H locs ls hw hS hl
  intro T hT Xs
  obtain ⟨t2, a1, oc, b1, b2, ⟨c1, c2, c3, c4⟩, b4⟩ := k1 T hT Xs
  refine ⟨t2, a1, oc, b1, b2, ⟨c1, ⟨X, hg, fun d hd => ?_, hI⟩, ?_, c4⟩, b4⟩
  · obtain ⟨k, hk, hk2⟩ := pp_wd_at (X := X) (σ := σf) hd
    exact c2 k _ hk2
  · rw [← hg.1, ← hg.2.1, ← pp_ty_gr hg]; exact c3
/-- a constructor's contract out of the walk of its body -/
theorem pp_metN {y : MethodName} {t ci : Nat} {fs : List (Option pp_V)} {as : List pp_V} {new : List Nat} {σ' : pp_M} (hy : plainName y.cls = true) (hown : y.cls = own) (hname : y.name = "<init>") (hn : pp_cs (ppR t 0 0 :: as) ≤ nL) (hlv : pp_args 0 (ppR t 0 0 :: as) = lv)
    (body : ∀ (p : Program) (l : Launch) (e : Env) (R : Room) (s : State) (m : MethodId) (args : Array Value) (below : List Frame) (meth : Method) (c : Code) (X : pp_X) (A : Nat → Prop), meth.sig.returnType = none → pp_Bx (p, l, e, R, s, m, args, below, meth, c, MQ below (pp_Qn X new ds A σ') args s mc ms A, 0, 0, A) cc nL own F L mc ms → pp_B (p, l, e, R, s, m, args, below, meth, c, MQ below (pp_Qn X new ds A σ') args s mc ms A, 0, 0, A) X [] [(t, ci, fs)] 0 0 cc nL 0 lv [] σ) : pp_Cn y cc nL F L mc ms t ci fs as new ds σ' := by
  intro l X sz
  subst hown
  refine Met.ofW (cc := cc) (maxL := nL) (ret := none) hy rfl ?_
  intro p e s m args below meth c s₁ B hml hv
  obtain ⟨rfl, hsz, hP, hK, hNw, hAo⟩ := hv
  subst hsz
  have hts := atoms_spec (ws := .code y cc nL none :: pp_tb) B.pre
  have hin : meth.name = "<init>" := (name_of_methodNamed B.named B.method).1.trans hname
  rw [lg_entry_eq]
  have hl := lv_entry ((ppR t 0 0 :: as).map (ppv X.2.2.1)) (n := nL) (by rw [pp_sl_len]; exact hn)
  rw [pp_args_eq, hlv] at hl
  exact body p l e _ s m _ below meth c X (pp_An X t s.heap.size) B.returns ⟨B.exec, B.bytes, hml, findClass_of_methodNamed B.named, fun w hw => hts w (List.mem_cons_of_mem _ hw), fun q h => Or.inr h, ⟨Nat.le_refl _, Nat.le_refl _⟩, ⟨Nat.le_refl _, Nat.le_refl _⟩, B.notSynchronized, hNw, hin, hAo⟩ s.heap [] _ hK ⟨fun d hd => absurd hd List.not_mem_nil, fun z hz => by rw [List.mem_singleton.mp hz]; exact hP⟩ ⟨fun d hd d' hd' _ => by
    have h1 : d = (t, 0) := List.mem_singleton.mp hd
    have h2 : d' = (t, 0) := List.mem_singleton.mp hd'
    rw [h1, h2], fun d hd => by
    have h1 : d = (t, 0) := List.mem_singleton.mp hd
    rw [h1]; exact Or.inl rfl⟩ va_S.rf hl
end PPB4
