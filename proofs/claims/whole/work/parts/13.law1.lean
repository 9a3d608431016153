/-! rules for the law's start: objects made where no object is being made -/
def pp_Bl (Y : pp_Y) (cc : ByteArray) (nL : Nat) (own : String) (F L mc ms : Nat) : Prop := match Y with
  | (p, l, e, R, s, m, args, below, meth, c, Q, _, _, A) => p.tables.exec = Jvm.exec ∧ c.code = cc ∧ c.maxLocals = nL ∧ s.vm.findClass own = some m.cls ∧ (∀ w ∈ pp_tb, w.before args s = true) ∧ (∀ q, s.heap.size ≤ q → A q) ∧ (F ≤ R.frames ∧ L ≤ R.locals) ∧ (mc ≤ R.cells ∧ ms ≤ R.slots) ∧ pp_Nw s ∧ pp_Ao s
section PPL
variable {Y : pp_Y} {X : pp_X} {ds : List (Nat × Nat)} {zs : List pp_Z} {cl sl cl' sl' : Nat} {cc : ByteArray} {nL : Nat} {own : String} {F L mc ms pc : Nat} {lv lv' : List (Nat × pp_V)} {st : List pp_V} {σ : pp_M}
theorem pl_dupR {t o n : Nat} (hB : pp_Bl Y cc nL own F L mc ms) (d : decode cc pc = .ok (.dup, 1)) (k : pp_B Y X ds zs cl sl cc nL (pc + 1) lv (ppR t o n :: ppR t o n :: st) σ) : pp_B Y X ds zs cl sl cc nL pc lv (ppR t o n :: st) σ := by
  obtain ⟨p, l, e, R, s, m, args, below, meth, c, Q, cl0, sl0, A⟩ := Y
  intro H locs ls hK hP hI hS hl
  exact lv_dup hB.1 hB.2.1 d rfl (k H locs ls hK hP hI hS hl)
theorem pl_astore_n {j : Fin 4} {i t o n : Nat} (hB : pp_Bl Y cc nL own F L mc ms) (d : decode cc pc = .ok (.astore_n j, 1)) (hi : (j : Nat) = i) (hn : i < nL) (hp : pp_put i (ppR t o n) lv = lv') (k : pp_B Y X ds zs cl sl cc nL (pc + 1) lv' st σ) : pp_B Y X ds zs cl sl cc nL pc lv (ppR t o n :: st) σ := by
  obtain ⟨p, l, e, R, s, m, args, below, meth, c, Q, cl0, sl0, A⟩ := Y
  intro H locs ls hK hP hI hS hl
  exact lv_astore_n hB.1 hB.2.1 d hi hl hn rfl (fun ls' hl' => k H locs ls' hK hP hI hS (pp_put1 rfl hp hl'))
theorem pl_new {t ci N idx : Nat} {C : String} {T : u_T} {ty : Nat → FieldType} {fs : List (Option pp_V)} (hB : pp_Bl Y cc nL own F L mc ms) (hc : pp_cl[ci]? = some (C, T, N)) (hin : ∀ w ∈ u_ws C T N, w ∈ pp_tb) (hty : ∀ k, k < N → parseFieldDescriptor (T k).2.2.1 = some (ty k)) (hlk : Cond.classLink own idx C ∈ pp_tb) (hins : Cond.instantiable C N ∈ pp_tb) (hini : Cond.initialized C ∈ pp_tb) (hfs : ∀ ad j, j < N → defaultValue (ty j) = vp_V (fs.map (pp_zf ad)) j) (hfn : fs.all (pp_on [t]) = true) (hf : pp_fr [t] ds [] lv st = true) (hnd : (ds ++ pp_zk []).Nodup) (hcl : cl + 1 = cl') (hsl : sl + N = sl') (hroom : cl' ≤ mc ∧ sl' ≤ ms) (d : decode cc pc = .ok (.new idx, 3)) (kk : ∀ X' : pp_X, pp_gr [t] X X' → pp_B Y X' ds [(t, ci, fs)] cl' sl' cc nL (pc + 3) lv (ppR t 0 0 :: st) σ) : pp_B Y X ds [] cl sl cc nL pc lv st σ := by
  obtain ⟨p, l, e, R, s, m, args, below, meth, c, Q, cl0, sl0, A⟩ := Y
  intro H locs ls hK hP hI hS hl
  subst hcl
  subst hsl
  have hD := pp_I_D (σ := σ) hnd hI
  refine va_new (ty := ty) hB.1 hB.2.1 hB.2.2.2.2.1 hin hty hB.2.2.2.1 (hB.2.2.2.2.1 _ hlk) (hB.2.2.2.2.1 _ hins) (hB.2.2.2.2.1 _ hini) hK (pp_P_ws.mp hP) hD hS hB.2.2.2.2.2.1 hc (fs := fs.map (pp_zf X.2.2.1)) (hfs _) (Nat.le_trans hroom.1 hB.2.2.2.2.2.2.2.1.1) (Nat.le_trans hroom.2 hB.2.2.2.2.2.2.2.1.2) d (fun q H1 hP1 hD1 hS1 => ?_)
  obtain ⟨X', hX'⟩ : ∃ X' : pp_X, X' = (X.1, X.2.1, fun a b => if a = t then q else X.2.2.1 a b, X.2.2.2) := ⟨_, rfl⟩
  have hg : pp_gr [t] X X' := by
    subst hX'
    refine ⟨rfl, rfl, rfl, fun a b h => if_neg (fun x => h (by rw [x]; exact List.mem_singleton.mpr rfl))⟩
  have had : X'.2.2.1 t 0 = q := by subst hX'; exact if_pos rfl
  obtain ⟨e1, e2⟩ := pp_gr_lv hg hf
  have hPall : ∀ x ∈ pp_ws X ds [] σ ++ [(q, .inr (ci, fs.map (pp_zf X.2.2.1)))], va_at (X.1, X.2.1) pp_cl x H1 := fun x hx => by
    obtain ⟨k, hk⟩ := List.getElem?_of_mem hx
    exact hP1 k x hk
  have hPold : pp_P X ds [] σ H1 := ⟨fun d hd => hPall _ (List.mem_append_left _ (List.mem_append_left _ (List.mem_map.mpr ⟨d, hd, rfl⟩))), fun w hw => absurd hw List.not_mem_nil⟩
  have hP0 : pp_P X' ds [] σ H1 := pp_gr_P hg hf (fun a _ => ⟨fun _ => rfl, fun _ => rfl⟩) hPold (fun _ _ _ => rfl)
  have hzc : pp_zc X' (t, ci, fs) = (q, .inr (ci, fs.map (pp_zf X.2.2.1))) := by
    unfold pp_zc
    rw [had]
    congr 3
    apply List.map_congr_left
    intro v hv
    exact pp_on_eq hg (List.all_eq_true.mp hfn v hv)
  have hnew : va_at (X'.1, X'.2.1) pp_cl (pp_zc X' (t, ci, fs)) H1 := by
    rw [hzc, hg.1, hg.2.1]
    exact hPall _ (List.mem_append_right _ (List.mem_singleton.mpr rfl))
  have hP' : pp_P X' ds [(t, ci, fs)] σ H1 := ⟨hP0.1, fun w hw => by rw [List.mem_singleton.mp hw]; exact hnew⟩
  have hkk := pp_gr_key hg hf
  have hqne : ∀ k ∈ ds ++ pp_zk [], X.2.2.1 k.1 k.2 ≠ q := fun k hk hq => by
    obtain ⟨i, hi⟩ := List.getElem?_of_mem hk
    have hil : i < (pp_ws X ds [] σ).length := by
      have := (List.getElem?_eq_some_iff.mp hi).1
      unfold pp_ws pp_wd pp_zk at *
      simpa using this
    obtain ⟨x, hx⟩ : ∃ x, (pp_ws X ds [] σ)[i]? = some x := ⟨_, List.getElem?_eq_getElem hil⟩
    obtain ⟨k', hk', hx1⟩ := pp_ws_key hx
    rw [hi] at hk'
    cases hk'
    have a1 : (pp_ws X ds [] σ ++ [(q, .inr (ci, fs.map (pp_zf X.2.2.1)))])[i]? = some x := by rw [List.getElem?_append_left hil]; exact hx
    have a2 : (pp_ws X ds [] σ ++ [(q, .inr (ci, fs.map (pp_zf X.2.2.1)))])[(pp_ws X ds [] σ).length]? = some (q, .inr (ci, fs.map (pp_zf X.2.2.1))) := by rw [List.getElem?_append_right (Nat.le_refl _), Nat.sub_self]; rfl
    have := hD1.1 _ _ _ _ a1 a2 (hx1.trans hq)
    omega
  have hAq : A q := by
    have a2 : (pp_ws X ds [] σ ++ [(q, .inr (ci, fs.map (pp_zf X.2.2.1)))])[(pp_ws X ds [] σ).length]? = some (q, .inr (ci, fs.map (pp_zf X.2.2.1))) := by rw [List.getElem?_append_right (Nat.le_refl _), Nat.sub_self]; rfl
    exact hD1.2 _ _ a2
  have split : ∀ k ∈ ds ++ pp_zk [(t, ci, fs)], k ∈ ds ++ pp_zk [] ∨ k = (t, 0) := fun k hk => by
    rcases List.mem_append.mp hk with h | h
    · exact Or.inl (List.mem_append_left _ h)
    · exact Or.inr (List.mem_singleton.mp h)
  have hI' : pp_I X' A (ds ++ pp_zk [(t, ci, fs)]) := by
    refine ⟨fun k hk k' hk' he => ?_, fun k hk => ?_⟩
    · rcases split k hk with h | h <;> rcases split k' hk' with h' | h'
      · exact hI.1 k h k' h' (by rw [← hkk k h, ← hkk k' h']; exact he)
      · subst h'
        rw [hkk k h] at he
        exact absurd (he.trans had) (hqne k h)
      · subst h
        rw [hkk k' h'] at he
        exact absurd (he.symm.trans had) (hqne k' h')
      · rw [h, h']
    · rcases split k hk with h | h
      · rw [hkk k h]; exact hI.2 k h
      · rw [h]
        show A (X'.2.2.1 t 0)
        rw [had]; exact hAq
  have k1 := kk X' hg H1 locs ls (pp_K_gr hg hK) hP' hI' hS1 (by rw [e1]; exact hl)
  have e3 : (ppR t 0 0 :: st).map (ppv X'.2.2.1) = .ref q :: st.map (ppv X.2.2.1) := by
    rw [List.map_cons, e2]
    show Value.ref (X'.2.2.1 t 0) :: _ = _
    rw [had]
  rw [e3] at k1
  exact k1
theorem pl_init {y : MethodName} {cc' : ByteArray} {nL' F' L' mc' ms' t ci n idx : Nat} {fs : List (Option pp_V)} {as stk rest : List pp_V} {new P : List Nat} {ds' : List (Nat × Nat)} {σ' : pp_M} (hB : pp_Bl Y cc nL own F L mc ms) (hC : pp_Cn y cc' nL' F' L' mc' ms' t ci fs as new ds' σ') (hM : pp_MI y cc' nL' n) (hk : pp_Lk own idx y) (hn : as.length = n) (hst : stk = as.reverse ++ ppR t 0 0 :: rest) (hroom : F' + 1 ≤ F ∧ 8 + (nL' + 11) + L' ≤ L) (hcs : pp_cs rest ≤ 8) (hfr : pp_fr new ds [] lv rest = true) (hnt : (t, 0) ∉ ds ++ pp_zk []) (hPy : ds'.all (fun d => P.contains d.1) = true) (hPn : ds.all (fun d => !(P.contains d.1)) = true) (hcl : cl + mc' = cl') (hsl : sl + ms' = sl') (hr2 : cl' ≤ mc ∧ sl' ≤ ms) (d : decode cc pc = .ok (.invokespecial idx, 3)) (kk : ∀ X' : pp_X, pp_gr new X X' → pp_B Y X' (ds ++ ds') [] cl' sl' cc nL (pc + 3) lv rest (pp_mx P σ σ')) : pp_B Y X ds [(t, ci, fs)] cl sl cc nL pc lv stk σ := by
  obtain ⟨p, l, e, R, s, m, args, below, meth, c, Q, cl0, sl0, A⟩ := Y
  intro H locs ls hK hP hI hS hl
  subst hst
  subst hcl
  subst hsl
  obtain ⟨hx, hbc, hml, hown, hts, hA, hrm, hcl0, hNw, hAo⟩ := hB
  obtain ⟨m1, m2, m3, m4, m5⟩ := hM
  have hpre : PreS s H (pp_Pn X t ci fs as H.size) (.ref (X.2.2.1 t 0) :: as.map (ppv X.2.2.1)) := ⟨pp_blindN, fun U hU hW => ⟨rfl, by rw [hU], by rw [hU]; exact hP.2 (t, ci, fs) List.mem_cons_self, va_K.moved hW.alike hK, hNw.warm hW, hAo.moved hW.alike⟩⟩
  have hR' : F' + 1 ≤ R.frames ∧ 8 + (nL' + 11) + L' ≤ R.locals := ⟨Nat.le_trans hroom.1 hrm.1, Nat.le_trans hroom.2 hrm.2⟩
  have hcs' : 2 * (F0 m pc ls ((as.reverse ++ ppR t 0 0 :: rest).map (ppv X.2.2.1))).monitorRoom + ((rest.map (ppv X.2.2.1)).map fun v => v.category).sum ≤ 8 := lv_room (by rw [pp_cs_eq]; exact hcs)
  have hf : cl + mc' ≤ R.cells ∧ sl + ms' ≤ R.slots := ⟨Nat.le_trans hr2.1 hcl0.1, Nat.le_trans hr2.2 hcl0.2⟩
  have hrun : va_Run p l e R s m args below meth c H locs cl sl mc' ms' (F0 m pc ls ((as.reverse ++ ppR t 0 0 :: rest).map (ppv X.2.2.1))) (rest.map (ppv X.2.2.1)) (pp_Qn X new ds' (pp_An X t H.size) σ' (Value.ref (X.2.2.1 t 0) :: as.map (ppv X.2.2.1)).toArray) (pp_An X t H.size) := by
    rcases hk with hk | hk
    · exact va_runI (As := as.map (ppv X.2.2.1)) (rest := rest.map (ppv X.2.2.1)) ⟨hx, hbc, hml, hown, hts⟩ (hC l X H.size) ⟨callB_of n hts (pp_goodIn m1) rfl rfl rfl (hts _ m2) (hts _ hk) m3 hR', m5, hts _ m4⟩ hpre rfl (by rw [List.length_map]; exact hn) hl.1 (by simp [ppv, ppR]) hcs' d hf
    · exact va_runIN (As := as.map (ppv X.2.2.1)) (rest := rest.map (ppv X.2.2.1)) ⟨hx, hbc, hml, hown, hts⟩ (hC l X H.size) ⟨⟨⟨rfl, rfl, hR'.1, hR'.2, pay_in hts (pp_goodIn m1), List.mem_cons_self⟩, hts _ m1, hts _ m2, ⟨m3.1, m3.2.1⟩, (fun sig h => by have h2 := m3.2.2; rw [h] at h2; exact (Option.some.inj h2).symm), va_Nw.use rfl (hNw _ hk)⟩, m5, hts _ m4⟩ hpre rfl (by rw [List.length_map]; exact hn) hl.1 (by simp [ppv, ppR]) hcs' d hf
  intro T hT Xs
  obtain ⟨v, st₀, t2, T', L', h0, XF, hL, e1, e2, ⟨hv, ⟨X', hg, hds', hI'⟩, hK2, hz, hkp⟩, stp⟩ := hrun T hT Xs
  cases hv
  rw [h0] at hz hkp
  have hsub : ∀ k ∈ ds ++ pp_zk [], k ∈ ds ++ pp_zk [(t, ci, fs)] := fun k h => by
    rcases List.mem_append.mp h with h | h
    · exact List.mem_append_left _ h
    · exact absurd h List.not_mem_nil
  have htin : (t, 0) ∈ ds ++ pp_zk [(t, ci, fs)] := List.mem_append_right _ List.mem_cons_self
  have hPs : pp_P X ds [] σ H := ⟨hP.1, fun w hw => absurd hw List.not_mem_nil⟩
  have hlt := pp_P_lt hPs
  have hne : ∀ k ∈ ds ++ pp_zk [], X.2.2.1 k.1 k.2 ≠ X.2.2.1 t 0 := fun k hk q => hnt (by
    have h9 := hI.1 k (hsub k hk) (t, 0) htin q
    rw [← h9]; exact hk)
  have hold : ∀ q : Nat, q < H.size → (∃ k ∈ ds ++ pp_zk [], q = X.2.2.1 k.1 k.2) → T'.heap[q]? = H[q]? := fun q hq ⟨k, hk, hqk⟩ => by
    rw [e1]
    refine hkp q hq (fun h => ?_)
    rcases h with h | h
    · exact hne k hk (hqk.symm.trans h)
    · omega
  have hP0 : pp_P X' ds [] σ T'.heap := pp_gr_P hg hfr (fun a _ => ⟨fun _ => rfl, fun _ => rfl⟩) hPs hold
  have hP' : pp_P X' (ds ++ ds') [] (pp_mx P σ σ') T'.heap := ⟨fun k hk => by
    rcases List.mem_append.mp hk with h | h
    · have h9 : k.1 ∉ P := pp_nc (List.all_eq_true.mp hPn k h)
      rw [pp_cell_cong (σ := σ) (fun j => if_neg h9) (fun j => if_neg h9)]
      exact hP0.1 k h
    · have h9 : k.1 ∈ P := List.contains_iff_mem.mp (List.all_eq_true.mp hPy k h)
      rw [pp_cell_cong (σ := σ') (fun j => if_pos h9) (fun j => if_pos h9), e1]
      exact hds' k h, hP0.2⟩
  have hkk := pp_gr_key hg hfr
  have hAn : ∀ q, pp_An X t H.size q → A q := fun q h => by
    rcases h with h | h
    · rw [h]; exact hI.2 (t, 0) htin
    · exact hA q (Nat.le_trans hS.1 h)
  have split : ∀ k ∈ (ds ++ ds') ++ pp_zk [], k ∈ ds ++ pp_zk [] ∨ k ∈ ds' := fun k hk => by
    rcases List.mem_append.mp hk with h | h
    · rcases List.mem_append.mp h with h | h
      · exact Or.inl (List.mem_append_left _ h)
      · exact Or.inr h
    · exact absurd h List.not_mem_nil
  have hcross : ∀ k ∈ ds ++ pp_zk [], ∀ k' ∈ ds', X'.2.2.1 k.1 k.2 ≠ X'.2.2.1 k'.1 k'.2 := fun k hk k' hk' q => by
    rw [hkk k hk] at q
    rcases hI'.2 k' hk' with h | h
    · exact hne k hk (q.trans h)
    · have := hlt k hk
      omega
  have hI2 : pp_I X' A ((ds ++ ds') ++ pp_zk []) := by
    refine ⟨fun k hk k' hk' he => ?_, fun k hk => ?_⟩
    · rcases split k hk with h | h <;> rcases split k' hk' with h' | h'
      · exact hI.1 k (hsub k h) k' (hsub k' h') (by rw [← hkk k h, ← hkk k' h']; exact he)
      · exact absurd he (hcross k h k' h')
      · exact absurd he.symm (hcross k' h' k h)
      · exact hI'.1 k h k' h' he
    · rcases split k hk with h | h
      · rw [hkk k h]; exact hI.2 k (hsub k h)
      · exact hAn _ (hI'.2 k h)
  obtain ⟨e3, e4⟩ := pp_gr_lv hg hfr
  have k1 := kk X' hg T'.heap (locs ++ L') ls (pp_K_gr hg hK) hP' hI2 ⟨Nat.le_trans hS.1 (by rw [e1]; exact hz), fun q a1 a2 => by rw [e1, hkp q (Nat.lt_of_lt_of_le a1 hS.1) (fun h => a2 (hAn q h))]; exact hS.2.1 q a1 a2, fun q hq => by
    rcases List.mem_append.mp hq with h | h
    · exact hS.2.2 q h
    · exact hAn _ (hL q h)⟩ (by rw [e3]; exact hl)
  rw [e4] at k1
  obtain ⟨t3, a1, b1⟩ := k1 T' rfl XF
  exact ⟨t3, stp t3 a1, b1⟩
end PPL
