/-! calling a constructor -/
def pp_MI (y : MethodName) (cc : ByteArray) (nL n : Nat) : Prop := Cond.code y cc nL none ∈ pp_tb ∧ Cond.initialized y.cls ∈ pp_tb ∧ (y.cls ≠ "java/lang/invoke/MethodHandle" ∧ y.cls ≠ "java/lang/invoke/VarHandle" ∧ (parseMethodDescriptor y.desc).map (fun d => d.parameters.length) = some n) ∧ Cond.instanceMethod y ∈ pp_tb ∧ y.name = "<init>"
theorem pp_blindN {X : pp_X} {t ci sz : Nat} {fs : List (Option pp_V)} {as : List pp_V} : FrameBlind (pp_Pn X t ci fs as sz) := fun a U g mk q => ⟨q.1, q.2.1, q.2.2.1, va_K.moved (u := U) (U := U.calling g mk a) (Vm.Alike.refl U.vm) q.2.2.2.1, pp_Nw.same (u := U) (U := U.calling g mk a) rfl q.2.2.2.2.1, pp_Ao.moved (u := U) (U := U.calling g mk a) (Vm.Alike.refl U.vm) q.2.2.2.2.2⟩
section PPB5
variable {Y : pp_Y} {X : pp_X} {ds : List (Nat × Nat)} {cl sl cl' sl' : Nat} {cc : ByteArray} {nL : Nat} {own : String} {F L mc ms pc : Nat} {lv : List (Nat × pp_V)} {σ : pp_M}
theorem pb_init {y : MethodName} {cc' : ByteArray} {nL' F' L' mc' ms' t ci n idx : Nat} {fs : List (Option pp_V)} {as stk rest : List pp_V} {new P : List Nat} {ds' : List (Nat × Nat)} {σ' : pp_M} {z : pp_Z} {zs' : List pp_Z} (hB : pp_Bx Y cc nL own F L mc ms) (hC : pp_Cn y cc' nL' F' L' mc' ms' t ci fs as new ds' σ') (hM : pp_MI y cc' nL' n) (hk : pp_Lk own idx y) (hn : as.length = n) (hst : stk = as.reverse ++ ppR t 0 0 :: rest) (hroom : F' + 1 ≤ F ∧ 8 + (nL' + 11) + L' ≤ L) (hcs : pp_cs rest ≤ 8) (hfr : pp_fr new ds (z :: zs') lv rest = true) (hnt : (t, 0) ∉ ds ++ pp_zk (z :: zs')) (hPy : ds'.all (fun d => P.contains d.1) = true) (hPn : ds.all (fun d => !(P.contains d.1)) = true) (hcl : cl + mc' = cl') (hsl : sl + ms' = sl') (hr2 : cl' ≤ mc ∧ sl' ≤ ms) (d : decode cc pc = .ok (.invokespecial idx, 3)) (kk : ∀ X' : pp_X, pp_gr new X X' → pp_B Y X' (ds ++ ds') (z :: zs') cl' sl' cc nL (pc + 3) lv rest (pp_mx P σ σ')) : pp_B Y X ds (z :: (t, ci, fs) :: zs') cl sl cc nL pc lv stk σ := by
  obtain ⟨p, l, e, R, s, m, args, below, meth, c, Q, cl0, sl0, A⟩ := Y
  intro H locs ls hK hP hI hS hl
  subst hst
  subst hcl
  subst hsl
  obtain ⟨hx, hbc, hml, hown, hts, hA, hrm, hcl0, hlocks, hNw, hin, hAo⟩ := hB
  obtain ⟨m1, m2, m3, m4, m5⟩ := hM
  have hpre : PreS s H (pp_Pn X t ci fs as H.size) (.ref (X.2.2.1 t 0) :: as.map (ppv X.2.2.1)) := ⟨pp_blindN, fun U hU hW => ⟨rfl, by rw [hU], by rw [hU]; exact hP.2 (t, ci, fs) (List.mem_cons_of_mem _ List.mem_cons_self), va_K.moved hW.alike hK, hNw.warm hW, hAo.moved hW.alike⟩⟩
  have hR' : F' + 1 ≤ R.frames ∧ 8 + (nL' + 11) + L' ≤ R.locals := ⟨Nat.le_trans hroom.1 hrm.1, Nat.le_trans hroom.2 hrm.2⟩
  have hcs' : 2 * (F0 m pc ls ((as.reverse ++ ppR t 0 0 :: rest).map (ppv X.2.2.1))).monitorRoom + ((rest.map (ppv X.2.2.1)).map fun v => v.category).sum ≤ 8 := lv_room (by rw [pp_cs_eq]; exact hcs)
  have hf : cl + mc' ≤ R.cells ∧ sl + ms' ≤ R.slots := ⟨Nat.le_trans hr2.1 hcl0.1, Nat.le_trans hr2.2 hcl0.2⟩
  have hrun : va_Run p l e R s m args below meth c H locs cl sl mc' ms' (F0 m pc ls ((as.reverse ++ ppR t 0 0 :: rest).map (ppv X.2.2.1))) (rest.map (ppv X.2.2.1)) (pp_Qn X new ds' (pp_An X t H.size) σ' (Value.ref (X.2.2.1 t 0) :: as.map (ppv X.2.2.1)).toArray) (pp_An X t H.size) := by
    rcases hk with hk | hk
    · exact va_runI (As := as.map (ppv X.2.2.1)) (rest := rest.map (ppv X.2.2.1)) ⟨hx, hbc, hml, hown, hts⟩ (hC l X H.size) ⟨callB_of n hts (pp_goodIn m1) rfl rfl rfl (hts _ m2) (hts _ hk) m3 hR', m5, hts _ m4⟩ hpre rfl (by rw [List.length_map]; exact hn) hl.1 (by simp [ppv, ppR]) hcs' d hf
    · exact va_runIN (As := as.map (ppv X.2.2.1)) (rest := rest.map (ppv X.2.2.1)) ⟨hx, hbc, hml, hown, hts⟩ (hC l X H.size) ⟨⟨⟨rfl, rfl, hR'.1, hR'.2, pay_in hts (pp_goodIn m1), List.mem_cons_self⟩, hts _ m1, hts _ m2, ⟨m3.1, m3.2.1⟩, (fun sig h => by have h2 := m3.2.2; rw [h] at h2; exact (Option.some.inj h2).symm), va_Nw.use rfl (hNw _ hk)⟩, m5, hts _ m4⟩ hpre rfl (by rw [List.length_map]; exact hn) hl.1 (by simp [ppv, ppR]) hcs' d hf
  intro T hT Xs
  obtain ⟨v, st₀, t2, T', L', h0, XF, hL, e1, e2, ⟨hv, ⟨X', hg, hds', hI'⟩, hK2, hz, hkp⟩, stp⟩ := hrun T hT Xs
  cases hv
  rw [h0] at hz hkp
  have hsub : ∀ k ∈ ds ++ pp_zk (z :: zs'), k ∈ ds ++ pp_zk (z :: (t, ci, fs) :: zs') := fun k h => by
    rcases List.mem_append.mp h with h | h
    · exact List.mem_append_left _ h
    · refine List.mem_append_right _ ?_
      rcases List.mem_cons.mp h with h | h
      · rw [h]; exact List.mem_cons_self
      · exact List.mem_cons_of_mem _ (List.mem_cons_of_mem _ h)
  have htin : (t, 0) ∈ ds ++ pp_zk (z :: (t, ci, fs) :: zs') := List.mem_append_right _ (List.mem_cons_of_mem _ List.mem_cons_self)
  have hPs : pp_P X ds (z :: zs') σ H := ⟨hP.1, fun w hw => hP.2 w (by
    rcases List.mem_cons.mp hw with h | h
    · rw [h]; exact List.mem_cons_self
    · exact List.mem_cons_of_mem _ (List.mem_cons_of_mem _ h))⟩
  have hlt := pp_P_lt hPs
  have hne : ∀ k ∈ ds ++ pp_zk (z :: zs'), X.2.2.1 k.1 k.2 ≠ X.2.2.1 t 0 := fun k hk q => hnt (by
    have h9 := hI.1 k (hsub k hk) (t, 0) htin q
    rw [← h9]; exact hk)
  have hold : ∀ q : Nat, q < H.size → (∃ k ∈ ds ++ pp_zk (z :: zs'), q = X.2.2.1 k.1 k.2) → T'.heap[q]? = H[q]? := fun q hq ⟨k, hk, hqk⟩ => by
    rw [e1]
    refine hkp q hq (fun h => ?_)
    rcases h with h | h
    · exact hne k hk (hqk.symm.trans h)
    · omega
  have hP0 : pp_P X' ds (z :: zs') σ T'.heap := pp_gr_P hg hfr (fun a _ => ⟨fun _ => rfl, fun _ => rfl⟩) hPs hold
  have hP' : pp_P X' (ds ++ ds') (z :: zs') (pp_mx P σ σ') T'.heap := ⟨fun k hk => by
    rcases List.mem_append.mp hk with h | h
    · have h9 : k.1 ∉ P := pp_nc (List.all_eq_true.mp hPn k h)
      rw [pp_cell_cong (σ := σ) (fun j => if_neg h9) (fun j => if_neg h9)]
      exact hP0.1 k h
    · have h9 : k.1 ∈ P := List.contains_iff_mem.mp (List.all_eq_true.mp hPy k h)
      rw [pp_cell_cong (σ := σ') (fun j => if_pos h9) (fun j => if_pos h9), e1]
      exact hds' k h, hP0.2⟩
  have hkk := pp_gr_key hg hfr
  have hAn : ∀ q, pp_An X t H.size q → A q := fun q h => by
    rcases h with h | h
    · rw [h]; exact hI.2 (t, 0) htin
    · exact hA q (Nat.le_trans hS.1 h)
  have split : ∀ k ∈ (ds ++ ds') ++ pp_zk (z :: zs'), k ∈ ds ++ pp_zk (z :: zs') ∨ k ∈ ds' := fun k hk => by
    rcases List.mem_append.mp hk with h | h
    · rcases List.mem_append.mp h with h | h
      · exact Or.inl (List.mem_append_left _ h)
      · exact Or.inr h
    · exact Or.inl (List.mem_append_right _ h)
  have hcross : ∀ k ∈ ds ++ pp_zk (z :: zs'), ∀ k' ∈ ds', X'.2.2.1 k.1 k.2 ≠ X'.2.2.1 k'.1 k'.2 := fun k hk k' hk' q => by
    rw [hkk k hk] at q
    rcases hI'.2 k' hk' with h | h
    · exact hne k hk (q.trans h)
    · have := hlt k hk
      omega
  have hI2 : pp_I X' A ((ds ++ ds') ++ pp_zk (z :: zs')) := by
    refine ⟨fun k hk k' hk' he => ?_, fun k hk => ?_⟩
    · rcases split k hk with h | h <;> rcases split k' hk' with h' | h'
      · exact hI.1 k (hsub k h) k' (hsub k' h') (by rw [← hkk k h, ← hkk k' h']; exact he)
      · exact absurd he (hcross k h k' h')
      · exact absurd he.symm (hcross k' h' k h)
      · exact hI'.1 k h k' h' he
    · rcases split k hk with h | h
      · rw [hkk k h]; exact hI.2 k (hsub k h)
      · exact hAn _ (hI'.2 k h)
  obtain ⟨e3, e4⟩ := pp_gr_lv hg hfr
  have k1 := kk X' hg T'.heap (locs ++ L') ls (pp_K_gr hg hK) hP' hI2 ⟨Nat.le_trans hS.1 (by rw [e1]; exact hz), fun q a1 a2 => by rw [e1, hkp q (Nat.lt_of_lt_of_le a1 hS.1) (fun h => a2 (hAn q h))]; exact hS.2.1 q a1 a2, fun q hq => by
    rcases List.mem_append.mp hq with h | h
    · exact hS.2.2 q h
    · exact hAn _ (hL q h)⟩ (by rw [e3]; exact hl)
  rw [e4] at k1
  obtain ⟨t3, a1, b1⟩ := k1 T' rfl XF
  exact ⟨t3, stp t3 a1, b1⟩
end PPB5
