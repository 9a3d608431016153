/-! rules for the law's loop: two worlds side by side, the script, the switch -/
def KT : List Nat := [2, 3, 1, 5, 6, 7, 8, 4, 10, 11, 12, 9, 14, 15, 13, 17, 18, 19, 20, 16, 22, 23, 24, 21, 26, 27, 28, 29, 30, 31, 32, 33, 25, 34, 35, 37, 38, 36, 0]
def dsA : List (Nat × Nat) := dsK ++ dsM
/-- class memory σ, reference memory μ -/
def pp_2 (σ μ : pp_M) : pp_M := pp_mx KT μ σ
def pp_Sx (Γ : pp_G) (L : Nat) (xs : Nat → Int32) : Prop := match Γ with
  | ((p, l, e, R, s, m, args, below, meth, c, Q, cl, sl, A), X) => va_X (X.2.2.1 99 0) L xs s s.heap ∧ X.2.2.1 99 0 < s.heap.size ∧ ¬ A (X.2.2.1 99 0)
section PPLL
variable {Γ : pp_G} {ds : List (Nat × Nat)} {cc : ByteArray} {nL : Nat} {own : String} {F L pc : Nat} {lv lv' : List (Nat × pp_V)} {st : List pp_V} {σ : pp_M}
theorem pl_slen {LL n : Nat} {xs : Nat → Int32} (hF : pp_Fx Γ ds cc nL own F L) (hX : pp_Sx Γ LL xs) (d : decode cc pc = .ok (.arraylength, 1)) (k : pp_E Γ ds cc nL (pc + 1) lv (ppI (Int32.ofNat LL) :: st) σ) : pp_E Γ ds cc nL pc lv (ppR 99 0 n :: st) σ := by
  obtain ⟨⟨p, l, e, R, s, m, args, below, meth, c, Q, cl, sl, A⟩, X⟩ := Γ
  intro H locs ls hP hS hl
  exact va_slen hF.1 hF.2.1 hX.1 hX.2.1 hX.2.2 hS d (k H locs ls hP hS hl)
theorem pl_sld {LL n : Nat} {xs : Nat → Int32} {i : Int32} (hF : pp_Fx Γ ds cc nL own F L) (hX : pp_Sx Γ LL xs) (hin : vp_in i LL) (d : decode cc pc = .ok (.iaload, 1)) (k : pp_E Γ ds cc nL (pc + 1) lv (ppI (xs i.toNatClampNeg) :: st) σ) : pp_E Γ ds cc nL pc lv (ppI i :: ppR 99 0 n :: st) σ := by
  obtain ⟨⟨p, l, e, R, s, m, args, below, meth, c, Q, cl, sl, A⟩, X⟩ := Γ
  intro H locs ls hP hS hl
  exact va_sld hF.1 hF.2.1 hX.1 hX.2.1 hX.2.2 hS hin d (k H locs ls hP hS hl)
/-- a switch over 0 .. n -/
theorem pl_tsw {x : Int32} {dflt : Int} {offs : Array Int} {len td n : Nat} (tg : Nat → Nat) (hF : pp_Fx Γ ds cc nL own F L) (d : decode cc pc = .ok (.tableswitch dflt 0 (n : Int) offs, len)) (ho : ∀ i, i < n + 1 → ∃ off, offs[i]? = some off ∧ (pc : Int) + off = (tg i : Int)) (hd : (pc : Int) + dflt = (td : Int)) (ks : ∀ i, i < n + 1 → pp_E Γ ds cc nL (tg i) lv st σ) (kd : pp_E Γ ds cc nL td lv st σ) : pp_E Γ ds cc nL pc lv (ppI x :: st) σ := by
  obtain ⟨⟨p, l, e, R, s, m, args, below, meth, c, Q, cl, sl, A⟩, X⟩ := Γ
  intro H locs ls hP hS hl
  by_cases h1 : x.toInt < 0
  · exact lv_tableOut hF.1 hF.2.1 d (Or.inl h1) hd (kd H locs ls hP hS hl)
  · by_cases h2 : (n : Int) < x.toInt
    · exact lv_tableOut hF.1 hF.2.1 d (Or.inr h2) hd (kd H locs ls hP hS hl)
    · have hk : x.toInt.toNat < n + 1 := by omega
      obtain ⟨off, e1, e2⟩ := ho x.toInt.toNat hk
      exact lv_tableIn (off := off) hF.1 hF.2.1 d h1 h2 (by rw [Int.sub_zero]; exact e1) e2 (ks x.toInt.toNat hk H locs ls hP hS hl)
/-- a call into one of the worlds -/
theorem pl_callV {y : MethodName} {cc' : ByteArray} {nL' F' L' n idx t : Nat} {ret : Option FieldType} {as stk rest : List pp_V} {r : Option pp_V} {dsS : List (Nat × Nat)} {τ τ' ρ' : pp_M} (hF : pp_Fx Γ ds cc nL own F L) (hC : pp_Ct y cc' nL' ret F' L' dsS (ppR t 0 0 :: as) τ r τ') (hsub : ∀ d ∈ dsS, d ∈ ds) (hnd : dsS.Nodup) (h1 : ∀ d ∈ dsS, (∀ j, σ.1 d.1 j = τ.1 d.1 j) ∧ ∀ j, σ.2 d.1 j = τ.2 d.1 j) (h2 : ∀ d ∈ dsS, (∀ j, ρ'.1 d.1 j = τ'.1 d.1 j) ∧ ∀ j, ρ'.2 d.1 j = τ'.2 d.1 j) (h3 : ∀ d ∈ ds, d ∈ dsS ∨ ((∀ j, ρ'.1 d.1 j = σ.1 d.1 j) ∧ ∀ j, ρ'.2 d.1 j = σ.2 d.1 j)) (hM : pp_MV y cc' nL' ret n) (hk : pp_Lk own idx y) (hO : pp_ob dsS t y.cls) (hn : as.length = n) (hst : stk = as.reverse ++ ppR t 0 0 :: rest) (hroom : F' + 1 ≤ F ∧ 8 + (nL' + 11) + L' ≤ L) (hcs : pp_cs rest ≤ 8) (d : decode cc pc = .ok (.invokevirtual idx, 3)) (kk : pp_E Γ ds cc nL (pc + 3) lv (r.toList ++ rest) ρ') : pp_E Γ ds cc nL pc lv stk σ := by
  obtain ⟨⟨p, l, e, R, s, m, args, below, meth, c, Q, cl, sl, A⟩, X⟩ := Γ
  intro H locs ls hP hS hl
  subst hst
  obtain ⟨hx, hb, hml, hown, hts, hK, ⟨hI, hok, hA⟩, hrm, hcl0, hlocks, hNw⟩ := hF
  obtain ⟨m1, m2, m3, m4, m5⟩ := hM
  obtain ⟨ci, N, T, fs, ht, hcl, he⟩ := hO
  have hinj : ∀ q ∈ ds, ∀ q' ∈ ds, X.2.2.1 q.1 q.2 = X.2.2.1 q'.1 q'.2 → q = q' := fun q hq q' hq' h => by
    obtain ⟨i, hi⟩ := List.getElem?_of_mem hq
    obtain ⟨j, hj⟩ := List.getElem?_of_mem hq'
    have := hI i j q q' hi hj h
    subst this
    exact Option.some.inj (hi.symm.trans hj)
  have hIS : pp_inj X dsS := fun i j q q' hi hj h => by
    have e9 := hinj q (hsub q (List.mem_of_getElem? hi)) q' (hsub q' (List.mem_of_getElem? hj)) h
    subst e9
    exact (List.getElem?_inj (List.getElem?_eq_some_iff.mp hi).1 hnd).mp (hi.trans hj.symm)
  have hall : ∀ q ∈ ds, va_at (X.1, X.2.1) pp_cl (X.2.2.1 q.1 q.2, pp_cell X σ q.1 q.2) H := fun q hq => by
    obtain ⟨k, hk1, hk2⟩ := pp_wd_at (X := X) (σ := σ) hq
    exact hP k _ hk2
  have hPS : va_P (X.1, X.2.1) pp_cl (pp_wd X dsS τ) H := fun k q hq => by
    obtain ⟨d0, hd0, rfl⟩ := List.mem_map.mp (List.mem_of_getElem? hq)
    have := hall d0 (hsub d0 hd0)
    rw [pp_cell_cong (σ := τ) (h1 d0 hd0).1 (h1 d0 hd0).2] at this
    exact this
  obtain ⟨q, hq, hw⟩ := pp_wd_at (X := X) (σ := τ) ht
  rw [pp_cell_o he] at hw
  have hrv : ∃ cellB : Cell, H[X.2.2.1 t 0]? = some cellB ∧ cellB.vm.isStatics = false ∧ s.vm.findClass y.cls = some cellB.cls := va_recv hK hPS (ci := ci) (q0 := q) hcl hw
  have hpre : PreV s H y.cls (X.2.2.1 t 0) (pp_Pc X dsS (ppR t 0 0 :: as) τ) (as.map (ppv X.2.2.1)) := ⟨pp_blind, hrv, fun U hU hW => ⟨rfl, by rw [hU]; exact hPS, va_K.moved hW.alike hK, hNw.warm hW⟩⟩
  have hR' : F' + 1 ≤ R.frames ∧ 8 + (nL' + 11) + L' ≤ R.locals := ⟨Nat.le_trans hroom.1 hrm.1, Nat.le_trans hroom.2 hrm.2⟩
  have hcs' : 2 * (F0 m pc ls ((as.reverse ++ ppR t 0 0 :: rest).map (ppv X.2.2.1))).monitorRoom + ((rest.map (ppv X.2.2.1)).map fun v => v.category).sum ≤ 8 := lv_room (by rw [pp_cs_eq]; exact hcs)
  have hrun : va_Run p l e R s m args below meth c H locs cl sl 0 0 (F0 m pc ls ((as.reverse ++ ppR t 0 0 :: rest).map (ppv X.2.2.1))) (rest.map (ppv X.2.2.1)) (pp_Qc X dsS (pp_A X dsS) r τ' (Value.ref (X.2.2.1 t 0) :: as.map (ppv X.2.2.1)).toArray) (pp_A X dsS) := by
    rcases hk with hk | hk
    · exact va_runV (As := as.map (ppv X.2.2.1)) (rest := rest.map (ppv X.2.2.1)) ⟨hx, hb, hml, hown, hts⟩ (hC l X hIS) ⟨callB_of n hts (pp_goodIn m1) rfl rfl rfl (hts _ m2) (hts _ hk) m3 hR', hts _ m4, hts _ m5⟩ hpre rfl (by rw [List.length_map]; exact hn) hl.1 (by simp [ppv, ppR]) hcs' d hcl0
    · exact va_runVN (As := as.map (ppv X.2.2.1)) (rest := rest.map (ppv X.2.2.1)) ⟨hx, hb, hml, hown, hts⟩ (hC l X hIS) ⟨⟨⟨rfl, rfl, hR'.1, hR'.2, pay_in hts (pp_goodIn m1), List.mem_cons_self⟩, hts _ m1, hts _ m2, ⟨m3.1, m3.2.1⟩, (fun sig h => by have h2 := m3.2.2; rw [h] at h2; exact (Option.some.inj h2).symm), va_Nw.use rfl (hNw _ hk)⟩, hts _ m4, hts _ m5⟩ hpre rfl (by rw [List.length_map]; exact hn) hl.1 (by simp [ppv, ppR]) hcs' d hcl0
  intro T0 hT Xs
  obtain ⟨v, st₀, t2, T', Lc, h0, X', hL, e1, e2, ⟨hv, hP1, hK1, hz, hkp⟩, stp⟩ := hrun T0 hT Xs
  cases hv
  rw [h0] at hz hkp
  have hAS : ∀ q, pp_A X dsS q → A q := fun q ⟨d0, hd0, hq0⟩ => hA q ⟨d0, hsub d0 hd0, hq0⟩
  have hP2 : va_P (X.1, X.2.1) pp_cl (pp_wd X ds ρ') T'.heap := fun k q hq => by
    obtain ⟨d0, hd0, rfl⟩ := List.mem_map.mp (List.mem_of_getElem? hq)
    by_cases hin : d0 ∈ dsS
    · rw [pp_cell_cong (σ := τ') (h2 d0 hin).1 (h2 d0 hin).2, e1]
      obtain ⟨k9, hk9, hk10⟩ := pp_wd_at (X := X) (σ := τ') hin
      exact hP1 k9 _ hk10
    · have h4 := (h3 d0 hd0).resolve_left hin
      rw [pp_cell_cong (σ := σ) h4.1 h4.2]
      have h5 := hall d0 hd0
      refine h5.kept ?_
      rw [e1]
      exact hkp _ h5.lt (fun ⟨d1, hd1, hq1⟩ => hin (by
        have := hinj d0 hd0 d1 (hsub d1 hd1) hq1
        rw [this]; exact hd1))
  have k1 := kk T'.heap (locs ++ Lc) ls hP2 ⟨Nat.le_trans hS.1 (by rw [e1]; exact hz), fun q a1 a2 => by rw [e1, hkp q (Nat.lt_of_lt_of_le a1 hS.1) (fun z => a2 (hAS q z))]; exact hS.2.1 q a1 a2, fun q hq => by
      rcases List.mem_append.mp hq with h | h
      · exact hS.2.2 q h
      · exact hAS _ (hL q h)⟩ hl T' rfl X'
  obtain ⟨t3, a1, b1⟩ := k1
  refine ⟨t3, stp t3 ?_, b1⟩
  rw [List.map_append] at a1
  cases r <;> exact a1
end PPLL
theorem dsK_nd : dsK.Nodup := by decide +kernel
theorem dsM_nd : dsM.Nodup := by decide +kernel
theorem dsK_KT : ∀ d ∈ dsK, d.1 ∈ KT := by decide +kernel
theorem dsM_KT : ∀ d ∈ dsM, d.1 ∉ KT := by decide +kernel
theorem dsA_nd : dsA.Nodup := by decide +kernel
theorem okA : pp_ok dsA := by unfold pp_ok; decide +kernel
theorem pp_2K {σ μ : pp_M} {t : Nat} (h : t ∈ KT) : (∀ j, (pp_2 σ μ).1 t j = σ.1 t j) ∧ ∀ j, (pp_2 σ μ).2 t j = σ.2 t j := ⟨fun _ => if_pos h, fun _ => if_pos h⟩
theorem pp_2M {σ μ : pp_M} {t : Nat} (h : t ∉ KT) : (∀ j, (pp_2 σ μ).1 t j = μ.1 t j) ∧ ∀ j, (pp_2 σ μ).2 t j = μ.2 t j := ⟨fun _ => if_neg h, fun _ => if_neg h⟩
section PPL2
variable {Γ : pp_G} {cc : ByteArray} {nL : Nat} {own : String} {F L pc : Nat} {lv : List (Nat × pp_V)} {σ μ : pp_M}
/-- a call of the class -/
theorem pl_K {y : MethodName} {cc' : ByteArray} {nL' F' L' n idx t : Nat} {ret : Option FieldType} {as stk rest : List pp_V} {r : pp_V} {σ' : pp_M} (hF : pp_Fx Γ dsA cc nL own F L) (hC : pp_Ct y cc' nL' ret F' L' dsK (ppR t 0 0 :: as) σ (some r) σ') (hM : pp_MV y cc' nL' ret n) (hk : pp_Lk own idx y) (hO : pp_ob dsK t y.cls) (hn : as.length = n) (hst : stk = as.reverse ++ ppR t 0 0 :: rest) (hroom : F' + 1 ≤ F ∧ 8 + (nL' + 11) + L' ≤ L) (hcs : pp_cs rest ≤ 8) (d : decode cc pc = .ok (.invokevirtual idx, 3)) (kk : pp_E Γ dsA cc nL (pc + 3) lv (r :: rest) (pp_2 σ' μ)) : pp_E Γ dsA cc nL pc lv stk (pp_2 σ μ) :=
  pl_callV (ρ' := pp_2 σ' μ) hF hC (fun _ h => List.mem_append_left _ h) dsK_nd (fun q hq => pp_2K (dsK_KT q hq)) (fun q hq => pp_2K (dsK_KT q hq)) (fun q hq => by
    rcases List.mem_append.mp hq with h | h
    · exact Or.inl h
    · have h9 := dsM_KT q h
      exact Or.inr ⟨fun j => ((pp_2M h9).1 j).trans ((pp_2M h9).1 j).symm, fun j => ((pp_2M h9).2 j).trans ((pp_2M h9).2 j).symm⟩) hM hk hO hn hst hroom hcs d kk
/-- a call of the reference -/
theorem pl_M {y : MethodName} {cc' : ByteArray} {nL' F' L' n idx t : Nat} {ret : Option FieldType} {as stk rest : List pp_V} {r : pp_V} {μ' : pp_M} (hF : pp_Fx Γ dsA cc nL own F L) (hC : pp_Ct y cc' nL' ret F' L' dsM (ppR t 0 0 :: as) μ (some r) μ') (hM : pp_MV y cc' nL' ret n) (hk : pp_Lk own idx y) (hO : pp_ob dsM t y.cls) (hn : as.length = n) (hst : stk = as.reverse ++ ppR t 0 0 :: rest) (hroom : F' + 1 ≤ F ∧ 8 + (nL' + 11) + L' ≤ L) (hcs : pp_cs rest ≤ 8) (d : decode cc pc = .ok (.invokevirtual idx, 3)) (kk : pp_E Γ dsA cc nL (pc + 3) lv (r :: rest) (pp_2 σ μ')) : pp_E Γ dsA cc nL pc lv stk (pp_2 σ μ) :=
  pl_callV (ρ' := pp_2 σ μ') hF hC (fun _ h => List.mem_append_right _ h) dsM_nd (fun q hq => pp_2M (dsM_KT q hq)) (fun q hq => pp_2M (dsM_KT q hq)) (fun q hq => by
    rcases List.mem_append.mp hq with h | h
    · have h9 := dsK_KT q h
      exact Or.inr ⟨fun j => ((pp_2K h9).1 j).trans ((pp_2K h9).1 j).symm, fun j => ((pp_2K h9).2 j).trans ((pp_2K h9).2 j).symm⟩
    · exact Or.inl h) hM hk hO hn hst hroom hcs d kk
end PPL2
