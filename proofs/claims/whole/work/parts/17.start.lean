set_option maxRecDepth 20000 in
theorem nb_in : ∀ q ∈ pp_nb, Cond.methodLinkNest q.1 q.2.1 q.2.2 "PedlarPack" ∈ lw_tbl := by decide +kernel
set_option maxRecDepth 20000 in
theorem ao_i : Cond.arrayOver (.array .int) ∈ lw_tbl := List.mem_of_getElem? (i := 85) (by decide +kernel)
set_option maxRecDepth 20000 in
theorem ao_l : Cond.arrayOver (.array .long) ∈ lw_tbl := List.mem_of_getElem? (i := 190) (by decide +kernel)
set_option maxRecDepth 20000 in
theorem law_K {s : State} {args : Array Value} (hts : ∀ w ∈ pp_tb, w.before args s = true) (ha1 : (Cond.arrayOver (.array .int)).before args s = true) (ha2 : (Cond.arrayOver (.array .long)).before args s = true) (b : Nat) : ∃ X : pp_X, X.2.2.1 99 0 = b ∧ va_K (X.1, X.2.1) pp_cl (pp_ty X) s := by
  have hc : ∀ k : Nat, ∃ (c : ClassId) (iS : Nat → Nat), ∀ q : vw_C, pp_cl[k]? = some q → u_Kn s q.1 q.2.1 q.2.2 c iS := by
    intro k
    match k with
    | 0 => obtain ⟨c0, i0, h0⟩ := u_known (C := RX0) (T := TX0) (N := 4) (n := 4) hts uw_0 (hts _ wm_184); exact ⟨c0, i0, fun q hq => by cases hq; exact h0⟩
    | 1 => obtain ⟨c0, i0, h0⟩ := u_known (C := RX1) (T := TX1) (N := 1) (n := 1) hts uw_1 (hts _ wm_79); exact ⟨c0, i0, fun q hq => by cases hq; exact h0⟩
    | 2 => obtain ⟨c0, i0, h0⟩ := u_known (C := RX2) (T := TX2) (N := 2) (n := 2) hts uw_2 (hts _ wm_95); exact ⟨c0, i0, fun q hq => by cases hq; exact h0⟩
    | 3 => obtain ⟨c0, i0, h0⟩ := u_known (C := RX3) (T := TX3) (N := 6) (n := 6) hts uw_3 (hts _ wm_134); exact ⟨c0, i0, fun q hq => by cases hq; exact h0⟩
    | 4 => obtain ⟨c0, i0, h0⟩ := u_known (C := RX4) (T := TX4) (N := 2) (n := 2) hts uw_4 (hts _ wm_119); exact ⟨c0, i0, fun q hq => by cases hq; exact h0⟩
    | 5 => obtain ⟨c0, i0, h0⟩ := u_known (C := RX5) (T := TX5) (N := 9) (n := 9) hts uw_5 (hts _ wm_209); exact ⟨c0, i0, fun q hq => by cases hq; exact h0⟩
    | 6 => obtain ⟨c0, i0, h0⟩ := u_known (C := RX6) (T := TX6) (N := 15) (n := 15) hts uw_6 (hts _ wm_249); exact ⟨c0, i0, fun q hq => by cases hq; exact h0⟩
    | 7 => obtain ⟨c0, i0, h0⟩ := u_known (C := RX7) (T := TX7) (N := 4) (n := 4) hts uw_7 (hts _ wm_160); exact ⟨c0, i0, fun q hq => by cases hq; exact h0⟩
    | 8 => obtain ⟨c0, i0, h0⟩ := u_known (C := RX8) (T := TX8) (N := 14) (n := 14) hts uw_8 (hts _ wm_71); exact ⟨c0, i0, fun q hq => by cases hq; exact h0⟩
    | 9 => obtain ⟨c0, i0, h0⟩ := u_known (C := RX9) (T := TX9) (N := 48) (n := 48) hts uw_9 (hts _ wm_829); exact ⟨c0, i0, fun q hq => by cases hq; exact h0⟩
    | k + 10 => exact ⟨0, fun _ => 0, fun q hq => by simp [pp_cl] at hq⟩
  obtain ⟨cI, kI, comI, i1, i2, i3⟩ := Cond.arrayClass_spec (hts _ wm_93)
  obtain ⟨cJ, kJ, comJ, j1, j2, j3⟩ := Cond.arrayClass_spec (hts _ wm_207)
  obtain ⟨cZ, kZ, comZ, z1, z2, z3⟩ := Cond.arrayClass_spec (hts _ wm_247)
  obtain ⟨comA, cA, kA, a1, a2, a3, a4, a5⟩ := arrayOverA_spec ha1
  obtain ⟨comB, cB, kB, b1, b2, b3, b4, b5⟩ := arrayOverA_spec ha2
  refine ⟨(fun k => (hc k).choose, fun k => (hc k).choose_spec.choose, fun _ _ => b, cI, cJ, cZ, cA, cB), rfl, fun k q h => (hc k).choose_spec.choose_spec q h, fun k q h => ?_⟩
  match k, h with
  | 0, h => cases h; exact ⟨fun n z => ⟨fun k h => (by cases h), kI, i2, comI, i3⟩, i1⟩
  | 1, h => cases h; exact ⟨fun n z => ⟨fun k h => (by cases h), kJ, j2, comJ, j3⟩, j1⟩
  | 2, h => cases h; exact ⟨fun n z => ⟨fun k h => (by cases h), kZ, z2, comZ, z3⟩, z1⟩
  | 3, h => cases h; exact ⟨fun n z => ⟨fun k h => (by cases h), kA, a3, comA, a4⟩, a5⟩
  | 4, h => cases h; exact ⟨fun n z => ⟨fun k h => (by cases h), kB, b3, comB, b4⟩, b5⟩
  | k + 5, h => simp [pp_ty] at h
set_option maxRecDepth 20000 in
theorem law_start {p : Program} {e : Env} {s : State} {m : MethodId} {below : List Frame} {meth : Method} {c : Code} (l : Launch) {b L : Nat} {xs : Nat → Int32} {Rel : pp_M → pp_M → Prop} (H : pp_H Rel) {s1 : pp_M} (h1 : f_X1_init (pp_z (pp_z (pp_z pp_0 2) 3) 1) = some s1) {s4 : pp_M} (h4 : f_X2_init (pp_z (pp_z (pp_z (pp_z (pp_z pp_0 5) 6) 7) 8) 4) = some s4) {s9 : pp_M} (h9 : f_X4_init (pp_z (pp_z (pp_z (pp_z pp_0 10) 11) 12) 9) = some s9) {s13 : pp_M} (h13 : f_X3_init (pp_z (pp_z (pp_z pp_0 14) 15) 13) = some s13) {s16 : pp_M} (h16 : f_X7_init (pp_z (pp_z (pp_z (pp_z (pp_z pp_0 17) 18) 19) 20) 16) = some s16) {s21 : pp_M} (h21 : f_X0_init (pp_z (pp_z (pp_z (pp_z pp_0 22) 23) 24) 21) = some s21) {s25 : pp_M} (h25 : f_X5_init (ppT (pp_z (pp_z (pp_z (pp_z (pp_z (pp_z (pp_z (pp_z (pp_z pp_0 26) 27) 28) 29) 30) 31) 32) 33) 25) 25 8 (1 : Int64)) = some s25) {s36 : pp_M} (h36 : f_X6_init (pp_z (pp_z (pp_z pp_0 37) 38) 36) = some s36) {σ0 : pp_M} (hK0 : f_X8_init (pp_z (pp_mx [36, 37, 38] (pp_z (pp_z (pp_mx [25, 26, 27, 28, 29, 30, 31, 32, 33] (pp_mx [21, 22, 23, 24] (pp_mx [16, 17, 18, 19, 20] (pp_mx [13, 14, 15] (pp_mx [9, 10, 11, 12] (pp_mx [4, 5, 6, 7, 8] (pp_mx [1, 2, 3] pp_0 s1) s4) s9) s13) s16) s21) s25) 34) 35) s36) 0) = some σ0) {μ0 : pp_M} (hM0 : f_X9_init (ppS (ppS (ppS (pp_z (pp_z (pp_z (pp_z (pp_z (pp_z (pp_z (pp_z (pp_z (pp_z (pp_z (pp_z (pp_z (pp_z (pp_z (pp_z (pp_z (pp_z (pp_z (pp_z (pp_z (pp_z (pp_z (pp_z (pp_z (pp_z (pp_z (pp_z (pp_z (pp_z (pp_z pp_0 41) 42) 43) 44) 45) 46) 47) 48) 49) 50) 51) 52) 53) 54) 55) 56) 57) 58) 59) 60) 61) 62) 63) 64) 65) 66) 67) 68) 69) 70) 40) 40 6 (60 : Int32)) 40 7 (20 : Int32)) 40 8 (127 : Int32)) = some μ0) (hR : Rel σ0 μ0) (hL : L ≤ 3072) (C0 : lw_At p s m meth c b L xs) : W p l e room_1 s m #[Value.ref b] below meth c s.heap [] 0 0 (lw_Z below #[Value.ref b] s) (entryFrame m ([Value.ref b] : List Value).toArray 4) := by
  obtain ⟨hx, hb, hr, hml, hown, hts0, hX, hbl, hlocks, hgv⟩ := C0
  have hts : ∀ w ∈ pp_tb, w.before #[Value.ref b] s = true := fun w hw => hts0 w (List.mem_filter.mp hw).1
  have hNw : pp_Nw s := fun q hq => va_Nw.of rfl (hts0 _ (nb_in q hq))
  have hAo : pp_Ao s := ⟨over_moved (Vm.Alike.refl _) (hts0 _ ao_i), over_moved (Vm.Alike.refl _) (hts0 _ ao_l)⟩
  obtain ⟨X, hXb, hK⟩ := law_K hts (hts0 _ ao_i) (hts0 _ ao_l) b
  have hl := lv_entry ([.ref b]) (n := 4) (Nat.le_of_ble_eq_true rfl)
  rw [lg_entry_eq]
  generalize (lg_sl ([.ref b]) ++ List.replicate (4 - (lg_sl ([.ref b])).length) Slot.unset).toArray = ls at hl ⊢
  have hB : pp_Bl (p, l, e, room_1, s, m, #[Value.ref b], below, meth, c, lw_Z below #[Value.ref b] s, 0, 0, fun q => s.heap.size ≤ q) cL_law 4 RL 2048 84000 600000 7302250 := ⟨hx, hb, hml, hown, hts, fun _ h => h, ⟨Nat.le_refl _, Nat.le_refl _⟩, ⟨Nat.le_refl _, Nat.le_refl _⟩, hNw, hAo⟩
  have key : pp_B (p, l, e, room_1, s, m, #[Value.ref b], below, meth, c, lw_Z below #[Value.ref b] s, 0, 0, fun q => s.heap.size ≤ q) X [] [] 0 0 cL_law 4 0 [(0, ppR 99 0 0)] [] pp_0 := by
    refine pl_new (t := 0) (ci := 8) (fs := [none, none, none, none, none, none, none, none, none, none, some (ppI 0), some (ppI 0), some (ppI 0), some (ppI 0)]) (cl' := 1) (sl' := 14) hB rfl uw_8 tyX8_ok wm_70 wm_71 wm_57 df_8 (by decide +kernel) (by decide +kernel) (by decide +kernel) rfl rfl ⟨by decide, by decide⟩ dL_law_0 (fun X hg1 => ?_)
    have hXb : X.2.2.1 99 0 = b := (hg1.2.2.2 99 0 (by decide)).trans hXb
    refine pl_dupR hB dL_law_3 ?_
    refine pl_init (P := [2, 3, 1, 5, 6, 7, 8, 4, 10, 11, 12, 9, 14, 15, 13, 17, 18, 19, 20, 16, 22, 23, 24, 21, 26, 27, 28, 29, 30, 31, 32, 33, 25, 34, 35, 37, 38, 36, 0]) (cl' := 126) (sl' := 1970) hB (c_X8_init h1 h4 h9 h13 h16 h21 h25 h36 hK0) mI_X8_init lk_L_9 rfl rfl ⟨by decide, by decide⟩ (Nat.le_of_ble_eq_true rfl) (by decide +kernel) (by decide +kernel) (by decide +kernel) (by decide +kernel) rfl rfl ⟨by decide, by decide⟩ dL_law_4 (fun X hg1 => ?_)
    have hXb : X.2.2.1 99 0 = b := (hg1.2.2.2 99 0 (by decide)).trans hXb
    refine pl_astore_n hB dL_law_7 rfl (by decide) (lv' := [(0, ppR 99 0 0), (1, ppR 0 0 0)]) rfl ?_
    refine pl_new (t := 40) (ci := 9) (fs := [none, none, none, none, none, none, some (ppI 0), some (ppI 0), some (ppI 0), none, none, some (ppI 0), none, some (ppI 0), some (ppI 0), some (ppI 0), none, none, none, some (ppI 0), none, none, some (ppI 0), none, none, none, none, none, some (ppL 0), none, some (ppI 0), none, some (ppI 0), none, some (ppI 0), none, some (ppL 0), none, some (ppI 0), some (ppI 0), some (ppL 0), none, none, none, none, none, none, some (ppI 0)]) (cl' := 127) (sl' := 2018) hB rfl uw_9 tyX9_ok wm_828 wm_829 wm_67 df_9 (by decide +kernel) (by decide +kernel) (by decide +kernel) rfl rfl ⟨by decide, by decide⟩ dL_law_8 (fun X hg1 => ?_)
    have hXb : X.2.2.1 99 0 = b := (hg1.2.2.2 99 0 (by decide)).trans hXb
    refine pl_dupR hB dL_law_11 ?_
    refine pl_init (P := [41, 42, 43, 44, 45, 46, 47, 48, 49, 50, 51, 52, 53, 54, 55, 56, 57, 58, 59, 60, 61, 62, 63, 64, 65, 66, 67, 68, 69, 70, 40]) (cl' := 157) (sl' := 3302) hB (c_X9_init hM0) mI_X9_init lk_L_12 rfl rfl ⟨by decide, by decide⟩ (Nat.le_of_ble_eq_true rfl) (by decide +kernel) (by decide +kernel) (by decide +kernel) (by decide +kernel) rfl rfl ⟨by decide, by decide⟩ dL_law_12 (fun X hg1 => ?_)
    have hXb : X.2.2.1 99 0 = b := (hg1.2.2.2 99 0 (by decide)).trans hXb
    refine pl_astore_n hB dL_law_15 rfl (by decide) (lv' := [(0, ppR 99 0 0), (1, ppR 0 0 0), (2, ppR 40 0 0)]) rfl ?_
    intro H1 locs1 ls1 hK1 hP1 hI1 hS1 hl1
    have hI2 : pp_I X (fun q => s.heap.size ≤ q) dsA := by
      have h9 : ([] ++ dsK ++ dsM) ++ pp_zk [] = dsA := by
        show ([] ++ dsK ++ dsM) ++ [] = dsA
        rw [List.append_nil]; rfl
      rw [h9] at hI1
      exact hI1
    have hP2 : va_P (X.1, X.2.1) pp_cl (pp_wd X dsA (pp_2 σ0 μ0)) H1 := fun k q hq => by
      obtain ⟨d0, hd0, rfl⟩ := List.mem_map.mp (List.mem_of_getElem? hq)
      have h8 := hP1.1 d0 hd0
      rcases List.mem_append.mp hd0 with h | h
      · have t1 := dsK_KT d0 h
        have t2 : d0.1 ∉ ([41, 42, 43, 44, 45, 46, 47, 48, 49, 50, 51, 52, 53, 54, 55, 56, 57, 58, 59, 60, 61, 62, 63, 64, 65, 66, 67, 68, 69, 70, 40] : List Nat) := (by decide +kernel : ∀ d ∈ dsK, d.1 ∉ ([41, 42, 43, 44, 45, 46, 47, 48, 49, 50, 51, 52, 53, 54, 55, 56, 57, 58, 59, 60, 61, 62, 63, 64, 65, 66, 67, 68, 69, 70, 40] : List Nat)) d0 h
        have t3 : d0.1 ∈ ([2, 3, 1, 5, 6, 7, 8, 4, 10, 11, 12, 9, 14, 15, 13, 17, 18, 19, 20, 16, 22, 23, 24, 21, 26, 27, 28, 29, 30, 31, 32, 33, 25, 34, 35, 37, 38, 36, 0] : List Nat) := (by decide +kernel : ∀ d ∈ dsK, d.1 ∈ ([2, 3, 1, 5, 6, 7, 8, 4, 10, 11, 12, 9, 14, 15, 13, 17, 18, 19, 20, 16, 22, 23, 24, 21, 26, 27, 28, 29, 30, 31, 32, 33, 25, 34, 35, 37, 38, 36, 0] : List Nat)) d0 h
        rw [pp_cell_cong (σ := pp_mx [41, 42, 43, 44, 45, 46, 47, 48, 49, 50, 51, 52, 53, 54, 55, 56, 57, 58, 59, 60, 61, 62, 63, 64, 65, 66, 67, 68, 69, 70, 40] (pp_mx [2, 3, 1, 5, 6, 7, 8, 4, 10, 11, 12, 9, 14, 15, 13, 17, 18, 19, 20, 16, 22, 23, 24, 21, 26, 27, 28, 29, 30, 31, 32, 33, 25, 34, 35, 37, 38, 36, 0] pp_0 σ0) μ0) (fun j => ((pp_2K t1).1 j).trans (by simp only [pp_mx, if_neg t2, if_pos t3])) (fun j => ((pp_2K t1).2 j).trans (by simp only [pp_mx, if_neg t2, if_pos t3]))]
        exact h8
      · have t1 := dsM_KT d0 h
        have t2 : d0.1 ∈ ([41, 42, 43, 44, 45, 46, 47, 48, 49, 50, 51, 52, 53, 54, 55, 56, 57, 58, 59, 60, 61, 62, 63, 64, 65, 66, 67, 68, 69, 70, 40] : List Nat) := (by decide +kernel : ∀ d ∈ dsM, d.1 ∈ ([41, 42, 43, 44, 45, 46, 47, 48, 49, 50, 51, 52, 53, 54, 55, 56, 57, 58, 59, 60, 61, 62, 63, 64, 65, 66, 67, 68, 69, 70, 40] : List Nat)) d0 h
        rw [pp_cell_cong (σ := pp_mx [41, 42, 43, 44, 45, 46, 47, 48, 49, 50, 51, 52, 53, 54, 55, 56, 57, 58, 59, 60, 61, 62, 63, 64, 65, 66, 67, 68, 69, 70, 40] (pp_mx [2, 3, 1, 5, 6, 7, 8, 4, 10, 11, 12, 9, 14, 15, 13, 17, 18, 19, 20, 16, 22, 23, 24, 21, 26, 27, 28, 29, 30, 31, 32, 33, 25, 34, 35, 37, 38, 36, 0] pp_0 σ0) μ0) (fun j => ((pp_2M t1).1 j).trans (by simp only [pp_mx, if_pos t2])) (fun j => ((pp_2M t1).2 j).trans (by simp only [pp_mx, if_pos t2]))]
        exact h8
    have hF : pp_Fx ((p, l, e, room_1, s, m, #[Value.ref b], below, meth, c, lw_Z below #[Value.ref b] s, 157, 3302, fun q => s.heap.size ≤ q), X) dsA cL_law 4 RL 43 1500 := ⟨hx, hb, hml, hown, hts, hK1, ⟨pp_I_inj dsA_nd hI2, okA, fun q ⟨d, hd, hq⟩ => by rw [hq]; exact hI2.2 d hd⟩, ⟨by decide, by decide⟩, ⟨by decide, by decide⟩, hlocks, hNw⟩
    have hSx : pp_Sx ((p, l, e, room_1, s, m, #[Value.ref b], below, meth, c, lw_Z below #[Value.ref b] s, 157, 3302, fun q => s.heap.size ≤ q), X) L xs := ⟨by rw [hXb]; exact hX, by rw [hXb]; exact hbl, by rw [hXb]; exact Nat.not_le.mpr hbl⟩
    have kl : pp_E ((p, l, e, room_1, s, m, #[Value.ref b], below, meth, c, lw_Z below #[Value.ref b] s, 157, 3302, fun q => s.heap.size ≤ q), X) dsA cL_law 4 16 [(0, ppR 99 0 0), (1, ppR 0 0 0), (2, ppR 40 0 0)] [] (pp_2 σ0 μ0) := by
      refine pp_iconst hF dL_law_16 ic_0 ?_
      refine pp_istore_n hF dL_law_17 rfl (by decide) (lv' := [(0, ppR 99 0 0), (1, ppR 0 0 0), (2, ppR 40 0 0), (3, ppI 0)]) rfl ?_
      exact law_loop hL H hF hSx hr (by decide) (by decide) (L + 7) 0 σ0 μ0 (by omega) (by omega) hR
    exact kl H1 locs1 ls1 hP2 hS1 hl1
  refine key s.heap [] ls hK ⟨fun d hd => absurd hd List.not_mem_nil, fun d hd => absurd hd List.not_mem_nil⟩ ⟨fun d hd => absurd hd List.not_mem_nil, fun d hd => absurd hd List.not_mem_nil⟩ va_S.rf ?_
  have hl2 : lv_has ls 4 [(0, .ref b)] := hl
  show lv_has ls 4 [(0, .ref (X.2.2.1 99 0))]
  rw [hXb]
  exact hl2
