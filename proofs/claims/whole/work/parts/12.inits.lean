set_option maxRecDepth 20000 in
theorem e_X1_init_44 {Γ : pp_G} {σ' : pp_M} (hF : pp_Fx Γ dsG cX1_init 3 RX1 1 20) (hR : pp_Rt Γ dsG none none σ') {σ : pp_M} {a1 : Int32} {a2 : Int32} {k18 : pp_M → Int32 → Option (pp_M)} (hk18 : ∀ {σ : pp_M} {a1 : Int32}, k18 σ a1 = some σ' → pp_E Γ dsG cX1_init 3 18 [(0, ppR 1 0 0), (1, ppI a1)] [] σ) {k44 : pp_M → Int32 → Int32 → Option (pp_M)} (hk44 : ∀ {σ : pp_M} {a1 : Int32} {a2 : Int32}, k44 σ a1 a2 = some σ' → pp_E Γ dsG cX1_init 3 44 [(0, ppR 1 0 0), (1, ppI a1), (2, ppI a2)] [] σ) (h : f_X1_init_44_B k18 k44 σ a1 a2 = some σ') : pp_E Γ dsG cX1_init 3 44 [(0, ppR 1 0 0), (1, ppI a1), (2, ppI a2)] [] σ := by
  unfold f_X1_init_44_B at h
  refine pp_iload_n hF dX1_init_44 rfl rfl ?_
  refine pp_iconst hF dX1_init_45 ic_3 ?_
  refine pp_icmp_ge (tgt := 68) hF dX1_init_46 rfl (fun c1 => ?_) (fun c1 => ?_)
  · replace h := (if_pos c1).symm.trans h
    refine pp_aload_n hF dX1_init_49 rfl rfl ?_
    refine pp_getR hF fdG_X1_11 dX1_init_50 ?_
    refine pp_iload_n hF dX1_init_53 rfl rfl ?_
    obtain ⟨hi2, h⟩ := pp_ck h
    refine pp_aaloadI hF vG_2 hi2 dX1_init_54 ?_
    refine pp_iconst hF dX1_init_55 ic_3 ?_
    refine pp_iload_n hF dX1_init_56 rfl rfl ?_
    refine pp_iadd hF dX1_init_57 ?_
    refine pp_iconst hF dX1_init_58 ic_2 ?_
    refine pp_iload_n hF dX1_init_59 rfl rfl ?_
    refine pp_iadd hF dX1_init_60 ?_
    obtain ⟨hi3, h⟩ := pp_ck h
    refine pp_iastoreJ hF (vG_3 _ (vp_lt hi2)) hi3 rfl dX1_init_61 ?_
    refine pp_iinc hF dX1_init_62 rfl (congrArg (HAdd.hAdd _) ic_1) (by decide) (lv' := [(0, ppR 1 0 0), (1, ppI a1), (2, ppI (a2 + (1 : Int32)))]) rfl ?_
    refine pp_goto (tgt := 44) hF dX1_init_65 rfl ?_
    exact hk44 h
  · replace h := (if_neg c1).symm.trans h
    refine pp_iinc hF dX1_init_68 rfl (congrArg (HAdd.hAdd _) ic_1) (by decide) (lv' := [(0, ppR 1 0 0), (1, ppI (a1 + (1 : Int32))), (2, ppI a2)]) rfl ?_
    refine pp_goto (tgt := 18) hF dX1_init_71 rfl ?_
    refine pp_few [0, 1] (lv' := [(0, ppR 1 0 0), (1, ppI (a1 + (1 : Int32)))]) rfl ?_
    exact hk18 h
set_option maxRecDepth 20000 in
theorem e_X1_init_44_L {Γ : pp_G} {σ' : pp_M} (hF : pp_Fx Γ dsG cX1_init 3 RX1 1 20) (hR : pp_Rt Γ dsG none none σ') {k18 : pp_M → Int32 → Option (pp_M)} (hk18 : ∀ {σ : pp_M} {a1 : Int32}, k18 σ a1 = some σ' → pp_E Γ dsG cX1_init 3 18 [(0, ppR 1 0 0), (1, ppI a1)] [] σ) : ∀ {n : Nat} {σ : pp_M} {a1 : Int32} {a2 : Int32}, f_X1_init_44 k18 n σ a1 a2 = some σ' → pp_E Γ dsG cX1_init 3 44 [(0, ppR 1 0 0), (1, ppI a1), (2, ppI a2)] [] σ
  | 0, _, _, _ => fun h => by cases h
  | n + 1, _, _, _ => fun h => e_X1_init_44 hF hR hk18 (fun h => e_X1_init_44_L hF hR hk18 (n := n) h) h
set_option maxRecDepth 20000 in
theorem e_X1_init_18 {Γ : pp_G} {σ' : pp_M} (hF : pp_Fx Γ dsG cX1_init 3 RX1 1 20) (hR : pp_Rt Γ dsG none none σ') {σ : pp_M} {a1 : Int32} {k18 : pp_M → Int32 → Option (pp_M)} (hk18 : ∀ {σ : pp_M} {a1 : Int32}, k18 σ a1 = some σ' → pp_E Γ dsG cX1_init 3 18 [(0, ppR 1 0 0), (1, ppI a1)] [] σ) (h : f_X1_init_18_B k18 σ a1 = some σ') : pp_E Γ dsG cX1_init 3 18 [(0, ppR 1 0 0), (1, ppI a1)] [] σ := by
  unfold f_X1_init_18_B at h
  refine pp_iload_n hF dX1_init_18 rfl rfl ?_
  refine pp_bipush hF dX1_init_19 bc_6 ?_
  refine pp_icmp_ge (tgt := 74) hF dX1_init_21 rfl (fun c1 => ?_) (fun c1 => ?_)
  · replace h := (if_pos c1).symm.trans h
    refine pp_aload_n hF dX1_init_24 rfl rfl ?_
    refine pp_getR hF fdG_X1_11 dX1_init_25 ?_
    refine pp_iload_n hF dX1_init_28 rfl rfl ?_
    obtain ⟨hi2, h⟩ := pp_ck h
    refine pp_aaloadI hF vG_2 hi2 dX1_init_29 ?_
    refine pp_iconst hF dX1_init_30 ic_0 ?_
    refine pp_iconst hF dX1_init_31 ic_1 ?_
    refine pp_iastoreJ hF (vG_3 _ (vp_lt hi2)) vl_0_6 (congrArg (HAdd.hAdd _) cl_0) dX1_init_32 ?_
    refine pp_aload_n hF dX1_init_33 rfl rfl ?_
    refine pp_getR hF fdG_X1_11 dX1_init_34 ?_
    refine pp_iload_n hF dX1_init_37 rfl rfl ?_
    refine pp_aaloadI hF vG_2 hi2 dX1_init_38 ?_
    refine pp_iconst hF dX1_init_39 ic_1 ?_
    refine pp_iconst hF dX1_init_40 ic_1 ?_
    refine pp_iastoreJ hF (vG_3 _ (vp_lt hi2)) vl_1_6 (congrArg (HAdd.hAdd _) cl_1) dX1_init_41 ?_
    refine pp_iconst hF dX1_init_42 ic_0 ?_
    refine pp_istore_n hF dX1_init_43 rfl (by decide) (lv' := [(0, ppR 1 0 0), (1, ppI a1), (2, ppI (0 : Int32))]) rfl ?_
    exact e_X1_init_44_L hF hR hk18 h
  · replace h := (if_neg c1).symm.trans h
    obtain rfl := (Option.some.inj h).symm
    exact pp_return hF hR dX1_init_74
set_option maxRecDepth 20000 in
theorem e_X1_init_18_L {Γ : pp_G} {σ' : pp_M} (hF : pp_Fx Γ dsG cX1_init 3 RX1 1 20) (hR : pp_Rt Γ dsG none none σ') : ∀ {n : Nat} {σ : pp_M} {a1 : Int32}, f_X1_init_18 n σ a1 = some σ' → pp_E Γ dsG cX1_init 3 18 [(0, ppR 1 0 0), (1, ppI a1)] [] σ
  | 0, _, _ => fun h => by cases h
  | n + 1, _, _ => fun h => e_X1_init_18 hF hR (fun h => e_X1_init_18_L hF hR (n := n) h) h
set_option maxRecDepth 20000 in
theorem e_X1_init_16 {Γ : pp_G} {σ' : pp_M} (hF : pp_Fx Γ dsG cX1_init 3 RX1 1 20) (hR : pp_Rt Γ dsG none none σ') {σ : pp_M}  (h : f_X1_init σ  = some σ') : pp_E Γ dsG cX1_init 3 16 [(0, ppR 1 0 0)] [] σ := by
  unfold f_X1_init at h
  refine pp_iconst hF dX1_init_16 ic_0 ?_
  refine pp_istore_n hF dX1_init_17 rfl (by decide) (lv' := [(0, ppR 1 0 0), (1, ppI (0 : Int32))]) rfl ?_
  exact e_X1_init_18_L hF hR h
set_option maxRecDepth 20000 in
theorem c_X1_init {σf : pp_M} (h : f_X1_init (pp_z (pp_z (pp_z pp_0 2) 3) 1) = some σf) : pp_Cn yX1_init cX1_init 3 1 20 7 42 1 1 [none] [] [2, 3] dsG σf :=
  pp_metN (σ := pp_0) pl_X1 rfl rfl (Nat.le_of_ble_eq_true rfl) rfl (fun p l e R s m args below meth c X A hret hB => by
  have hg : pp_gr [] X X := ⟨rfl, rfl, rfl, fun _ _ _ => rfl⟩
  refine pb_aload_n hB dX1_init_0 rfl rfl ?_
  refine pb_obj hB wm_83 wm_76 wq_obj ⟨by decide, by decide⟩ (Nat.le_of_ble_eq_true rfl) dX1_init_1 ?_
  refine pb_aload_n hB dX1_init_4 rfl rfl ?_
  refine pb_bipush hB dX1_init_5 bc_6 ?_
  refine pb_bipush hB dX1_init_7 bc_6 ?_
  refine pb_mna_i (t := 2) (g := 3) (N := 6) (n := 6) (nw := [(2, 0), (3, 0), (3, 6), (3, 12), (3, 18), (3, 24), (3, 30)]) (cl' := 7) (sl' := 42) hB rfl rfl (by decide) (by decide) rfl (by decide +kernel) (by decide) (by decide) (by decide) (by decide) (by decide) (by decide) (by decide) wm_93 wm_84 rfl rfl ⟨by decide, by decide⟩ dX1_init_9 (fun X hg1 => ?_)
  replace hg := pp_gr_tr hg hg1
  refine pb_put (fs' := [some (ppR 2 0 6)]) hB fr_X1_11 (fun _ => rfl) (fun _ => rfl) (by decide) (by decide +kernel) rfl dX1_init_13 ?_
  exact pb_done (σ' := (pp_z (pp_z (pp_z pp_0 2) 3) 1)) hB hg rfl (fun _ => rfl) (fun a ha => ⟨fun j => by simp [ppS, ppT, pp_z, ha], fun j => by simp [ppS, ppT, pp_z, ha]⟩) (by decide +kernel) rfl (by decide +kernel) okG hret (fun Γ hF hR => (e_X1_init_16 hF hR h)))
set_option maxRecDepth 20000 in
theorem eN_X2_init_28 {Γ : pp_G} {σ' : pp_M} (hF : pp_Fx Γ dsN cX2_init 1 RX2 2 123) (hR : pp_Rt Γ dsN none none σ') {σ : pp_M}  (h : f_X2_init σ  = some σ') : pp_E Γ dsN cX2_init 1 28 [(0, ppR 4 0 0)] [] σ := by
  unfold f_X2_init at h
  refine pp_aload_n hF dX2_init_28 rfl rfl ?_
  obtain ⟨x29, hx29, h⟩ := pp_bd h
  refine pp_callVv hF (cN_X2_findWays hx29) mV_X2_findWays lk_X2_19 obN_4 rfl rfl ⟨by decide, by decide⟩ (Nat.le_of_ble_eq_true rfl) dX2_init_29 ?_
  obtain rfl := (Option.some.inj h).symm
  exact pp_return hF hR dX2_init_32
set_option maxRecDepth 20000 in
theorem c_X2_init {σf : pp_M} (h : f_X2_init (pp_z (pp_z (pp_z (pp_z (pp_z pp_0 5) 6) 7) 8) 4) = some σf) : pp_Cn yX2_init cX2_init 1 2 123 18 144 4 2 [none, none] [] [5, 6, 7, 8] dsN σf :=
  pp_metN (σ := pp_0) pl_X2 rfl rfl (Nat.le_of_ble_eq_true rfl) rfl (fun p l e R s m args below meth c X A hret hB => by
  have hg : pp_gr [] X X := ⟨rfl, rfl, rfl, fun _ _ _ => rfl⟩
  refine pb_aload_n hB dX2_init_0 rfl rfl ?_
  refine pb_obj hB wm_99 wm_76 wq_obj ⟨by decide, by decide⟩ (Nat.le_of_ble_eq_true rfl) dX2_init_1 ?_
  refine pb_aload_n hB dX2_init_4 rfl rfl ?_
  refine pb_bipush hB dX2_init_5 bc_8 ?_
  refine pb_bipush hB dX2_init_7 bc_8 ?_
  refine pb_mna_i (t := 5) (g := 6) (N := 8) (n := 8) (nw := [(5, 0), (6, 0), (6, 8), (6, 16), (6, 24), (6, 32), (6, 40), (6, 48), (6, 56)]) (cl' := 9) (sl' := 72) hB rfl rfl (by decide) (by decide) rfl (by decide +kernel) (by decide) (by decide) (by decide) (by decide) (by decide) (by decide) (by decide) wm_93 wm_100 rfl rfl ⟨by decide, by decide⟩ dX2_init_9 (fun X hg1 => ?_)
  replace hg := pp_gr_tr hg hg1
  refine pb_put (fs' := [some (ppR 5 0 8), none]) hB fr_X2_11 (fun _ => rfl) (fun _ => rfl) (by decide) (by decide +kernel) rfl dX2_init_13 ?_
  refine pb_aload_n hB dX2_init_16 rfl rfl ?_
  refine pb_bipush hB dX2_init_17 bc_8 ?_
  refine pb_bipush hB dX2_init_19 bc_8 ?_
  refine pb_mna_i (t := 7) (g := 8) (N := 8) (n := 8) (nw := [(7, 0), (8, 0), (8, 8), (8, 16), (8, 24), (8, 32), (8, 40), (8, 48), (8, 56)]) (cl' := 18) (sl' := 144) hB rfl rfl (by decide) (by decide) rfl (by decide +kernel) (by decide) (by decide) (by decide) (by decide) (by decide) (by decide) (by decide) wm_93 wm_100 rfl rfl ⟨by decide, by decide⟩ dX2_init_21 (fun X hg1 => ?_)
  replace hg := pp_gr_tr hg hg1
  refine pb_put (fs' := [some (ppR 5 0 8), some (ppR 7 0 8)]) hB fr_X2_16 (fun _ => rfl) (fun _ => rfl) (by decide) (by decide +kernel) rfl dX2_init_25 ?_
  exact pb_done (σ' := (pp_z (pp_z (pp_z (pp_z (pp_z pp_0 5) 6) 7) 8) 4)) hB hg rfl (fun _ => rfl) (fun a ha => ⟨fun j => by simp [ppS, ppT, pp_z, ha], fun j => by simp [ppS, ppT, pp_z, ha]⟩) (by decide +kernel) rfl (by decide +kernel) okN hret (fun Γ hF hR => (eN_X2_init_28 hF hR h)))
set_option maxRecDepth 20000 in
theorem e_X4_init_23 {Γ : pp_G} {σ' : pp_M} (hF : pp_Fx Γ dsQ cX4_init 1 RX4 1 20) (hR : pp_Rt Γ dsQ none none σ') {σ : pp_M}  (h : f_X4_init σ  = some σ') : pp_E Γ dsQ cX4_init 1 23 [] [] σ := by
  unfold f_X4_init at h
  obtain rfl := (Option.some.inj h).symm
  exact pp_return hF hR dX4_init_23
set_option maxRecDepth 20000 in
theorem c_X4_init {σf : pp_M} (h : f_X4_init (pp_z (pp_z (pp_z (pp_z pp_0 10) 11) 12) 9) = some σf) : pp_Cn yX4_init cX4_init 1 1 20 50 198 9 4 [none, none] [] [10, 11, 12] dsQ σf :=
  pp_metN (σ := pp_0) pl_X4 rfl rfl (Nat.le_of_ble_eq_true rfl) rfl (fun p l e R s m args below meth c X A hret hB => by
  have hg : pp_gr [] X X := ⟨rfl, rfl, rfl, fun _ _ _ => rfl⟩
  refine pb_aload_n hB dX4_init_0 rfl rfl ?_
  refine pb_obj hB wm_123 wm_76 wq_obj ⟨by decide, by decide⟩ (Nat.le_of_ble_eq_true rfl) dX4_init_1 ?_
  refine pb_aload_n hB dX4_init_4 rfl rfl ?_
  refine pb_bipush hB dX4_init_5 bc_48 ?_
  refine pb_iconst hB dX4_init_7 ic_3 ?_
  refine pb_mna_i (t := 10) (g := 11) (N := 48) (n := 3) (nw := [(10, 0), (11, 0), (11, 3), (11, 6), (11, 9), (11, 12), (11, 15), (11, 18), (11, 21), (11, 24), (11, 27), (11, 30), (11, 33), (11, 36), (11, 39), (11, 42), (11, 45), (11, 48), (11, 51), (11, 54), (11, 57), (11, 60), (11, 63), (11, 66), (11, 69), (11, 72), (11, 75), (11, 78), (11, 81), (11, 84), (11, 87), (11, 90), (11, 93), (11, 96), (11, 99), (11, 102), (11, 105), (11, 108), (11, 111), (11, 114), (11, 117), (11, 120), (11, 123), (11, 126), (11, 129), (11, 132), (11, 135), (11, 138), (11, 141)]) (cl' := 49) (sl' := 192) hB rfl rfl (by decide) (by decide) rfl (by decide +kernel) (by decide) (by decide) (by decide) (by decide) (by decide) (by decide) (by decide) wm_93 wm_124 rfl rfl ⟨by decide, by decide⟩ dX4_init_8 (fun X hg1 => ?_)
  replace hg := pp_gr_tr hg hg1
  refine pb_put (fs' := [some (ppR 10 0 48), none]) hB fr_X4_11 (fun _ => rfl) (fun _ => rfl) (by decide) (by decide +kernel) rfl dX4_init_12 ?_
  refine pb_aload_n hB dX4_init_15 rfl rfl ?_
  refine pb_bipush hB dX4_init_16 bc_6 ?_
  refine pb_newa_i (t := 12) (cl' := 50) (sl' := 198) hB rfl (by decide +kernel) (by decide) (by decide) (by decide) wm_93 rfl rfl ⟨by decide, by decide⟩ dX4_init_18 (fun X hg1 => ?_)
  replace hg := pp_gr_tr hg hg1
  refine pb_put (fs' := [some (ppR 10 0 48), some (ppR 12 0 6)]) hB fr_X4_16 (fun _ => rfl) (fun _ => rfl) (by decide) (by decide +kernel) rfl dX4_init_20 ?_
  exact pb_done (σ' := (pp_z (pp_z (pp_z (pp_z pp_0 10) 11) 12) 9)) hB hg rfl (fun _ => rfl) (fun a ha => ⟨fun j => by simp [ppS, ppT, pp_z, ha], fun j => by simp [ppS, ppT, pp_z, ha]⟩) (by decide +kernel) rfl (by decide +kernel) okQ hret (fun Γ hF hR => pp_few [] (lv' := []) rfl (e_X4_init_23 hF hR h)))
set_option maxRecDepth 20000 in
theorem e_X3_init_19 {Γ : pp_G} {σ' : pp_M} (hF : pp_Fx Γ dsI cX3_init 1 RX3 1 20) (hR : pp_Rt Γ dsI none none σ') {σ : pp_M}  (h : f_X3_init σ  = some σ') : pp_E Γ dsI cX3_init 1 19 [(0, ppR 13 0 0)] [] σ := by
  unfold f_X3_init at h
  refine pp_aload_n hF dX3_init_19 rfl rfl ?_
  refine pp_iconst hF dX3_init_20 ic_0 ?_
  refine pp_putI hF fwI_X3_18 dX3_init_21 ?_
  refine pp_aload_n hF dX3_init_24 rfl rfl ?_
  refine pp_iconst hF dX3_init_25 ic_0 ?_
  refine pp_putI hF fwI_X3_22 dX3_init_26 ?_
  refine pp_aload_n hF dX3_init_29 rfl rfl ?_
  refine pp_iconst hF dX3_init_30 ic_0 ?_
  refine pp_putI hF fwI_X3_25 dX3_init_31 ?_
  refine pp_aload_n hF dX3_init_34 rfl rfl ?_
  refine pp_iconst hF dX3_init_35 ic_0 ?_
  refine pp_putI hF fwI_X3_28 dX3_init_36 ?_
  obtain rfl := (Option.some.inj h).symm
  exact pp_return hF hR dX3_init_39
set_option maxRecDepth 20000 in
theorem c_X3_init {σf : pp_M} (h : f_X3_init (pp_z (pp_z (pp_z pp_0 14) 15) 13) = some σf) : pp_Cn yX3_init cX3_init 1 1 20 2 43 13 3 [none, none, some (ppI 0), some (ppI 0), some (ppI 0), some (ppI 0)] [] [14, 15] dsI σf :=
  pp_metN (σ := pp_0) pl_X3 rfl rfl (Nat.le_of_ble_eq_true rfl) rfl (fun p l e R s m args below meth c X A hret hB => by
  have hg : pp_gr [] X X := ⟨rfl, rfl, rfl, fun _ _ _ => rfl⟩
  refine pb_aload_n hB dX3_init_0 rfl rfl ?_
  refine pb_obj hB wm_138 wm_76 wq_obj ⟨by decide, by decide⟩ (Nat.le_of_ble_eq_true rfl) dX3_init_1 ?_
  refine pb_aload_n hB dX3_init_4 rfl rfl ?_
  refine pb_bipush hB dX3_init_5 bc_40 ?_
  refine pb_newa_i (t := 14) (cl' := 1) (sl' := 40) hB rfl (by decide +kernel) (by decide) (by decide) (by decide) wm_93 rfl rfl ⟨by decide, by decide⟩ dX3_init_7 (fun X hg1 => ?_)
  replace hg := pp_gr_tr hg hg1
  refine pb_put (fs' := [some (ppR 14 0 40), none, some (ppI 0), some (ppI 0), some (ppI 0), some (ppI 0)]) hB fr_X3_9 (fun _ => rfl) (fun _ => rfl) (by decide) (by decide +kernel) rfl dX3_init_9 ?_
  refine pb_aload_n hB dX3_init_12 rfl rfl ?_
  refine pb_iconst hB dX3_init_13 ic_3 ?_
  refine pb_newa_i (t := 15) (cl' := 2) (sl' := 43) hB rfl (by decide +kernel) (by decide) (by decide) (by decide) wm_93 rfl rfl ⟨by decide, by decide⟩ dX3_init_14 (fun X hg1 => ?_)
  replace hg := pp_gr_tr hg hg1
  refine pb_put (fs' := [some (ppR 14 0 40), some (ppR 15 0 3), some (ppI 0), some (ppI 0), some (ppI 0), some (ppI 0)]) hB fr_X3_15 (fun _ => rfl) (fun _ => rfl) (by decide) (by decide +kernel) rfl dX3_init_16 ?_
  exact pb_done (σ' := (pp_z (pp_z (pp_z pp_0 14) 15) 13)) hB hg rfl (fun _ => rfl) (fun a ha => ⟨fun j => by simp [ppS, ppT, pp_z, ha], fun j => by simp [ppS, ppT, pp_z, ha]⟩) (by decide +kernel) rfl (by decide +kernel) okI hret (fun Γ hF hR => (e_X3_init_19 hF hR h)))
set_option maxRecDepth 20000 in
theorem e_X7_init_36 {Γ : pp_G} {σ' : pp_M} (hF : pp_Fx Γ dsH cX7_init 2 RX7 1 20) (hR : pp_Rt Γ dsH none none σ') {σ : pp_M} {a1 : Int32} {k36 : pp_M → Int32 → Option (pp_M)} (hk36 : ∀ {σ : pp_M} {a1 : Int32}, k36 σ a1 = some σ' → pp_E Γ dsH cX7_init 2 36 [(0, ppR 16 0 0), (1, ppI a1)] [] σ) (h : f_X7_init_36_B k36 σ a1 = some σ') : pp_E Γ dsH cX7_init 2 36 [(0, ppR 16 0 0), (1, ppI a1)] [] σ := by
  unfold f_X7_init_36_B at h
  refine pp_iload_n hF dX7_init_36 rfl rfl ?_
  refine pp_iconst hF dX7_init_37 ic_4 ?_
  refine pp_icmp_ge (tgt := 54) hF dX7_init_38 rfl (fun c1 => ?_) (fun c1 => ?_)
  · replace h := (if_pos c1).symm.trans h
    refine pp_aload_n hF dX7_init_41 rfl rfl ?_
    refine pp_getR hF fdH_X7_20 dX7_init_42 ?_
    refine pp_iload_n hF dX7_init_45 rfl rfl ?_
    refine pp_iconst hF dX7_init_46 ic_n1 ?_
    obtain ⟨hi2, h⟩ := pp_ck h
    refine pp_iastoreJ hF vH_20 hi2 (Nat.zero_add _) dX7_init_47 ?_
    refine pp_iinc hF dX7_init_48 rfl (congrArg (HAdd.hAdd _) ic_1) (by decide) (lv' := [(0, ppR 16 0 0), (1, ppI (a1 + (1 : Int32)))]) rfl ?_
    refine pp_goto (tgt := 36) hF dX7_init_51 rfl ?_
    exact hk36 h
  · replace h := (if_neg c1).symm.trans h
    obtain rfl := (Option.some.inj h).symm
    exact pp_return hF hR dX7_init_54
set_option maxRecDepth 20000 in
theorem e_X7_init_36_L {Γ : pp_G} {σ' : pp_M} (hF : pp_Fx Γ dsH cX7_init 2 RX7 1 20) (hR : pp_Rt Γ dsH none none σ') : ∀ {n : Nat} {σ : pp_M} {a1 : Int32}, f_X7_init_36 n σ a1 = some σ' → pp_E Γ dsH cX7_init 2 36 [(0, ppR 16 0 0), (1, ppI a1)] [] σ
  | 0, _, _ => fun h => by cases h
  | n + 1, _, _ => fun h => e_X7_init_36 hF hR (fun h => e_X7_init_36_L hF hR (n := n) h) h
set_option maxRecDepth 20000 in
theorem e_X7_init_29 {Γ : pp_G} {σ' : pp_M} (hF : pp_Fx Γ dsH cX7_init 2 RX7 1 20) (hR : pp_Rt Γ dsH none none σ') {σ : pp_M}  (h : f_X7_init σ  = some σ') : pp_E Γ dsH cX7_init 2 29 [(0, ppR 16 0 0)] [] σ := by
  unfold f_X7_init at h
  refine pp_aload_n hF dX7_init_29 rfl rfl ?_
  refine pp_iconst hF dX7_init_30 ic_0 ?_
  refine pp_putI hF fwH_X7_23 dX7_init_31 ?_
  refine pp_iconst hF dX7_init_34 ic_0 ?_
  refine pp_istore_n hF dX7_init_35 rfl (by decide) (lv' := [(0, ppR 16 0 0), (1, ppI (0 : Int32))]) rfl ?_
  exact e_X7_init_36_L hF hR h
set_option maxRecDepth 20000 in
theorem c_X7_init {σf : pp_M} (h : f_X7_init (pp_z (pp_z (pp_z (pp_z (pp_z pp_0 17) 18) 19) 20) 16) = some σf) : pp_Cn yX7_init cX7_init 2 1 20 7 172 16 7 [none, none, none, some (ppI 0)] [] [17, 18, 19, 20] dsH σf :=
  pp_metN (σ := pp_0) pl_X7 rfl rfl (Nat.le_of_ble_eq_true rfl) rfl (fun p l e R s m args below meth c X A hret hB => by
  have hg : pp_gr [] X X := ⟨rfl, rfl, rfl, fun _ _ _ => rfl⟩
  refine pb_aload_n hB dX7_init_0 rfl rfl ?_
  refine pb_obj hB wm_164 wm_76 wq_obj ⟨by decide, by decide⟩ (Nat.le_of_ble_eq_true rfl) dX7_init_1 ?_
  refine pb_aload_n hB dX7_init_4 rfl rfl ?_
  refine pb_iconst hB dX7_init_5 ic_4 ?_
  refine pb_bipush hB dX7_init_6 bc_40 ?_
  refine pb_mna_i (t := 17) (g := 18) (N := 4) (n := 40) (nw := [(17, 0), (18, 0), (18, 40), (18, 80), (18, 120)]) (cl' := 5) (sl' := 164) hB rfl rfl (by decide) (by decide) rfl (by decide +kernel) (by decide) (by decide) (by decide) (by decide) (by decide) (by decide) (by decide) wm_93 wm_165 rfl rfl ⟨by decide, by decide⟩ dX7_init_8 (fun X hg1 => ?_)
  replace hg := pp_gr_tr hg hg1
  refine pb_put (fs' := [some (ppR 17 0 4), none, none, some (ppI 0)]) hB fr_X7_11 (fun _ => rfl) (fun _ => rfl) (by decide) (by decide +kernel) rfl dX7_init_12 ?_
  refine pb_aload_n hB dX7_init_15 rfl rfl ?_
  refine pb_iconst hB dX7_init_16 ic_4 ?_
  refine pb_newa_i (t := 19) (cl' := 6) (sl' := 168) hB rfl (by decide +kernel) (by decide) (by decide) (by decide) wm_93 rfl rfl ⟨by decide, by decide⟩ dX7_init_17 (fun X hg1 => ?_)
  replace hg := pp_gr_tr hg hg1
  refine pb_put (fs' := [some (ppR 17 0 4), some (ppR 19 0 4), none, some (ppI 0)]) hB fr_X7_16 (fun _ => rfl) (fun _ => rfl) (by decide) (by decide +kernel) rfl dX7_init_19 ?_
  refine pb_aload_n hB dX7_init_22 rfl rfl ?_
  refine pb_iconst hB dX7_init_23 ic_4 ?_
  refine pb_newa_i (t := 20) (cl' := 7) (sl' := 172) hB rfl (by decide +kernel) (by decide) (by decide) (by decide) wm_93 rfl rfl ⟨by decide, by decide⟩ dX7_init_24 (fun X hg1 => ?_)
  replace hg := pp_gr_tr hg hg1
  refine pb_put (fs' := [some (ppR 17 0 4), some (ppR 19 0 4), some (ppR 20 0 4), some (ppI 0)]) hB fr_X7_20 (fun _ => rfl) (fun _ => rfl) (by decide) (by decide +kernel) rfl dX7_init_26 ?_
  exact pb_done (σ' := (pp_z (pp_z (pp_z (pp_z (pp_z pp_0 17) 18) 19) 20) 16)) hB hg rfl (fun _ => rfl) (fun a ha => ⟨fun j => by simp [ppS, ppT, pp_z, ha], fun j => by simp [ppS, ppT, pp_z, ha]⟩) (by decide +kernel) rfl (by decide +kernel) okH hret (fun Γ hF hR => (e_X7_init_29 hF hR h)))
set_option maxRecDepth 20000 in
theorem e_X0_init_33 {Γ : pp_G} {σ' : pp_M} (hF : pp_Fx Γ dsD cX0_init 3 RX0 1 20) (hR : pp_Rt Γ dsD none none σ') {σ : pp_M}  (h : f_X0_init σ  = some σ') : pp_E Γ dsD cX0_init 3 33 [] [] σ := by
  unfold f_X0_init at h
  obtain rfl := (Option.some.inj h).symm
  exact pp_return hF hR dX0_init_33
set_option maxRecDepth 20000 in
theorem c_X0_init {σf : pp_M} (h : f_X0_init (pp_z (pp_z (pp_z (pp_z pp_0 22) 23) 24) 21) = some σf) : pp_Cn yX0_init cX0_init 3 1 20 10 253 21 0 [none, none, none, none] [ppR 1 0 0, ppR 9 0 0] [22, 23, 24] dsD σf :=
  pp_metN (σ := pp_0) pl_X0 rfl rfl (Nat.le_of_ble_eq_true rfl) rfl (fun p l e R s m args below meth c X A hret hB => by
  have hg : pp_gr [] X X := ⟨rfl, rfl, rfl, fun _ _ _ => rfl⟩
  refine pb_aload_n hB dX0_init_0 rfl rfl ?_
  refine pb_obj hB wm_188 wm_76 wq_obj ⟨by decide, by decide⟩ (Nat.le_of_ble_eq_true rfl) dX0_init_1 ?_
  refine pb_aload_n hB dX0_init_4 rfl rfl ?_
  refine pb_bipush hB dX0_init_5 bc_8 ?_
  refine pb_bipush hB dX0_init_7 bc_30 ?_
  refine pb_mna_l (t := 22) (g := 23) (N := 8) (n := 30) (nw := [(22, 0), (23, 0), (23, 30), (23, 60), (23, 90), (23, 120), (23, 150), (23, 180), (23, 210)]) (cl' := 9) (sl' := 248) hB rfl rfl (by decide) (by decide) rfl (by decide +kernel) (by decide) (by decide) (by decide) (by decide) (by decide) (by decide) (by decide) wm_207 wm_189 rfl rfl ⟨by decide, by decide⟩ dX0_init_9 (fun X hg1 => ?_)
  replace hg := pp_gr_tr hg hg1
  refine pb_put (fs' := [none, none, some (ppR 22 0 8), none]) hB fr_X0_11 (fun _ => rfl) (fun _ => rfl) (by decide) (by decide +kernel) rfl dX0_init_13 ?_
  refine pb_aload_n hB dX0_init_16 rfl rfl ?_
  refine pb_iconst hB dX0_init_17 ic_5 ?_
  refine pb_newa_l (t := 24) (cl' := 10) (sl' := 253) hB rfl (by decide +kernel) (by decide) (by decide) (by decide) wm_207 rfl rfl ⟨by decide, by decide⟩ dX0_init_18 (fun X hg1 => ?_)
  replace hg := pp_gr_tr hg hg1
  refine pb_put (fs' := [none, none, some (ppR 22 0 8), some (ppR 24 0 5)]) hB fr_X0_16 (fun _ => rfl) (fun _ => rfl) (by decide) (by decide +kernel) rfl dX0_init_20 ?_
  refine pb_aload_n hB dX0_init_23 rfl rfl ?_
  refine pb_aload_n hB dX0_init_24 rfl rfl ?_
  refine pb_put (fs' := [some (ppR 1 0 0), none, some (ppR 22 0 8), some (ppR 24 0 5)]) hB fr_X0_20 (fun _ => rfl) (fun _ => rfl) (by decide) (by decide +kernel) rfl dX0_init_25 ?_
  refine pb_aload_n hB dX0_init_28 rfl rfl ?_
  refine pb_aload_n hB dX0_init_29 rfl rfl ?_
  refine pb_put (fs' := [some (ppR 1 0 0), some (ppR 9 0 0), some (ppR 22 0 8), some (ppR 24 0 5)]) hB fr_X0_24 (fun _ => rfl) (fun _ => rfl) (by decide) (by decide +kernel) rfl dX0_init_30 ?_
  exact pb_done (σ' := (pp_z (pp_z (pp_z (pp_z pp_0 22) 23) 24) 21)) hB hg rfl (fun _ => rfl) (fun a ha => ⟨fun j => by simp [ppS, ppT, pp_z, ha], fun j => by simp [ppS, ppT, pp_z, ha]⟩) (by decide +kernel) rfl (by decide +kernel) okD hret (fun Γ hF hR => pp_few [] (lv' := []) rfl (e_X0_init_33 hF hR h)))
set_option maxRecDepth 20000 in
theorem e_X5_init_74 {Γ : pp_G} {σ' : pp_M} (hF : pp_Fx Γ dsP cX5_init 2 RX5 1 20) (hR : pp_Rt Γ dsP none none σ') {σ : pp_M}  (h : f_X5_init σ  = some σ') : pp_E Γ dsP cX5_init 2 74 [] [] σ := by
  unfold f_X5_init at h
  obtain rfl := (Option.some.inj h).symm
  exact pp_return hF hR dX5_init_74
set_option maxRecDepth 20000 in
theorem c_X5_init {σf : pp_M} (h : f_X5_init (ppT (pp_z (pp_z (pp_z (pp_z (pp_z (pp_z (pp_z (pp_z (pp_z pp_0 26) 27) 28) 29) 30) 31) 32) 33) 25) 25 8 (1 : Int64)) = some σf) : pp_Cn yX5_init cX5_init 2 1 20 19 792 25 5 [none, none, none, none, none, none, none, some (ppL 0), some (ppL 0)] [ppR 1 0 0] [26, 27, 28, 29, 30, 31, 32, 33] dsP σf :=
  pp_metN (σ := pp_0) pl_X5 rfl rfl (Nat.le_of_ble_eq_true rfl) rfl (fun p l e R s m args below meth c X A hret hB => by
  have hg : pp_gr [] X X := ⟨rfl, rfl, rfl, fun _ _ _ => rfl⟩
  refine pb_aload_n hB dX5_init_0 rfl rfl ?_
  refine pb_obj hB wm_213 wm_76 wq_obj ⟨by decide, by decide⟩ (Nat.le_of_ble_eq_true rfl) dX5_init_1 ?_
  refine pb_aload_n hB dX5_init_4 rfl rfl ?_
  refine pb_bipush hB dX5_init_5 bc_6 ?_
  refine pb_iconst hB dX5_init_7 ic_5 ?_
  refine pb_mna_l (t := 26) (g := 27) (N := 6) (n := 5) (nw := [(26, 0), (27, 0), (27, 5), (27, 10), (27, 15), (27, 20), (27, 25)]) (cl' := 7) (sl' := 36) hB rfl rfl (by decide) (by decide) rfl (by decide +kernel) (by decide) (by decide) (by decide) (by decide) (by decide) (by decide) (by decide) wm_207 wm_214 rfl rfl ⟨by decide, by decide⟩ dX5_init_8 (fun X hg1 => ?_)
  replace hg := pp_gr_tr hg hg1
  refine pb_put (fs' := [none, some (ppR 26 0 6), none, none, none, none, none, some (ppL 0), some (ppL 0)]) hB fr_X5_11 (fun _ => rfl) (fun _ => rfl) (by decide) (by decide +kernel) rfl dX5_init_12 ?_
  refine pb_aload_n hB dX5_init_15 rfl rfl ?_
  refine pb_bipush hB dX5_init_16 bc_6 ?_
  refine pb_newa_i (t := 28) (cl' := 8) (sl' := 42) hB rfl (by decide +kernel) (by decide) (by decide) (by decide) wm_93 rfl rfl ⟨by decide, by decide⟩ dX5_init_18 (fun X hg1 => ?_)
  replace hg := pp_gr_tr hg hg1
  refine pb_put (fs' := [none, some (ppR 26 0 6), some (ppR 28 0 6), none, none, none, none, some (ppL 0), some (ppL 0)]) hB fr_X5_16 (fun _ => rfl) (fun _ => rfl) (by decide) (by decide +kernel) rfl dX5_init_20 ?_
  refine pb_aload_n hB dX5_init_23 rfl rfl ?_
  refine pb_bipush hB dX5_init_24 bc_7 ?_
  refine pb_bipush hB dX5_init_26 bc_101 ?_
  refine pb_mna_l (t := 29) (g := 30) (N := 7) (n := 101) (nw := [(29, 0), (30, 0), (30, 101), (30, 202), (30, 303), (30, 404), (30, 505), (30, 606)]) (cl' := 16) (sl' := 756) hB rfl rfl (by decide) (by decide) rfl (by decide +kernel) (by decide) (by decide) (by decide) (by decide) (by decide) (by decide) (by decide) wm_207 wm_214 rfl rfl ⟨by decide, by decide⟩ dX5_init_28 (fun X hg1 => ?_)
  replace hg := pp_gr_tr hg hg1
  refine pb_put (fs' := [none, some (ppR 26 0 6), some (ppR 28 0 6), some (ppR 29 0 7), none, none, none, some (ppL 0), some (ppL 0)]) hB fr_X5_20 (fun _ => rfl) (fun _ => rfl) (by decide) (by decide +kernel) rfl dX5_init_32 ?_
  refine pb_aload_n hB dX5_init_35 rfl rfl ?_
  refine pb_bipush hB dX5_init_36 bc_24 ?_
  refine pb_newa_z (t := 31) (cl' := 17) (sl' := 780) hB rfl (by decide +kernel) (by decide) (by decide) (by decide) wm_247 rfl rfl ⟨by decide, by decide⟩ dX5_init_38 (fun X hg1 => ?_)
  replace hg := pp_gr_tr hg hg1
  refine pb_put (fs' := [none, some (ppR 26 0 6), some (ppR 28 0 6), some (ppR 29 0 7), some (ppR 31 0 24), none, none, some (ppL 0), some (ppL 0)]) hB fr_X5_23 (fun _ => rfl) (fun _ => rfl) (by decide) (by decide +kernel) rfl dX5_init_40 ?_
  refine pb_aload_n hB dX5_init_43 rfl rfl ?_
  refine pb_bipush hB dX5_init_44 bc_6 ?_
  refine pb_newa_i (t := 32) (cl' := 18) (sl' := 786) hB rfl (by decide +kernel) (by decide) (by decide) (by decide) wm_93 rfl rfl ⟨by decide, by decide⟩ dX5_init_46 (fun X hg1 => ?_)
  replace hg := pp_gr_tr hg hg1
  refine pb_put (fs' := [none, some (ppR 26 0 6), some (ppR 28 0 6), some (ppR 29 0 7), some (ppR 31 0 24), some (ppR 32 0 6), none, some (ppL 0), some (ppL 0)]) hB fr_X5_27 (fun _ => rfl) (fun _ => rfl) (by decide) (by decide +kernel) rfl dX5_init_48 ?_
  refine pb_aload_n hB dX5_init_51 rfl rfl ?_
  refine pb_bipush hB dX5_init_52 bc_6 ?_
  refine pb_newa_i (t := 33) (cl' := 19) (sl' := 792) hB rfl (by decide +kernel) (by decide) (by decide) (by decide) wm_93 rfl rfl ⟨by decide, by decide⟩ dX5_init_54 (fun X hg1 => ?_)
  replace hg := pp_gr_tr hg hg1
  refine pb_put (fs' := [none, some (ppR 26 0 6), some (ppR 28 0 6), some (ppR 29 0 7), some (ppR 31 0 24), some (ppR 32 0 6), some (ppR 33 0 6), some (ppL 0), some (ppL 0)]) hB fr_X5_30 (fun _ => rfl) (fun _ => rfl) (by decide) (by decide +kernel) rfl dX5_init_56 ?_
  refine pb_aload_n hB dX5_init_59 rfl rfl ?_
  refine pb_lconst hB dX5_init_60 lc_0 ?_
  refine pb_put (fs' := [none, some (ppR 26 0 6), some (ppR 28 0 6), some (ppR 29 0 7), some (ppR 31 0 24), some (ppR 32 0 6), some (ppR 33 0 6), some (ppL (0 : Int64)), some (ppL 0)]) hB fr_X5_33 (fun _ => rfl) (fun _ => rfl) (by decide) (by decide +kernel) rfl dX5_init_61 ?_
  refine pb_aload_n hB dX5_init_64 rfl rfl ?_
  refine pb_lconst hB dX5_init_65 lc_1 ?_
  refine pb_put (fs' := [none, some (ppR 26 0 6), some (ppR 28 0 6), some (ppR 29 0 7), some (ppR 31 0 24), some (ppR 32 0 6), some (ppR 33 0 6), some (ppL (0 : Int64)), some (ppL (1 : Int64))]) hB fr_X5_37 (fun _ => rfl) (fun _ => rfl) (by decide) (by decide +kernel) rfl dX5_init_66 ?_
  refine pb_aload_n hB dX5_init_69 rfl rfl ?_
  refine pb_aload_n hB dX5_init_70 rfl rfl ?_
  refine pb_put (fs' := [some (ppR 1 0 0), some (ppR 26 0 6), some (ppR 28 0 6), some (ppR 29 0 7), some (ppR 31 0 24), some (ppR 32 0 6), some (ppR 33 0 6), some (ppL (0 : Int64)), some (ppL (1 : Int64))]) hB fr_X5_40 (fun _ => rfl) (fun _ => rfl) (by decide) (by decide +kernel) rfl dX5_init_71 ?_
  exact pb_done (σ' := (ppT (pp_z (pp_z (pp_z (pp_z (pp_z (pp_z (pp_z (pp_z (pp_z pp_0 26) 27) 28) 29) 30) 31) 32) 33) 25) 25 8 (1 : Int64))) hB hg rfl (fun _ => rfl) (fun a ha => ⟨fun j => by simp [ppS, ppT, pp_z, ha], fun j => by simp [ppS, ppT, pp_z, ha]⟩) (by decide +kernel) rfl (by decide +kernel) okP hret (fun Γ hF hR => pp_few [] (lv' := []) rfl (e_X5_init_74 hF hR h)))
set_option maxRecDepth 20000 in
theorem e_X6_init_88 {Γ : pp_G} {σ' : pp_M} (hF : pp_Fx Γ dsR cX6_init 5 RX6 1 20) (hR : pp_Rt Γ dsR none none σ') {σ : pp_M}  (h : f_X6_init σ  = some σ') : pp_E Γ dsR cX6_init 5 88 [] [] σ := by
  unfold f_X6_init at h
  obtain rfl := (Option.some.inj h).symm
  exact pp_return hF hR dX6_init_88
set_option maxRecDepth 20000 in
theorem c_X6_init {σf : pp_M} (h : f_X6_init (pp_z (pp_z (pp_z pp_0 37) 38) 36) = some σf) : pp_Cn yX6_init cX6_init 5 1 20 2 256 36 6 [none, none, none, none, none, none, some (ppI 0), some (ppI 0), some (ppI 0), some (ppI 0), some (ppI 0), some (ppI 0), some (ppI 0), some (ppI 0), some (ppL 0)] [ppR 4 0 0, ppR 21 0 0, ppR 25 0 0, ppR 35 0 6] [37, 38] dsR σf :=
  pp_metN (σ := pp_0) pl_X6 rfl rfl (Nat.le_of_ble_eq_true rfl) rfl (fun p l e R s m args below meth c X A hret hB => by
  have hg : pp_gr [] X X := ⟨rfl, rfl, rfl, fun _ _ _ => rfl⟩
  refine pb_aload_n hB dX6_init_0 rfl rfl ?_
  refine pb_obj hB wm_253 wm_76 wq_obj ⟨by decide, by decide⟩ (Nat.le_of_ble_eq_true rfl) dX6_init_1 ?_
  refine pb_aload_n hB dX6_init_4 rfl rfl ?_
  refine pb_sipush hB dX6_init_5 sc_128 ?_
  refine pb_newa_l (t := 37) (cl' := 1) (sl' := 128) hB rfl (by decide +kernel) (by decide) (by decide) (by decide) wm_207 rfl rfl ⟨by decide, by decide⟩ dX6_init_8 (fun X hg1 => ?_)
  replace hg := pp_gr_tr hg hg1
  refine pb_put (fs' := [none, none, none, none, some (ppR 37 0 128), none, some (ppI 0), some (ppI 0), some (ppI 0), some (ppI 0), some (ppI 0), some (ppI 0), some (ppI 0), some (ppI 0), some (ppL 0)]) hB fr_X6_9 (fun _ => rfl) (fun _ => rfl) (by decide) (by decide +kernel) rfl dX6_init_10 ?_
  refine pb_aload_n hB dX6_init_13 rfl rfl ?_
  refine pb_sipush hB dX6_init_14 sc_128 ?_
  refine pb_newa_i (t := 38) (cl' := 2) (sl' := 256) hB rfl (by decide +kernel) (by decide) (by decide) (by decide) wm_93 rfl rfl ⟨by decide, by decide⟩ dX6_init_17 (fun X hg1 => ?_)
  replace hg := pp_gr_tr hg hg1
  refine pb_put (fs' := [none, none, none, none, some (ppR 37 0 128), some (ppR 38 0 128), some (ppI 0), some (ppI 0), some (ppI 0), some (ppI 0), some (ppI 0), some (ppI 0), some (ppI 0), some (ppI 0), some (ppL 0)]) hB fr_X6_15 (fun _ => rfl) (fun _ => rfl) (by decide) (by decide +kernel) rfl dX6_init_19 ?_
  refine pb_aload_n hB dX6_init_22 rfl rfl ?_
  refine pb_iconst hB dX6_init_23 ic_0 ?_
  refine pb_put (fs' := [none, none, none, none, some (ppR 37 0 128), some (ppR 38 0 128), some (ppI (0 : Int32)), some (ppI 0), some (ppI 0), some (ppI 0), some (ppI 0), some (ppI 0), some (ppI 0), some (ppI 0), some (ppL 0)]) hB fr_X6_19 (fun _ => rfl) (fun _ => rfl) (by decide) (by decide +kernel) rfl dX6_init_24 ?_
  refine pb_aload_n hB dX6_init_27 rfl rfl ?_
  refine pb_iconst hB dX6_init_28 ic_0 ?_
  refine pb_put (fs' := [none, none, none, none, some (ppR 37 0 128), some (ppR 38 0 128), some (ppI (0 : Int32)), some (ppI (0 : Int32)), some (ppI 0), some (ppI 0), some (ppI 0), some (ppI 0), some (ppI 0), some (ppI 0), some (ppL 0)]) hB fr_X6_23 (fun _ => rfl) (fun _ => rfl) (by decide) (by decide +kernel) rfl dX6_init_29 ?_
  refine pb_aload_n hB dX6_init_32 rfl rfl ?_
  refine pb_iconst hB dX6_init_33 ic_0 ?_
  refine pb_put (fs' := [none, none, none, none, some (ppR 37 0 128), some (ppR 38 0 128), some (ppI (0 : Int32)), some (ppI (0 : Int32)), some (ppI (0 : Int32)), some (ppI 0), some (ppI 0), some (ppI 0), some (ppI 0), some (ppI 0), some (ppL 0)]) hB fr_X6_26 (fun _ => rfl) (fun _ => rfl) (by decide) (by decide +kernel) rfl dX6_init_34 ?_
  refine pb_aload_n hB dX6_init_37 rfl rfl ?_
  refine pb_iconst hB dX6_init_38 ic_0 ?_
  refine pb_put (fs' := [none, none, none, none, some (ppR 37 0 128), some (ppR 38 0 128), some (ppI (0 : Int32)), some (ppI (0 : Int32)), some (ppI (0 : Int32)), some (ppI (0 : Int32)), some (ppI 0), some (ppI 0), some (ppI 0), some (ppI 0), some (ppL 0)]) hB fr_X6_30 (fun _ => rfl) (fun _ => rfl) (by decide) (by decide +kernel) rfl dX6_init_39 ?_
  refine pb_aload_n hB dX6_init_42 rfl rfl ?_
  refine pb_iconst hB dX6_init_43 ic_0 ?_
  refine pb_put (fs' := [none, none, none, none, some (ppR 37 0 128), some (ppR 38 0 128), some (ppI (0 : Int32)), some (ppI (0 : Int32)), some (ppI (0 : Int32)), some (ppI (0 : Int32)), some (ppI (0 : Int32)), some (ppI 0), some (ppI 0), some (ppI 0), some (ppL 0)]) hB fr_X6_33 (fun _ => rfl) (fun _ => rfl) (by decide) (by decide +kernel) rfl dX6_init_44 ?_
  refine pb_aload_n hB dX6_init_47 rfl rfl ?_
  refine pb_iconst hB dX6_init_48 ic_0 ?_
  refine pb_put (fs' := [none, none, none, none, some (ppR 37 0 128), some (ppR 38 0 128), some (ppI (0 : Int32)), some (ppI (0 : Int32)), some (ppI (0 : Int32)), some (ppI (0 : Int32)), some (ppI (0 : Int32)), some (ppI (0 : Int32)), some (ppI 0), some (ppI 0), some (ppL 0)]) hB fr_X6_36 (fun _ => rfl) (fun _ => rfl) (by decide) (by decide +kernel) rfl dX6_init_49 ?_
  refine pb_aload_n hB dX6_init_52 rfl rfl ?_
  refine pb_iconst hB dX6_init_53 ic_0 ?_
  refine pb_put (fs' := [none, none, none, none, some (ppR 37 0 128), some (ppR 38 0 128), some (ppI (0 : Int32)), some (ppI (0 : Int32)), some (ppI (0 : Int32)), some (ppI (0 : Int32)), some (ppI (0 : Int32)), some (ppI (0 : Int32)), some (ppI (0 : Int32)), some (ppI 0), some (ppL 0)]) hB fr_X6_39 (fun _ => rfl) (fun _ => rfl) (by decide) (by decide +kernel) rfl dX6_init_54 ?_
  refine pb_aload_n hB dX6_init_57 rfl rfl ?_
  refine pb_iconst hB dX6_init_58 ic_0 ?_
  refine pb_put (fs' := [none, none, none, none, some (ppR 37 0 128), some (ppR 38 0 128), some (ppI (0 : Int32)), some (ppI (0 : Int32)), some (ppI (0 : Int32)), some (ppI (0 : Int32)), some (ppI (0 : Int32)), some (ppI (0 : Int32)), some (ppI (0 : Int32)), some (ppI (0 : Int32)), some (ppL 0)]) hB fr_X6_42 (fun _ => rfl) (fun _ => rfl) (by decide) (by decide +kernel) rfl dX6_init_59 ?_
  refine pb_aload_n hB dX6_init_62 rfl rfl ?_
  refine pb_lconst hB dX6_init_63 lc_0 ?_
  refine pb_put (fs' := [none, none, none, none, some (ppR 37 0 128), some (ppR 38 0 128), some (ppI (0 : Int32)), some (ppI (0 : Int32)), some (ppI (0 : Int32)), some (ppI (0 : Int32)), some (ppI (0 : Int32)), some (ppI (0 : Int32)), some (ppI (0 : Int32)), some (ppI (0 : Int32)), some (ppL (0 : Int64))]) hB fr_X6_45 (fun _ => rfl) (fun _ => rfl) (by decide) (by decide +kernel) rfl dX6_init_64 ?_
  refine pb_aload_n hB dX6_init_67 rfl rfl ?_
  refine pb_aload_n hB dX6_init_68 rfl rfl ?_
  refine pb_put (fs' := [some (ppR 4 0 0), none, none, none, some (ppR 37 0 128), some (ppR 38 0 128), some (ppI (0 : Int32)), some (ppI (0 : Int32)), some (ppI (0 : Int32)), some (ppI (0 : Int32)), some (ppI (0 : Int32)), some (ppI (0 : Int32)), some (ppI (0 : Int32)), some (ppI (0 : Int32)), some (ppL (0 : Int64))]) hB fr_X6_49 (fun _ => rfl) (fun _ => rfl) (by decide) (by decide +kernel) rfl dX6_init_69 ?_
  refine pb_aload_n hB dX6_init_72 rfl rfl ?_
  refine pb_aload_n hB dX6_init_73 rfl rfl ?_
  refine pb_put (fs' := [some (ppR 4 0 0), some (ppR 21 0 0), none, none, some (ppR 37 0 128), some (ppR 38 0 128), some (ppI (0 : Int32)), some (ppI (0 : Int32)), some (ppI (0 : Int32)), some (ppI (0 : Int32)), some (ppI (0 : Int32)), some (ppI (0 : Int32)), some (ppI (0 : Int32)), some (ppI (0 : Int32)), some (ppL (0 : Int64))]) hB fr_X6_53 (fun _ => rfl) (fun _ => rfl) (by decide) (by decide +kernel) rfl dX6_init_74 ?_
  refine pb_aload_n hB dX6_init_77 rfl rfl ?_
  refine pb_aload_n hB dX6_init_78 rfl rfl ?_
  refine pb_put (fs' := [some (ppR 4 0 0), some (ppR 21 0 0), some (ppR 25 0 0), none, some (ppR 37 0 128), some (ppR 38 0 128), some (ppI (0 : Int32)), some (ppI (0 : Int32)), some (ppI (0 : Int32)), some (ppI (0 : Int32)), some (ppI (0 : Int32)), some (ppI (0 : Int32)), some (ppI (0 : Int32)), some (ppI (0 : Int32)), some (ppL (0 : Int64))]) hB fr_X6_57 (fun _ => rfl) (fun _ => rfl) (by decide) (by decide +kernel) rfl dX6_init_79 ?_
  refine pb_aload_n hB dX6_init_82 rfl rfl ?_
  refine pb_aload hB dX6_init_83 rfl ?_
  refine pb_put (fs' := [some (ppR 4 0 0), some (ppR 21 0 0), some (ppR 25 0 0), some (ppR 35 0 6), some (ppR 37 0 128), some (ppR 38 0 128), some (ppI (0 : Int32)), some (ppI (0 : Int32)), some (ppI (0 : Int32)), some (ppI (0 : Int32)), some (ppI (0 : Int32)), some (ppI (0 : Int32)), some (ppI (0 : Int32)), some (ppI (0 : Int32)), some (ppL (0 : Int64))]) hB fr_X6_61 (fun _ => rfl) (fun _ => rfl) (by decide) (by decide +kernel) rfl dX6_init_85 ?_
  exact pb_done (σ' := (pp_z (pp_z (pp_z pp_0 37) 38) 36)) hB hg rfl (fun _ => rfl) (fun a ha => ⟨fun j => by simp [ppS, ppT, pp_z, ha], fun j => by simp [ppS, ppT, pp_z, ha]⟩) (by decide +kernel) rfl (by decide +kernel) okR hret (fun Γ hF hR => pp_few [] (lv' := []) rfl (e_X6_init_88 hF hR h)))
set_option maxRecDepth 20000 in
theorem e_X8_init_136 {Γ : pp_G} {σ' : pp_M} (hF : pp_Fx Γ dsK cX8_init 1 RX8 3 143) (hR : pp_Rt Γ dsK none none σ') {σ : pp_M}  (h : f_X8_init σ  = some σ') : pp_E Γ dsK cX8_init 1 136 [(0, ppR 0 0 0)] [] σ := by
  unfold f_X8_init at h
  refine pp_aload_n hF dX8_init_136 rfl rfl ?_
  refine pp_iconst hF dX8_init_137 ic_0 ?_
  refine pp_putI hF fwK_X8_78 dX8_init_138 ?_
  refine pp_aload_n hF dX8_init_141 rfl rfl ?_
  refine pp_bipush hF dX8_init_142 bc_60 ?_
  refine pp_putI hF fwK_X8_82 dX8_init_144 ?_
  refine pp_aload_n hF dX8_init_147 rfl rfl ?_
  refine pp_bipush hF dX8_init_148 bc_20 ?_
  refine pp_putI hF fwK_X8_85 dX8_init_150 ?_
  refine pp_aload_n hF dX8_init_153 rfl rfl ?_
  refine pp_bipush hF dX8_init_154 bc_127 ?_
  refine pp_putI hF fwK_X8_88 dX8_init_156 ?_
  obtain rfl := (Option.some.inj h).symm
  exact pp_return hF hR dX8_init_159
set_option maxRecDepth 20000 in
theorem c_X8_init {s1 : pp_M} (h1 : f_X1_init (pp_z (pp_z (pp_z pp_0 2) 3) 1) = some s1) {s4 : pp_M} (h4 : f_X2_init (pp_z (pp_z (pp_z (pp_z (pp_z pp_0 5) 6) 7) 8) 4) = some s4) {s9 : pp_M} (h9 : f_X4_init (pp_z (pp_z (pp_z (pp_z pp_0 10) 11) 12) 9) = some s9) {s13 : pp_M} (h13 : f_X3_init (pp_z (pp_z (pp_z pp_0 14) 15) 13) = some s13) {s16 : pp_M} (h16 : f_X7_init (pp_z (pp_z (pp_z (pp_z (pp_z pp_0 17) 18) 19) 20) 16) = some s16) {s21 : pp_M} (h21 : f_X0_init (pp_z (pp_z (pp_z (pp_z pp_0 22) 23) 24) 21) = some s21) {s25 : pp_M} (h25 : f_X5_init (ppT (pp_z (pp_z (pp_z (pp_z (pp_z (pp_z (pp_z (pp_z (pp_z pp_0 26) 27) 28) 29) 30) 31) 32) 33) 25) 25 8 (1 : Int64)) = some s25) {s36 : pp_M} (h36 : f_X6_init (pp_z (pp_z (pp_z pp_0 37) 38) 36) = some s36) {σf : pp_M} (h : f_X8_init (pp_z (pp_mx [36, 37, 38] (pp_z (pp_z (pp_mx [25, 26, 27, 28, 29, 30, 31, 32, 33] (pp_mx [21, 22, 23, 24] (pp_mx [16, 17, 18, 19, 20] (pp_mx [13, 14, 15] (pp_mx [9, 10, 11, 12] (pp_mx [4, 5, 6, 7, 8] (pp_mx [1, 2, 3] pp_0 s1) s4) s9) s13) s16) s21) s25) 34) 35) s36) 0) = some σf) : pp_Cn yX8_init cX8_init 1 3 143 125 1956 0 8 [none, none, none, none, none, none, none, none, none, none, some (ppI 0), some (ppI 0), some (ppI 0), some (ppI 0)] [] [1, 2, 3, 4, 5, 6, 7, 8, 9, 10, 11, 12, 13, 14, 15, 16, 17, 18, 19, 20, 21, 22, 23, 24, 25, 26, 27, 28, 29, 30, 31, 32, 33, 34, 35, 36, 37, 38] dsK σf :=
  pp_metN (σ := pp_0) pl_X8 rfl rfl (Nat.le_of_ble_eq_true rfl) rfl (fun p l e R s m args below meth c X A hret hB => by
  have hg : pp_gr [] X X := ⟨rfl, rfl, rfl, fun _ _ _ => rfl⟩
  refine pb_aload_n hB dX8_init_0 rfl rfl ?_
  refine pb_obj hB wm_75 wm_76 wq_obj ⟨by decide, by decide⟩ (Nat.le_of_ble_eq_true rfl) dX8_init_1 ?_
  refine pb_aload_n hB dX8_init_4 rfl rfl ?_
  refine pb_new (t := 1) (ci := 1) (fs := [none]) (cl' := 1) (sl' := 1) hB rfl uw_1 tyX1_ok wm_78 wm_79 wm_58 df_1 (by decide +kernel) (by decide +kernel) (by decide +kernel) rfl rfl ⟨by decide, by decide⟩ dX8_init_5 (fun X hg1 => ?_)
  replace hg := pp_gr_tr hg hg1
  refine pb_dupR hB dX8_init_8 ?_
  refine pb_init (P := [1, 2, 3]) (cl' := 8) (sl' := 43) hB (c_X1_init h1) mI_X1_init lk_X8_11 rfl rfl ⟨by decide, by decide⟩ (Nat.le_of_ble_eq_true rfl) (by decide +kernel) (by decide +kernel) (by decide +kernel) (by decide +kernel) rfl rfl ⟨by decide, by decide⟩ dX8_init_9 (fun X hg1 => ?_)
  replace hg := pp_gr_tr hg hg1
  refine pb_put (fs' := [some (ppR 1 0 0), none, none, none, none, none, none, none, none, none, some (ppI 0), some (ppI 0), some (ppI 0), some (ppI 0)]) hB fr_X8_12 (fun _ => rfl) (fun _ => rfl) (by decide) (by decide +kernel) rfl dX8_init_12 ?_
  refine pb_aload_n hB dX8_init_15 rfl rfl ?_
  refine pb_new (t := 4) (ci := 2) (fs := [none, none]) (cl' := 9) (sl' := 45) hB rfl uw_2 tyX2_ok wm_94 wm_95 wm_59 df_2 (by decide +kernel) (by decide +kernel) (by decide +kernel) rfl rfl ⟨by decide, by decide⟩ dX8_init_16 (fun X hg1 => ?_)
  replace hg := pp_gr_tr hg hg1
  refine pb_dupR hB dX8_init_19 ?_
  refine pb_init (P := [4, 5, 6, 7, 8]) (cl' := 27) (sl' := 189) hB (c_X2_init h4) mI_X2_init lk_X8_18 rfl rfl ⟨by decide, by decide⟩ (Nat.le_of_ble_eq_true rfl) (by decide +kernel) (by decide +kernel) (by decide +kernel) (by decide +kernel) rfl rfl ⟨by decide, by decide⟩ dX8_init_20 (fun X hg1 => ?_)
  replace hg := pp_gr_tr hg hg1
  refine pb_put (fs' := [some (ppR 1 0 0), some (ppR 4 0 0), none, none, none, none, none, none, none, none, some (ppI 0), some (ppI 0), some (ppI 0), some (ppI 0)]) hB fr_X8_19 (fun _ => rfl) (fun _ => rfl) (by decide) (by decide +kernel) rfl dX8_init_23 ?_
  refine pb_aload_n hB dX8_init_26 rfl rfl ?_
  refine pb_new (t := 9) (ci := 4) (fs := [none, none]) (cl' := 28) (sl' := 191) hB rfl uw_4 tyX4_ok wm_118 wm_119 wm_61 df_4 (by decide +kernel) (by decide +kernel) (by decide +kernel) rfl rfl ⟨by decide, by decide⟩ dX8_init_27 (fun X hg1 => ?_)
  replace hg := pp_gr_tr hg hg1
  refine pb_dupR hB dX8_init_30 ?_
  refine pb_init (P := [9, 10, 11, 12]) (cl' := 78) (sl' := 389) hB (c_X4_init h9) mI_X4_init lk_X8_25 rfl rfl ⟨by decide, by decide⟩ (Nat.le_of_ble_eq_true rfl) (by decide +kernel) (by decide +kernel) (by decide +kernel) (by decide +kernel) rfl rfl ⟨by decide, by decide⟩ dX8_init_31 (fun X hg1 => ?_)
  replace hg := pp_gr_tr hg hg1
  refine pb_put (fs' := [some (ppR 1 0 0), some (ppR 4 0 0), some (ppR 9 0 0), none, none, none, none, none, none, none, some (ppI 0), some (ppI 0), some (ppI 0), some (ppI 0)]) hB fr_X8_26 (fun _ => rfl) (fun _ => rfl) (by decide) (by decide +kernel) rfl dX8_init_34 ?_
  refine pb_aload_n hB dX8_init_37 rfl rfl ?_
  refine pb_new (t := 13) (ci := 3) (fs := [none, none, some (ppI 0), some (ppI 0), some (ppI 0), some (ppI 0)]) (cl' := 79) (sl' := 395) hB rfl uw_3 tyX3_ok wm_133 wm_134 wm_62 df_3 (by decide +kernel) (by decide +kernel) (by decide +kernel) rfl rfl ⟨by decide, by decide⟩ dX8_init_38 (fun X hg1 => ?_)
  replace hg := pp_gr_tr hg hg1
  refine pb_dupR hB dX8_init_41 ?_
  refine pb_init (P := [13, 14, 15]) (cl' := 81) (sl' := 438) hB (c_X3_init h13) mI_X3_init lk_X8_32 rfl rfl ⟨by decide, by decide⟩ (Nat.le_of_ble_eq_true rfl) (by decide +kernel) (by decide +kernel) (by decide +kernel) (by decide +kernel) rfl rfl ⟨by decide, by decide⟩ dX8_init_42 (fun X hg1 => ?_)
  replace hg := pp_gr_tr hg hg1
  refine pb_put (fs' := [some (ppR 1 0 0), some (ppR 4 0 0), some (ppR 9 0 0), some (ppR 13 0 0), none, none, none, none, none, none, some (ppI 0), some (ppI 0), some (ppI 0), some (ppI 0)]) hB fr_X8_33 (fun _ => rfl) (fun _ => rfl) (by decide) (by decide +kernel) rfl dX8_init_45 ?_
  refine pb_aload_n hB dX8_init_48 rfl rfl ?_
  refine pb_new (t := 16) (ci := 7) (fs := [none, none, none, some (ppI 0)]) (cl' := 82) (sl' := 442) hB rfl uw_7 tyX7_ok wm_159 wm_160 wm_63 df_7 (by decide +kernel) (by decide +kernel) (by decide +kernel) rfl rfl ⟨by decide, by decide⟩ dX8_init_49 (fun X hg1 => ?_)
  replace hg := pp_gr_tr hg hg1
  refine pb_dupR hB dX8_init_52 ?_
  refine pb_init (P := [16, 17, 18, 19, 20]) (cl' := 89) (sl' := 614) hB (c_X7_init h16) mI_X7_init lk_X8_39 rfl rfl ⟨by decide, by decide⟩ (Nat.le_of_ble_eq_true rfl) (by decide +kernel) (by decide +kernel) (by decide +kernel) (by decide +kernel) rfl rfl ⟨by decide, by decide⟩ dX8_init_53 (fun X hg1 => ?_)
  replace hg := pp_gr_tr hg hg1
  refine pb_put (fs' := [some (ppR 1 0 0), some (ppR 4 0 0), some (ppR 9 0 0), some (ppR 13 0 0), some (ppR 16 0 0), none, none, none, none, none, some (ppI 0), some (ppI 0), some (ppI 0), some (ppI 0)]) hB fr_X8_40 (fun _ => rfl) (fun _ => rfl) (by decide) (by decide +kernel) rfl dX8_init_56 ?_
  refine pb_aload_n hB dX8_init_59 rfl rfl ?_
  refine pb_new (t := 21) (ci := 0) (fs := [none, none, none, none]) (cl' := 90) (sl' := 618) hB rfl uw_0 tyX0_ok wm_183 wm_184 wm_64 df_0 (by decide +kernel) (by decide +kernel) (by decide +kernel) rfl rfl ⟨by decide, by decide⟩ dX8_init_60 (fun X hg1 => ?_)
  replace hg := pp_gr_tr hg hg1
  refine pb_dupR hB dX8_init_63 ?_
  refine pb_aload_n hB dX8_init_64 rfl rfl ?_
  refine pb_get hB fr_X8_12 rfl dX8_init_65 ?_
  refine pb_aload_n hB dX8_init_68 rfl rfl ?_
  refine pb_get hB fr_X8_26 rfl dX8_init_69 ?_
  refine pb_init (P := [21, 22, 23, 24]) (cl' := 100) (sl' := 871) hB (c_X0_init h21) mI_X0_init lk_X8_46 rfl rfl ⟨by decide, by decide⟩ (Nat.le_of_ble_eq_true rfl) (by decide +kernel) (by decide +kernel) (by decide +kernel) (by decide +kernel) rfl rfl ⟨by decide, by decide⟩ dX8_init_72 (fun X hg1 => ?_)
  replace hg := pp_gr_tr hg hg1
  refine pb_put (fs' := [some (ppR 1 0 0), some (ppR 4 0 0), some (ppR 9 0 0), some (ppR 13 0 0), some (ppR 16 0 0), some (ppR 21 0 0), none, none, none, none, some (ppI 0), some (ppI 0), some (ppI 0), some (ppI 0)]) hB fr_X8_49 (fun _ => rfl) (fun _ => rfl) (by decide) (by decide +kernel) rfl dX8_init_75 ?_
  refine pb_aload_n hB dX8_init_78 rfl rfl ?_
  refine pb_new (t := 25) (ci := 5) (fs := [none, none, none, none, none, none, none, some (ppL 0), some (ppL 0)]) (cl' := 101) (sl' := 880) hB rfl uw_5 tyX5_ok wm_208 wm_209 wm_65 df_5 (by decide +kernel) (by decide +kernel) (by decide +kernel) rfl rfl ⟨by decide, by decide⟩ dX8_init_79 (fun X hg1 => ?_)
  replace hg := pp_gr_tr hg hg1
  refine pb_dupR hB dX8_init_82 ?_
  refine pb_aload_n hB dX8_init_83 rfl rfl ?_
  refine pb_get hB fr_X8_12 rfl dX8_init_84 ?_
  refine pb_init (P := [25, 26, 27, 28, 29, 30, 31, 32, 33]) (cl' := 120) (sl' := 1672) hB (c_X5_init h25) mI_X5_init lk_X8_55 rfl rfl ⟨by decide, by decide⟩ (Nat.le_of_ble_eq_true rfl) (by decide +kernel) (by decide +kernel) (by decide +kernel) (by decide +kernel) rfl rfl ⟨by decide, by decide⟩ dX8_init_87 (fun X hg1 => ?_)
  replace hg := pp_gr_tr hg hg1
  refine pb_put (fs' := [some (ppR 1 0 0), some (ppR 4 0 0), some (ppR 9 0 0), some (ppR 13 0 0), some (ppR 16 0 0), some (ppR 21 0 0), some (ppR 25 0 0), none, none, none, some (ppI 0), some (ppI 0), some (ppI 0), some (ppI 0)]) hB fr_X8_58 (fun _ => rfl) (fun _ => rfl) (by decide) (by decide +kernel) rfl dX8_init_90 ?_
  refine pb_aload_n hB dX8_init_93 rfl rfl ?_
  refine pb_bipush hB dX8_init_94 bc_7 ?_
  refine pb_newa_i (t := 34) (cl' := 121) (sl' := 1679) hB rfl (by decide +kernel) (by decide) (by decide) (by decide) wm_93 rfl rfl ⟨by decide, by decide⟩ dX8_init_96 (fun X hg1 => ?_)
  replace hg := pp_gr_tr hg hg1
  refine pb_put (fs' := [some (ppR 1 0 0), some (ppR 4 0 0), some (ppR 9 0 0), some (ppR 13 0 0), some (ppR 16 0 0), some (ppR 21 0 0), some (ppR 25 0 0), some (ppR 34 0 7), none, none, some (ppI 0), some (ppI 0), some (ppI 0), some (ppI 0)]) hB fr_X8_62 (fun _ => rfl) (fun _ => rfl) (by decide) (by decide +kernel) rfl dX8_init_98 ?_
  refine pb_aload_n hB dX8_init_101 rfl rfl ?_
  refine pb_bipush hB dX8_init_102 bc_6 ?_
  refine pb_newa_i (t := 35) (cl' := 122) (sl' := 1685) hB rfl (by decide +kernel) (by decide) (by decide) (by decide) wm_93 rfl rfl ⟨by decide, by decide⟩ dX8_init_104 (fun X hg1 => ?_)
  replace hg := pp_gr_tr hg hg1
  refine pb_put (fs' := [some (ppR 1 0 0), some (ppR 4 0 0), some (ppR 9 0 0), some (ppR 13 0 0), some (ppR 16 0 0), some (ppR 21 0 0), some (ppR 25 0 0), some (ppR 34 0 7), some (ppR 35 0 6), none, some (ppI 0), some (ppI 0), some (ppI 0), some (ppI 0)]) hB fr_X8_66 (fun _ => rfl) (fun _ => rfl) (by decide) (by decide +kernel) rfl dX8_init_106 ?_
  refine pb_aload_n hB dX8_init_109 rfl rfl ?_
  refine pb_new (t := 36) (ci := 6) (fs := [none, none, none, none, none, none, some (ppI 0), some (ppI 0), some (ppI 0), some (ppI 0), some (ppI 0), some (ppI 0), some (ppI 0), some (ppI 0), some (ppL 0)]) (cl' := 123) (sl' := 1700) hB rfl uw_6 tyX6_ok wm_248 wm_249 wm_66 df_6 (by decide +kernel) (by decide +kernel) (by decide +kernel) rfl rfl ⟨by decide, by decide⟩ dX8_init_110 (fun X hg1 => ?_)
  replace hg := pp_gr_tr hg hg1
  refine pb_dupR hB dX8_init_113 ?_
  refine pb_aload_n hB dX8_init_114 rfl rfl ?_
  refine pb_get hB fr_X8_19 rfl dX8_init_115 ?_
  refine pb_aload_n hB dX8_init_118 rfl rfl ?_
  refine pb_get hB fr_X8_49 rfl dX8_init_119 ?_
  refine pb_aload_n hB dX8_init_122 rfl rfl ?_
  refine pb_get hB fr_X8_58 rfl dX8_init_123 ?_
  refine pb_aload_n hB dX8_init_126 rfl rfl ?_
  refine pb_get hB fr_X8_66 rfl dX8_init_127 ?_
  refine pb_init (P := [36, 37, 38]) (cl' := 125) (sl' := 1956) hB (c_X6_init h36) mI_X6_init lk_X8_71 rfl rfl ⟨by decide, by decide⟩ (Nat.le_of_ble_eq_true rfl) (by decide +kernel) (by decide +kernel) (by decide +kernel) (by decide +kernel) rfl rfl ⟨by decide, by decide⟩ dX8_init_130 (fun X hg1 => ?_)
  replace hg := pp_gr_tr hg hg1
  refine pb_put (fs' := [some (ppR 1 0 0), some (ppR 4 0 0), some (ppR 9 0 0), some (ppR 13 0 0), some (ppR 16 0 0), some (ppR 21 0 0), some (ppR 25 0 0), some (ppR 34 0 7), some (ppR 35 0 6), some (ppR 36 0 0), some (ppI 0), some (ppI 0), some (ppI 0), some (ppI 0)]) hB fr_X8_74 (fun _ => rfl) (fun _ => rfl) (by decide) (by decide +kernel) rfl dX8_init_133 ?_
  exact pb_done (σ' := (pp_z (pp_mx [36, 37, 38] (pp_z (pp_z (pp_mx [25, 26, 27, 28, 29, 30, 31, 32, 33] (pp_mx [21, 22, 23, 24] (pp_mx [16, 17, 18, 19, 20] (pp_mx [13, 14, 15] (pp_mx [9, 10, 11, 12] (pp_mx [4, 5, 6, 7, 8] (pp_mx [1, 2, 3] pp_0 s1) s4) s9) s13) s16) s21) s25) 34) 35) s36) 0)) hB hg rfl (fun _ => rfl) (fun a ha => ⟨fun j => by simp [ppS, ppT, pp_z, ha], fun j => by simp [ppS, ppT, pp_z, ha]⟩) (by decide +kernel) rfl (by decide +kernel) okK hret (fun Γ hF hR => (e_X8_init_136 hF hR h)))
set_option maxRecDepth 20000 in
theorem e_X9_init_263 {Γ : pp_G} {σ' : pp_M} (hF : pp_Fx Γ dsM cX9_init 2 RX9 1 20) (hR : pp_Rt Γ dsM none none σ') {σ : pp_M} {a1 : Int32} {k263 : pp_M → Int32 → Option (pp_M)} (hk263 : ∀ {σ : pp_M} {a1 : Int32}, k263 σ a1 = some σ' → pp_E Γ dsM cX9_init 2 263 [(0, ppR 40 0 0), (1, ppI a1)] [] σ) (h : f_X9_init_263_B k263 σ a1 = some σ') : pp_E Γ dsM cX9_init 2 263 [(0, ppR 40 0 0), (1, ppI a1)] [] σ := by
  unfold f_X9_init_263_B at h
  refine pp_iload_n hF dX9_init_263 rfl rfl ?_
  refine pp_bipush hF dX9_init_264 bc_6 ?_
  refine pp_icmp_ge (tgt := 320) hF dX9_init_266 rfl (fun c1 => ?_) (fun c1 => ?_)
  · replace h := (if_pos c1).symm.trans h
    refine pp_aload_n hF dX9_init_269 rfl rfl ?_
    refine pp_getR hF fdM_X9_7 dX9_init_270 ?_
    refine pp_iload_n hF dX9_init_273 rfl rfl ?_
    refine pp_iconst hF dX9_init_274 ic_1 ?_
    obtain ⟨hi2, h⟩ := pp_ck h
    refine pp_iastoreJ hF vM_41 hi2 (Nat.zero_add _) dX9_init_275 ?_
    refine pp_aload_n hF dX9_init_276 rfl rfl ?_
    refine pp_getR hF fdM_X9_13 dX9_init_277 ?_
    refine pp_iload_n hF dX9_init_280 rfl rfl ?_
    refine pp_iconst hF dX9_init_281 ic_1 ?_
    refine pp_iastoreJ hF vM_42 hi2 (Nat.zero_add _) dX9_init_282 ?_
    refine pp_aload_n hF dX9_init_283 rfl rfl ?_
    refine pp_getR hF fdM_X9_19 dX9_init_284 ?_
    refine pp_iconst hF dX9_init_287 ic_3 ?_
    refine pp_iload_n hF dX9_init_288 rfl rfl ?_
    refine pp_imul hF dX9_init_289 ?_
    refine pp_iconst hF dX9_init_290 ic_2 ?_
    obtain ⟨hi3, h⟩ := pp_ck h
    refine pp_iastoreJ hF vM_44 hi3 (Nat.zero_add _) dX9_init_291 ?_
    refine pp_aload_n hF dX9_init_292 rfl rfl ?_
    refine pp_getR hF fdM_X9_19 dX9_init_293 ?_
    refine pp_iconst hF dX9_init_296 ic_3 ?_
    refine pp_iload_n hF dX9_init_297 rfl rfl ?_
    refine pp_imul hF dX9_init_298 ?_
    refine pp_iconst hF dX9_init_299 ic_1 ?_
    refine pp_iadd hF dX9_init_300 ?_
    refine pp_iconst hF dX9_init_301 ic_3 ?_
    obtain ⟨hi4, h⟩ := pp_ck h
    refine pp_iastoreJ hF vM_44 hi4 (Nat.zero_add _) dX9_init_302 ?_
    refine pp_aload_n hF dX9_init_303 rfl rfl ?_
    refine pp_getR hF fdM_X9_19 dX9_init_304 ?_
    refine pp_iconst hF dX9_init_307 ic_3 ?_
    refine pp_iload_n hF dX9_init_308 rfl rfl ?_
    refine pp_imul hF dX9_init_309 ?_
    refine pp_iconst hF dX9_init_310 ic_2 ?_
    refine pp_iadd hF dX9_init_311 ?_
    refine pp_iconst hF dX9_init_312 ic_4 ?_
    obtain ⟨hi5, h⟩ := pp_ck h
    refine pp_iastoreJ hF vM_44 hi5 (Nat.zero_add _) dX9_init_313 ?_
    refine pp_iinc hF dX9_init_314 rfl (congrArg (HAdd.hAdd _) ic_1) (by decide) (lv' := [(0, ppR 40 0 0), (1, ppI (a1 + (1 : Int32)))]) rfl ?_
    refine pp_goto (tgt := 263) hF dX9_init_317 rfl ?_
    exact hk263 h
  · replace h := (if_neg c1).symm.trans h
    obtain rfl := (Option.some.inj h).symm
    exact pp_return hF hR dX9_init_320
set_option maxRecDepth 20000 in
theorem e_X9_init_263_L {Γ : pp_G} {σ' : pp_M} (hF : pp_Fx Γ dsM cX9_init 2 RX9 1 20) (hR : pp_Rt Γ dsM none none σ') : ∀ {n : Nat} {σ : pp_M} {a1 : Int32}, f_X9_init_263 n σ a1 = some σ' → pp_E Γ dsM cX9_init 2 263 [(0, ppR 40 0 0), (1, ppI a1)] [] σ
  | 0, _, _ => fun h => by cases h
  | n + 1, _, _ => fun h => e_X9_init_263 hF hR (fun h => e_X9_init_263_L hF hR (n := n) h) h
set_option maxRecDepth 20000 in
theorem e_X9_init_261 {Γ : pp_G} {σ' : pp_M} (hF : pp_Fx Γ dsM cX9_init 2 RX9 1 20) (hR : pp_Rt Γ dsM none none σ') {σ : pp_M}  (h : f_X9_init σ  = some σ') : pp_E Γ dsM cX9_init 2 261 [(0, ppR 40 0 0)] [] σ := by
  unfold f_X9_init at h
  refine pp_iconst hF dX9_init_261 ic_0 ?_
  refine pp_istore_n hF dX9_init_262 rfl (by decide) (lv' := [(0, ppR 40 0 0), (1, ppI (0 : Int32))]) rfl ?_
  exact e_X9_init_263_L hF hR h
set_option maxRecDepth 20000 in
theorem c_X9_init {σf : pp_M} (h : f_X9_init (ppS (ppS (ppS (pp_z (pp_z (pp_z (pp_z (pp_z (pp_z (pp_z (pp_z (pp_z (pp_z (pp_z (pp_z (pp_z (pp_z (pp_z (pp_z (pp_z (pp_z (pp_z (pp_z (pp_z (pp_z (pp_z (pp_z (pp_z (pp_z (pp_z (pp_z (pp_z (pp_z (pp_z pp_0 41) 42) 43) 44) 45) 46) 47) 48) 49) 50) 51) 52) 53) 54) 55) 56) 57) 58) 59) 60) 61) 62) 63) 64) 65) 66) 67) 68) 69) 70) 40) 40 6 (60 : Int32)) 40 7 (20 : Int32)) 40 8 (127 : Int32)) = some σf) : pp_Cn yX9_init cX9_init 2 1 20 30 1284 40 9 [none, none, none, none, none, none, some (ppI 0), some (ppI 0), some (ppI 0), none, none, some (ppI 0), none, some (ppI 0), some (ppI 0), some (ppI 0), none, none, none, some (ppI 0), none, none, some (ppI 0), none, none, none, none, none, some (ppL 0), none, some (ppI 0), none, some (ppI 0), none, some (ppI 0), none, some (ppL 0), none, some (ppI 0), some (ppI 0), some (ppL 0), none, none, none, none, none, none, some (ppI 0)] [] [41, 42, 43, 44, 45, 46, 47, 48, 49, 50, 51, 52, 53, 54, 55, 56, 57, 58, 59, 60, 61, 62, 63, 64, 65, 66, 67, 68, 69, 70] dsM σf :=
  pp_metN (σ := pp_0) pl_X9 rfl rfl (Nat.le_of_ble_eq_true rfl) rfl (fun p l e R s m args below meth c X A hret hB => by
  have hg : pp_gr [] X X := ⟨rfl, rfl, rfl, fun _ _ _ => rfl⟩
  refine pb_aload_n hB dX9_init_0 rfl rfl ?_
  refine pb_obj hB wm_833 wm_76 wq_obj ⟨by decide, by decide⟩ (Nat.le_of_ble_eq_true rfl) dX9_init_1 ?_
  refine pb_aload_n hB dX9_init_4 rfl rfl ?_
  refine pb_bipush hB dX9_init_5 bc_6 ?_
  refine pb_newa_i (t := 41) (cl' := 1) (sl' := 6) hB rfl (by decide +kernel) (by decide) (by decide) (by decide) wm_93 rfl rfl ⟨by decide, by decide⟩ dX9_init_7 (fun X hg1 => ?_)
  replace hg := pp_gr_tr hg hg1
  refine pb_put (fs' := [some (ppR 41 0 6), none, none, none, none, none, some (ppI 0), some (ppI 0), some (ppI 0), none, none, some (ppI 0), none, some (ppI 0), some (ppI 0), some (ppI 0), none, none, none, some (ppI 0), none, none, some (ppI 0), none, none, none, none, none, some (ppL 0), none, some (ppI 0), none, some (ppI 0), none, some (ppI 0), none, some (ppL 0), none, some (ppI 0), some (ppI 0), some (ppL 0), none, none, none, none, none, none, some (ppI 0)]) hB fr_X9_7 (fun _ => rfl) (fun _ => rfl) (by decide) (by decide +kernel) rfl dX9_init_9 ?_
  refine pb_aload_n hB dX9_init_12 rfl rfl ?_
  refine pb_bipush hB dX9_init_13 bc_6 ?_
  refine pb_newa_i (t := 42) (cl' := 2) (sl' := 12) hB rfl (by decide +kernel) (by decide) (by decide) (by decide) wm_93 rfl rfl ⟨by decide, by decide⟩ dX9_init_15 (fun X hg1 => ?_)
  replace hg := pp_gr_tr hg hg1
  refine pb_put (fs' := [some (ppR 41 0 6), some (ppR 42 0 6), none, none, none, none, some (ppI 0), some (ppI 0), some (ppI 0), none, none, some (ppI 0), none, some (ppI 0), some (ppI 0), some (ppI 0), none, none, none, some (ppI 0), none, none, some (ppI 0), none, none, none, none, none, some (ppL 0), none, some (ppI 0), none, some (ppI 0), none, some (ppI 0), none, some (ppL 0), none, some (ppI 0), some (ppI 0), some (ppL 0), none, none, none, none, none, none, some (ppI 0)]) hB fr_X9_13 (fun _ => rfl) (fun _ => rfl) (by decide) (by decide +kernel) rfl dX9_init_17 ?_
  refine pb_aload_n hB dX9_init_20 rfl rfl ?_
  refine pb_bipush hB dX9_init_21 bc_6 ?_
  refine pb_newa_i (t := 43) (cl' := 3) (sl' := 18) hB rfl (by decide +kernel) (by decide) (by decide) (by decide) wm_93 rfl rfl ⟨by decide, by decide⟩ dX9_init_23 (fun X hg1 => ?_)
  replace hg := pp_gr_tr hg hg1
  refine pb_put (fs' := [some (ppR 41 0 6), some (ppR 42 0 6), some (ppR 43 0 6), none, none, none, some (ppI 0), some (ppI 0), some (ppI 0), none, none, some (ppI 0), none, some (ppI 0), some (ppI 0), some (ppI 0), none, none, none, some (ppI 0), none, none, some (ppI 0), none, none, none, none, none, some (ppL 0), none, some (ppI 0), none, some (ppI 0), none, some (ppI 0), none, some (ppL 0), none, some (ppI 0), some (ppI 0), some (ppL 0), none, none, none, none, none, none, some (ppI 0)]) hB fr_X9_16 (fun _ => rfl) (fun _ => rfl) (by decide) (by decide +kernel) rfl dX9_init_25 ?_
  refine pb_aload_n hB dX9_init_28 rfl rfl ?_
  refine pb_bipush hB dX9_init_29 bc_18 ?_
  refine pb_newa_i (t := 44) (cl' := 4) (sl' := 36) hB rfl (by decide +kernel) (by decide) (by decide) (by decide) wm_93 rfl rfl ⟨by decide, by decide⟩ dX9_init_31 (fun X hg1 => ?_)
  replace hg := pp_gr_tr hg hg1
  refine pb_put (fs' := [some (ppR 41 0 6), some (ppR 42 0 6), some (ppR 43 0 6), some (ppR 44 0 18), none, none, some (ppI 0), some (ppI 0), some (ppI 0), none, none, some (ppI 0), none, some (ppI 0), some (ppI 0), some (ppI 0), none, none, none, some (ppI 0), none, none, some (ppI 0), none, none, none, none, none, some (ppL 0), none, some (ppI 0), none, some (ppI 0), none, some (ppI 0), none, some (ppL 0), none, some (ppI 0), some (ppI 0), some (ppL 0), none, none, none, none, none, none, some (ppI 0)]) hB fr_X9_19 (fun _ => rfl) (fun _ => rfl) (by decide) (by decide +kernel) rfl dX9_init_33 ?_
  refine pb_aload_n hB dX9_init_36 rfl rfl ?_
  refine pb_bipush hB dX9_init_37 bc_64 ?_
  refine pb_newa_i (t := 45) (cl' := 5) (sl' := 100) hB rfl (by decide +kernel) (by decide) (by decide) (by decide) wm_93 rfl rfl ⟨by decide, by decide⟩ dX9_init_39 (fun X hg1 => ?_)
  replace hg := pp_gr_tr hg hg1
  refine pb_put (fs' := [some (ppR 41 0 6), some (ppR 42 0 6), some (ppR 43 0 6), some (ppR 44 0 18), some (ppR 45 0 64), none, some (ppI 0), some (ppI 0), some (ppI 0), none, none, some (ppI 0), none, some (ppI 0), some (ppI 0), some (ppI 0), none, none, none, some (ppI 0), none, none, some (ppI 0), none, none, none, none, none, some (ppL 0), none, some (ppI 0), none, some (ppI 0), none, some (ppI 0), none, some (ppL 0), none, some (ppI 0), some (ppI 0), some (ppL 0), none, none, none, none, none, none, some (ppI 0)]) hB fr_X9_22 (fun _ => rfl) (fun _ => rfl) (by decide) (by decide +kernel) rfl dX9_init_41 ?_
  refine pb_aload_n hB dX9_init_44 rfl rfl ?_
  refine pb_bipush hB dX9_init_45 bc_64 ?_
  refine pb_newa_i (t := 46) (cl' := 6) (sl' := 164) hB rfl (by decide +kernel) (by decide) (by decide) (by decide) wm_93 rfl rfl ⟨by decide, by decide⟩ dX9_init_47 (fun X hg1 => ?_)
  replace hg := pp_gr_tr hg hg1
  refine pb_put (fs' := [some (ppR 41 0 6), some (ppR 42 0 6), some (ppR 43 0 6), some (ppR 44 0 18), some (ppR 45 0 64), some (ppR 46 0 64), some (ppI 0), some (ppI 0), some (ppI 0), none, none, some (ppI 0), none, some (ppI 0), some (ppI 0), some (ppI 0), none, none, none, some (ppI 0), none, none, some (ppI 0), none, none, none, none, none, some (ppL 0), none, some (ppI 0), none, some (ppI 0), none, some (ppI 0), none, some (ppL 0), none, some (ppI 0), some (ppI 0), some (ppL 0), none, none, none, none, none, none, some (ppI 0)]) hB fr_X9_25 (fun _ => rfl) (fun _ => rfl) (by decide) (by decide +kernel) rfl dX9_init_49 ?_
  refine pb_aload_n hB dX9_init_52 rfl rfl ?_
  refine pb_bipush hB dX9_init_53 bc_60 ?_
  refine pb_put (fs' := [some (ppR 41 0 6), some (ppR 42 0 6), some (ppR 43 0 6), some (ppR 44 0 18), some (ppR 45 0 64), some (ppR 46 0 64), some (ppI (60 : Int32)), some (ppI 0), some (ppI 0), none, none, some (ppI 0), none, some (ppI 0), some (ppI 0), some (ppI 0), none, none, none, some (ppI 0), none, none, some (ppI 0), none, none, none, none, none, some (ppL 0), none, some (ppI 0), none, some (ppI 0), none, some (ppI 0), none, some (ppL 0), none, some (ppI 0), some (ppI 0), some (ppL 0), none, none, none, none, none, none, some (ppI 0)]) hB fr_X9_28 (fun _ => rfl) (fun _ => rfl) (by decide) (by decide +kernel) rfl dX9_init_55 ?_
  refine pb_aload_n hB dX9_init_58 rfl rfl ?_
  refine pb_bipush hB dX9_init_59 bc_20 ?_
  refine pb_put (fs' := [some (ppR 41 0 6), some (ppR 42 0 6), some (ppR 43 0 6), some (ppR 44 0 18), some (ppR 45 0 64), some (ppR 46 0 64), some (ppI (60 : Int32)), some (ppI (20 : Int32)), some (ppI 0), none, none, some (ppI 0), none, some (ppI 0), some (ppI 0), some (ppI 0), none, none, none, some (ppI 0), none, none, some (ppI 0), none, none, none, none, none, some (ppL 0), none, some (ppI 0), none, some (ppI 0), none, some (ppI 0), none, some (ppL 0), none, some (ppI 0), some (ppI 0), some (ppL 0), none, none, none, none, none, none, some (ppI 0)]) hB fr_X9_32 (fun _ => rfl) (fun _ => rfl) (by decide) (by decide +kernel) rfl dX9_init_61 ?_
  refine pb_aload_n hB dX9_init_64 rfl rfl ?_
  refine pb_bipush hB dX9_init_65 bc_127 ?_
  refine pb_put (fs' := [some (ppR 41 0 6), some (ppR 42 0 6), some (ppR 43 0 6), some (ppR 44 0 18), some (ppR 45 0 64), some (ppR 46 0 64), some (ppI (60 : Int32)), some (ppI (20 : Int32)), some (ppI (127 : Int32)), none, none, some (ppI 0), none, some (ppI 0), some (ppI 0), some (ppI 0), none, none, none, some (ppI 0), none, none, some (ppI 0), none, none, none, none, none, some (ppL 0), none, some (ppI 0), none, some (ppI 0), none, some (ppI 0), none, some (ppL 0), none, some (ppI 0), some (ppI 0), some (ppL 0), none, none, none, none, none, none, some (ppI 0)]) hB fr_X9_35 (fun _ => rfl) (fun _ => rfl) (by decide) (by decide +kernel) rfl dX9_init_67 ?_
  refine pb_aload_n hB dX9_init_70 rfl rfl ?_
  refine pb_sipush hB dX9_init_71 sc_144 ?_
  refine pb_newa_i (t := 47) (cl' := 7) (sl' := 308) hB rfl (by decide +kernel) (by decide) (by decide) (by decide) wm_93 rfl rfl ⟨by decide, by decide⟩ dX9_init_74 (fun X hg1 => ?_)
  replace hg := pp_gr_tr hg hg1
  refine pb_put (fs' := [some (ppR 41 0 6), some (ppR 42 0 6), some (ppR 43 0 6), some (ppR 44 0 18), some (ppR 45 0 64), some (ppR 46 0 64), some (ppI (60 : Int32)), some (ppI (20 : Int32)), some (ppI (127 : Int32)), some (ppR 47 0 144), none, some (ppI 0), none, some (ppI 0), some (ppI 0), some (ppI 0), none, none, none, some (ppI 0), none, none, some (ppI 0), none, none, none, none, none, some (ppL 0), none, some (ppI 0), none, some (ppI 0), none, some (ppI 0), none, some (ppL 0), none, some (ppI 0), some (ppI 0), some (ppL 0), none, none, none, none, none, none, some (ppI 0)]) hB fr_X9_38 (fun _ => rfl) (fun _ => rfl) (by decide) (by decide +kernel) rfl dX9_init_76 ?_
  refine pb_aload_n hB dX9_init_79 rfl rfl ?_
  refine pb_bipush hB dX9_init_80 bc_6 ?_
  refine pb_newa_i (t := 48) (cl' := 8) (sl' := 314) hB rfl (by decide +kernel) (by decide) (by decide) (by decide) wm_93 rfl rfl ⟨by decide, by decide⟩ dX9_init_82 (fun X hg1 => ?_)
  replace hg := pp_gr_tr hg hg1
  refine pb_put (fs' := [some (ppR 41 0 6), some (ppR 42 0 6), some (ppR 43 0 6), some (ppR 44 0 18), some (ppR 45 0 64), some (ppR 46 0 64), some (ppI (60 : Int32)), some (ppI (20 : Int32)), some (ppI (127 : Int32)), some (ppR 47 0 144), some (ppR 48 0 6), some (ppI 0), none, some (ppI 0), some (ppI 0), some (ppI 0), none, none, none, some (ppI 0), none, none, some (ppI 0), none, none, none, none, none, some (ppL 0), none, some (ppI 0), none, some (ppI 0), none, some (ppI 0), none, some (ppL 0), none, some (ppI 0), some (ppI 0), some (ppL 0), none, none, none, none, none, none, some (ppI 0)]) hB fr_X9_41 (fun _ => rfl) (fun _ => rfl) (by decide) (by decide +kernel) rfl dX9_init_84 ?_
  refine pb_aload_n hB dX9_init_87 rfl rfl ?_
  refine pb_bipush hB dX9_init_88 bc_40 ?_
  refine pb_newa_i (t := 49) (cl' := 9) (sl' := 354) hB rfl (by decide +kernel) (by decide) (by decide) (by decide) wm_93 rfl rfl ⟨by decide, by decide⟩ dX9_init_90 (fun X hg1 => ?_)
  replace hg := pp_gr_tr hg hg1
  refine pb_put (fs' := [some (ppR 41 0 6), some (ppR 42 0 6), some (ppR 43 0 6), some (ppR 44 0 18), some (ppR 45 0 64), some (ppR 46 0 64), some (ppI (60 : Int32)), some (ppI (20 : Int32)), some (ppI (127 : Int32)), some (ppR 47 0 144), some (ppR 48 0 6), some (ppI 0), some (ppR 49 0 40), some (ppI 0), some (ppI 0), some (ppI 0), none, none, none, some (ppI 0), none, none, some (ppI 0), none, none, none, none, none, some (ppL 0), none, some (ppI 0), none, some (ppI 0), none, some (ppI 0), none, some (ppL 0), none, some (ppI 0), some (ppI 0), some (ppL 0), none, none, none, none, none, none, some (ppI 0)]) hB fr_X9_44 (fun _ => rfl) (fun _ => rfl) (by decide) (by decide +kernel) rfl dX9_init_92 ?_
  refine pb_aload_n hB dX9_init_95 rfl rfl ?_
  refine pb_bipush hB dX9_init_96 bc_10 ?_
  refine pb_newa_i (t := 50) (cl' := 10) (sl' := 364) hB rfl (by decide +kernel) (by decide) (by decide) (by decide) wm_93 rfl rfl ⟨by decide, by decide⟩ dX9_init_98 (fun X hg1 => ?_)
  replace hg := pp_gr_tr hg hg1
  refine pb_put (fs' := [some (ppR 41 0 6), some (ppR 42 0 6), some (ppR 43 0 6), some (ppR 44 0 18), some (ppR 45 0 64), some (ppR 46 0 64), some (ppI (60 : Int32)), some (ppI (20 : Int32)), some (ppI (127 : Int32)), some (ppR 47 0 144), some (ppR 48 0 6), some (ppI 0), some (ppR 49 0 40), some (ppI 0), some (ppI 0), some (ppI 0), some (ppR 50 0 10), none, none, some (ppI 0), none, none, some (ppI 0), none, none, none, none, none, some (ppL 0), none, some (ppI 0), none, some (ppI 0), none, some (ppI 0), none, some (ppL 0), none, some (ppI 0), some (ppI 0), some (ppL 0), none, none, none, none, none, none, some (ppI 0)]) hB fr_X9_47 (fun _ => rfl) (fun _ => rfl) (by decide) (by decide +kernel) rfl dX9_init_100 ?_
  refine pb_aload_n hB dX9_init_103 rfl rfl ?_
  refine pb_bipush hB dX9_init_104 bc_10 ?_
  refine pb_newa_i (t := 51) (cl' := 11) (sl' := 374) hB rfl (by decide +kernel) (by decide) (by decide) (by decide) wm_93 rfl rfl ⟨by decide, by decide⟩ dX9_init_106 (fun X hg1 => ?_)
  replace hg := pp_gr_tr hg hg1
  refine pb_put (fs' := [some (ppR 41 0 6), some (ppR 42 0 6), some (ppR 43 0 6), some (ppR 44 0 18), some (ppR 45 0 64), some (ppR 46 0 64), some (ppI (60 : Int32)), some (ppI (20 : Int32)), some (ppI (127 : Int32)), some (ppR 47 0 144), some (ppR 48 0 6), some (ppI 0), some (ppR 49 0 40), some (ppI 0), some (ppI 0), some (ppI 0), some (ppR 50 0 10), some (ppR 51 0 10), none, some (ppI 0), none, none, some (ppI 0), none, none, none, none, none, some (ppL 0), none, some (ppI 0), none, some (ppI 0), none, some (ppI 0), none, some (ppL 0), none, some (ppI 0), some (ppI 0), some (ppL 0), none, none, none, none, none, none, some (ppI 0)]) hB fr_X9_50 (fun _ => rfl) (fun _ => rfl) (by decide) (by decide +kernel) rfl dX9_init_108 ?_
  refine pb_aload_n hB dX9_init_111 rfl rfl ?_
  refine pb_bipush hB dX9_init_112 bc_30 ?_
  refine pb_newa_i (t := 52) (cl' := 12) (sl' := 404) hB rfl (by decide +kernel) (by decide) (by decide) (by decide) wm_93 rfl rfl ⟨by decide, by decide⟩ dX9_init_114 (fun X hg1 => ?_)
  replace hg := pp_gr_tr hg hg1
  refine pb_put (fs' := [some (ppR 41 0 6), some (ppR 42 0 6), some (ppR 43 0 6), some (ppR 44 0 18), some (ppR 45 0 64), some (ppR 46 0 64), some (ppI (60 : Int32)), some (ppI (20 : Int32)), some (ppI (127 : Int32)), some (ppR 47 0 144), some (ppR 48 0 6), some (ppI 0), some (ppR 49 0 40), some (ppI 0), some (ppI 0), some (ppI 0), some (ppR 50 0 10), some (ppR 51 0 10), some (ppR 52 0 30), some (ppI 0), none, none, some (ppI 0), none, none, none, none, none, some (ppL 0), none, some (ppI 0), none, some (ppI 0), none, some (ppI 0), none, some (ppL 0), none, some (ppI 0), some (ppI 0), some (ppL 0), none, none, none, none, none, none, some (ppI 0)]) hB fr_X9_53 (fun _ => rfl) (fun _ => rfl) (by decide) (by decide +kernel) rfl dX9_init_116 ?_
  refine pb_aload_n hB dX9_init_119 rfl rfl ?_
  refine pb_bipush hB dX9_init_120 bc_7 ?_
  refine pb_newa_i (t := 53) (cl' := 13) (sl' := 411) hB rfl (by decide +kernel) (by decide) (by decide) (by decide) wm_93 rfl rfl ⟨by decide, by decide⟩ dX9_init_122 (fun X hg1 => ?_)
  replace hg := pp_gr_tr hg hg1
  refine pb_put (fs' := [some (ppR 41 0 6), some (ppR 42 0 6), some (ppR 43 0 6), some (ppR 44 0 18), some (ppR 45 0 64), some (ppR 46 0 64), some (ppI (60 : Int32)), some (ppI (20 : Int32)), some (ppI (127 : Int32)), some (ppR 47 0 144), some (ppR 48 0 6), some (ppI 0), some (ppR 49 0 40), some (ppI 0), some (ppI 0), some (ppI 0), some (ppR 50 0 10), some (ppR 51 0 10), some (ppR 52 0 30), some (ppI 0), some (ppR 53 0 7), none, some (ppI 0), none, none, none, none, none, some (ppL 0), none, some (ppI 0), none, some (ppI 0), none, some (ppI 0), none, some (ppL 0), none, some (ppI 0), some (ppI 0), some (ppL 0), none, none, none, none, none, none, some (ppI 0)]) hB fr_X9_56 (fun _ => rfl) (fun _ => rfl) (by decide) (by decide +kernel) rfl dX9_init_124 ?_
  refine pb_aload_n hB dX9_init_127 rfl rfl ?_
  refine pb_bipush hB dX9_init_128 bc_6 ?_
  refine pb_newa_i (t := 54) (cl' := 14) (sl' := 417) hB rfl (by decide +kernel) (by decide) (by decide) (by decide) wm_93 rfl rfl ⟨by decide, by decide⟩ dX9_init_130 (fun X hg1 => ?_)
  replace hg := pp_gr_tr hg hg1
  refine pb_put (fs' := [some (ppR 41 0 6), some (ppR 42 0 6), some (ppR 43 0 6), some (ppR 44 0 18), some (ppR 45 0 64), some (ppR 46 0 64), some (ppI (60 : Int32)), some (ppI (20 : Int32)), some (ppI (127 : Int32)), some (ppR 47 0 144), some (ppR 48 0 6), some (ppI 0), some (ppR 49 0 40), some (ppI 0), some (ppI 0), some (ppI 0), some (ppR 50 0 10), some (ppR 51 0 10), some (ppR 52 0 30), some (ppI 0), some (ppR 53 0 7), some (ppR 54 0 6), some (ppI 0), none, none, none, none, none, some (ppL 0), none, some (ppI 0), none, some (ppI 0), none, some (ppI 0), none, some (ppL 0), none, some (ppI 0), some (ppI 0), some (ppL 0), none, none, none, none, none, none, some (ppI 0)]) hB fr_X9_59 (fun _ => rfl) (fun _ => rfl) (by decide) (by decide +kernel) rfl dX9_init_132 ?_
  refine pb_aload_n hB dX9_init_135 rfl rfl ?_
  refine pb_bipush hB dX9_init_136 bc_7 ?_
  refine pb_newa_i (t := 55) (cl' := 15) (sl' := 424) hB rfl (by decide +kernel) (by decide) (by decide) (by decide) wm_93 rfl rfl ⟨by decide, by decide⟩ dX9_init_138 (fun X hg1 => ?_)
  replace hg := pp_gr_tr hg hg1
  refine pb_put (fs' := [some (ppR 41 0 6), some (ppR 42 0 6), some (ppR 43 0 6), some (ppR 44 0 18), some (ppR 45 0 64), some (ppR 46 0 64), some (ppI (60 : Int32)), some (ppI (20 : Int32)), some (ppI (127 : Int32)), some (ppR 47 0 144), some (ppR 48 0 6), some (ppI 0), some (ppR 49 0 40), some (ppI 0), some (ppI 0), some (ppI 0), some (ppR 50 0 10), some (ppR 51 0 10), some (ppR 52 0 30), some (ppI 0), some (ppR 53 0 7), some (ppR 54 0 6), some (ppI 0), some (ppR 55 0 7), none, none, none, none, some (ppL 0), none, some (ppI 0), none, some (ppI 0), none, some (ppI 0), none, some (ppL 0), none, some (ppI 0), some (ppI 0), some (ppL 0), none, none, none, none, none, none, some (ppI 0)]) hB fr_X9_62 (fun _ => rfl) (fun _ => rfl) (by decide) (by decide +kernel) rfl dX9_init_140 ?_
  refine pb_aload_n hB dX9_init_143 rfl rfl ?_
  refine pb_sipush hB dX9_init_144 sc_240 ?_
  refine pb_newa_l (t := 56) (cl' := 16) (sl' := 664) hB rfl (by decide +kernel) (by decide) (by decide) (by decide) wm_207 rfl rfl ⟨by decide, by decide⟩ dX9_init_147 (fun X hg1 => ?_)
  replace hg := pp_gr_tr hg hg1
  refine pb_put (fs' := [some (ppR 41 0 6), some (ppR 42 0 6), some (ppR 43 0 6), some (ppR 44 0 18), some (ppR 45 0 64), some (ppR 46 0 64), some (ppI (60 : Int32)), some (ppI (20 : Int32)), some (ppI (127 : Int32)), some (ppR 47 0 144), some (ppR 48 0 6), some (ppI 0), some (ppR 49 0 40), some (ppI 0), some (ppI 0), some (ppI 0), some (ppR 50 0 10), some (ppR 51 0 10), some (ppR 52 0 30), some (ppI 0), some (ppR 53 0 7), some (ppR 54 0 6), some (ppI 0), some (ppR 55 0 7), some (ppR 56 0 240), none, none, none, some (ppL 0), none, some (ppI 0), none, some (ppI 0), none, some (ppI 0), none, some (ppL 0), none, some (ppI 0), some (ppI 0), some (ppL 0), none, none, none, none, none, none, some (ppI 0)]) hB fr_X9_65 (fun _ => rfl) (fun _ => rfl) (by decide) (by decide +kernel) rfl dX9_init_149 ?_
  refine pb_aload_n hB dX9_init_152 rfl rfl ?_
  refine pb_sipush hB dX9_init_153 sc_240 ?_
  refine pb_newa_i (t := 57) (cl' := 17) (sl' := 904) hB rfl (by decide +kernel) (by decide) (by decide) (by decide) wm_93 rfl rfl ⟨by decide, by decide⟩ dX9_init_156 (fun X hg1 => ?_)
  replace hg := pp_gr_tr hg hg1
  refine pb_put (fs' := [some (ppR 41 0 6), some (ppR 42 0 6), some (ppR 43 0 6), some (ppR 44 0 18), some (ppR 45 0 64), some (ppR 46 0 64), some (ppI (60 : Int32)), some (ppI (20 : Int32)), some (ppI (127 : Int32)), some (ppR 47 0 144), some (ppR 48 0 6), some (ppI 0), some (ppR 49 0 40), some (ppI 0), some (ppI 0), some (ppI 0), some (ppR 50 0 10), some (ppR 51 0 10), some (ppR 52 0 30), some (ppI 0), some (ppR 53 0 7), some (ppR 54 0 6), some (ppI 0), some (ppR 55 0 7), some (ppR 56 0 240), some (ppR 57 0 240), none, none, some (ppL 0), none, some (ppI 0), none, some (ppI 0), none, some (ppI 0), none, some (ppL 0), none, some (ppI 0), some (ppI 0), some (ppL 0), none, none, none, none, none, none, some (ppI 0)]) hB fr_X9_69 (fun _ => rfl) (fun _ => rfl) (by decide) (by decide +kernel) rfl dX9_init_158 ?_
  refine pb_aload_n hB dX9_init_161 rfl rfl ?_
  refine pb_iconst hB dX9_init_162 ic_5 ?_
  refine pb_newa_l (t := 58) (cl' := 18) (sl' := 909) hB rfl (by decide +kernel) (by decide) (by decide) (by decide) wm_207 rfl rfl ⟨by decide, by decide⟩ dX9_init_163 (fun X hg1 => ?_)
  replace hg := pp_gr_tr hg hg1
  refine pb_put (fs' := [some (ppR 41 0 6), some (ppR 42 0 6), some (ppR 43 0 6), some (ppR 44 0 18), some (ppR 45 0 64), some (ppR 46 0 64), some (ppI (60 : Int32)), some (ppI (20 : Int32)), some (ppI (127 : Int32)), some (ppR 47 0 144), some (ppR 48 0 6), some (ppI 0), some (ppR 49 0 40), some (ppI 0), some (ppI 0), some (ppI 0), some (ppR 50 0 10), some (ppR 51 0 10), some (ppR 52 0 30), some (ppI 0), some (ppR 53 0 7), some (ppR 54 0 6), some (ppI 0), some (ppR 55 0 7), some (ppR 56 0 240), some (ppR 57 0 240), some (ppR 58 0 5), none, some (ppL 0), none, some (ppI 0), none, some (ppI 0), none, some (ppI 0), none, some (ppL 0), none, some (ppI 0), some (ppI 0), some (ppL 0), none, none, none, none, none, none, some (ppI 0)]) hB fr_X9_72 (fun _ => rfl) (fun _ => rfl) (by decide) (by decide +kernel) rfl dX9_init_165 ?_
  refine pb_aload_n hB dX9_init_168 rfl rfl ?_
  refine pb_bipush hB dX9_init_169 bc_6 ?_
  refine pb_newa_i (t := 59) (cl' := 19) (sl' := 915) hB rfl (by decide +kernel) (by decide) (by decide) (by decide) wm_93 rfl rfl ⟨by decide, by decide⟩ dX9_init_171 (fun X hg1 => ?_)
  replace hg := pp_gr_tr hg hg1
  refine pb_put (fs' := [some (ppR 41 0 6), some (ppR 42 0 6), some (ppR 43 0 6), some (ppR 44 0 18), some (ppR 45 0 64), some (ppR 46 0 64), some (ppI (60 : Int32)), some (ppI (20 : Int32)), some (ppI (127 : Int32)), some (ppR 47 0 144), some (ppR 48 0 6), some (ppI 0), some (ppR 49 0 40), some (ppI 0), some (ppI 0), some (ppI 0), some (ppR 50 0 10), some (ppR 51 0 10), some (ppR 52 0 30), some (ppI 0), some (ppR 53 0 7), some (ppR 54 0 6), some (ppI 0), some (ppR 55 0 7), some (ppR 56 0 240), some (ppR 57 0 240), some (ppR 58 0 5), some (ppR 59 0 6), some (ppL 0), none, some (ppI 0), none, some (ppI 0), none, some (ppI 0), none, some (ppL 0), none, some (ppI 0), some (ppI 0), some (ppL 0), none, none, none, none, none, none, some (ppI 0)]) hB fr_X9_75 (fun _ => rfl) (fun _ => rfl) (by decide) (by decide +kernel) rfl dX9_init_173 ?_
  refine pb_aload_n hB dX9_init_176 rfl rfl ?_
  refine pb_bipush hB dX9_init_177 bc_6 ?_
  refine pb_newa_i (t := 60) (cl' := 20) (sl' := 921) hB rfl (by decide +kernel) (by decide) (by decide) (by decide) wm_93 rfl rfl ⟨by decide, by decide⟩ dX9_init_179 (fun X hg1 => ?_)
  replace hg := pp_gr_tr hg hg1
  refine pb_put (fs' := [some (ppR 41 0 6), some (ppR 42 0 6), some (ppR 43 0 6), some (ppR 44 0 18), some (ppR 45 0 64), some (ppR 46 0 64), some (ppI (60 : Int32)), some (ppI (20 : Int32)), some (ppI (127 : Int32)), some (ppR 47 0 144), some (ppR 48 0 6), some (ppI 0), some (ppR 49 0 40), some (ppI 0), some (ppI 0), some (ppI 0), some (ppR 50 0 10), some (ppR 51 0 10), some (ppR 52 0 30), some (ppI 0), some (ppR 53 0 7), some (ppR 54 0 6), some (ppI 0), some (ppR 55 0 7), some (ppR 56 0 240), some (ppR 57 0 240), some (ppR 58 0 5), some (ppR 59 0 6), some (ppL 0), some (ppR 60 0 6), some (ppI 0), none, some (ppI 0), none, some (ppI 0), none, some (ppL 0), none, some (ppI 0), some (ppI 0), some (ppL 0), none, none, none, none, none, none, some (ppI 0)]) hB fr_X9_78 (fun _ => rfl) (fun _ => rfl) (by decide) (by decide +kernel) rfl dX9_init_181 ?_
  refine pb_aload_n hB dX9_init_184 rfl rfl ?_
  refine pb_bipush hB dX9_init_185 bc_7 ?_
  refine pb_newa_i (t := 61) (cl' := 21) (sl' := 928) hB rfl (by decide +kernel) (by decide) (by decide) (by decide) wm_93 rfl rfl ⟨by decide, by decide⟩ dX9_init_187 (fun X hg1 => ?_)
  replace hg := pp_gr_tr hg hg1
  refine pb_put (fs' := [some (ppR 41 0 6), some (ppR 42 0 6), some (ppR 43 0 6), some (ppR 44 0 18), some (ppR 45 0 64), some (ppR 46 0 64), some (ppI (60 : Int32)), some (ppI (20 : Int32)), some (ppI (127 : Int32)), some (ppR 47 0 144), some (ppR 48 0 6), some (ppI 0), some (ppR 49 0 40), some (ppI 0), some (ppI 0), some (ppI 0), some (ppR 50 0 10), some (ppR 51 0 10), some (ppR 52 0 30), some (ppI 0), some (ppR 53 0 7), some (ppR 54 0 6), some (ppI 0), some (ppR 55 0 7), some (ppR 56 0 240), some (ppR 57 0 240), some (ppR 58 0 5), some (ppR 59 0 6), some (ppL 0), some (ppR 60 0 6), some (ppI 0), some (ppR 61 0 7), some (ppI 0), none, some (ppI 0), none, some (ppL 0), none, some (ppI 0), some (ppI 0), some (ppL 0), none, none, none, none, none, none, some (ppI 0)]) hB fr_X9_81 (fun _ => rfl) (fun _ => rfl) (by decide) (by decide +kernel) rfl dX9_init_189 ?_
  refine pb_aload_n hB dX9_init_192 rfl rfl ?_
  refine pb_bipush hB dX9_init_193 bc_101 ?_
  refine pb_newa_l (t := 62) (cl' := 22) (sl' := 1029) hB rfl (by decide +kernel) (by decide) (by decide) (by decide) wm_207 rfl rfl ⟨by decide, by decide⟩ dX9_init_195 (fun X hg1 => ?_)
  replace hg := pp_gr_tr hg hg1
  refine pb_put (fs' := [some (ppR 41 0 6), some (ppR 42 0 6), some (ppR 43 0 6), some (ppR 44 0 18), some (ppR 45 0 64), some (ppR 46 0 64), some (ppI (60 : Int32)), some (ppI (20 : Int32)), some (ppI (127 : Int32)), some (ppR 47 0 144), some (ppR 48 0 6), some (ppI 0), some (ppR 49 0 40), some (ppI 0), some (ppI 0), some (ppI 0), some (ppR 50 0 10), some (ppR 51 0 10), some (ppR 52 0 30), some (ppI 0), some (ppR 53 0 7), some (ppR 54 0 6), some (ppI 0), some (ppR 55 0 7), some (ppR 56 0 240), some (ppR 57 0 240), some (ppR 58 0 5), some (ppR 59 0 6), some (ppL 0), some (ppR 60 0 6), some (ppI 0), some (ppR 61 0 7), some (ppI 0), some (ppR 62 0 101), some (ppI 0), none, some (ppL 0), none, some (ppI 0), some (ppI 0), some (ppL 0), none, none, none, none, none, none, some (ppI 0)]) hB fr_X9_84 (fun _ => rfl) (fun _ => rfl) (by decide) (by decide +kernel) rfl dX9_init_197 ?_
  refine pb_aload_n hB dX9_init_200 rfl rfl ?_
  refine pb_iconst hB dX9_init_201 ic_5 ?_
  refine pb_newa_i (t := 63) (cl' := 23) (sl' := 1034) hB rfl (by decide +kernel) (by decide) (by decide) (by decide) wm_93 rfl rfl ⟨by decide, by decide⟩ dX9_init_202 (fun X hg1 => ?_)
  replace hg := pp_gr_tr hg hg1
  refine pb_put (fs' := [some (ppR 41 0 6), some (ppR 42 0 6), some (ppR 43 0 6), some (ppR 44 0 18), some (ppR 45 0 64), some (ppR 46 0 64), some (ppI (60 : Int32)), some (ppI (20 : Int32)), some (ppI (127 : Int32)), some (ppR 47 0 144), some (ppR 48 0 6), some (ppI 0), some (ppR 49 0 40), some (ppI 0), some (ppI 0), some (ppI 0), some (ppR 50 0 10), some (ppR 51 0 10), some (ppR 52 0 30), some (ppI 0), some (ppR 53 0 7), some (ppR 54 0 6), some (ppI 0), some (ppR 55 0 7), some (ppR 56 0 240), some (ppR 57 0 240), some (ppR 58 0 5), some (ppR 59 0 6), some (ppL 0), some (ppR 60 0 6), some (ppI 0), some (ppR 61 0 7), some (ppI 0), some (ppR 62 0 101), some (ppI 0), some (ppR 63 0 5), some (ppL 0), none, some (ppI 0), some (ppI 0), some (ppL 0), none, none, none, none, none, none, some (ppI 0)]) hB fr_X9_87 (fun _ => rfl) (fun _ => rfl) (by decide) (by decide +kernel) rfl dX9_init_204 ?_
  refine pb_aload_n hB dX9_init_207 rfl rfl ?_
  refine pb_bipush hB dX9_init_208 bc_32 ?_
  refine pb_newa_l (t := 64) (cl' := 24) (sl' := 1066) hB rfl (by decide +kernel) (by decide) (by decide) (by decide) wm_207 rfl rfl ⟨by decide, by decide⟩ dX9_init_210 (fun X hg1 => ?_)
  replace hg := pp_gr_tr hg hg1
  refine pb_put (fs' := [some (ppR 41 0 6), some (ppR 42 0 6), some (ppR 43 0 6), some (ppR 44 0 18), some (ppR 45 0 64), some (ppR 46 0 64), some (ppI (60 : Int32)), some (ppI (20 : Int32)), some (ppI (127 : Int32)), some (ppR 47 0 144), some (ppR 48 0 6), some (ppI 0), some (ppR 49 0 40), some (ppI 0), some (ppI 0), some (ppI 0), some (ppR 50 0 10), some (ppR 51 0 10), some (ppR 52 0 30), some (ppI 0), some (ppR 53 0 7), some (ppR 54 0 6), some (ppI 0), some (ppR 55 0 7), some (ppR 56 0 240), some (ppR 57 0 240), some (ppR 58 0 5), some (ppR 59 0 6), some (ppL 0), some (ppR 60 0 6), some (ppI 0), some (ppR 61 0 7), some (ppI 0), some (ppR 62 0 101), some (ppI 0), some (ppR 63 0 5), some (ppL 0), some (ppR 64 0 32), some (ppI 0), some (ppI 0), some (ppL 0), none, none, none, none, none, none, some (ppI 0)]) hB fr_X9_90 (fun _ => rfl) (fun _ => rfl) (by decide) (by decide +kernel) rfl dX9_init_212 ?_
  refine pb_aload_n hB dX9_init_215 rfl rfl ?_
  refine pb_bipush hB dX9_init_216 bc_6 ?_
  refine pb_newa_i (t := 65) (cl' := 25) (sl' := 1072) hB rfl (by decide +kernel) (by decide) (by decide) (by decide) wm_93 rfl rfl ⟨by decide, by decide⟩ dX9_init_218 (fun X hg1 => ?_)
  replace hg := pp_gr_tr hg hg1
  refine pb_put (fs' := [some (ppR 41 0 6), some (ppR 42 0 6), some (ppR 43 0 6), some (ppR 44 0 18), some (ppR 45 0 64), some (ppR 46 0 64), some (ppI (60 : Int32)), some (ppI (20 : Int32)), some (ppI (127 : Int32)), some (ppR 47 0 144), some (ppR 48 0 6), some (ppI 0), some (ppR 49 0 40), some (ppI 0), some (ppI 0), some (ppI 0), some (ppR 50 0 10), some (ppR 51 0 10), some (ppR 52 0 30), some (ppI 0), some (ppR 53 0 7), some (ppR 54 0 6), some (ppI 0), some (ppR 55 0 7), some (ppR 56 0 240), some (ppR 57 0 240), some (ppR 58 0 5), some (ppR 59 0 6), some (ppL 0), some (ppR 60 0 6), some (ppI 0), some (ppR 61 0 7), some (ppI 0), some (ppR 62 0 101), some (ppI 0), some (ppR 63 0 5), some (ppL 0), some (ppR 64 0 32), some (ppI 0), some (ppI 0), some (ppL 0), some (ppR 65 0 6), none, none, none, none, none, some (ppI 0)]) hB fr_X9_93 (fun _ => rfl) (fun _ => rfl) (by decide) (by decide +kernel) rfl dX9_init_220 ?_
  refine pb_aload_n hB dX9_init_223 rfl rfl ?_
  refine pb_iconst hB dX9_init_224 ic_4 ?_
  refine pb_newa_z (t := 66) (cl' := 26) (sl' := 1076) hB rfl (by decide +kernel) (by decide) (by decide) (by decide) wm_247 rfl rfl ⟨by decide, by decide⟩ dX9_init_225 (fun X hg1 => ?_)
  replace hg := pp_gr_tr hg hg1
  refine pb_put (fs' := [some (ppR 41 0 6), some (ppR 42 0 6), some (ppR 43 0 6), some (ppR 44 0 18), some (ppR 45 0 64), some (ppR 46 0 64), some (ppI (60 : Int32)), some (ppI (20 : Int32)), some (ppI (127 : Int32)), some (ppR 47 0 144), some (ppR 48 0 6), some (ppI 0), some (ppR 49 0 40), some (ppI 0), some (ppI 0), some (ppI 0), some (ppR 50 0 10), some (ppR 51 0 10), some (ppR 52 0 30), some (ppI 0), some (ppR 53 0 7), some (ppR 54 0 6), some (ppI 0), some (ppR 55 0 7), some (ppR 56 0 240), some (ppR 57 0 240), some (ppR 58 0 5), some (ppR 59 0 6), some (ppL 0), some (ppR 60 0 6), some (ppI 0), some (ppR 61 0 7), some (ppI 0), some (ppR 62 0 101), some (ppI 0), some (ppR 63 0 5), some (ppL 0), some (ppR 64 0 32), some (ppI 0), some (ppI 0), some (ppL 0), some (ppR 65 0 6), some (ppR 66 0 4), none, none, none, none, some (ppI 0)]) hB fr_X9_96 (fun _ => rfl) (fun _ => rfl) (by decide) (by decide +kernel) rfl dX9_init_227 ?_
  refine pb_aload_n hB dX9_init_230 rfl rfl ?_
  refine pb_iconst hB dX9_init_231 ic_4 ?_
  refine pb_newa_i (t := 67) (cl' := 27) (sl' := 1080) hB rfl (by decide +kernel) (by decide) (by decide) (by decide) wm_93 rfl rfl ⟨by decide, by decide⟩ dX9_init_232 (fun X hg1 => ?_)
  replace hg := pp_gr_tr hg hg1
  refine pb_put (fs' := [some (ppR 41 0 6), some (ppR 42 0 6), some (ppR 43 0 6), some (ppR 44 0 18), some (ppR 45 0 64), some (ppR 46 0 64), some (ppI (60 : Int32)), some (ppI (20 : Int32)), some (ppI (127 : Int32)), some (ppR 47 0 144), some (ppR 48 0 6), some (ppI 0), some (ppR 49 0 40), some (ppI 0), some (ppI 0), some (ppI 0), some (ppR 50 0 10), some (ppR 51 0 10), some (ppR 52 0 30), some (ppI 0), some (ppR 53 0 7), some (ppR 54 0 6), some (ppI 0), some (ppR 55 0 7), some (ppR 56 0 240), some (ppR 57 0 240), some (ppR 58 0 5), some (ppR 59 0 6), some (ppL 0), some (ppR 60 0 6), some (ppI 0), some (ppR 61 0 7), some (ppI 0), some (ppR 62 0 101), some (ppI 0), some (ppR 63 0 5), some (ppL 0), some (ppR 64 0 32), some (ppI 0), some (ppI 0), some (ppL 0), some (ppR 65 0 6), some (ppR 66 0 4), some (ppR 67 0 4), none, none, none, some (ppI 0)]) hB fr_X9_100 (fun _ => rfl) (fun _ => rfl) (by decide) (by decide +kernel) rfl dX9_init_234 ?_
  refine pb_aload_n hB dX9_init_237 rfl rfl ?_
  refine pb_iconst hB dX9_init_238 ic_4 ?_
  refine pb_newa_i (t := 68) (cl' := 28) (sl' := 1084) hB rfl (by decide +kernel) (by decide) (by decide) (by decide) wm_93 rfl rfl ⟨by decide, by decide⟩ dX9_init_239 (fun X hg1 => ?_)
  replace hg := pp_gr_tr hg hg1
  refine pb_put (fs' := [some (ppR 41 0 6), some (ppR 42 0 6), some (ppR 43 0 6), some (ppR 44 0 18), some (ppR 45 0 64), some (ppR 46 0 64), some (ppI (60 : Int32)), some (ppI (20 : Int32)), some (ppI (127 : Int32)), some (ppR 47 0 144), some (ppR 48 0 6), some (ppI 0), some (ppR 49 0 40), some (ppI 0), some (ppI 0), some (ppI 0), some (ppR 50 0 10), some (ppR 51 0 10), some (ppR 52 0 30), some (ppI 0), some (ppR 53 0 7), some (ppR 54 0 6), some (ppI 0), some (ppR 55 0 7), some (ppR 56 0 240), some (ppR 57 0 240), some (ppR 58 0 5), some (ppR 59 0 6), some (ppL 0), some (ppR 60 0 6), some (ppI 0), some (ppR 61 0 7), some (ppI 0), some (ppR 62 0 101), some (ppI 0), some (ppR 63 0 5), some (ppL 0), some (ppR 64 0 32), some (ppI 0), some (ppI 0), some (ppL 0), some (ppR 65 0 6), some (ppR 66 0 4), some (ppR 67 0 4), some (ppR 68 0 4), none, none, some (ppI 0)]) hB fr_X9_103 (fun _ => rfl) (fun _ => rfl) (by decide) (by decide +kernel) rfl dX9_init_241 ?_
  refine pb_aload_n hB dX9_init_244 rfl rfl ?_
  refine pb_sipush hB dX9_init_245 sc_160 ?_
  refine pb_newa_i (t := 69) (cl' := 29) (sl' := 1244) hB rfl (by decide +kernel) (by decide) (by decide) (by decide) wm_93 rfl rfl ⟨by decide, by decide⟩ dX9_init_248 (fun X hg1 => ?_)
  replace hg := pp_gr_tr hg hg1
  refine pb_put (fs' := [some (ppR 41 0 6), some (ppR 42 0 6), some (ppR 43 0 6), some (ppR 44 0 18), some (ppR 45 0 64), some (ppR 46 0 64), some (ppI (60 : Int32)), some (ppI (20 : Int32)), some (ppI (127 : Int32)), some (ppR 47 0 144), some (ppR 48 0 6), some (ppI 0), some (ppR 49 0 40), some (ppI 0), some (ppI 0), some (ppI 0), some (ppR 50 0 10), some (ppR 51 0 10), some (ppR 52 0 30), some (ppI 0), some (ppR 53 0 7), some (ppR 54 0 6), some (ppI 0), some (ppR 55 0 7), some (ppR 56 0 240), some (ppR 57 0 240), some (ppR 58 0 5), some (ppR 59 0 6), some (ppL 0), some (ppR 60 0 6), some (ppI 0), some (ppR 61 0 7), some (ppI 0), some (ppR 62 0 101), some (ppI 0), some (ppR 63 0 5), some (ppL 0), some (ppR 64 0 32), some (ppI 0), some (ppI 0), some (ppL 0), some (ppR 65 0 6), some (ppR 66 0 4), some (ppR 67 0 4), some (ppR 68 0 4), some (ppR 69 0 160), none, some (ppI 0)]) hB fr_X9_106 (fun _ => rfl) (fun _ => rfl) (by decide) (by decide +kernel) rfl dX9_init_250 ?_
  refine pb_aload_n hB dX9_init_253 rfl rfl ?_
  refine pb_bipush hB dX9_init_254 bc_40 ?_
  refine pb_newa_i (t := 70) (cl' := 30) (sl' := 1284) hB rfl (by decide +kernel) (by decide) (by decide) (by decide) wm_93 rfl rfl ⟨by decide, by decide⟩ dX9_init_256 (fun X hg1 => ?_)
  replace hg := pp_gr_tr hg hg1
  refine pb_put (fs' := [some (ppR 41 0 6), some (ppR 42 0 6), some (ppR 43 0 6), some (ppR 44 0 18), some (ppR 45 0 64), some (ppR 46 0 64), some (ppI (60 : Int32)), some (ppI (20 : Int32)), some (ppI (127 : Int32)), some (ppR 47 0 144), some (ppR 48 0 6), some (ppI 0), some (ppR 49 0 40), some (ppI 0), some (ppI 0), some (ppI 0), some (ppR 50 0 10), some (ppR 51 0 10), some (ppR 52 0 30), some (ppI 0), some (ppR 53 0 7), some (ppR 54 0 6), some (ppI 0), some (ppR 55 0 7), some (ppR 56 0 240), some (ppR 57 0 240), some (ppR 58 0 5), some (ppR 59 0 6), some (ppL 0), some (ppR 60 0 6), some (ppI 0), some (ppR 61 0 7), some (ppI 0), some (ppR 62 0 101), some (ppI 0), some (ppR 63 0 5), some (ppL 0), some (ppR 64 0 32), some (ppI 0), some (ppI 0), some (ppL 0), some (ppR 65 0 6), some (ppR 66 0 4), some (ppR 67 0 4), some (ppR 68 0 4), some (ppR 69 0 160), some (ppR 70 0 40), some (ppI 0)]) hB fr_X9_109 (fun _ => rfl) (fun _ => rfl) (by decide) (by decide +kernel) rfl dX9_init_258 ?_
  exact pb_done (σ' := (ppS (ppS (ppS (pp_z (pp_z (pp_z (pp_z (pp_z (pp_z (pp_z (pp_z (pp_z (pp_z (pp_z (pp_z (pp_z (pp_z (pp_z (pp_z (pp_z (pp_z (pp_z (pp_z (pp_z (pp_z (pp_z (pp_z (pp_z (pp_z (pp_z (pp_z (pp_z (pp_z (pp_z pp_0 41) 42) 43) 44) 45) 46) 47) 48) 49) 50) 51) 52) 53) 54) 55) 56) 57) 58) 59) 60) 61) 62) 63) 64) 65) 66) 67) 68) 69) 70) 40) 40 6 (60 : Int32)) 40 7 (20 : Int32)) 40 8 (127 : Int32))) hB hg rfl (fun _ => rfl) (fun a ha => ⟨fun j => by simp [ppS, ppT, pp_z, ha], fun j => by simp [ppS, ppT, pp_z, ha]⟩) (by decide +kernel) rfl (by decide +kernel) okM hret (fun Γ hF hR => (e_X9_init_261 hF hR h)))
