set_option maxRecDepth 20000 in
theorem e_X4_chanceOf_0 {Γ : pp_G} {r' : Int32} {σ' : pp_M} (hF : pp_Fx Γ dsK cX4_chanceOf 5 RX4 1 12) (hR : pp_Rt Γ dsK (some .int) (some (ppI r')) σ') {σ : pp_M} {a1 : Int32} {a2 : Int32} {a3 : Int32} (h : f_X4_chanceOf σ a1 a2 a3 = some (r', σ')) : pp_E Γ dsK cX4_chanceOf 5 0 [(0, ppR 9 0 0), (1, ppI a1), (2, ppI a2), (3, ppI a3)] [] σ := by
  unfold f_X4_chanceOf at h
  refine pp_aload_n hF dX4_chanceOf_0 rfl rfl ?_
  refine pp_getR hF fdK_X4_11 dX4_chanceOf_1 ?_
  refine pp_iload_n hF dX4_chanceOf_4 rfl rfl ?_
  refine pp_bipush hF dX4_chanceOf_5 bc_6 ?_
  refine pp_imul hF dX4_chanceOf_7 ?_
  refine pp_iload_n hF dX4_chanceOf_8 rfl rfl ?_
  refine pp_iadd hF dX4_chanceOf_9 ?_
  obtain ⟨hi1, h⟩ := pp_ck h
  refine pp_aaloadI hF vK_10 hi1 dX4_chanceOf_10 ?_
  refine pp_iload_n hF dX4_chanceOf_11 rfl rfl ?_
  obtain ⟨hi2, h⟩ := pp_ck h
  refine pp_ialoadJ hF (vK_11 _ (vp_lt hi1)) hi2 rfl dX4_chanceOf_12 ?_
  refine pp_istore hF dX4_chanceOf_13 (by decide) (lv' := [(0, ppR 9 0 0), (1, ppI a1), (2, ppI a2), (3, ppI a3), (4, ppI (σ.1 11 ((((a1 * (6 : Int32)) + a2).toNatClampNeg * 3) + a3.toNatClampNeg)))]) rfl ?_
  refine pp_iload hF dX4_chanceOf_15 rfl ?_
  refine pp_aload_n hF dX4_chanceOf_17 rfl rfl ?_
  refine pp_getR hF fdK_X4_16 dX4_chanceOf_18 ?_
  refine pp_iload_n hF dX4_chanceOf_21 rfl rfl ?_
  obtain ⟨hi3, h⟩ := pp_ck h
  refine pp_ialoadJ hF vK_12 hi3 (Nat.zero_add _) dX4_chanceOf_22 ?_
  refine pp_icmp_le (tgt := 38) hF dX4_chanceOf_23 rfl (fun c4 => ?_) (fun c4 => ?_)
  · replace h := (if_pos c4).symm.trans h
    refine pp_iload hF dX4_chanceOf_26 rfl ?_
    refine pp_aload_n hF dX4_chanceOf_28 rfl rfl ?_
    refine pp_getR hF fdK_X4_16 dX4_chanceOf_29 ?_
    refine pp_iload_n hF dX4_chanceOf_32 rfl rfl ?_
    refine pp_ialoadJ hF vK_12 hi3 (Nat.zero_add _) dX4_chanceOf_33 ?_
    refine pp_isub hF dX4_chanceOf_34 ?_
    refine pp_goto (tgt := 39) hF dX4_chanceOf_35 rfl ?_
    obtain ⟨rfl, rfl⟩ := pp_i2 h
    exact pp_ireturn hF hR dX4_chanceOf_39
  · replace h := (if_neg c4).symm.trans h
    refine pp_iconst hF dX4_chanceOf_38 ic_0 ?_
    obtain ⟨rfl, rfl⟩ := pp_i2 h
    exact pp_ireturn hF hR dX4_chanceOf_39
set_option maxRecDepth 20000 in
theorem c_X4_chanceOf {r' : Int32} {σ' : pp_M} {σ : pp_M} {a1 : Int32} {a2 : Int32} {a3 : Int32} (h : f_X4_chanceOf σ a1 a2 a3 = some (r', σ')) : pp_Ct yX4_chanceOf cX4_chanceOf 5 (some .int) 1 12 dsK [ppR 9 0 0, ppI a1, ppI a2, ppI a3] σ (some (ppI r')) σ' := pp_met pl_X4 rfl okK (Nat.le_of_ble_eq_true rfl) rfl (fun Γ hF hR => (e_X4_chanceOf_0 hF hR h))
set_option maxRecDepth 20000 in
theorem e_X0_meanAsked_0 {Γ : pp_G} {r' : Int64} {σ' : pp_M} (hF : pp_Fx Γ dsK cX0_meanAsked 11 RX0 2 36) (hR : pp_Rt Γ dsK (some .long) (some (ppL r')) σ') {σ : pp_M} {a1 : Int32} {a2 : Int32} {a3 : Int32} {a4 : Int32} {a5 : Int32} (h : f_X0_meanAsked σ a1 a2 a3 a4 a5 = some (r', σ')) : pp_E Γ dsK cX0_meanAsked 11 0 [(0, ppR 21 0 0), (1, ppI a1), (2, ppI a2), (3, ppI a3), (4, ppI a4), (5, ppI a5)] [] σ := by
  unfold f_X0_meanAsked at h
  refine pp_aload_n hF dX0_meanAsked_0 rfl rfl ?_
  refine pp_getR hF fdK_X0_11 dX0_meanAsked_1 ?_
  refine pp_iload_n hF dX0_meanAsked_4 rfl rfl ?_
  refine pp_iconst hF dX0_meanAsked_5 ic_1 ?_
  refine pp_isub hF dX0_meanAsked_6 ?_
  obtain ⟨hi1, h⟩ := pp_ck h
  refine pp_aaloadL hF vK_22 hi1 dX0_meanAsked_7 ?_
  refine pp_astore hF dX0_meanAsked_8 (by decide) (lv' := [(0, ppR 21 0 0), (1, ppI a1), (2, ppI a2), (3, ppI a3), (4, ppI a4), (5, ppI a5), (6, ppR 23 ((a1 - (1 : Int32)).toNatClampNeg * 30) 30)]) rfl ?_
  refine pp_iload_n hF dX0_meanAsked_10 rfl rfl ?_
  refine pp_iconst hF dX0_meanAsked_11 ic_5 ?_
  refine pp_imul hF dX0_meanAsked_12 ?_
  refine pp_iload hF dX0_meanAsked_13 rfl ?_
  refine pp_iadd hF dX0_meanAsked_15 ?_
  refine pp_istore hF dX0_meanAsked_16 (by decide) (lv' := [(0, ppR 21 0 0), (1, ppI a1), (2, ppI a2), (3, ppI a3), (4, ppI a4), (5, ppI a5), (6, ppR 23 ((a1 - (1 : Int32)).toNatClampNeg * 30) 30), (7, ppI ((a3 * (5 : Int32)) + a4))]) rfl ?_
  refine pp_iload hF dX0_meanAsked_18 rfl ?_
  refine pp_iconst hF dX0_meanAsked_20 ic_3 ?_
  refine pp_icmp_ne (tgt := 30) hF dX0_meanAsked_21 rfl (fun c2 => ?_) (fun c2 => ?_)
  · replace h := (if_pos c2).symm.trans h
    refine pp_aload hF dX0_meanAsked_24 rfl ?_
    refine pp_iload hF dX0_meanAsked_26 rfl ?_
    obtain ⟨hi3, h⟩ := pp_ck h
    refine pp_laloadJ hF (vK_23 _ (vp_lt hi1)) hi3 rfl dX0_meanAsked_28 ?_
    obtain ⟨rfl, rfl⟩ := pp_i2 h
    exact pp_lreturn hF hR dX0_meanAsked_29
  · replace h := (if_neg c2).symm.trans h
    refine pp_aload_n hF dX0_meanAsked_30 rfl rfl ?_
    refine pp_getR hF fdK_X0_24 dX0_meanAsked_31 ?_
    refine pp_iload_n hF dX0_meanAsked_34 rfl rfl ?_
    refine pp_iload_n hF dX0_meanAsked_35 rfl rfl ?_
    refine pp_iload hF dX0_meanAsked_36 rfl ?_
    obtain ⟨x38, hx38, h⟩ := pp_bd h
    refine pp_callVi hF (c_X4_chanceOf hx38) mV_X4_chanceOf lk_X0_51 obK_9 rfl rfl ⟨by decide, by decide⟩ (Nat.le_of_ble_eq_true rfl) dX0_meanAsked_38 ?_
    refine pp_istore hF dX0_meanAsked_41 (by decide) (lv' := [(0, ppR 21 0 0), (1, ppI a1), (2, ppI a2), (3, ppI a3), (4, ppI a4), (5, ppI a5), (6, ppR 23 ((a1 - (1 : Int32)).toNatClampNeg * 30) 30), (7, ppI ((a3 * (5 : Int32)) + a4)), (8, ppI x38.1)]) rfl ?_
    refine pp_aload_n hF dX0_meanAsked_43 rfl rfl ?_
    refine pp_getR hF fdK_X0_20 dX0_meanAsked_44 ?_
    refine pp_getR hF fdK_X0_35 dX0_meanAsked_47 ?_
    refine pp_iload_n hF dX0_meanAsked_50 rfl rfl ?_
    obtain ⟨hi5, h⟩ := pp_ck h
    refine pp_aaloadI hF vK_2 hi5 dX0_meanAsked_51 ?_
    refine pp_iconst hF dX0_meanAsked_52 ic_3 ?_
    refine pp_iload hF dX0_meanAsked_53 rfl ?_
    refine pp_iadd hF dX0_meanAsked_55 ?_
    obtain ⟨hi6, h⟩ := pp_ck h
    refine pp_ialoadJ hF (vK_3 _ (vp_lt hi5)) hi6 rfl dX0_meanAsked_56 ?_
    refine pp_i2l hF dX0_meanAsked_57 ?_
    refine pp_ldc2 hF wm_519 dX0_meanAsked_58 ?_
    refine pp_lmul hF dX0_meanAsked_61 ?_
    refine pp_aload hF dX0_meanAsked_62 rfl ?_
    refine pp_iload hF dX0_meanAsked_64 rfl ?_
    refine pp_iconst hF dX0_meanAsked_66 ic_1 ?_
    refine pp_isub hF dX0_meanAsked_67 ?_
    obtain ⟨hi7, h⟩ := pp_ck h
    refine pp_laloadJ hF (vK_23 _ (vp_lt hi1)) hi7 rfl dX0_meanAsked_68 ?_
    refine pp_ladd hF dX0_meanAsked_69 ?_
    refine pp_lstore hF dX0_meanAsked_70 (by decide) (lv' := [(0, ppR 21 0 0), (1, ppI a1), (2, ppI a2), (3, ppI a3), (4, ppI a4), (5, ppI a5), (6, ppR 23 ((a1 - (1 : Int32)).toNatClampNeg * 30) 30), (7, ppI ((a3 * (5 : Int32)) + a4)), (8, ppI x38.1), (9, ppL (((((x38.2.1 3 ((a3.toNatClampNeg * 6) + ((3 : Int32) + a5).toNatClampNeg))).toInt64) * (268435456 : Int64)) + (x38.2.2 23 (((a1 - (1 : Int32)).toNatClampNeg * 30) + (((a3 * (5 : Int32)) + a4) - (1 : Int32)).toNatClampNeg))))]) rfl ?_
    refine pp_iload hF dX0_meanAsked_72 rfl ?_
    refine pp_i2l hF dX0_meanAsked_74 ?_
    refine pp_lload hF dX0_meanAsked_75 rfl ?_
    refine pp_lmul hF dX0_meanAsked_77 ?_
    refine pp_bipush hF dX0_meanAsked_78 bc_16 ?_
    refine pp_iload hF dX0_meanAsked_80 rfl ?_
    refine pp_isub hF dX0_meanAsked_82 ?_
    refine pp_i2l hF dX0_meanAsked_83 ?_
    refine pp_aload hF dX0_meanAsked_84 rfl ?_
    refine pp_iload hF dX0_meanAsked_86 rfl ?_
    obtain ⟨hi8, h⟩ := pp_ck h
    refine pp_laloadJ hF (vK_23 _ (vp_lt hi1)) hi8 rfl dX0_meanAsked_88 ?_
    refine pp_lmul hF dX0_meanAsked_89 ?_
    refine pp_ladd hF dX0_meanAsked_90 ?_
    refine pp_ldc2 hF wm_521 dX0_meanAsked_91 ?_
    refine pp_ldiv hF dX0_meanAsked_94 (by decide) ?_
    obtain ⟨rfl, rfl⟩ := pp_i2 h
    exact pp_lreturn hF hR dX0_meanAsked_95
set_option maxRecDepth 20000 in
theorem c_X0_meanAsked {r' : Int64} {σ' : pp_M} {σ : pp_M} {a1 : Int32} {a2 : Int32} {a3 : Int32} {a4 : Int32} {a5 : Int32} (h : f_X0_meanAsked σ a1 a2 a3 a4 a5 = some (r', σ')) : pp_Ct yX0_meanAsked cX0_meanAsked 11 (some .long) 2 36 dsK [ppR 21 0 0, ppI a1, ppI a2, ppI a3, ppI a4, ppI a5] σ (some (ppL r')) σ' := pp_met pl_X0 rfl okK (Nat.le_of_ble_eq_true rfl) rfl (fun Γ hF hR => (e_X0_meanAsked_0 hF hR h))
set_option maxRecDepth 20000 in
theorem e_X0_bestLevel_53 {Γ : pp_G} {r' : Int32} {σ' : pp_M} (hF : pp_Fx Γ dsK cX0_bestLevel 11 RX0 3 66) (hR : pp_Rt Γ dsK (some .int) (some (ppI r')) σ') {σ : pp_M} {a1 : Int32} {a2 : Int32} {a3 : Int32} {a4 : Int32} {a5 : Int32} {a6 : Int64} {a8 : Int32} {k18 : pp_M → Int32 → Int32 → Int32 → Int32 → Int32 → Int64 → Int32 → Option (Int32 × pp_M)} (hk18 : ∀ {σ : pp_M} {a1 : Int32} {a2 : Int32} {a3 : Int32} {a4 : Int32} {a5 : Int32} {a6 : Int64} {a8 : Int32}, k18 σ a1 a2 a3 a4 a5 a6 a8 = some (r', σ') → pp_E Γ dsK cX0_bestLevel 11 18 [(0, ppR 21 0 0), (1, ppI a1), (2, ppI a2), (3, ppI a3), (4, ppI a4), (5, ppI a5), (6, ppL a6), (8, ppI a8)] [] σ) (h : f_X0_bestLevel_53 k18 σ a1 a2 a3 a4 a5 a6 a8 = some (r', σ')) : pp_E Γ dsK cX0_bestLevel 11 53 [(0, ppR 21 0 0), (1, ppI a1), (2, ppI a2), (3, ppI a3), (4, ppI a4), (5, ppI a5), (6, ppL a6), (8, ppI a8)] [] σ := by
  unfold f_X0_bestLevel_53 at h
  refine pp_iinc hF dX0_bestLevel_53 rfl (congrArg (HAdd.hAdd _) ic_1) (by decide) (lv' := [(0, ppR 21 0 0), (1, ppI a1), (2, ppI a2), (3, ppI a3), (4, ppI a4), (5, ppI a5), (6, ppL a6), (8, ppI (a8 + (1 : Int32)))]) rfl ?_
  refine pp_goto (tgt := 18) hF dX0_bestLevel_56 rfl ?_
  exact hk18 h
set_option maxRecDepth 20000 in
theorem e_X0_bestLevel_18 {Γ : pp_G} {r' : Int32} {σ' : pp_M} (hF : pp_Fx Γ dsK cX0_bestLevel 11 RX0 3 66) (hR : pp_Rt Γ dsK (some .int) (some (ppI r')) σ') {σ : pp_M} {a1 : Int32} {a2 : Int32} {a3 : Int32} {a4 : Int32} {a5 : Int32} {a6 : Int64} {a8 : Int32} {k18 : pp_M → Int32 → Int32 → Int32 → Int32 → Int32 → Int64 → Int32 → Option (Int32 × pp_M)} (hk18 : ∀ {σ : pp_M} {a1 : Int32} {a2 : Int32} {a3 : Int32} {a4 : Int32} {a5 : Int32} {a6 : Int64} {a8 : Int32}, k18 σ a1 a2 a3 a4 a5 a6 a8 = some (r', σ') → pp_E Γ dsK cX0_bestLevel 11 18 [(0, ppR 21 0 0), (1, ppI a1), (2, ppI a2), (3, ppI a3), (4, ppI a4), (5, ppI a5), (6, ppL a6), (8, ppI a8)] [] σ) (h : f_X0_bestLevel_18_B k18 σ a1 a2 a3 a4 a5 a6 a8 = some (r', σ')) : pp_E Γ dsK cX0_bestLevel 11 18 [(0, ppR 21 0 0), (1, ppI a1), (2, ppI a2), (3, ppI a3), (4, ppI a4), (5, ppI a5), (6, ppL a6), (8, ppI a8)] [] σ := by
  unfold f_X0_bestLevel_18_B at h
  refine pp_iload hF dX0_bestLevel_18 rfl ?_
  refine pp_iconst hF dX0_bestLevel_20 ic_3 ?_
  refine pp_icmp_gt (tgt := 59) hF dX0_bestLevel_21 rfl (fun c1 => ?_) (fun c1 => ?_)
  · replace h := (if_pos c1).symm.trans h
    refine pp_iload hF dX0_bestLevel_59 rfl ?_
    obtain ⟨rfl, rfl⟩ := pp_i2 h
    exact pp_ireturn hF hR dX0_bestLevel_61
  · replace h := (if_neg c1).symm.trans h
    refine pp_aload_n hF dX0_bestLevel_24 rfl rfl ?_
    refine pp_iload_n hF dX0_bestLevel_25 rfl rfl ?_
    refine pp_iload_n hF dX0_bestLevel_26 rfl rfl ?_
    refine pp_iload_n hF dX0_bestLevel_27 rfl rfl ?_
    refine pp_iload hF dX0_bestLevel_28 rfl ?_
    refine pp_iload hF dX0_bestLevel_30 rfl ?_
    obtain ⟨x32, hx32, h⟩ := pp_bd h
    refine pp_callVl hF (c_X0_meanAsked hx32) mV_X0_meanAsked lk_X0_47 obK_21 rfl rfl ⟨by decide, by decide⟩ (Nat.le_of_ble_eq_true rfl) dX0_bestLevel_32 ?_
    refine pp_lstore hF dX0_bestLevel_35 (by decide) (lv' := [(0, ppR 21 0 0), (1, ppI a1), (2, ppI a2), (3, ppI a3), (4, ppI a4), (5, ppI a5), (6, ppL a6), (8, ppI a8), (9, ppL x32.1)]) rfl ?_
    refine pp_lload hF dX0_bestLevel_37 rfl ?_
    refine pp_lload hF dX0_bestLevel_39 rfl ?_
    refine pp_lcmp_le (tgt := 53) hF dX0_bestLevel_41 dX0_bestLevel_42 rfl (fun c3 => ?_) (fun c3 => ?_)
    · replace h := (if_pos c3).symm.trans h
      refine pp_lload hF dX0_bestLevel_45 rfl ?_
      refine pp_lstore hF dX0_bestLevel_47 (by decide) (lv' := [(0, ppR 21 0 0), (1, ppI a1), (2, ppI a2), (3, ppI a3), (4, ppI a4), (5, ppI a5), (6, ppL x32.1), (8, ppI a8), (9, ppL x32.1)]) rfl ?_
      refine pp_iload hF dX0_bestLevel_49 rfl ?_
      refine pp_istore hF dX0_bestLevel_51 (by decide) (lv' := [(0, ppR 21 0 0), (1, ppI a1), (2, ppI a2), (3, ppI a3), (4, ppI a4), (5, ppI a8), (6, ppL x32.1), (8, ppI a8), (9, ppL x32.1)]) rfl ?_
      refine pp_few [0, 1, 2, 3, 4, 5, 6, 7] (lv' := [(0, ppR 21 0 0), (1, ppI a1), (2, ppI a2), (3, ppI a3), (4, ppI a4), (5, ppI a8), (6, ppL x32.1), (8, ppI a8)]) rfl ?_
      exact e_X0_bestLevel_53 hF hR hk18 h
    · replace h := (if_neg c3).symm.trans h
      refine pp_few [0, 1, 2, 3, 4, 5, 6, 7] (lv' := [(0, ppR 21 0 0), (1, ppI a1), (2, ppI a2), (3, ppI a3), (4, ppI a4), (5, ppI a5), (6, ppL a6), (8, ppI a8)]) rfl ?_
      exact e_X0_bestLevel_53 hF hR hk18 h
set_option maxRecDepth 20000 in
theorem e_X0_bestLevel_18_L {Γ : pp_G} {r' : Int32} {σ' : pp_M} (hF : pp_Fx Γ dsK cX0_bestLevel 11 RX0 3 66) (hR : pp_Rt Γ dsK (some .int) (some (ppI r')) σ') : ∀ {n : Nat} {σ : pp_M} {a1 : Int32} {a2 : Int32} {a3 : Int32} {a4 : Int32} {a5 : Int32} {a6 : Int64} {a8 : Int32}, f_X0_bestLevel_18 n σ a1 a2 a3 a4 a5 a6 a8 = some (r', σ') → pp_E Γ dsK cX0_bestLevel 11 18 [(0, ppR 21 0 0), (1, ppI a1), (2, ppI a2), (3, ppI a3), (4, ppI a4), (5, ppI a5), (6, ppL a6), (8, ppI a8)] [] σ
  | 0, _, _, _, _, _, _, _, _ => fun h => by cases h
  | n + 1, _, _, _, _, _, _, _, _ => fun h => e_X0_bestLevel_18 hF hR (fun h => e_X0_bestLevel_18_L hF hR (n := n) h) h
set_option maxRecDepth 20000 in
theorem e_X0_bestLevel_0 {Γ : pp_G} {r' : Int32} {σ' : pp_M} (hF : pp_Fx Γ dsK cX0_bestLevel 11 RX0 3 66) (hR : pp_Rt Γ dsK (some .int) (some (ppI r')) σ') {σ : pp_M} {a1 : Int32} {a2 : Int32} {a3 : Int32} {a4 : Int32} (h : f_X0_bestLevel σ a1 a2 a3 a4 = some (r', σ')) : pp_E Γ dsK cX0_bestLevel 11 0 [(0, ppR 21 0 0), (1, ppI a1), (2, ppI a2), (3, ppI a3), (4, ppI a4)] [] σ := by
  unfold f_X0_bestLevel at h
  refine pp_iconst hF dX0_bestLevel_0 ic_0 ?_
  refine pp_istore hF dX0_bestLevel_1 (by decide) (lv' := [(0, ppR 21 0 0), (1, ppI a1), (2, ppI a2), (3, ppI a3), (4, ppI a4), (5, ppI (0 : Int32))]) rfl ?_
  refine pp_aload_n hF dX0_bestLevel_3 rfl rfl ?_
  refine pp_iload_n hF dX0_bestLevel_4 rfl rfl ?_
  refine pp_iload_n hF dX0_bestLevel_5 rfl rfl ?_
  refine pp_iload_n hF dX0_bestLevel_6 rfl rfl ?_
  refine pp_iload hF dX0_bestLevel_7 rfl ?_
  refine pp_iconst hF dX0_bestLevel_9 ic_0 ?_
  obtain ⟨x10, hx10, h⟩ := pp_bd h
  refine pp_callVl hF (c_X0_meanAsked hx10) mV_X0_meanAsked lk_X0_47 obK_21 rfl rfl ⟨by decide, by decide⟩ (Nat.le_of_ble_eq_true rfl) dX0_bestLevel_10 ?_
  refine pp_lstore hF dX0_bestLevel_13 (by decide) (lv' := [(0, ppR 21 0 0), (1, ppI a1), (2, ppI a2), (3, ppI a3), (4, ppI a4), (5, ppI (0 : Int32)), (6, ppL x10.1)]) rfl ?_
  refine pp_iconst hF dX0_bestLevel_15 ic_1 ?_
  refine pp_istore hF dX0_bestLevel_16 (by decide) (lv' := [(0, ppR 21 0 0), (1, ppI a1), (2, ppI a2), (3, ppI a3), (4, ppI a4), (5, ppI (0 : Int32)), (6, ppL x10.1), (8, ppI (1 : Int32))]) rfl ?_
  exact e_X0_bestLevel_18_L hF hR h
set_option maxRecDepth 20000 in
theorem c_X0_bestLevel {r' : Int32} {σ' : pp_M} {σ : pp_M} {a1 : Int32} {a2 : Int32} {a3 : Int32} {a4 : Int32} (h : f_X0_bestLevel σ a1 a2 a3 a4 = some (r', σ')) : pp_Ct yX0_bestLevel cX0_bestLevel 11 (some .int) 3 66 dsK [ppR 21 0 0, ppI a1, ppI a2, ppI a3, ppI a4] σ (some (ppI r')) σ' := pp_met pl_X0 rfl okK (Nat.le_of_ble_eq_true rfl) rfl (fun Γ hF hR => (e_X0_bestLevel_0 hF hR h))
set_option maxRecDepth 20000 in
theorem e_X0_callAt_22 {Γ : pp_G} {σ' : pp_M} (hF : pp_Fx Γ dsK cX0_callAt 6 RX0 4 96) (hR : pp_Rt Γ dsK none none σ') {σ : pp_M} {a1 : Int32} {a2 : Int32} {a3 : Int32} {a4 : Int32} {k2 : pp_M → Int32 → Int32 → Int32 → Option (pp_M)} (hk2 : ∀ {σ : pp_M} {a1 : Int32} {a2 : Int32} {a3 : Int32}, k2 σ a1 a2 a3 = some σ' → pp_E Γ dsK cX0_callAt 6 2 [(0, ppR 21 0 0), (1, ppI a1), (2, ppI a2), (3, ppI a3)] [] σ) {k22 : pp_M → Int32 → Int32 → Int32 → Int32 → Option (pp_M)} (hk22 : ∀ {σ : pp_M} {a1 : Int32} {a2 : Int32} {a3 : Int32} {a4 : Int32}, k22 σ a1 a2 a3 a4 = some σ' → pp_E Γ dsK cX0_callAt 6 22 [(0, ppR 21 0 0), (1, ppI a1), (2, ppI a2), (3, ppI a3), (4, ppI a4)] [] σ) (h : f_X0_callAt_22_B k2 k22 σ a1 a2 a3 a4 = some σ') : pp_E Γ dsK cX0_callAt 6 22 [(0, ppR 21 0 0), (1, ppI a1), (2, ppI a2), (3, ppI a3), (4, ppI a4)] [] σ := by
  unfold f_X0_callAt_22_B at h
  refine pp_iload hF dX0_callAt_22 rfl ?_
  refine pp_iconst hF dX0_callAt_24 ic_5 ?_
  refine pp_icmp_ge (tgt := 69) hF dX0_callAt_25 rfl (fun c1 => ?_) (fun c1 => ?_)
  · replace h := (if_pos c1).symm.trans h
    refine pp_aload_n hF dX0_callAt_28 rfl rfl ?_
    refine pp_iload_n hF dX0_callAt_29 rfl rfl ?_
    refine pp_iload_n hF dX0_callAt_30 rfl rfl ?_
    refine pp_iload_n hF dX0_callAt_31 rfl rfl ?_
    refine pp_iload hF dX0_callAt_32 rfl ?_
    obtain ⟨x34, hx34, h⟩ := pp_bd h
    refine pp_callVi hF (c_X0_bestLevel hx34) mV_X0_bestLevel lk_X0_43 obK_21 rfl rfl ⟨by decide, by decide⟩ (Nat.le_of_ble_eq_true rfl) dX0_callAt_34 ?_
    refine pp_istore hF dX0_callAt_37 (by decide) (lv' := [(0, ppR 21 0 0), (1, ppI a1), (2, ppI a2), (3, ppI a3), (4, ppI a4), (5, ppI x34.1)]) rfl ?_
    refine pp_aload_n hF dX0_callAt_39 rfl rfl ?_
    refine pp_getR hF fdK_X0_11 dX0_callAt_40 ?_
    refine pp_iload_n hF dX0_callAt_43 rfl rfl ?_
    obtain ⟨hi3, h⟩ := pp_ck h
    refine pp_aaloadL hF vK_22 hi3 dX0_callAt_44 ?_
    refine pp_iload_n hF dX0_callAt_45 rfl rfl ?_
    refine pp_iconst hF dX0_callAt_46 ic_5 ?_
    refine pp_imul hF dX0_callAt_47 ?_
    refine pp_iload hF dX0_callAt_48 rfl ?_
    refine pp_iadd hF dX0_callAt_50 ?_
    refine pp_aload_n hF dX0_callAt_51 rfl rfl ?_
    refine pp_iload_n hF dX0_callAt_52 rfl rfl ?_
    refine pp_iload_n hF dX0_callAt_53 rfl rfl ?_
    refine pp_iload_n hF dX0_callAt_54 rfl rfl ?_
    refine pp_iload hF dX0_callAt_55 rfl ?_
    refine pp_iload hF dX0_callAt_57 rfl ?_
    obtain ⟨x59, hx59, h⟩ := pp_bd h
    refine pp_callVl hF (c_X0_meanAsked hx59) mV_X0_meanAsked lk_X0_47 obK_21 rfl rfl ⟨by decide, by decide⟩ (Nat.le_of_ble_eq_true rfl) dX0_callAt_59 ?_
    obtain ⟨hi5, h⟩ := pp_ck h
    refine pp_lastoreJ hF (vK_23 _ (vp_lt hi3)) hi5 rfl dX0_callAt_62 ?_
    refine pp_iinc hF dX0_callAt_63 rfl (congrArg (HAdd.hAdd _) ic_1) (by decide) (lv' := [(0, ppR 21 0 0), (1, ppI a1), (2, ppI a2), (3, ppI a3), (4, ppI (a4 + (1 : Int32))), (5, ppI x34.1)]) rfl ?_
    refine pp_goto (tgt := 22) hF dX0_callAt_66 rfl ?_
    refine pp_few [0, 1, 2, 3, 4] (lv' := [(0, ppR 21 0 0), (1, ppI a1), (2, ppI a2), (3, ppI a3), (4, ppI (a4 + (1 : Int32)))]) rfl ?_
    exact hk22 h
  · replace h := (if_neg c1).symm.trans h
    refine pp_iinc hF dX0_callAt_69 rfl (congrArg (HAdd.hAdd _) ic_1) (by decide) (lv' := [(0, ppR 21 0 0), (1, ppI a1), (2, ppI a2), (3, ppI (a3 + (1 : Int32))), (4, ppI a4)]) rfl ?_
    refine pp_goto (tgt := 2) hF dX0_callAt_72 rfl ?_
    refine pp_few [0, 1, 2, 3] (lv' := [(0, ppR 21 0 0), (1, ppI a1), (2, ppI a2), (3, ppI (a3 + (1 : Int32)))]) rfl ?_
    exact hk2 h
set_option maxRecDepth 20000 in
theorem e_X0_callAt_22_L {Γ : pp_G} {σ' : pp_M} (hF : pp_Fx Γ dsK cX0_callAt 6 RX0 4 96) (hR : pp_Rt Γ dsK none none σ') {k2 : pp_M → Int32 → Int32 → Int32 → Option (pp_M)} (hk2 : ∀ {σ : pp_M} {a1 : Int32} {a2 : Int32} {a3 : Int32}, k2 σ a1 a2 a3 = some σ' → pp_E Γ dsK cX0_callAt 6 2 [(0, ppR 21 0 0), (1, ppI a1), (2, ppI a2), (3, ppI a3)] [] σ) : ∀ {n : Nat} {σ : pp_M} {a1 : Int32} {a2 : Int32} {a3 : Int32} {a4 : Int32}, f_X0_callAt_22 k2 n σ a1 a2 a3 a4 = some σ' → pp_E Γ dsK cX0_callAt 6 22 [(0, ppR 21 0 0), (1, ppI a1), (2, ppI a2), (3, ppI a3), (4, ppI a4)] [] σ
  | 0, _, _, _, _, _ => fun h => by cases h
  | n + 1, _, _, _, _, _ => fun h => e_X0_callAt_22 hF hR hk2 (fun h => e_X0_callAt_22_L hF hR hk2 (n := n) h) h
set_option maxRecDepth 20000 in
theorem e_X0_callAt_2 {Γ : pp_G} {σ' : pp_M} (hF : pp_Fx Γ dsK cX0_callAt 6 RX0 4 96) (hR : pp_Rt Γ dsK none none σ') {σ : pp_M} {a1 : Int32} {a2 : Int32} {a3 : Int32} {k2 : pp_M → Int32 → Int32 → Int32 → Option (pp_M)} (hk2 : ∀ {σ : pp_M} {a1 : Int32} {a2 : Int32} {a3 : Int32}, k2 σ a1 a2 a3 = some σ' → pp_E Γ dsK cX0_callAt 6 2 [(0, ppR 21 0 0), (1, ppI a1), (2, ppI a2), (3, ppI a3)] [] σ) (h : f_X0_callAt_2_B k2 σ a1 a2 a3 = some σ') : pp_E Γ dsK cX0_callAt 6 2 [(0, ppR 21 0 0), (1, ppI a1), (2, ppI a2), (3, ppI a3)] [] σ := by
  unfold f_X0_callAt_2_B at h
  refine pp_iload_n hF dX0_callAt_2 rfl rfl ?_
  refine pp_bipush hF dX0_callAt_3 bc_6 ?_
  refine pp_icmp_ge (tgt := 75) hF dX0_callAt_5 rfl (fun c1 => ?_) (fun c1 => ?_)
  · replace h := (if_pos c1).symm.trans h
    refine pp_aload_n hF dX0_callAt_8 rfl rfl ?_
    refine pp_getR hF fdK_X0_11 dX0_callAt_9 ?_
    refine pp_iload_n hF dX0_callAt_12 rfl rfl ?_
    obtain ⟨hi2, h⟩ := pp_ck h
    refine pp_aaloadL hF vK_22 hi2 dX0_callAt_13 ?_
    refine pp_iload_n hF dX0_callAt_14 rfl rfl ?_
    refine pp_iconst hF dX0_callAt_15 ic_5 ?_
    refine pp_imul hF dX0_callAt_16 ?_
    refine pp_lconst hF dX0_callAt_17 lc_0 ?_
    obtain ⟨hi3, h⟩ := pp_ck h
    refine pp_lastoreJ hF (vK_23 _ (vp_lt hi2)) hi3 rfl dX0_callAt_18 ?_
    refine pp_iconst hF dX0_callAt_19 ic_1 ?_
    refine pp_istore hF dX0_callAt_20 (by decide) (lv' := [(0, ppR 21 0 0), (1, ppI a1), (2, ppI a2), (3, ppI a3), (4, ppI (1 : Int32))]) rfl ?_
    exact e_X0_callAt_22_L hF hR hk2 h
  · replace h := (if_neg c1).symm.trans h
    obtain rfl := (Option.some.inj h).symm
    exact pp_return hF hR dX0_callAt_75
set_option maxRecDepth 20000 in
theorem e_X0_callAt_2_L {Γ : pp_G} {σ' : pp_M} (hF : pp_Fx Γ dsK cX0_callAt 6 RX0 4 96) (hR : pp_Rt Γ dsK none none σ') : ∀ {n : Nat} {σ : pp_M} {a1 : Int32} {a2 : Int32} {a3 : Int32}, f_X0_callAt_2 n σ a1 a2 a3 = some σ' → pp_E Γ dsK cX0_callAt 6 2 [(0, ppR 21 0 0), (1, ppI a1), (2, ppI a2), (3, ppI a3)] [] σ
  | 0, _, _, _, _ => fun h => by cases h
  | n + 1, _, _, _, _ => fun h => e_X0_callAt_2 hF hR (fun h => e_X0_callAt_2_L hF hR (n := n) h) h
set_option maxRecDepth 20000 in
theorem e_X0_callAt_0 {Γ : pp_G} {σ' : pp_M} (hF : pp_Fx Γ dsK cX0_callAt 6 RX0 4 96) (hR : pp_Rt Γ dsK none none σ') {σ : pp_M} {a1 : Int32} {a2 : Int32} (h : f_X0_callAt σ a1 a2 = some σ') : pp_E Γ dsK cX0_callAt 6 0 [(0, ppR 21 0 0), (1, ppI a1), (2, ppI a2)] [] σ := by
  unfold f_X0_callAt at h
  refine pp_iconst hF dX0_callAt_0 ic_0 ?_
  refine pp_istore_n hF dX0_callAt_1 rfl (by decide) (lv' := [(0, ppR 21 0 0), (1, ppI a1), (2, ppI a2), (3, ppI (0 : Int32))]) rfl ?_
  exact e_X0_callAt_2_L hF hR h
set_option maxRecDepth 20000 in
theorem c_X0_callAt {σ' : pp_M} {σ : pp_M} {a1 : Int32} {a2 : Int32} (h : f_X0_callAt σ a1 a2 = some σ') : pp_Ct yX0_callAt cX0_callAt 6 none 4 96 dsK [ppR 21 0 0, ppI a1, ppI a2] σ none σ' := pp_met pl_X0 rfl okK (Nat.le_of_ble_eq_true rfl) rfl (fun Γ hF hR => (e_X0_callAt_0 hF hR h))
set_option maxRecDepth 20000 in
theorem e_X0_comeHome_40 {Γ : pp_G} {σ' : pp_M} (hF : pp_Fx Γ dsK cX0_comeHome 5 RX0 1 12) (hR : pp_Rt Γ dsK none none σ') {σ : pp_M} {a1 : Int32} {a2 : Int64} {a4 : Int32} {k2 : pp_M → Int32 → Option (pp_M)} (hk2 : ∀ {σ : pp_M} {a1 : Int32}, k2 σ a1 = some σ' → pp_E Γ dsK cX0_comeHome 5 2 [(0, ppR 21 0 0), (1, ppI a1)] [] σ) {k40 : pp_M → Int32 → Int64 → Int32 → Option (pp_M)} (hk40 : ∀ {σ : pp_M} {a1 : Int32} {a2 : Int64} {a4 : Int32}, k40 σ a1 a2 a4 = some σ' → pp_E Γ dsK cX0_comeHome 5 40 [(0, ppR 21 0 0), (1, ppI a1), (2, ppL a2), (4, ppI a4)] [] σ) (h : f_X0_comeHome_40_B k2 k40 σ a1 a2 a4 = some σ') : pp_E Γ dsK cX0_comeHome 5 40 [(0, ppR 21 0 0), (1, ppI a1), (2, ppL a2), (4, ppI a4)] [] σ := by
  unfold f_X0_comeHome_40_B at h
  refine pp_iload hF dX0_comeHome_40 rfl ?_
  refine pp_iconst hF dX0_comeHome_42 ic_5 ?_
  refine pp_icmp_ge (tgt := 70) hF dX0_comeHome_43 rfl (fun c1 => ?_) (fun c1 => ?_)
  · replace h := (if_pos c1).symm.trans h
    refine pp_aload_n hF dX0_comeHome_46 rfl rfl ?_
    refine pp_getR hF fdK_X0_11 dX0_comeHome_47 ?_
    refine pp_iconst hF dX0_comeHome_50 ic_0 ?_
    refine pp_aaloadLJ hF vK_22 vl_0_8 rfl dX0_comeHome_51 ?_
    refine pp_iload_n hF dX0_comeHome_52 rfl rfl ?_
    refine pp_iconst hF dX0_comeHome_53 ic_5 ?_
    refine pp_imul hF dX0_comeHome_54 ?_
    refine pp_iload hF dX0_comeHome_55 rfl ?_
    refine pp_iadd hF dX0_comeHome_57 ?_
    refine pp_iload hF dX0_comeHome_58 rfl ?_
    refine pp_i2l hF dX0_comeHome_60 ?_
    refine pp_lload_n hF dX0_comeHome_61 rfl rfl ?_
    refine pp_lmul hF dX0_comeHome_62 ?_
    obtain ⟨hi2, h⟩ := pp_ck h
    refine pp_lastoreJ hF (vK_23 _ (vp_lt vl_0_8)) hi2 (Nat.zero_add _) dX0_comeHome_63 ?_
    refine pp_iinc hF dX0_comeHome_64 rfl (congrArg (HAdd.hAdd _) ic_1) (by decide) (lv' := [(0, ppR 21 0 0), (1, ppI a1), (2, ppL a2), (4, ppI (a4 + (1 : Int32)))]) rfl ?_
    refine pp_goto (tgt := 40) hF dX0_comeHome_67 rfl ?_
    exact hk40 h
  · replace h := (if_neg c1).symm.trans h
    refine pp_iinc hF dX0_comeHome_70 rfl (congrArg (HAdd.hAdd _) ic_1) (by decide) (lv' := [(0, ppR 21 0 0), (1, ppI (a1 + (1 : Int32))), (2, ppL a2), (4, ppI a4)]) rfl ?_
    refine pp_goto (tgt := 2) hF dX0_comeHome_73 rfl ?_
    refine pp_few [0, 1] (lv' := [(0, ppR 21 0 0), (1, ppI (a1 + (1 : Int32)))]) rfl ?_
    exact hk2 h
set_option maxRecDepth 20000 in
theorem e_X0_comeHome_40_L {Γ : pp_G} {σ' : pp_M} (hF : pp_Fx Γ dsK cX0_comeHome 5 RX0 1 12) (hR : pp_Rt Γ dsK none none σ') {k2 : pp_M → Int32 → Option (pp_M)} (hk2 : ∀ {σ : pp_M} {a1 : Int32}, k2 σ a1 = some σ' → pp_E Γ dsK cX0_comeHome 5 2 [(0, ppR 21 0 0), (1, ppI a1)] [] σ) : ∀ {n : Nat} {σ : pp_M} {a1 : Int32} {a2 : Int64} {a4 : Int32}, f_X0_comeHome_40 k2 n σ a1 a2 a4 = some σ' → pp_E Γ dsK cX0_comeHome 5 40 [(0, ppR 21 0 0), (1, ppI a1), (2, ppL a2), (4, ppI a4)] [] σ
  | 0, _, _, _, _ => fun h => by cases h
  | n + 1, _, _, _, _ => fun h => e_X0_comeHome_40 hF hR hk2 (fun h => e_X0_comeHome_40_L hF hR hk2 (n := n) h) h
set_option maxRecDepth 20000 in
theorem e_X0_comeHome_2 {Γ : pp_G} {σ' : pp_M} (hF : pp_Fx Γ dsK cX0_comeHome 5 RX0 1 12) (hR : pp_Rt Γ dsK none none σ') {σ : pp_M} {a1 : Int32} {k2 : pp_M → Int32 → Option (pp_M)} (hk2 : ∀ {σ : pp_M} {a1 : Int32}, k2 σ a1 = some σ' → pp_E Γ dsK cX0_comeHome 5 2 [(0, ppR 21 0 0), (1, ppI a1)] [] σ) (h : f_X0_comeHome_2_B k2 σ a1 = some σ') : pp_E Γ dsK cX0_comeHome 5 2 [(0, ppR 21 0 0), (1, ppI a1)] [] σ := by
  unfold f_X0_comeHome_2_B at h
  refine pp_iload_n hF dX0_comeHome_2 rfl rfl ?_
  refine pp_bipush hF dX0_comeHome_3 bc_6 ?_
  refine pp_icmp_ge (tgt := 76) hF dX0_comeHome_5 rfl (fun c1 => ?_) (fun c1 => ?_)
  · replace h := (if_pos c1).symm.trans h
    refine pp_aload_n hF dX0_comeHome_8 rfl rfl ?_
    refine pp_getR hF fdK_X0_20 dX0_comeHome_9 ?_
    refine pp_getR hF fdK_X0_35 dX0_comeHome_12 ?_
    refine pp_iload_n hF dX0_comeHome_15 rfl rfl ?_
    obtain ⟨hi2, h⟩ := pp_ck h
    refine pp_aaloadI hF vK_2 hi2 dX0_comeHome_16 ?_
    refine pp_iconst hF dX0_comeHome_17 ic_0 ?_
    refine pp_ialoadJ hF (vK_3 _ (vp_lt hi2)) vl_0_6 (congrArg (HAdd.hAdd _) cl_0) dX0_comeHome_18 ?_
    refine pp_aload_n hF dX0_comeHome_19 rfl rfl ?_
    refine pp_getR hF fdK_X0_20 dX0_comeHome_20 ?_
    refine pp_getR hF fdK_X0_35 dX0_comeHome_23 ?_
    refine pp_iload_n hF dX0_comeHome_26 rfl rfl ?_
    refine pp_aaloadI hF vK_2 hi2 dX0_comeHome_27 ?_
    refine pp_iconst hF dX0_comeHome_28 ic_2 ?_
    refine pp_ialoadJ hF (vK_3 _ (vp_lt hi2)) vl_2_6 (congrArg (HAdd.hAdd _) cl_2) dX0_comeHome_29 ?_
    refine pp_isub hF dX0_comeHome_30 ?_
    refine pp_i2l hF dX0_comeHome_31 ?_
    refine pp_ldc2 hF wm_519 dX0_comeHome_32 ?_
    refine pp_lmul hF dX0_comeHome_35 ?_
    refine pp_lstore_n hF dX0_comeHome_36 rfl (by decide) (lv' := [(0, ppR 21 0 0), (1, ppI a1), (2, ppL (((((σ.1 3 ((a1.toNatClampNeg * 6) + 0)) - (σ.1 3 ((a1.toNatClampNeg * 6) + 2)))).toInt64) * (268435456 : Int64)))]) rfl ?_
    refine pp_iconst hF dX0_comeHome_37 ic_0 ?_
    refine pp_istore hF dX0_comeHome_38 (by decide) (lv' := [(0, ppR 21 0 0), (1, ppI a1), (2, ppL (((((σ.1 3 ((a1.toNatClampNeg * 6) + 0)) - (σ.1 3 ((a1.toNatClampNeg * 6) + 2)))).toInt64) * (268435456 : Int64))), (4, ppI (0 : Int32))]) rfl ?_
    exact e_X0_comeHome_40_L hF hR hk2 h
  · replace h := (if_neg c1).symm.trans h
    obtain rfl := (Option.some.inj h).symm
    exact pp_return hF hR dX0_comeHome_76
set_option maxRecDepth 20000 in
theorem e_X0_comeHome_2_L {Γ : pp_G} {σ' : pp_M} (hF : pp_Fx Γ dsK cX0_comeHome 5 RX0 1 12) (hR : pp_Rt Γ dsK none none σ') : ∀ {n : Nat} {σ : pp_M} {a1 : Int32}, f_X0_comeHome_2 n σ a1 = some σ' → pp_E Γ dsK cX0_comeHome 5 2 [(0, ppR 21 0 0), (1, ppI a1)] [] σ
  | 0, _, _ => fun h => by cases h
  | n + 1, _, _ => fun h => e_X0_comeHome_2 hF hR (fun h => e_X0_comeHome_2_L hF hR (n := n) h) h
set_option maxRecDepth 20000 in
theorem e_X0_comeHome_0 {Γ : pp_G} {σ' : pp_M} (hF : pp_Fx Γ dsK cX0_comeHome 5 RX0 1 12) (hR : pp_Rt Γ dsK none none σ') {σ : pp_M}  (h : f_X0_comeHome σ  = some σ') : pp_E Γ dsK cX0_comeHome 5 0 [(0, ppR 21 0 0)] [] σ := by
  unfold f_X0_comeHome at h
  refine pp_iconst hF dX0_comeHome_0 ic_0 ?_
  refine pp_istore_n hF dX0_comeHome_1 rfl (by decide) (lv' := [(0, ppR 21 0 0), (1, ppI (0 : Int32))]) rfl ?_
  exact e_X0_comeHome_2_L hF hR h
set_option maxRecDepth 20000 in
theorem c_X0_comeHome {σ' : pp_M} {σ : pp_M}  (h : f_X0_comeHome σ  = some σ') : pp_Ct yX0_comeHome cX0_comeHome 5 none 1 12 dsK [ppR 21 0 0] σ none σ' := pp_met pl_X0 rfl okK (Nat.le_of_ble_eq_true rfl) rfl (fun Γ hF hR => (e_X0_comeHome_0 hF hR h))
set_option maxRecDepth 20000 in
theorem e_X0_goAlong_6 {Γ : pp_G} {σ' : pp_M} (hF : pp_Fx Γ dsK cX0_goAlong 4 RX0 5 121) (hR : pp_Rt Γ dsK none none σ') {σ : pp_M} {a1t : Nat} {a1o : Nat} {a1n : Nat} {a2 : Int32} {a3 : Int32} {k6 : pp_M → Nat → Nat → Nat → Int32 → Int32 → Option (pp_M)} (hk6 : ∀ {σ : pp_M} {a1t : Nat} {a1o : Nat} {a1n : Nat} {a2 : Int32} {a3 : Int32}, pp_ai dsK a1t a1o a1n → k6 σ a1t a1o a1n a2 a3 = some σ' → pp_E Γ dsK cX0_goAlong 4 6 [(0, ppR 21 0 0), (1, ppR a1t a1o a1n), (2, ppI a2), (3, ppI a3)] [] σ) (hv1 : pp_ai dsK a1t a1o a1n) (h : f_X0_goAlong_6_B k6 σ a1t a1o a1n a2 a3 = some σ') : pp_E Γ dsK cX0_goAlong 4 6 [(0, ppR 21 0 0), (1, ppR a1t a1o a1n), (2, ppI a2), (3, ppI a3)] [] σ := by
  unfold f_X0_goAlong_6_B at h
  refine pp_iload_n hF dX0_goAlong_6 rfl rfl ?_
  refine pp_iload_n hF dX0_goAlong_7 rfl rfl ?_
  refine pp_icmp_gt (tgt := 27) hF dX0_goAlong_8 rfl (fun c1 => ?_) (fun c1 => ?_)
  · replace h := (if_pos c1).symm.trans h
    obtain rfl := (Option.some.inj h).symm
    exact pp_return hF hR dX0_goAlong_27
  · replace h := (if_neg c1).symm.trans h
    refine pp_aload_n hF dX0_goAlong_11 rfl rfl ?_
    refine pp_iload_n hF dX0_goAlong_12 rfl rfl ?_
    refine pp_aload_n hF dX0_goAlong_13 rfl rfl ?_
    refine pp_iload_n hF dX0_goAlong_14 rfl rfl ?_
    refine pp_iload_n hF dX0_goAlong_15 rfl rfl ?_
    refine pp_isub hF dX0_goAlong_16 ?_
    obtain ⟨hi2, h⟩ := pp_ck h
    refine pp_ialoadJ hF hv1 hi2 rfl dX0_goAlong_17 ?_
    obtain ⟨x18, hx18, h⟩ := pp_bd h
    refine pp_callVv hF (c_X0_callAt hx18) mV_X0_callAt lk_X0_31 obK_21 rfl rfl ⟨by decide, by decide⟩ (Nat.le_of_ble_eq_true rfl) dX0_goAlong_18 ?_
    refine pp_iinc hF dX0_goAlong_21 rfl (congrArg (HAdd.hAdd _) ic_1) (by decide) (lv' := [(0, ppR 21 0 0), (1, ppR a1t a1o a1n), (2, ppI a2), (3, ppI (a3 + (1 : Int32)))]) rfl ?_
    refine pp_goto (tgt := 6) hF dX0_goAlong_24 rfl ?_
    exact hk6 hv1 h
set_option maxRecDepth 20000 in
theorem e_X0_goAlong_6_L {Γ : pp_G} {σ' : pp_M} (hF : pp_Fx Γ dsK cX0_goAlong 4 RX0 5 121) (hR : pp_Rt Γ dsK none none σ') : ∀ {n : Nat} {σ : pp_M} {a1t : Nat} {a1o : Nat} {a1n : Nat} {a2 : Int32} {a3 : Int32}, pp_ai dsK a1t a1o a1n → f_X0_goAlong_6 n σ a1t a1o a1n a2 a3 = some σ' → pp_E Γ dsK cX0_goAlong 4 6 [(0, ppR 21 0 0), (1, ppR a1t a1o a1n), (2, ppI a2), (3, ppI a3)] [] σ
  | 0, _, _, _, _, _, _ => fun hv1 h => by cases h
  | n + 1, _, _, _, _, _, _ => fun hv1 h => e_X0_goAlong_6 hF hR (fun hv1 h => e_X0_goAlong_6_L hF hR (n := n) hv1 h) hv1 h
set_option maxRecDepth 20000 in
theorem e_X0_goAlong_0 {Γ : pp_G} {σ' : pp_M} (hF : pp_Fx Γ dsK cX0_goAlong 4 RX0 5 121) (hR : pp_Rt Γ dsK none none σ') {σ : pp_M} {a1t : Nat} {a1o : Nat} {a1n : Nat} {a2 : Int32} (hv1 : pp_ai dsK a1t a1o a1n) (h : f_X0_goAlong σ a1t a1o a1n a2 = some σ') : pp_E Γ dsK cX0_goAlong 4 0 [(0, ppR 21 0 0), (1, ppR a1t a1o a1n), (2, ppI a2)] [] σ := by
  unfold f_X0_goAlong at h
  refine pp_aload_n hF dX0_goAlong_0 rfl rfl ?_
  obtain ⟨x1, hx1, h⟩ := pp_bd h
  refine pp_callVv hF (c_X0_comeHome hx1) mV_X0_comeHome lk_X0_28 obK_21 rfl rfl ⟨by decide, by decide⟩ (Nat.le_of_ble_eq_true rfl) dX0_goAlong_1 ?_
  refine pp_iconst hF dX0_goAlong_4 ic_1 ?_
  refine pp_istore_n hF dX0_goAlong_5 rfl (by decide) (lv' := [(0, ppR 21 0 0), (1, ppR a1t a1o a1n), (2, ppI a2), (3, ppI (1 : Int32))]) rfl ?_
  exact e_X0_goAlong_6_L hF hR hv1 h
set_option maxRecDepth 20000 in
theorem c_X0_goAlong {σ' : pp_M} {σ : pp_M} {a1t a1o a1n : Nat} {a2 : Int32} (hv1 : pp_ai dsK a1t a1o a1n) (h : f_X0_goAlong σ a1t a1o a1n a2 = some σ') : pp_Ct yX0_goAlong cX0_goAlong 4 none 5 121 dsK [ppR 21 0 0, ppR a1t a1o a1n, ppI a2] σ none σ' := pp_met pl_X0 rfl okK (Nat.le_of_ble_eq_true rfl) rfl (fun Γ hF hR => (e_X0_goAlong_0 hF hR hv1 h))
set_option maxRecDepth 20000 in
theorem e_X0_meanSold_4 {Γ : pp_G} {r' : Int64} {σ' : pp_M} (hF : pp_Fx Γ dsK cX0_meanSold 4 RX0 1 12) (hR : pp_Rt Γ dsK (some .long) (some (ppL r')) σ') {σ : pp_M} {a1 : Int64} {a3 : Int32} {k4 : pp_M → Int64 → Int32 → Option (Int64 × pp_M)} (hk4 : ∀ {σ : pp_M} {a1 : Int64} {a3 : Int32}, k4 σ a1 a3 = some (r', σ') → pp_E Γ dsK cX0_meanSold 4 4 [(0, ppR 21 0 0), (1, ppL a1), (3, ppI a3)] [] σ) (h : f_X0_meanSold_4_B k4 σ a1 a3 = some (r', σ')) : pp_E Γ dsK cX0_meanSold 4 4 [(0, ppR 21 0 0), (1, ppL a1), (3, ppI a3)] [] σ := by
  unfold f_X0_meanSold_4_B at h
  refine pp_iload_n hF dX0_meanSold_4 rfl rfl ?_
  refine pp_iconst hF dX0_meanSold_5 ic_5 ?_
  refine pp_icmp_ge (tgt := 27) hF dX0_meanSold_6 rfl (fun c1 => ?_) (fun c1 => ?_)
  · replace h := (if_pos c1).symm.trans h
    refine pp_lload_n hF dX0_meanSold_9 rfl rfl ?_
    refine pp_iload_n hF dX0_meanSold_10 rfl rfl ?_
    refine pp_i2l hF dX0_meanSold_11 ?_
    refine pp_aload_n hF dX0_meanSold_12 rfl rfl ?_
    refine pp_getR hF fdK_X0_16 dX0_meanSold_13 ?_
    refine pp_iload_n hF dX0_meanSold_16 rfl rfl ?_
    obtain ⟨hi2, h⟩ := pp_ck h
    refine pp_laloadJ hF vK_24 hi2 (Nat.zero_add _) dX0_meanSold_17 ?_
    refine pp_lmul hF dX0_meanSold_18 ?_
    refine pp_ladd hF dX0_meanSold_19 ?_
    refine pp_lstore_n hF dX0_meanSold_20 rfl (by decide) (lv' := [(0, ppR 21 0 0), (1, ppL (a1 + ((a3.toInt64) * (σ.2 24 a3.toNatClampNeg)))), (3, ppI a3)]) rfl ?_
    refine pp_iinc hF dX0_meanSold_21 rfl (congrArg (HAdd.hAdd _) ic_1) (by decide) (lv' := [(0, ppR 21 0 0), (1, ppL (a1 + ((a3.toInt64) * (σ.2 24 a3.toNatClampNeg)))), (3, ppI (a3 + (1 : Int32)))]) rfl ?_
    refine pp_goto (tgt := 4) hF dX0_meanSold_24 rfl ?_
    exact hk4 h
  · replace h := (if_neg c1).symm.trans h
    refine pp_lload_n hF dX0_meanSold_27 rfl rfl ?_
    obtain ⟨rfl, rfl⟩ := pp_i2 h
    exact pp_lreturn hF hR dX0_meanSold_28
set_option maxRecDepth 20000 in
theorem e_X0_meanSold_4_L {Γ : pp_G} {r' : Int64} {σ' : pp_M} (hF : pp_Fx Γ dsK cX0_meanSold 4 RX0 1 12) (hR : pp_Rt Γ dsK (some .long) (some (ppL r')) σ') : ∀ {n : Nat} {σ : pp_M} {a1 : Int64} {a3 : Int32}, f_X0_meanSold_4 n σ a1 a3 = some (r', σ') → pp_E Γ dsK cX0_meanSold 4 4 [(0, ppR 21 0 0), (1, ppL a1), (3, ppI a3)] [] σ
  | 0, _, _, _ => fun h => by cases h
  | n + 1, _, _, _ => fun h => e_X0_meanSold_4 hF hR (fun h => e_X0_meanSold_4_L hF hR (n := n) h) h
set_option maxRecDepth 20000 in
theorem e_X0_meanSold_0 {Γ : pp_G} {r' : Int64} {σ' : pp_M} (hF : pp_Fx Γ dsK cX0_meanSold 4 RX0 1 12) (hR : pp_Rt Γ dsK (some .long) (some (ppL r')) σ') {σ : pp_M}  (h : f_X0_meanSold σ  = some (r', σ')) : pp_E Γ dsK cX0_meanSold 4 0 [(0, ppR 21 0 0)] [] σ := by
  unfold f_X0_meanSold at h
  refine pp_lconst hF dX0_meanSold_0 lc_0 ?_
  refine pp_lstore_n hF dX0_meanSold_1 rfl (by decide) (lv' := [(0, ppR 21 0 0), (1, ppL (0 : Int64))]) rfl ?_
  refine pp_iconst hF dX0_meanSold_2 ic_1 ?_
  refine pp_istore_n hF dX0_meanSold_3 rfl (by decide) (lv' := [(0, ppR 21 0 0), (1, ppL (0 : Int64)), (3, ppI (1 : Int32))]) rfl ?_
  exact e_X0_meanSold_4_L hF hR h
set_option maxRecDepth 20000 in
theorem c_X0_meanSold {r' : Int64} {σ' : pp_M} {σ : pp_M}  (h : f_X0_meanSold σ  = some (r', σ')) : pp_Ct yX0_meanSold cX0_meanSold 4 (some .long) 1 12 dsK [ppR 21 0 0] σ (some (ppL r')) σ' := pp_met pl_X0 rfl okK (Nat.le_of_ble_eq_true rfl) rfl (fun Γ hF hR => (e_X0_meanSold_0 hF hR h))
set_option maxRecDepth 20000 in
theorem e_X0_sell_66 {Γ : pp_G} {σ' : pp_M} (hF : pp_Fx Γ dsK cX0_sell 12 RX0 2 36) (hR : pp_Rt Γ dsK none none σ') {σ : pp_M} {a1 : Int32} {a2 : Int32} {a3 : Int32} {a4t : Nat} {a4o : Nat} {a4n : Nat} {a5 : Int32} {a6 : Int32} {a7 : Int64} {a9 : Int32} {k37 : pp_M → Int32 → Int32 → Int32 → Nat → Nat → Nat → Int32 → Int32 → Option (pp_M)} (hk37 : ∀ {σ : pp_M} {a1 : Int32} {a2 : Int32} {a3 : Int32} {a4t : Nat} {a4o : Nat} {a4n : Nat} {a5 : Int32} {a6 : Int32}, pp_ai dsK a4t a4o a4n → k37 σ a1 a2 a3 a4t a4o a4n a5 a6 = some σ' → pp_E Γ dsK cX0_sell 12 37 [(0, ppR 21 0 0), (1, ppI a1), (2, ppI a2), (3, ppI a3), (4, ppR a4t a4o a4n), (5, ppI a5), (6, ppI a6)] [] σ) {k66 : pp_M → Int32 → Int32 → Int32 → Nat → Nat → Nat → Int32 → Int32 → Int64 → Int32 → Option (pp_M)} (hk66 : ∀ {σ : pp_M} {a1 : Int32} {a2 : Int32} {a3 : Int32} {a4t : Nat} {a4o : Nat} {a4n : Nat} {a5 : Int32} {a6 : Int32} {a7 : Int64} {a9 : Int32}, pp_ai dsK a4t a4o a4n → k66 σ a1 a2 a3 a4t a4o a4n a5 a6 a7 a9 = some σ' → pp_E Γ dsK cX0_sell 12 66 [(0, ppR 21 0 0), (1, ppI a1), (2, ppI a2), (3, ppI a3), (4, ppR a4t a4o a4n), (5, ppI a5), (6, ppI a6), (7, ppL a7), (9, ppI a9)] [] σ) (hv4 : pp_ai dsK a4t a4o a4n) (h : f_X0_sell_66_B k37 k66 σ a1 a2 a3 a4t a4o a4n a5 a6 a7 a9 = some σ') : pp_E Γ dsK cX0_sell 12 66 [(0, ppR 21 0 0), (1, ppI a1), (2, ppI a2), (3, ppI a3), (4, ppR a4t a4o a4n), (5, ppI a5), (6, ppI a6), (7, ppL a7), (9, ppI a9)] [] σ := by
  unfold f_X0_sell_66_B at h
  refine pp_iload hF dX0_sell_66 rfl ?_
  refine pp_if_lt (tgt := 119) hF dX0_sell_68 rfl (fun c1 => ?_) (fun c1 => ?_)
  · replace h := (if_pos c1).symm.trans h
    refine pp_iinc hF dX0_sell_119 rfl (congrArg (HAdd.hAdd _) ic_1) (by decide) (lv' := [(0, ppR 21 0 0), (1, ppI a1), (2, ppI a2), (3, ppI a3), (4, ppR a4t a4o a4n), (5, ppI a5), (6, ppI (a6 + (1 : Int32))), (7, ppL a7), (9, ppI a9)]) rfl ?_
    refine pp_goto (tgt := 37) hF dX0_sell_122 rfl ?_
    refine pp_few [0, 1, 2, 3, 4, 5, 6] (lv' := [(0, ppR 21 0 0), (1, ppI a1), (2, ppI a2), (3, ppI a3), (4, ppR a4t a4o a4n), (5, ppI a5), (6, ppI (a6 + (1 : Int32)))]) rfl ?_
    exact hk37 hv4 h
  · replace h := (if_neg c1).symm.trans h
    refine pp_aload_n hF dX0_sell_71 rfl rfl ?_
    refine pp_getR hF fdK_X0_16 dX0_sell_72 ?_
    refine pp_iload hF dX0_sell_75 rfl ?_
    obtain ⟨hi2, h⟩ := pp_ck h
    refine pp_laloadJ hF vK_24 hi2 (Nat.zero_add _) dX0_sell_77 ?_
    refine pp_lload hF dX0_sell_78 rfl ?_
    refine pp_lmul hF dX0_sell_80 ?_
    refine pp_ldc2 hF wm_521 dX0_sell_81 ?_
    refine pp_ldiv hF dX0_sell_84 (by decide) ?_
    refine pp_lstore hF dX0_sell_85 (by decide) (lv' := [(0, ppR 21 0 0), (1, ppI a1), (2, ppI a2), (3, ppI a3), (4, ppR a4t a4o a4n), (5, ppI a5), (6, ppI a6), (7, ppL a7), (9, ppI a9), (10, ppL (((σ.2 24 a9.toNatClampNeg) * a7) / (16 : Int64)))]) rfl ?_
    refine pp_aload_n hF dX0_sell_87 rfl rfl ?_
    refine pp_getR hF fdK_X0_16 dX0_sell_88 ?_
    refine pp_iload hF dX0_sell_91 rfl ?_
    refine pp_iconst hF dX0_sell_93 ic_1 ?_
    refine pp_iadd hF dX0_sell_94 ?_
    refine pp_dup2 hF dX0_sell_95 ?_
    obtain ⟨hi3, h⟩ := pp_ck h
    refine pp_laloadJ hF vK_24 hi3 (Nat.zero_add _) dX0_sell_96 ?_
    refine pp_lload hF dX0_sell_97 rfl ?_
    refine pp_ladd hF dX0_sell_99 ?_
    refine pp_lastoreJ hF vK_24 hi3 (Nat.zero_add _) dX0_sell_100 ?_
    refine pp_aload_n hF dX0_sell_101 rfl rfl ?_
    refine pp_getR hF fdK_X0_16 dX0_sell_102 ?_
    refine pp_iload hF dX0_sell_105 rfl ?_
    refine pp_dup2 hF dX0_sell_107 ?_
    refine pp_laloadJ hF vK_24 hi2 (Nat.zero_add _) dX0_sell_108 ?_
    refine pp_lload hF dX0_sell_109 rfl ?_
    refine pp_lsub hF dX0_sell_111 ?_
    refine pp_lastoreJ hF vK_24 hi2 (Nat.zero_add _) dX0_sell_112 ?_
    refine pp_iinc hF dX0_sell_113 rfl (congrArg (HAdd.hAdd _) ic_n1) (by decide) (lv' := [(0, ppR 21 0 0), (1, ppI a1), (2, ppI a2), (3, ppI a3), (4, ppR a4t a4o a4n), (5, ppI a5), (6, ppI a6), (7, ppL a7), (9, ppI (a9 + (-1 : Int32))), (10, ppL (((σ.2 24 a9.toNatClampNeg) * a7) / (16 : Int64)))]) rfl ?_
    refine pp_goto (tgt := 66) hF dX0_sell_116 rfl ?_
    refine pp_few [0, 1, 2, 3, 4, 5, 6, 7, 8] (lv' := [(0, ppR 21 0 0), (1, ppI a1), (2, ppI a2), (3, ppI a3), (4, ppR a4t a4o a4n), (5, ppI a5), (6, ppI a6), (7, ppL a7), (9, ppI (a9 + (-1 : Int32)))]) rfl ?_
    exact hk66 hv4 h
set_option maxRecDepth 20000 in
theorem e_X0_sell_66_L {Γ : pp_G} {σ' : pp_M} (hF : pp_Fx Γ dsK cX0_sell 12 RX0 2 36) (hR : pp_Rt Γ dsK none none σ') {k37 : pp_M → Int32 → Int32 → Int32 → Nat → Nat → Nat → Int32 → Int32 → Option (pp_M)} (hk37 : ∀ {σ : pp_M} {a1 : Int32} {a2 : Int32} {a3 : Int32} {a4t : Nat} {a4o : Nat} {a4n : Nat} {a5 : Int32} {a6 : Int32}, pp_ai dsK a4t a4o a4n → k37 σ a1 a2 a3 a4t a4o a4n a5 a6 = some σ' → pp_E Γ dsK cX0_sell 12 37 [(0, ppR 21 0 0), (1, ppI a1), (2, ppI a2), (3, ppI a3), (4, ppR a4t a4o a4n), (5, ppI a5), (6, ppI a6)] [] σ) : ∀ {n : Nat} {σ : pp_M} {a1 : Int32} {a2 : Int32} {a3 : Int32} {a4t : Nat} {a4o : Nat} {a4n : Nat} {a5 : Int32} {a6 : Int32} {a7 : Int64} {a9 : Int32}, pp_ai dsK a4t a4o a4n → f_X0_sell_66 k37 n σ a1 a2 a3 a4t a4o a4n a5 a6 a7 a9 = some σ' → pp_E Γ dsK cX0_sell 12 66 [(0, ppR 21 0 0), (1, ppI a1), (2, ppI a2), (3, ppI a3), (4, ppR a4t a4o a4n), (5, ppI a5), (6, ppI a6), (7, ppL a7), (9, ppI a9)] [] σ
  | 0, _, _, _, _, _, _, _, _, _, _, _ => fun hv4 h => by cases h
  | n + 1, _, _, _, _, _, _, _, _, _, _, _ => fun hv4 h => e_X0_sell_66 hF hR hk37 (fun hv4 h => e_X0_sell_66_L hF hR hk37 (n := n) hv4 h) hv4 h
set_option maxRecDepth 20000 in
theorem e_X0_sell_37 {Γ : pp_G} {σ' : pp_M} (hF : pp_Fx Γ dsK cX0_sell 12 RX0 2 36) (hR : pp_Rt Γ dsK none none σ') {σ : pp_M} {a1 : Int32} {a2 : Int32} {a3 : Int32} {a4t : Nat} {a4o : Nat} {a4n : Nat} {a5 : Int32} {a6 : Int32} {k37 : pp_M → Int32 → Int32 → Int32 → Nat → Nat → Nat → Int32 → Int32 → Option (pp_M)} (hk37 : ∀ {σ : pp_M} {a1 : Int32} {a2 : Int32} {a3 : Int32} {a4t : Nat} {a4o : Nat} {a4n : Nat} {a5 : Int32} {a6 : Int32}, pp_ai dsK a4t a4o a4n → k37 σ a1 a2 a3 a4t a4o a4n a5 a6 = some σ' → pp_E Γ dsK cX0_sell 12 37 [(0, ppR 21 0 0), (1, ppI a1), (2, ppI a2), (3, ppI a3), (4, ppR a4t a4o a4n), (5, ppI a5), (6, ppI a6)] [] σ) (hv4 : pp_ai dsK a4t a4o a4n) (h : f_X0_sell_37_B k37 σ a1 a2 a3 a4t a4o a4n a5 a6 = some σ') : pp_E Γ dsK cX0_sell 12 37 [(0, ppR 21 0 0), (1, ppI a1), (2, ppI a2), (3, ppI a3), (4, ppR a4t a4o a4n), (5, ppI a5), (6, ppI a6)] [] σ := by
  unfold f_X0_sell_37_B at h
  refine pp_iload hF dX0_sell_37 rfl ?_
  refine pp_iload hF dX0_sell_39 rfl ?_
  refine pp_icmp_ge (tgt := 125) hF dX0_sell_41 rfl (fun c1 => ?_) (fun c1 => ?_)
  · replace h := (if_pos c1).symm.trans h
    refine pp_aload_n hF dX0_sell_44 rfl rfl ?_
    refine pp_getR hF fdK_X0_24 dX0_sell_45 ?_
    refine pp_aload hF dX0_sell_48 rfl ?_
    refine pp_iload hF dX0_sell_50 rfl ?_
    obtain ⟨hi2, h⟩ := pp_ck h
    refine pp_ialoadJ hF hv4 hi2 rfl dX0_sell_52 ?_
    refine pp_iload_n hF dX0_sell_53 rfl rfl ?_
    refine pp_iload_n hF dX0_sell_54 rfl rfl ?_
    obtain ⟨x55, hx55, h⟩ := pp_bd h
    refine pp_callVi hF (c_X4_chanceOf hx55) mV_X4_chanceOf lk_X0_51 obK_9 rfl rfl ⟨by decide, by decide⟩ (Nat.le_of_ble_eq_true rfl) dX0_sell_55 ?_
    refine pp_i2l hF dX0_sell_58 ?_
    refine pp_lstore hF dX0_sell_59 (by decide) (lv' := [(0, ppR 21 0 0), (1, ppI a1), (2, ppI a2), (3, ppI a3), (4, ppR a4t a4o a4n), (5, ppI a5), (6, ppI a6), (7, ppL (x55.1.toInt64))]) rfl ?_
    refine pp_iload_n hF dX0_sell_61 rfl rfl ?_
    refine pp_iconst hF dX0_sell_62 ic_1 ?_
    refine pp_isub hF dX0_sell_63 ?_
    refine pp_istore hF dX0_sell_64 (by decide) (lv' := [(0, ppR 21 0 0), (1, ppI a1), (2, ppI a2), (3, ppI a3), (4, ppR a4t a4o a4n), (5, ppI a5), (6, ppI a6), (7, ppL (x55.1.toInt64)), (9, ppI (a2 - (1 : Int32)))]) rfl ?_
    exact e_X0_sell_66_L hF hR hk37 hv4 h
  · replace h := (if_neg c1).symm.trans h
    obtain rfl := (Option.some.inj h).symm
    exact pp_return hF hR dX0_sell_125
set_option maxRecDepth 20000 in
theorem e_X0_sell_37_L {Γ : pp_G} {σ' : pp_M} (hF : pp_Fx Γ dsK cX0_sell 12 RX0 2 36) (hR : pp_Rt Γ dsK none none σ') : ∀ {n : Nat} {σ : pp_M} {a1 : Int32} {a2 : Int32} {a3 : Int32} {a4t : Nat} {a4o : Nat} {a4n : Nat} {a5 : Int32} {a6 : Int32}, pp_ai dsK a4t a4o a4n → f_X0_sell_37 n σ a1 a2 a3 a4t a4o a4n a5 a6 = some σ' → pp_E Γ dsK cX0_sell 12 37 [(0, ppR 21 0 0), (1, ppI a1), (2, ppI a2), (3, ppI a3), (4, ppR a4t a4o a4n), (5, ppI a5), (6, ppI a6)] [] σ
  | 0, _, _, _, _, _, _, _, _, _ => fun hv4 h => by cases h
  | n + 1, _, _, _, _, _, _, _, _, _ => fun hv4 h => e_X0_sell_37 hF hR (fun hv4 h => e_X0_sell_37_L hF hR (n := n) hv4 h) hv4 h
set_option maxRecDepth 20000 in
theorem e_X0_sell_27 {Γ : pp_G} {σ' : pp_M} (hF : pp_Fx Γ dsK cX0_sell 12 RX0 2 36) (hR : pp_Rt Γ dsK none none σ') {σ : pp_M} {a1 : Int32} {a2 : Int32} {a3 : Int32} {a4t : Nat} {a4o : Nat} {a4n : Nat} {a5 : Int32} {a6 : Int32} {b1 : Int32} {b2 : Int64} {k3 : pp_M → Int32 → Int32 → Int32 → Nat → Nat → Nat → Int32 → Int32 → Option (pp_M)} (hk3 : ∀ {σ : pp_M} {a1 : Int32} {a2 : Int32} {a3 : Int32} {a4t : Nat} {a4o : Nat} {a4n : Nat} {a5 : Int32} {a6 : Int32}, pp_ai dsK a4t a4o a4n → k3 σ a1 a2 a3 a4t a4o a4n a5 a6 = some σ' → pp_E Γ dsK cX0_sell 12 3 [(0, ppR 21 0 0), (1, ppI a1), (2, ppI a2), (3, ppI a3), (4, ppR a4t a4o a4n), (5, ppI a5), (6, ppI a6)] [] σ) (hv4 : pp_ai dsK a4t a4o a4n) (h : f_X0_sell_27 k3 σ a1 a2 a3 a4t a4o a4n a5 a6 b1 b2 = some σ') : pp_E Γ dsK cX0_sell 12 27 [(0, ppR 21 0 0), (1, ppI a1), (2, ppI a2), (3, ppI a3), (4, ppR a4t a4o a4n), (5, ppI a5), (6, ppI a6)] [ppL b2, ppI b1, ppR 24 0 5] σ := by
  unfold f_X0_sell_27 at h
  obtain ⟨hi1, h⟩ := pp_ck h
  refine pp_lastoreJ hF vK_24 hi1 (Nat.zero_add _) dX0_sell_27 ?_
  refine pp_iinc hF dX0_sell_28 rfl (congrArg (HAdd.hAdd _) ic_1) (by decide) (lv' := [(0, ppR 21 0 0), (1, ppI a1), (2, ppI a2), (3, ppI a3), (4, ppR a4t a4o a4n), (5, ppI a5), (6, ppI (a6 + (1 : Int32)))]) rfl ?_
  refine pp_goto (tgt := 3) hF dX0_sell_31 rfl ?_
  exact hk3 hv4 h
set_option maxRecDepth 20000 in
theorem e_X0_sell_3 {Γ : pp_G} {σ' : pp_M} (hF : pp_Fx Γ dsK cX0_sell 12 RX0 2 36) (hR : pp_Rt Γ dsK none none σ') {σ : pp_M} {a1 : Int32} {a2 : Int32} {a3 : Int32} {a4t : Nat} {a4o : Nat} {a4n : Nat} {a5 : Int32} {a6 : Int32} {k3 : pp_M → Int32 → Int32 → Int32 → Nat → Nat → Nat → Int32 → Int32 → Option (pp_M)} (hk3 : ∀ {σ : pp_M} {a1 : Int32} {a2 : Int32} {a3 : Int32} {a4t : Nat} {a4o : Nat} {a4n : Nat} {a5 : Int32} {a6 : Int32}, pp_ai dsK a4t a4o a4n → k3 σ a1 a2 a3 a4t a4o a4n a5 a6 = some σ' → pp_E Γ dsK cX0_sell 12 3 [(0, ppR 21 0 0), (1, ppI a1), (2, ppI a2), (3, ppI a3), (4, ppR a4t a4o a4n), (5, ppI a5), (6, ppI a6)] [] σ) (hv4 : pp_ai dsK a4t a4o a4n) (h : f_X0_sell_3_B k3 σ a1 a2 a3 a4t a4o a4n a5 a6 = some σ') : pp_E Γ dsK cX0_sell 12 3 [(0, ppR 21 0 0), (1, ppI a1), (2, ppI a2), (3, ppI a3), (4, ppR a4t a4o a4n), (5, ppI a5), (6, ppI a6)] [] σ := by
  unfold f_X0_sell_3_B at h
  refine pp_iload hF dX0_sell_3 rfl ?_
  refine pp_iconst hF dX0_sell_5 ic_5 ?_
  refine pp_icmp_ge (tgt := 34) hF dX0_sell_6 rfl (fun c1 => ?_) (fun c1 => ?_)
  · replace h := (if_pos c1).symm.trans h
    refine pp_aload_n hF dX0_sell_9 rfl rfl ?_
    refine pp_getR hF fdK_X0_16 dX0_sell_10 ?_
    refine pp_iload hF dX0_sell_13 rfl ?_
    refine pp_iload hF dX0_sell_15 rfl ?_
    refine pp_if_ne (tgt := 26) hF dX0_sell_17 rfl (fun c2 => ?_) (fun c2 => ?_)
    · replace h := (if_pos c2).symm.trans h
      refine pp_ldc2 hF wm_519 dX0_sell_20 ?_
      refine pp_goto (tgt := 27) hF dX0_sell_23 rfl ?_
      exact e_X0_sell_27 hF hR hk3 hv4 h
    · replace h := (if_neg c2).symm.trans h
      refine pp_lconst hF dX0_sell_26 lc_0 ?_
      exact e_X0_sell_27 hF hR hk3 hv4 h
  · replace h := (if_neg c1).symm.trans h
    refine pp_iconst hF dX0_sell_34 ic_0 ?_
    refine pp_istore hF dX0_sell_35 (by decide) (lv' := [(0, ppR 21 0 0), (1, ppI a1), (2, ppI a2), (3, ppI a3), (4, ppR a4t a4o a4n), (5, ppI a5), (6, ppI (0 : Int32))]) rfl ?_
    exact e_X0_sell_37_L hF hR hv4 h
set_option maxRecDepth 20000 in
theorem e_X0_sell_3_L {Γ : pp_G} {σ' : pp_M} (hF : pp_Fx Γ dsK cX0_sell 12 RX0 2 36) (hR : pp_Rt Γ dsK none none σ') : ∀ {n : Nat} {σ : pp_M} {a1 : Int32} {a2 : Int32} {a3 : Int32} {a4t : Nat} {a4o : Nat} {a4n : Nat} {a5 : Int32} {a6 : Int32}, pp_ai dsK a4t a4o a4n → f_X0_sell_3 n σ a1 a2 a3 a4t a4o a4n a5 a6 = some σ' → pp_E Γ dsK cX0_sell 12 3 [(0, ppR 21 0 0), (1, ppI a1), (2, ppI a2), (3, ppI a3), (4, ppR a4t a4o a4n), (5, ppI a5), (6, ppI a6)] [] σ
  | 0, _, _, _, _, _, _, _, _, _ => fun hv4 h => by cases h
  | n + 1, _, _, _, _, _, _, _, _, _ => fun hv4 h => e_X0_sell_3 hF hR (fun hv4 h => e_X0_sell_3_L hF hR (n := n) hv4 h) hv4 h
set_option maxRecDepth 20000 in
theorem e_X0_sell_0 {Γ : pp_G} {σ' : pp_M} (hF : pp_Fx Γ dsK cX0_sell 12 RX0 2 36) (hR : pp_Rt Γ dsK none none σ') {σ : pp_M} {a1 : Int32} {a2 : Int32} {a3 : Int32} {a4t : Nat} {a4o : Nat} {a4n : Nat} {a5 : Int32} (hv4 : pp_ai dsK a4t a4o a4n) (h : f_X0_sell σ a1 a2 a3 a4t a4o a4n a5 = some σ') : pp_E Γ dsK cX0_sell 12 0 [(0, ppR 21 0 0), (1, ppI a1), (2, ppI a2), (3, ppI a3), (4, ppR a4t a4o a4n), (5, ppI a5)] [] σ := by
  unfold f_X0_sell at h
  refine pp_iconst hF dX0_sell_0 ic_0 ?_
  refine pp_istore hF dX0_sell_1 (by decide) (lv' := [(0, ppR 21 0 0), (1, ppI a1), (2, ppI a2), (3, ppI a3), (4, ppR a4t a4o a4n), (5, ppI a5), (6, ppI (0 : Int32))]) rfl ?_
  exact e_X0_sell_3_L hF hR hv4 h
set_option maxRecDepth 20000 in
theorem c_X0_sell {σ' : pp_M} {σ : pp_M} {a1 : Int32} {a2 : Int32} {a3 : Int32} {a4t a4o a4n : Nat} {a5 : Int32} (hv4 : pp_ai dsK a4t a4o a4n) (h : f_X0_sell σ a1 a2 a3 a4t a4o a4n a5 = some σ') : pp_Ct yX0_sell cX0_sell 12 none 2 36 dsK [ppR 21 0 0, ppI a1, ppI a2, ppI a3, ppR a4t a4o a4n, ppI a5] σ none σ' := pp_met pl_X0 rfl okK (Nat.le_of_ble_eq_true rfl) rfl (fun Γ hF hR => (e_X0_sell_0 hF hR hv4 h))
set_option maxRecDepth 20000 in
theorem e_X8_within_0 {Γ : pp_G} {r' : Int32} {σ' : pp_M} (hF : pp_Fx Γ dsK cX8_within 3 RX8 1 12) (hR : pp_Rt Γ dsK (some .boolean) (some (ppI r')) σ') {σ : pp_M} {a0 : Int32} {a1 : Int32} {a2 : Int32} (h : f_X8_within σ a0 a1 a2 = some (r', σ')) : pp_E Γ dsK cX8_within 3 0 [(0, ppI a0), (1, ppI a1), (2, ppI a2)] [] σ := by
  unfold f_X8_within at h
  refine pp_iload_n hF dX8_within_0 rfl rfl ?_
  refine pp_iload_n hF dX8_within_1 rfl rfl ?_
  refine pp_icmp_lt (tgt := 14) hF dX8_within_2 rfl (fun c1 => ?_) (fun c1 => ?_)
  · replace h := (if_pos c1).symm.trans h
    refine pp_iconst hF dX8_within_14 ic_0 ?_
    obtain ⟨rfl, rfl⟩ := pp_i2 h
    exact pp_zreturn hF hR rfl dX8_within_15
  · replace h := (if_neg c1).symm.trans h
    refine pp_iload_n hF dX8_within_5 rfl rfl ?_
    refine pp_iload_n hF dX8_within_6 rfl rfl ?_
    refine pp_icmp_gt (tgt := 14) hF dX8_within_7 rfl (fun c2 => ?_) (fun c2 => ?_)
    · replace h := (if_pos c2).symm.trans h
      refine pp_iconst hF dX8_within_14 ic_0 ?_
      obtain ⟨rfl, rfl⟩ := pp_i2 h
      exact pp_zreturn hF hR rfl dX8_within_15
    · replace h := (if_neg c2).symm.trans h
      refine pp_iconst hF dX8_within_10 ic_1 ?_
      refine pp_goto (tgt := 15) hF dX8_within_11 rfl ?_
      obtain ⟨rfl, rfl⟩ := pp_i2 h
      exact pp_zreturn hF hR rfl dX8_within_15
set_option maxRecDepth 20000 in
theorem c_X8_within {r' : Int32} {σ' : pp_M} {σ : pp_M} {a0 : Int32} {a1 : Int32} {a2 : Int32} (h : f_X8_within σ a0 a1 a2 = some (r', σ')) : pp_Ct yX8_within cX8_within 3 (some .boolean) 1 12 dsK [ppI a0, ppI a1, ppI a2] σ (some (ppI r')) σ' := pp_met pl_X8 rfl okK (Nat.le_of_ble_eq_true rfl) rfl (fun Γ hF hR => (e_X8_within_0 hF hR h))
set_option maxRecDepth 20000 in
theorem e_X1_mayBe_59 {Γ : pp_G} {r' : Int32} {σ' : pp_M} (hF : pp_Fx Γ dsK cX1_mayBe 6 RX1 2 34) (hR : pp_Rt Γ dsK (some .boolean) (some (ppI r')) σ') {σ : pp_M} {a3 : Int32} {a4 : Int32} {b0 : Int32} (h : f_X1_mayBe_59 σ a3 a4 b0 = some (r', σ')) : pp_E Γ dsK cX1_mayBe 6 59 [(3, ppI a3), (4, ppI a4)] [ppI b0] σ := by
  unfold f_X1_mayBe_59 at h
  refine pp_istore hF dX1_mayBe_59 (by decide) (lv' := [(3, ppI a3), (4, ppI a4), (5, ppI b0)]) rfl ?_
  refine pp_iload_n hF dX1_mayBe_61 rfl rfl ?_
  refine pp_iload hF dX1_mayBe_62 rfl ?_
  refine pp_iload hF dX1_mayBe_64 rfl ?_
  obtain ⟨x66, hx66, h⟩ := pp_bd h
  refine pp_callSi hF (c_X8_within hx66) mS_X8_within lk_X1_16 rfl rfl ⟨by decide, by decide⟩ (Nat.le_of_ble_eq_true rfl) dX1_mayBe_66 ?_
  obtain ⟨hb2, h⟩ := pp_ck h
  obtain ⟨rfl, rfl⟩ := pp_i2 h
  exact pp_zreturn hF hR (pp_bn hb2) dX1_mayBe_69
set_option maxRecDepth 20000 in
theorem e_X1_mayBe_57 {Γ : pp_G} {r' : Int32} {σ' : pp_M} (hF : pp_Fx Γ dsK cX1_mayBe 6 RX1 2 34) (hR : pp_Rt Γ dsK (some .boolean) (some (ppI r')) σ') {σ : pp_M} {a3 : Int32} {a4 : Int32} (h : f_X1_mayBe_57 σ a3 a4 = some (r', σ')) : pp_E Γ dsK cX1_mayBe 6 57 [(3, ppI a3), (4, ppI a4)] [] σ := by
  unfold f_X1_mayBe_57 at h
  refine pp_bipush hF dX1_mayBe_57 bc_99 ?_
  exact e_X1_mayBe_59 hF hR h
set_option maxRecDepth 20000 in
theorem e_X1_mayBe_32 {Γ : pp_G} {r' : Int32} {σ' : pp_M} (hF : pp_Fx Γ dsK cX1_mayBe 6 RX1 2 34) (hR : pp_Rt Γ dsK (some .boolean) (some (ppI r')) σ') {σ : pp_M} {a1 : Int32} {a2 : Int32} {a3 : Int32} {b0 : Int32} (h : f_X1_mayBe_32 σ a1 a2 a3 b0 = some (r', σ')) : pp_E Γ dsK cX1_mayBe 6 32 [(0, ppR 1 0 0), (1, ppI a1), (2, ppI a2), (3, ppI a3)] [ppI b0] σ := by
  unfold f_X1_mayBe_32 at h
  refine pp_istore hF dX1_mayBe_32 (by decide) (lv' := [(0, ppR 1 0 0), (1, ppI a1), (2, ppI a2), (3, ppI a3), (4, ppI b0)]) rfl ?_
  refine pp_iload_n hF dX1_mayBe_34 rfl rfl ?_
  refine pp_iconst hF dX1_mayBe_35 ic_3 ?_
  refine pp_icmp_lt (tgt := 57) hF dX1_mayBe_36 rfl (fun c1 => ?_) (fun c1 => ?_)
  · replace h := (if_pos c1).symm.trans h
    refine pp_few [3, 4] (lv' := [(3, ppI a3), (4, ppI b0)]) rfl ?_
    exact e_X1_mayBe_57 hF hR h
  · replace h := (if_neg c1).symm.trans h
    refine pp_iload_n hF dX1_mayBe_39 rfl rfl ?_
    refine pp_iconst hF dX1_mayBe_40 ic_5 ?_
    refine pp_icmp_ge (tgt := 57) hF dX1_mayBe_41 rfl (fun c2 => ?_) (fun c2 => ?_)
    · replace h := (if_pos c2).symm.trans h
      refine pp_aload_n hF dX1_mayBe_44 rfl rfl ?_
      refine pp_getR hF fdK_X1_11 dX1_mayBe_45 ?_
      refine pp_iload_n hF dX1_mayBe_48 rfl rfl ?_
      obtain ⟨hi3, h⟩ := pp_ck h
      refine pp_aaloadI hF vK_2 hi3 dX1_mayBe_49 ?_
      refine pp_iload_n hF dX1_mayBe_50 rfl rfl ?_
      refine pp_iconst hF dX1_mayBe_51 ic_1 ?_
      refine pp_iadd hF dX1_mayBe_52 ?_
      obtain ⟨hi4, h⟩ := pp_ck h
      refine pp_ialoadJ hF (vK_3 _ (vp_lt hi3)) hi4 rfl dX1_mayBe_53 ?_
      refine pp_goto (tgt := 59) hF dX1_mayBe_54 rfl ?_
      refine pp_few [3, 4] (lv' := [(3, ppI a3), (4, ppI b0)]) rfl ?_
      exact e_X1_mayBe_59 hF hR h
    · replace h := (if_neg c2).symm.trans h
      refine pp_few [3, 4] (lv' := [(3, ppI a3), (4, ppI b0)]) rfl ?_
      exact e_X1_mayBe_57 hF hR h
set_option maxRecDepth 20000 in
theorem e_X1_mayBe_0 {Γ : pp_G} {r' : Int32} {σ' : pp_M} (hF : pp_Fx Γ dsK cX1_mayBe 6 RX1 2 34) (hR : pp_Rt Γ dsK (some .boolean) (some (ppI r')) σ') {σ : pp_M} {a1 : Int32} {a2 : Int32} {a3 : Int32} (h : f_X1_mayBe σ a1 a2 a3 = some (r', σ')) : pp_E Γ dsK cX1_mayBe 6 0 [(0, ppR 1 0 0), (1, ppI a1), (2, ppI a2), (3, ppI a3)] [] σ := by
  unfold f_X1_mayBe at h
  refine pp_iload_n hF dX1_mayBe_0 rfl rfl ?_
  refine pp_iconst hF dX1_mayBe_1 ic_1 ?_
  refine pp_icmp_ne (tgt := 13) hF dX1_mayBe_2 rfl (fun c1 => ?_) (fun c1 => ?_)
  · replace h := (if_pos c1).symm.trans h
    refine pp_iload_n hF dX1_mayBe_5 rfl rfl ?_
    refine pp_iconst hF dX1_mayBe_6 ic_1 ?_
    refine pp_bipush hF dX1_mayBe_7 bc_20 ?_
    obtain ⟨x9, hx9, h⟩ := pp_bd h
    refine pp_callSi hF (c_X8_within hx9) mS_X8_within lk_X1_16 rfl rfl ⟨by decide, by decide⟩ (Nat.le_of_ble_eq_true rfl) dX1_mayBe_9 ?_
    obtain ⟨hb3, h⟩ := pp_ck h
    obtain ⟨rfl, rfl⟩ := pp_i2 h
    exact pp_zreturn hF hR (pp_bn hb3) dX1_mayBe_12
  · replace h := (if_neg c1).symm.trans h
    refine pp_iload_n hF dX1_mayBe_13 rfl rfl ?_
    refine pp_iconst hF dX1_mayBe_14 ic_3 ?_
    refine pp_icmp_le (tgt := 31) hF dX1_mayBe_15 rfl (fun c4 => ?_) (fun c4 => ?_)
    · replace h := (if_pos c4).symm.trans h
      refine pp_aload_n hF dX1_mayBe_18 rfl rfl ?_
      refine pp_getR hF fdK_X1_11 dX1_mayBe_19 ?_
      refine pp_iload_n hF dX1_mayBe_22 rfl rfl ?_
      obtain ⟨hi5, h⟩ := pp_ck h
      refine pp_aaloadI hF vK_2 hi5 dX1_mayBe_23 ?_
      refine pp_iload_n hF dX1_mayBe_24 rfl rfl ?_
      refine pp_iconst hF dX1_mayBe_25 ic_1 ?_
      refine pp_isub hF dX1_mayBe_26 ?_
      obtain ⟨hi6, h⟩ := pp_ck h
      refine pp_ialoadJ hF (vK_3 _ (vp_lt hi5)) hi6 rfl dX1_mayBe_27 ?_
      refine pp_goto (tgt := 32) hF dX1_mayBe_28 rfl ?_
      exact e_X1_mayBe_32 hF hR h
    · replace h := (if_neg c4).symm.trans h
      refine pp_iconst hF dX1_mayBe_31 ic_0 ?_
      exact e_X1_mayBe_32 hF hR h
set_option maxRecDepth 20000 in
theorem c_X1_mayBe {r' : Int32} {σ' : pp_M} {σ : pp_M} {a1 : Int32} {a2 : Int32} {a3 : Int32} (h : f_X1_mayBe σ a1 a2 a3 = some (r', σ')) : pp_Ct yX1_mayBe cX1_mayBe 6 (some .boolean) 2 34 dsK [ppR 1 0 0, ppI a1, ppI a2, ppI a3] σ (some (ppI r')) σ' := pp_met pl_X1 rfl okK (Nat.le_of_ble_eq_true rfl) rfl (fun Γ hF hR => (e_X1_mayBe_0 hF hR h))
set_option maxRecDepth 20000 in
theorem e_X1_weightOf_4 {Γ : pp_G} {r' : Int32} {σ' : pp_M} (hF : pp_Fx Γ dsK cX1_weightOf 4 RX1 1 12) (hR : pp_Rt Γ dsK (some .int) (some (ppI r')) σ') {σ : pp_M} {a1t : Nat} {a1o : Nat} {a1n : Nat} {a2 : Int32} {a3 : Int32} {k4 : pp_M → Nat → Nat → Nat → Int32 → Int32 → Option (Int32 × pp_M)} (hk4 : ∀ {σ : pp_M} {a1t : Nat} {a1o : Nat} {a1n : Nat} {a2 : Int32} {a3 : Int32}, pp_ai dsK a1t a1o a1n → k4 σ a1t a1o a1n a2 a3 = some (r', σ') → pp_E Γ dsK cX1_weightOf 4 4 [(0, ppR 1 0 0), (1, ppR a1t a1o a1n), (2, ppI a2), (3, ppI a3)] [] σ) (hv1 : pp_ai dsK a1t a1o a1n) (h : f_X1_weightOf_4_B k4 σ a1t a1o a1n a2 a3 = some (r', σ')) : pp_E Γ dsK cX1_weightOf 4 4 [(0, ppR 1 0 0), (1, ppR a1t a1o a1n), (2, ppI a2), (3, ppI a3)] [] σ := by
  unfold f_X1_weightOf_4_B at h
  refine pp_iload_n hF dX1_weightOf_4 rfl rfl ?_
  refine pp_bipush hF dX1_weightOf_5 bc_6 ?_
  refine pp_icmp_ge (tgt := 31) hF dX1_weightOf_7 rfl (fun c1 => ?_) (fun c1 => ?_)
  · replace h := (if_pos c1).symm.trans h
    refine pp_iload_n hF dX1_weightOf_10 rfl rfl ?_
    refine pp_aload_n hF dX1_weightOf_11 rfl rfl ?_
    refine pp_iload_n hF dX1_weightOf_12 rfl rfl ?_
    obtain ⟨hi2, h⟩ := pp_ck h
    refine pp_ialoadJ hF hv1 hi2 rfl dX1_weightOf_13 ?_
    refine pp_aload_n hF dX1_weightOf_14 rfl rfl ?_
    refine pp_getR hF fdK_X1_11 dX1_weightOf_15 ?_
    refine pp_iload_n hF dX1_weightOf_18 rfl rfl ?_
    obtain ⟨hi3, h⟩ := pp_ck h
    refine pp_aaloadI hF vK_2 hi3 dX1_weightOf_19 ?_
    refine pp_iconst hF dX1_weightOf_20 ic_1 ?_
    refine pp_ialoadJ hF (vK_3 _ (vp_lt hi3)) vl_1_6 (congrArg (HAdd.hAdd _) cl_1) dX1_weightOf_21 ?_
    refine pp_imul hF dX1_weightOf_22 ?_
    refine pp_iadd hF dX1_weightOf_23 ?_
    refine pp_istore_n hF dX1_weightOf_24 rfl (by decide) (lv' := [(0, ppR 1 0 0), (1, ppR a1t a1o a1n), (2, ppI (a2 + ((σ.1 a1t (a1o + a3.toNatClampNeg)) * (σ.1 3 ((a3.toNatClampNeg * 6) + 1))))), (3, ppI a3)]) rfl ?_
    refine pp_iinc hF dX1_weightOf_25 rfl (congrArg (HAdd.hAdd _) ic_1) (by decide) (lv' := [(0, ppR 1 0 0), (1, ppR a1t a1o a1n), (2, ppI (a2 + ((σ.1 a1t (a1o + a3.toNatClampNeg)) * (σ.1 3 ((a3.toNatClampNeg * 6) + 1))))), (3, ppI (a3 + (1 : Int32)))]) rfl ?_
    refine pp_goto (tgt := 4) hF dX1_weightOf_28 rfl ?_
    exact hk4 hv1 h
  · replace h := (if_neg c1).symm.trans h
    refine pp_iload_n hF dX1_weightOf_31 rfl rfl ?_
    obtain ⟨rfl, rfl⟩ := pp_i2 h
    exact pp_ireturn hF hR dX1_weightOf_32
set_option maxRecDepth 20000 in
theorem e_X1_weightOf_4_L {Γ : pp_G} {r' : Int32} {σ' : pp_M} (hF : pp_Fx Γ dsK cX1_weightOf 4 RX1 1 12) (hR : pp_Rt Γ dsK (some .int) (some (ppI r')) σ') : ∀ {n : Nat} {σ : pp_M} {a1t : Nat} {a1o : Nat} {a1n : Nat} {a2 : Int32} {a3 : Int32}, pp_ai dsK a1t a1o a1n → f_X1_weightOf_4 n σ a1t a1o a1n a2 a3 = some (r', σ') → pp_E Γ dsK cX1_weightOf 4 4 [(0, ppR 1 0 0), (1, ppR a1t a1o a1n), (2, ppI a2), (3, ppI a3)] [] σ
  | 0, _, _, _, _, _, _ => fun hv1 h => by cases h
  | n + 1, _, _, _, _, _, _ => fun hv1 h => e_X1_weightOf_4 hF hR (fun hv1 h => e_X1_weightOf_4_L hF hR (n := n) hv1 h) hv1 h
set_option maxRecDepth 20000 in
theorem e_X1_weightOf_0 {Γ : pp_G} {r' : Int32} {σ' : pp_M} (hF : pp_Fx Γ dsK cX1_weightOf 4 RX1 1 12) (hR : pp_Rt Γ dsK (some .int) (some (ppI r')) σ') {σ : pp_M} {a1t : Nat} {a1o : Nat} {a1n : Nat} (hv1 : pp_ai dsK a1t a1o a1n) (h : f_X1_weightOf σ a1t a1o a1n = some (r', σ')) : pp_E Γ dsK cX1_weightOf 4 0 [(0, ppR 1 0 0), (1, ppR a1t a1o a1n)] [] σ := by
  unfold f_X1_weightOf at h
  refine pp_iconst hF dX1_weightOf_0 ic_0 ?_
  refine pp_istore_n hF dX1_weightOf_1 rfl (by decide) (lv' := [(0, ppR 1 0 0), (1, ppR a1t a1o a1n), (2, ppI (0 : Int32))]) rfl ?_
  refine pp_iconst hF dX1_weightOf_2 ic_0 ?_
  refine pp_istore_n hF dX1_weightOf_3 rfl (by decide) (lv' := [(0, ppR 1 0 0), (1, ppR a1t a1o a1n), (2, ppI (0 : Int32)), (3, ppI (0 : Int32))]) rfl ?_
  exact e_X1_weightOf_4_L hF hR hv1 h
set_option maxRecDepth 20000 in
theorem c_X1_weightOf {r' : Int32} {σ' : pp_M} {σ : pp_M} {a1t a1o a1n : Nat} (hv1 : pp_ai dsK a1t a1o a1n) (h : f_X1_weightOf σ a1t a1o a1n = some (r', σ')) : pp_Ct yX1_weightOf cX1_weightOf 4 (some .int) 1 12 dsK [ppR 1 0 0, ppR a1t a1o a1n] σ (some (ppI r')) σ' := pp_met pl_X1 rfl okK (Nat.le_of_ble_eq_true rfl) rfl (fun Γ hF hR => (e_X1_weightOf_0 hF hR hv1 h))
set_option maxRecDepth 20000 in
theorem e_X2_findWays_88 {Γ : pp_G} {σ' : pp_M} (hF : pp_Fx Γ dsK cX2_findWays 4 RX2 1 100) (hR : pp_Rt Γ dsK none none σ') {σ : pp_M} {a1 : Int32} {a2 : Int32} {a3 : Int32} {k72 : pp_M → Int32 → Option (pp_M)} (hk72 : ∀ {σ : pp_M} {a1 : Int32}, k72 σ a1 = some σ' → pp_E Γ dsK cX2_findWays 4 72 [(0, ppR 4 0 0), (1, ppI a1)] [] σ) {k80 : pp_M → Int32 → Int32 → Option (pp_M)} (hk80 : ∀ {σ : pp_M} {a1 : Int32} {a2 : Int32}, k80 σ a1 a2 = some σ' → pp_E Γ dsK cX2_findWays 4 80 [(0, ppR 4 0 0), (1, ppI a1), (2, ppI a2)] [] σ) {k88 : pp_M → Int32 → Int32 → Int32 → Option (pp_M)} (hk88 : ∀ {σ : pp_M} {a1 : Int32} {a2 : Int32} {a3 : Int32}, k88 σ a1 a2 a3 = some σ' → pp_E Γ dsK cX2_findWays 4 88 [(0, ppR 4 0 0), (1, ppI a1), (2, ppI a2), (3, ppI a3)] [] σ) (h : f_X2_findWays_88_B k72 k80 k88 σ a1 a2 a3 = some σ') : pp_E Γ dsK cX2_findWays 4 88 [(0, ppR 4 0 0), (1, ppI a1), (2, ppI a2), (3, ppI a3)] [] σ := by
  unfold f_X2_findWays_88_B at h
  refine pp_iload_n hF dX2_findWays_88 rfl rfl ?_
  refine pp_bipush hF dX2_findWays_89 bc_8 ?_
  refine pp_icmp_ge (tgt := 136) hF dX2_findWays_91 rfl (fun c1 => ?_) (fun c1 => ?_)
  · replace h := (if_pos c1).symm.trans h
    refine pp_aload_n hF dX2_findWays_94 rfl rfl ?_
    refine pp_getR hF fdK_X2_16 dX2_findWays_95 ?_
    refine pp_iload_n hF dX2_findWays_98 rfl rfl ?_
    obtain ⟨hi2, h⟩ := pp_ck h
    refine pp_aaloadI hF vK_7 hi2 dX2_findWays_99 ?_
    refine pp_iload_n hF dX2_findWays_100 rfl rfl ?_
    refine pp_aload_n hF dX2_findWays_101 rfl rfl ?_
    refine pp_getR hF fdK_X2_16 dX2_findWays_102 ?_
    refine pp_iload_n hF dX2_findWays_105 rfl rfl ?_
    refine pp_aaloadI hF vK_7 hi2 dX2_findWays_106 ?_
    refine pp_iload_n hF dX2_findWays_107 rfl rfl ?_
    obtain ⟨hi3, h⟩ := pp_ck h
    refine pp_ialoadJ hF (vK_8 _ (vp_lt hi2)) hi3 rfl dX2_findWays_108 ?_
    refine pp_aload_n hF dX2_findWays_109 rfl rfl ?_
    refine pp_getR hF fdK_X2_16 dX2_findWays_110 ?_
    refine pp_iload_n hF dX2_findWays_113 rfl rfl ?_
    refine pp_aaloadI hF vK_7 hi2 dX2_findWays_114 ?_
    refine pp_iload_n hF dX2_findWays_115 rfl rfl ?_
    obtain ⟨hi4, h⟩ := pp_ck h
    refine pp_ialoadJ hF (vK_8 _ (vp_lt hi2)) hi4 rfl dX2_findWays_116 ?_
    refine pp_aload_n hF dX2_findWays_117 rfl rfl ?_
    refine pp_getR hF fdK_X2_16 dX2_findWays_118 ?_
    refine pp_iload_n hF dX2_findWays_121 rfl rfl ?_
    refine pp_aaloadI hF vK_7 hi4 dX2_findWays_122 ?_
    refine pp_iload_n hF dX2_findWays_123 rfl rfl ?_
    refine pp_ialoadJ hF (vK_8 _ (vp_lt hi4)) hi3 rfl dX2_findWays_124 ?_
    refine pp_iadd hF dX2_findWays_125 ?_
    refine pp_mmin hF wm_105 wm_106 wm_60 wq_min ⟨by decide, by decide⟩ (Nat.le_of_ble_eq_true rfl) dX2_findWays_126 ?_
    refine pp_iastoreJ hF (vK_8 _ (vp_lt hi2)) hi3 rfl dX2_findWays_129 ?_
    refine pp_iinc hF dX2_findWays_130 rfl (congrArg (HAdd.hAdd _) ic_1) (by decide) (lv' := [(0, ppR 4 0 0), (1, ppI a1), (2, ppI a2), (3, ppI (a3 + (1 : Int32)))]) rfl ?_
    refine pp_goto (tgt := 88) hF dX2_findWays_133 rfl ?_
    exact hk88 h
  · replace h := (if_neg c1).symm.trans h
    refine pp_iinc hF dX2_findWays_136 rfl (congrArg (HAdd.hAdd _) ic_1) (by decide) (lv' := [(0, ppR 4 0 0), (1, ppI a1), (2, ppI (a2 + (1 : Int32))), (3, ppI a3)]) rfl ?_
    refine pp_goto (tgt := 80) hF dX2_findWays_139 rfl ?_
    refine pp_few [0, 1, 2] (lv' := [(0, ppR 4 0 0), (1, ppI a1), (2, ppI (a2 + (1 : Int32)))]) rfl ?_
    exact hk80 h
set_option maxRecDepth 20000 in
theorem e_X2_findWays_88_L {Γ : pp_G} {σ' : pp_M} (hF : pp_Fx Γ dsK cX2_findWays 4 RX2 1 100) (hR : pp_Rt Γ dsK none none σ') {k72 : pp_M → Int32 → Option (pp_M)} (hk72 : ∀ {σ : pp_M} {a1 : Int32}, k72 σ a1 = some σ' → pp_E Γ dsK cX2_findWays 4 72 [(0, ppR 4 0 0), (1, ppI a1)] [] σ) {k80 : pp_M → Int32 → Int32 → Option (pp_M)} (hk80 : ∀ {σ : pp_M} {a1 : Int32} {a2 : Int32}, k80 σ a1 a2 = some σ' → pp_E Γ dsK cX2_findWays 4 80 [(0, ppR 4 0 0), (1, ppI a1), (2, ppI a2)] [] σ) : ∀ {n : Nat} {σ : pp_M} {a1 : Int32} {a2 : Int32} {a3 : Int32}, f_X2_findWays_88 k72 k80 n σ a1 a2 a3 = some σ' → pp_E Γ dsK cX2_findWays 4 88 [(0, ppR 4 0 0), (1, ppI a1), (2, ppI a2), (3, ppI a3)] [] σ
  | 0, _, _, _, _ => fun h => by cases h
  | n + 1, _, _, _, _ => fun h => e_X2_findWays_88 hF hR hk72 hk80 (fun h => e_X2_findWays_88_L hF hR hk72 hk80 (n := n) h) h
set_option maxRecDepth 20000 in
theorem e_X2_findWays_80 {Γ : pp_G} {σ' : pp_M} (hF : pp_Fx Γ dsK cX2_findWays 4 RX2 1 100) (hR : pp_Rt Γ dsK none none σ') {σ : pp_M} {a1 : Int32} {a2 : Int32} {k72 : pp_M → Int32 → Option (pp_M)} (hk72 : ∀ {σ : pp_M} {a1 : Int32}, k72 σ a1 = some σ' → pp_E Γ dsK cX2_findWays 4 72 [(0, ppR 4 0 0), (1, ppI a1)] [] σ) {k80 : pp_M → Int32 → Int32 → Option (pp_M)} (hk80 : ∀ {σ : pp_M} {a1 : Int32} {a2 : Int32}, k80 σ a1 a2 = some σ' → pp_E Γ dsK cX2_findWays 4 80 [(0, ppR 4 0 0), (1, ppI a1), (2, ppI a2)] [] σ) (h : f_X2_findWays_80_B k72 k80 σ a1 a2 = some σ') : pp_E Γ dsK cX2_findWays 4 80 [(0, ppR 4 0 0), (1, ppI a1), (2, ppI a2)] [] σ := by
  unfold f_X2_findWays_80_B at h
  refine pp_iload_n hF dX2_findWays_80 rfl rfl ?_
  refine pp_bipush hF dX2_findWays_81 bc_8 ?_
  refine pp_icmp_ge (tgt := 142) hF dX2_findWays_83 rfl (fun c1 => ?_) (fun c1 => ?_)
  · replace h := (if_pos c1).symm.trans h
    refine pp_iconst hF dX2_findWays_86 ic_0 ?_
    refine pp_istore_n hF dX2_findWays_87 rfl (by decide) (lv' := [(0, ppR 4 0 0), (1, ppI a1), (2, ppI a2), (3, ppI (0 : Int32))]) rfl ?_
    exact e_X2_findWays_88_L hF hR hk72 hk80 h
  · replace h := (if_neg c1).symm.trans h
    refine pp_iinc hF dX2_findWays_142 rfl (congrArg (HAdd.hAdd _) ic_1) (by decide) (lv' := [(0, ppR 4 0 0), (1, ppI (a1 + (1 : Int32))), (2, ppI a2)]) rfl ?_
    refine pp_goto (tgt := 72) hF dX2_findWays_145 rfl ?_
    refine pp_few [0, 1] (lv' := [(0, ppR 4 0 0), (1, ppI (a1 + (1 : Int32)))]) rfl ?_
    exact hk72 h
set_option maxRecDepth 20000 in
theorem e_X2_findWays_80_L {Γ : pp_G} {σ' : pp_M} (hF : pp_Fx Γ dsK cX2_findWays 4 RX2 1 100) (hR : pp_Rt Γ dsK none none σ') {k72 : pp_M → Int32 → Option (pp_M)} (hk72 : ∀ {σ : pp_M} {a1 : Int32}, k72 σ a1 = some σ' → pp_E Γ dsK cX2_findWays 4 72 [(0, ppR 4 0 0), (1, ppI a1)] [] σ) : ∀ {n : Nat} {σ : pp_M} {a1 : Int32} {a2 : Int32}, f_X2_findWays_80 k72 n σ a1 a2 = some σ' → pp_E Γ dsK cX2_findWays 4 80 [(0, ppR 4 0 0), (1, ppI a1), (2, ppI a2)] [] σ
  | 0, _, _, _ => fun h => by cases h
  | n + 1, _, _, _ => fun h => e_X2_findWays_80 hF hR hk72 (fun h => e_X2_findWays_80_L hF hR hk72 (n := n) h) h
set_option maxRecDepth 20000 in
theorem e_X2_findWays_72 {Γ : pp_G} {σ' : pp_M} (hF : pp_Fx Γ dsK cX2_findWays 4 RX2 1 100) (hR : pp_Rt Γ dsK none none σ') {σ : pp_M} {a1 : Int32} {k72 : pp_M → Int32 → Option (pp_M)} (hk72 : ∀ {σ : pp_M} {a1 : Int32}, k72 σ a1 = some σ' → pp_E Γ dsK cX2_findWays 4 72 [(0, ppR 4 0 0), (1, ppI a1)] [] σ) (h : f_X2_findWays_72_B k72 σ a1 = some σ') : pp_E Γ dsK cX2_findWays 4 72 [(0, ppR 4 0 0), (1, ppI a1)] [] σ := by
  unfold f_X2_findWays_72_B at h
  refine pp_iload_n hF dX2_findWays_72 rfl rfl ?_
  refine pp_bipush hF dX2_findWays_73 bc_8 ?_
  refine pp_icmp_ge (tgt := 148) hF dX2_findWays_75 rfl (fun c1 => ?_) (fun c1 => ?_)
  · replace h := (if_pos c1).symm.trans h
    refine pp_iconst hF dX2_findWays_78 ic_0 ?_
    refine pp_istore_n hF dX2_findWays_79 rfl (by decide) (lv' := [(0, ppR 4 0 0), (1, ppI a1), (2, ppI (0 : Int32))]) rfl ?_
    exact e_X2_findWays_80_L hF hR hk72 h
  · replace h := (if_neg c1).symm.trans h
    obtain rfl := (Option.some.inj h).symm
    exact pp_return hF hR dX2_findWays_148
set_option maxRecDepth 20000 in
theorem e_X2_findWays_72_L {Γ : pp_G} {σ' : pp_M} (hF : pp_Fx Γ dsK cX2_findWays 4 RX2 1 100) (hR : pp_Rt Γ dsK none none σ') : ∀ {n : Nat} {σ : pp_M} {a1 : Int32}, f_X2_findWays_72 n σ a1 = some σ' → pp_E Γ dsK cX2_findWays 4 72 [(0, ppR 4 0 0), (1, ppI a1)] [] σ
  | 0, _, _ => fun h => by cases h
  | n + 1, _, _ => fun h => e_X2_findWays_72 hF hR (fun h => e_X2_findWays_72_L hF hR (n := n) h) h
set_option maxRecDepth 20000 in
theorem e_X2_findWays_57 {Γ : pp_G} {σ' : pp_M} (hF : pp_Fx Γ dsK cX2_findWays 4 RX2 1 100) (hR : pp_Rt Γ dsK none none σ') {σ : pp_M} {a1 : Int32} {a2 : Int32} {b0o : Nat} {b1 : Int32} {b2 : Int32} {k2 : pp_M → Int32 → Option (pp_M)} (hk2 : ∀ {σ : pp_M} {a1 : Int32}, k2 σ a1 = some σ' → pp_E Γ dsK cX2_findWays 4 2 [(0, ppR 4 0 0), (1, ppI a1)] [] σ) {k10 : pp_M → Int32 → Int32 → Option (pp_M)} (hk10 : ∀ {σ : pp_M} {a1 : Int32} {a2 : Int32}, k10 σ a1 a2 = some σ' → pp_E Γ dsK cX2_findWays 4 10 [(0, ppR 4 0 0), (1, ppI a1), (2, ppI a2)] [] σ) (hb0 : pp_ai dsK 8 b0o 8) (h : f_X2_findWays_57 k2 k10 σ a1 a2 b0o b1 b2 = some σ') : pp_E Γ dsK cX2_findWays 4 57 [(0, ppR 4 0 0), (1, ppI a1), (2, ppI a2)] [ppI b2, ppI b1, ppR 8 b0o 8] σ := by
  unfold f_X2_findWays_57 at h
  obtain ⟨hi1, h⟩ := pp_ck h
  refine pp_iastoreJ hF hb0 hi1 rfl dX2_findWays_57 ?_
  refine pp_iinc hF dX2_findWays_58 rfl (congrArg (HAdd.hAdd _) ic_1) (by decide) (lv' := [(0, ppR 4 0 0), (1, ppI a1), (2, ppI (a2 + (1 : Int32)))]) rfl ?_
  refine pp_goto (tgt := 10) hF dX2_findWays_61 rfl ?_
  exact hk10 h
set_option maxRecDepth 20000 in
theorem e_X2_findWays_10 {Γ : pp_G} {σ' : pp_M} (hF : pp_Fx Γ dsK cX2_findWays 4 RX2 1 100) (hR : pp_Rt Γ dsK none none σ') {σ : pp_M} {a1 : Int32} {a2 : Int32} {k2 : pp_M → Int32 → Option (pp_M)} (hk2 : ∀ {σ : pp_M} {a1 : Int32}, k2 σ a1 = some σ' → pp_E Γ dsK cX2_findWays 4 2 [(0, ppR 4 0 0), (1, ppI a1)] [] σ) {k10 : pp_M → Int32 → Int32 → Option (pp_M)} (hk10 : ∀ {σ : pp_M} {a1 : Int32} {a2 : Int32}, k10 σ a1 a2 = some σ' → pp_E Γ dsK cX2_findWays 4 10 [(0, ppR 4 0 0), (1, ppI a1), (2, ppI a2)] [] σ) (h : f_X2_findWays_10_B k2 k10 σ a1 a2 = some σ') : pp_E Γ dsK cX2_findWays 4 10 [(0, ppR 4 0 0), (1, ppI a1), (2, ppI a2)] [] σ := by
  unfold f_X2_findWays_10_B at h
  refine pp_iload_n hF dX2_findWays_10 rfl rfl ?_
  refine pp_bipush hF dX2_findWays_11 bc_8 ?_
  refine pp_icmp_ge (tgt := 64) hF dX2_findWays_13 rfl (fun c1 => ?_) (fun c1 => ?_)
  · replace h := (if_pos c1).symm.trans h
    refine pp_aload_n hF dX2_findWays_16 rfl rfl ?_
    refine pp_getR hF fdK_X2_16 dX2_findWays_17 ?_
    refine pp_iload_n hF dX2_findWays_20 rfl rfl ?_
    obtain ⟨hi2, h⟩ := pp_ck h
    refine pp_aaloadI hF vK_7 hi2 dX2_findWays_21 ?_
    refine pp_iload_n hF dX2_findWays_22 rfl rfl ?_
    refine pp_iload_n hF dX2_findWays_23 rfl rfl ?_
    refine pp_iload_n hF dX2_findWays_24 rfl rfl ?_
    refine pp_icmp_ne (tgt := 32) hF dX2_findWays_25 rfl (fun c3 => ?_) (fun c3 => ?_)
    · replace h := (if_pos c3).symm.trans h
      refine pp_iconst hF dX2_findWays_28 ic_0 ?_
      refine pp_goto (tgt := 57) hF dX2_findWays_29 rfl ?_
      exact e_X2_findWays_57 hF hR hk2 hk10 (vK_8 _ (vp_lt hi2)) h
    · replace h := (if_neg c3).symm.trans h
      refine pp_aload_n hF dX2_findWays_32 rfl rfl ?_
      refine pp_getR hF fdK_X2_11 dX2_findWays_33 ?_
      refine pp_iload_n hF dX2_findWays_36 rfl rfl ?_
      refine pp_aaloadI hF vK_5 hi2 dX2_findWays_37 ?_
      refine pp_iload_n hF dX2_findWays_38 rfl rfl ?_
      obtain ⟨hi4, h⟩ := pp_ck h
      refine pp_ialoadJ hF (vK_6 _ (vp_lt hi2)) hi4 rfl dX2_findWays_39 ?_
      refine pp_if_le (tgt := 54) hF dX2_findWays_40 rfl (fun c5 => ?_) (fun c5 => ?_)
      · replace h := (if_pos c5).symm.trans h
        refine pp_aload_n hF dX2_findWays_43 rfl rfl ?_
        refine pp_getR hF fdK_X2_11 dX2_findWays_44 ?_
        refine pp_iload_n hF dX2_findWays_47 rfl rfl ?_
        refine pp_aaloadI hF vK_5 hi2 dX2_findWays_48 ?_
        refine pp_iload_n hF dX2_findWays_49 rfl rfl ?_
        refine pp_ialoadJ hF (vK_6 _ (vp_lt hi2)) hi4 rfl dX2_findWays_50 ?_
        refine pp_goto (tgt := 57) hF dX2_findWays_51 rfl ?_
        exact e_X2_findWays_57 hF hR hk2 hk10 (vK_8 _ (vp_lt hi2)) h
      · replace h := (if_neg c5).symm.trans h
        refine pp_sipush hF dX2_findWays_54 sc_1000 ?_
        exact e_X2_findWays_57 hF hR hk2 hk10 (vK_8 _ (vp_lt hi2)) h
  · replace h := (if_neg c1).symm.trans h
    refine pp_iinc hF dX2_findWays_64 rfl (congrArg (HAdd.hAdd _) ic_1) (by decide) (lv' := [(0, ppR 4 0 0), (1, ppI (a1 + (1 : Int32))), (2, ppI a2)]) rfl ?_
    refine pp_goto (tgt := 2) hF dX2_findWays_67 rfl ?_
    refine pp_few [0, 1] (lv' := [(0, ppR 4 0 0), (1, ppI (a1 + (1 : Int32)))]) rfl ?_
    exact hk2 h
set_option maxRecDepth 20000 in
theorem e_X2_findWays_10_L {Γ : pp_G} {σ' : pp_M} (hF : pp_Fx Γ dsK cX2_findWays 4 RX2 1 100) (hR : pp_Rt Γ dsK none none σ') {k2 : pp_M → Int32 → Option (pp_M)} (hk2 : ∀ {σ : pp_M} {a1 : Int32}, k2 σ a1 = some σ' → pp_E Γ dsK cX2_findWays 4 2 [(0, ppR 4 0 0), (1, ppI a1)] [] σ) : ∀ {n : Nat} {σ : pp_M} {a1 : Int32} {a2 : Int32}, f_X2_findWays_10 k2 n σ a1 a2 = some σ' → pp_E Γ dsK cX2_findWays 4 10 [(0, ppR 4 0 0), (1, ppI a1), (2, ppI a2)] [] σ
  | 0, _, _, _ => fun h => by cases h
  | n + 1, _, _, _ => fun h => e_X2_findWays_10 hF hR hk2 (fun h => e_X2_findWays_10_L hF hR hk2 (n := n) h) h
set_option maxRecDepth 20000 in
theorem e_X2_findWays_2 {Γ : pp_G} {σ' : pp_M} (hF : pp_Fx Γ dsK cX2_findWays 4 RX2 1 100) (hR : pp_Rt Γ dsK none none σ') {σ : pp_M} {a1 : Int32} {k2 : pp_M → Int32 → Option (pp_M)} (hk2 : ∀ {σ : pp_M} {a1 : Int32}, k2 σ a1 = some σ' → pp_E Γ dsK cX2_findWays 4 2 [(0, ppR 4 0 0), (1, ppI a1)] [] σ) (h : f_X2_findWays_2_B k2 σ a1 = some σ') : pp_E Γ dsK cX2_findWays 4 2 [(0, ppR 4 0 0), (1, ppI a1)] [] σ := by
  unfold f_X2_findWays_2_B at h
  refine pp_iload_n hF dX2_findWays_2 rfl rfl ?_
  refine pp_bipush hF dX2_findWays_3 bc_8 ?_
  refine pp_icmp_ge (tgt := 70) hF dX2_findWays_5 rfl (fun c1 => ?_) (fun c1 => ?_)
  · replace h := (if_pos c1).symm.trans h
    refine pp_iconst hF dX2_findWays_8 ic_0 ?_
    refine pp_istore_n hF dX2_findWays_9 rfl (by decide) (lv' := [(0, ppR 4 0 0), (1, ppI a1), (2, ppI (0 : Int32))]) rfl ?_
    exact e_X2_findWays_10_L hF hR hk2 h
  · replace h := (if_neg c1).symm.trans h
    refine pp_iconst hF dX2_findWays_70 ic_0 ?_
    refine pp_istore_n hF dX2_findWays_71 rfl (by decide) (lv' := [(0, ppR 4 0 0), (1, ppI (0 : Int32))]) rfl ?_
    exact e_X2_findWays_72_L hF hR h
set_option maxRecDepth 20000 in
theorem e_X2_findWays_2_L {Γ : pp_G} {σ' : pp_M} (hF : pp_Fx Γ dsK cX2_findWays 4 RX2 1 100) (hR : pp_Rt Γ dsK none none σ') : ∀ {n : Nat} {σ : pp_M} {a1 : Int32}, f_X2_findWays_2 n σ a1 = some σ' → pp_E Γ dsK cX2_findWays 4 2 [(0, ppR 4 0 0), (1, ppI a1)] [] σ
  | 0, _, _ => fun h => by cases h
  | n + 1, _, _ => fun h => e_X2_findWays_2 hF hR (fun h => e_X2_findWays_2_L hF hR (n := n) h) h
set_option maxRecDepth 20000 in
theorem e_X2_findWays_0 {Γ : pp_G} {σ' : pp_M} (hF : pp_Fx Γ dsK cX2_findWays 4 RX2 1 100) (hR : pp_Rt Γ dsK none none σ') {σ : pp_M}  (h : f_X2_findWays σ  = some σ') : pp_E Γ dsK cX2_findWays 4 0 [(0, ppR 4 0 0)] [] σ := by
  unfold f_X2_findWays at h
  refine pp_iconst hF dX2_findWays_0 ic_0 ?_
  refine pp_istore_n hF dX2_findWays_1 rfl (by decide) (lv' := [(0, ppR 4 0 0), (1, ppI (0 : Int32))]) rfl ?_
  exact e_X2_findWays_2_L hF hR h
set_option maxRecDepth 20000 in
theorem c_X2_findWays {σ' : pp_M} {σ : pp_M}  (h : f_X2_findWays σ  = some σ') : pp_Ct yX2_findWays cX2_findWays 4 none 1 100 dsK [ppR 4 0 0] σ none σ' := pp_met pl_X2 rfl okK (Nat.le_of_ble_eq_true rfl) rfl (fun Γ hF hR => (e_X2_findWays_0 hF hR h))
set_option maxRecDepth 20000 in
theorem e_X2_build_0 {Γ : pp_G} {σ' : pp_M} (hF : pp_Fx Γ dsK cX2_build 4 RX2 2 123) (hR : pp_Rt Γ dsK none none σ') {σ : pp_M} {a1 : Int32} {a2 : Int32} {a3 : Int32} (h : f_X2_build σ a1 a2 a3 = some σ') : pp_E Γ dsK cX2_build 4 0 [(0, ppR 4 0 0), (1, ppI a1), (2, ppI a2), (3, ppI a3)] [] σ := by
  unfold f_X2_build at h
  refine pp_aload_n hF dX2_build_0 rfl rfl ?_
  refine pp_getR hF fdK_X2_11 dX2_build_1 ?_
  refine pp_iload_n hF dX2_build_4 rfl rfl ?_
  obtain ⟨hi1, h⟩ := pp_ck h
  refine pp_aaloadI hF vK_5 hi1 dX2_build_5 ?_
  refine pp_iload_n hF dX2_build_6 rfl rfl ?_
  refine pp_iload_n hF dX2_build_7 rfl rfl ?_
  obtain ⟨hi2, h⟩ := pp_ck h
  refine pp_iastoreJ hF (vK_6 _ (vp_lt hi1)) hi2 rfl dX2_build_8 ?_
  refine pp_aload_n hF dX2_build_9 rfl rfl ?_
  refine pp_getR hF fdK_X2_11 dX2_build_10 ?_
  refine pp_iload_n hF dX2_build_13 rfl rfl ?_
  refine pp_aaloadI hF vK_5 hi2 dX2_build_14 ?_
  refine pp_iload_n hF dX2_build_15 rfl rfl ?_
  refine pp_iload_n hF dX2_build_16 rfl rfl ?_
  refine pp_iastoreJ hF (vK_6 _ (vp_lt hi2)) hi1 rfl dX2_build_17 ?_
  refine pp_aload_n hF dX2_build_18 rfl rfl ?_
  obtain ⟨x19, hx19, h⟩ := pp_bd h
  refine pp_callVv hF (c_X2_findWays hx19) mV_X2_findWays lk_X2_19 obK_4 rfl rfl ⟨by decide, by decide⟩ (Nat.le_of_ble_eq_true rfl) dX2_build_19 ?_
  obtain rfl := (Option.some.inj h).symm
  exact pp_return hF hR dX2_build_22
set_option maxRecDepth 20000 in
theorem c_X2_build {σ' : pp_M} {σ : pp_M} {a1 : Int32} {a2 : Int32} {a3 : Int32} (h : f_X2_build σ a1 a2 a3 = some σ') : pp_Ct yX2_build cX2_build 4 none 2 123 dsK [ppR 4 0 0, ppI a1, ppI a2, ppI a3] σ none σ' := pp_met pl_X2 rfl okK (Nat.le_of_ble_eq_true rfl) rfl (fun Γ hF hR => (e_X2_build_0 hF hR h))
set_option maxRecDepth 20000 in
theorem e_X2_countRoads_34 {Γ : pp_G} {r' : Int32} {σ' : pp_M} (hF : pp_Fx Γ dsK cX2_countRoads 4 RX2 1 12) (hR : pp_Rt Γ dsK (some .int) (some (ppI r')) σ') {σ : pp_M} {a2 : Int32} {a3 : Int32} {b0 : Int32} {b1 : Int32} {k4 : pp_M → Int32 → Int32 → Option (Int32 × pp_M)} (hk4 : ∀ {σ : pp_M} {a1 : Int32} {a2 : Int32}, k4 σ a1 a2 = some (r', σ') → pp_E Γ dsK cX2_countRoads 4 4 [(0, ppR 4 0 0), (1, ppI a1), (2, ppI a2)] [] σ) {k12 : pp_M → Int32 → Int32 → Int32 → Option (Int32 × pp_M)} (hk12 : ∀ {σ : pp_M} {a1 : Int32} {a2 : Int32} {a3 : Int32}, k12 σ a1 a2 a3 = some (r', σ') → pp_E Γ dsK cX2_countRoads 4 12 [(0, ppR 4 0 0), (1, ppI a1), (2, ppI a2), (3, ppI a3)] [] σ) (h : f_X2_countRoads_34 k4 k12 σ a2 a3 b0 b1 = some (r', σ')) : pp_E Γ dsK cX2_countRoads 4 34 [(0, ppR 4 0 0), (2, ppI a2), (3, ppI a3)] [ppI b1, ppI b0] σ := by
  unfold f_X2_countRoads_34 at h
  refine pp_iadd hF dX2_countRoads_34 ?_
  refine pp_istore_n hF dX2_countRoads_35 rfl (by decide) (lv' := [(0, ppR 4 0 0), (1, ppI (b0 + b1)), (2, ppI a2), (3, ppI a3)]) rfl ?_
  refine pp_iinc hF dX2_countRoads_36 rfl (congrArg (HAdd.hAdd _) ic_1) (by decide) (lv' := [(0, ppR 4 0 0), (1, ppI (b0 + b1)), (2, ppI a2), (3, ppI (a3 + (1 : Int32)))]) rfl ?_
  refine pp_goto (tgt := 12) hF dX2_countRoads_39 rfl ?_
  exact hk12 h
set_option maxRecDepth 20000 in
theorem e_X2_countRoads_12 {Γ : pp_G} {r' : Int32} {σ' : pp_M} (hF : pp_Fx Γ dsK cX2_countRoads 4 RX2 1 12) (hR : pp_Rt Γ dsK (some .int) (some (ppI r')) σ') {σ : pp_M} {a1 : Int32} {a2 : Int32} {a3 : Int32} {k4 : pp_M → Int32 → Int32 → Option (Int32 × pp_M)} (hk4 : ∀ {σ : pp_M} {a1 : Int32} {a2 : Int32}, k4 σ a1 a2 = some (r', σ') → pp_E Γ dsK cX2_countRoads 4 4 [(0, ppR 4 0 0), (1, ppI a1), (2, ppI a2)] [] σ) {k12 : pp_M → Int32 → Int32 → Int32 → Option (Int32 × pp_M)} (hk12 : ∀ {σ : pp_M} {a1 : Int32} {a2 : Int32} {a3 : Int32}, k12 σ a1 a2 a3 = some (r', σ') → pp_E Γ dsK cX2_countRoads 4 12 [(0, ppR 4 0 0), (1, ppI a1), (2, ppI a2), (3, ppI a3)] [] σ) (h : f_X2_countRoads_12_B k4 k12 σ a1 a2 a3 = some (r', σ')) : pp_E Γ dsK cX2_countRoads 4 12 [(0, ppR 4 0 0), (1, ppI a1), (2, ppI a2), (3, ppI a3)] [] σ := by
  unfold f_X2_countRoads_12_B at h
  refine pp_iload_n hF dX2_countRoads_12 rfl rfl ?_
  refine pp_iload_n hF dX2_countRoads_13 rfl rfl ?_
  refine pp_icmp_ge (tgt := 42) hF dX2_countRoads_14 rfl (fun c1 => ?_) (fun c1 => ?_)
  · replace h := (if_pos c1).symm.trans h
    refine pp_iload_n hF dX2_countRoads_17 rfl rfl ?_
    refine pp_aload_n hF dX2_countRoads_18 rfl rfl ?_
    refine pp_getR hF fdK_X2_11 dX2_countRoads_19 ?_
    refine pp_iload_n hF dX2_countRoads_22 rfl rfl ?_
    obtain ⟨hi2, h⟩ := pp_ck h
    refine pp_aaloadI hF vK_5 hi2 dX2_countRoads_23 ?_
    refine pp_iload_n hF dX2_countRoads_24 rfl rfl ?_
    obtain ⟨hi3, h⟩ := pp_ck h
    refine pp_ialoadJ hF (vK_6 _ (vp_lt hi2)) hi3 rfl dX2_countRoads_25 ?_
    refine pp_if_le (tgt := 33) hF dX2_countRoads_26 rfl (fun c4 => ?_) (fun c4 => ?_)
    · replace h := (if_pos c4).symm.trans h
      refine pp_iconst hF dX2_countRoads_29 ic_1 ?_
      refine pp_goto (tgt := 34) hF dX2_countRoads_30 rfl ?_
      refine pp_few [0, 2, 3] (lv' := [(0, ppR 4 0 0), (2, ppI a2), (3, ppI a3)]) rfl ?_
      exact e_X2_countRoads_34 hF hR hk4 hk12 h
    · replace h := (if_neg c4).symm.trans h
      refine pp_iconst hF dX2_countRoads_33 ic_0 ?_
      refine pp_few [0, 2, 3] (lv' := [(0, ppR 4 0 0), (2, ppI a2), (3, ppI a3)]) rfl ?_
      exact e_X2_countRoads_34 hF hR hk4 hk12 h
  · replace h := (if_neg c1).symm.trans h
    refine pp_iinc hF dX2_countRoads_42 rfl (congrArg (HAdd.hAdd _) ic_1) (by decide) (lv' := [(0, ppR 4 0 0), (1, ppI a1), (2, ppI (a2 + (1 : Int32))), (3, ppI a3)]) rfl ?_
    refine pp_goto (tgt := 4) hF dX2_countRoads_45 rfl ?_
    refine pp_few [0, 1, 2] (lv' := [(0, ppR 4 0 0), (1, ppI a1), (2, ppI (a2 + (1 : Int32)))]) rfl ?_
    exact hk4 h
set_option maxRecDepth 20000 in
theorem e_X2_countRoads_12_L {Γ : pp_G} {r' : Int32} {σ' : pp_M} (hF : pp_Fx Γ dsK cX2_countRoads 4 RX2 1 12) (hR : pp_Rt Γ dsK (some .int) (some (ppI r')) σ') {k4 : pp_M → Int32 → Int32 → Option (Int32 × pp_M)} (hk4 : ∀ {σ : pp_M} {a1 : Int32} {a2 : Int32}, k4 σ a1 a2 = some (r', σ') → pp_E Γ dsK cX2_countRoads 4 4 [(0, ppR 4 0 0), (1, ppI a1), (2, ppI a2)] [] σ) : ∀ {n : Nat} {σ : pp_M} {a1 : Int32} {a2 : Int32} {a3 : Int32}, f_X2_countRoads_12 k4 n σ a1 a2 a3 = some (r', σ') → pp_E Γ dsK cX2_countRoads 4 12 [(0, ppR 4 0 0), (1, ppI a1), (2, ppI a2), (3, ppI a3)] [] σ
  | 0, _, _, _, _ => fun h => by cases h
  | n + 1, _, _, _, _ => fun h => e_X2_countRoads_12 hF hR hk4 (fun h => e_X2_countRoads_12_L hF hR hk4 (n := n) h) h
set_option maxRecDepth 20000 in
theorem e_X2_countRoads_4 {Γ : pp_G} {r' : Int32} {σ' : pp_M} (hF : pp_Fx Γ dsK cX2_countRoads 4 RX2 1 12) (hR : pp_Rt Γ dsK (some .int) (some (ppI r')) σ') {σ : pp_M} {a1 : Int32} {a2 : Int32} {k4 : pp_M → Int32 → Int32 → Option (Int32 × pp_M)} (hk4 : ∀ {σ : pp_M} {a1 : Int32} {a2 : Int32}, k4 σ a1 a2 = some (r', σ') → pp_E Γ dsK cX2_countRoads 4 4 [(0, ppR 4 0 0), (1, ppI a1), (2, ppI a2)] [] σ) (h : f_X2_countRoads_4_B k4 σ a1 a2 = some (r', σ')) : pp_E Γ dsK cX2_countRoads 4 4 [(0, ppR 4 0 0), (1, ppI a1), (2, ppI a2)] [] σ := by
  unfold f_X2_countRoads_4_B at h
  refine pp_iload_n hF dX2_countRoads_4 rfl rfl ?_
  refine pp_bipush hF dX2_countRoads_5 bc_8 ?_
  refine pp_icmp_ge (tgt := 48) hF dX2_countRoads_7 rfl (fun c1 => ?_) (fun c1 => ?_)
  · replace h := (if_pos c1).symm.trans h
    refine pp_iconst hF dX2_countRoads_10 ic_0 ?_
    refine pp_istore_n hF dX2_countRoads_11 rfl (by decide) (lv' := [(0, ppR 4 0 0), (1, ppI a1), (2, ppI a2), (3, ppI (0 : Int32))]) rfl ?_
    exact e_X2_countRoads_12_L hF hR hk4 h
  · replace h := (if_neg c1).symm.trans h
    refine pp_iload_n hF dX2_countRoads_48 rfl rfl ?_
    obtain ⟨rfl, rfl⟩ := pp_i2 h
    exact pp_ireturn hF hR dX2_countRoads_49
set_option maxRecDepth 20000 in
theorem e_X2_countRoads_4_L {Γ : pp_G} {r' : Int32} {σ' : pp_M} (hF : pp_Fx Γ dsK cX2_countRoads 4 RX2 1 12) (hR : pp_Rt Γ dsK (some .int) (some (ppI r')) σ') : ∀ {n : Nat} {σ : pp_M} {a1 : Int32} {a2 : Int32}, f_X2_countRoads_4 n σ a1 a2 = some (r', σ') → pp_E Γ dsK cX2_countRoads 4 4 [(0, ppR 4 0 0), (1, ppI a1), (2, ppI a2)] [] σ
  | 0, _, _, _ => fun h => by cases h
  | n + 1, _, _, _ => fun h => e_X2_countRoads_4 hF hR (fun h => e_X2_countRoads_4_L hF hR (n := n) h) h
set_option maxRecDepth 20000 in
theorem e_X2_countRoads_0 {Γ : pp_G} {r' : Int32} {σ' : pp_M} (hF : pp_Fx Γ dsK cX2_countRoads 4 RX2 1 12) (hR : pp_Rt Γ dsK (some .int) (some (ppI r')) σ') {σ : pp_M}  (h : f_X2_countRoads σ  = some (r', σ')) : pp_E Γ dsK cX2_countRoads 4 0 [(0, ppR 4 0 0)] [] σ := by
  unfold f_X2_countRoads at h
  refine pp_iconst hF dX2_countRoads_0 ic_0 ?_
  refine pp_istore_n hF dX2_countRoads_1 rfl (by decide) (lv' := [(0, ppR 4 0 0), (1, ppI (0 : Int32))]) rfl ?_
  refine pp_iconst hF dX2_countRoads_2 ic_0 ?_
  refine pp_istore_n hF dX2_countRoads_3 rfl (by decide) (lv' := [(0, ppR 4 0 0), (1, ppI (0 : Int32)), (2, ppI (0 : Int32))]) rfl ?_
  exact e_X2_countRoads_4_L hF hR h
set_option maxRecDepth 20000 in
theorem c_X2_countRoads {r' : Int32} {σ' : pp_M} {σ : pp_M}  (h : f_X2_countRoads σ  = some (r', σ')) : pp_Ct yX2_countRoads cX2_countRoads 4 (some .int) 1 12 dsK [ppR 4 0 0] σ (some (ppI r')) σ' := pp_met pl_X2 rfl okK (Nat.le_of_ble_eq_true rfl) rfl (fun Γ hF hR => (e_X2_countRoads_0 hF hR h))
set_option maxRecDepth 20000 in
theorem e_X2_hoursOf_8 {Γ : pp_G} {r' : Int32} {σ' : pp_M} (hF : pp_Fx Γ dsK cX2_hoursOf 6 RX2 1 12) (hR : pp_Rt Γ dsK (some .int) (some (ppI r')) σ') {σ : pp_M} {a1t : Nat} {a1o : Nat} {a1n : Nat} {a2 : Int32} {a3 : Int32} {a4 : Int32} {a5 : Int32} {k8 : pp_M → Nat → Nat → Nat → Int32 → Int32 → Int32 → Int32 → Option (Int32 × pp_M)} (hk8 : ∀ {σ : pp_M} {a1t : Nat} {a1o : Nat} {a1n : Nat} {a2 : Int32} {a3 : Int32} {a4 : Int32} {a5 : Int32}, pp_ai dsK a1t a1o a1n → k8 σ a1t a1o a1n a2 a3 a4 a5 = some (r', σ') → pp_E Γ dsK cX2_hoursOf 6 8 [(0, ppR 4 0 0), (1, ppR a1t a1o a1n), (2, ppI a2), (3, ppI a3), (4, ppI a4), (5, ppI a5)] [] σ) (hv1 : pp_ai dsK a1t a1o a1n) (h : f_X2_hoursOf_8_B k8 σ a1t a1o a1n a2 a3 a4 a5 = some (r', σ')) : pp_E Γ dsK cX2_hoursOf 6 8 [(0, ppR 4 0 0), (1, ppR a1t a1o a1n), (2, ppI a2), (3, ppI a3), (4, ppI a4), (5, ppI a5)] [] σ := by
  unfold f_X2_hoursOf_8_B at h
  refine pp_iload hF dX2_hoursOf_8 rfl ?_
  refine pp_iload_n hF dX2_hoursOf_10 rfl rfl ?_
  refine pp_icmp_ge (tgt := 41) hF dX2_hoursOf_11 rfl (fun c1 => ?_) (fun c1 => ?_)
  · replace h := (if_pos c1).symm.trans h
    refine pp_iload_n hF dX2_hoursOf_14 rfl rfl ?_
    refine pp_aload_n hF dX2_hoursOf_15 rfl rfl ?_
    refine pp_getR hF fdK_X2_16 dX2_hoursOf_16 ?_
    refine pp_iload hF dX2_hoursOf_19 rfl ?_
    obtain ⟨hi2, h⟩ := pp_ck h
    refine pp_aaloadI hF vK_7 hi2 dX2_hoursOf_21 ?_
    refine pp_aload_n hF dX2_hoursOf_22 rfl rfl ?_
    refine pp_iload hF dX2_hoursOf_23 rfl ?_
    obtain ⟨hi3, h⟩ := pp_ck h
    refine pp_ialoadJ hF hv1 hi3 rfl dX2_hoursOf_25 ?_
    obtain ⟨hi4, h⟩ := pp_ck h
    refine pp_ialoadJ hF (vK_8 _ (vp_lt hi2)) hi4 rfl dX2_hoursOf_26 ?_
    refine pp_iadd hF dX2_hoursOf_27 ?_
    refine pp_istore_n hF dX2_hoursOf_28 rfl (by decide) (lv' := [(0, ppR 4 0 0), (1, ppR a1t a1o a1n), (2, ppI a2), (3, ppI (a3 + (σ.1 8 ((a4.toNatClampNeg * 8) + (σ.1 a1t (a1o + a5.toNatClampNeg)).toNatClampNeg)))), (4, ppI a4), (5, ppI a5)]) rfl ?_
    refine pp_aload_n hF dX2_hoursOf_29 rfl rfl ?_
    refine pp_iload hF dX2_hoursOf_30 rfl ?_
    refine pp_ialoadJ hF hv1 hi3 rfl dX2_hoursOf_32 ?_
    refine pp_istore hF dX2_hoursOf_33 (by decide) (lv' := [(0, ppR 4 0 0), (1, ppR a1t a1o a1n), (2, ppI a2), (3, ppI (a3 + (σ.1 8 ((a4.toNatClampNeg * 8) + (σ.1 a1t (a1o + a5.toNatClampNeg)).toNatClampNeg)))), (4, ppI (σ.1 a1t (a1o + a5.toNatClampNeg))), (5, ppI a5)]) rfl ?_
    refine pp_iinc hF dX2_hoursOf_35 rfl (congrArg (HAdd.hAdd _) ic_1) (by decide) (lv' := [(0, ppR 4 0 0), (1, ppR a1t a1o a1n), (2, ppI a2), (3, ppI (a3 + (σ.1 8 ((a4.toNatClampNeg * 8) + (σ.1 a1t (a1o + a5.toNatClampNeg)).toNatClampNeg)))), (4, ppI (σ.1 a1t (a1o + a5.toNatClampNeg))), (5, ppI (a5 + (1 : Int32)))]) rfl ?_
    refine pp_goto (tgt := 8) hF dX2_hoursOf_38 rfl ?_
    exact hk8 hv1 h
  · replace h := (if_neg c1).symm.trans h
    refine pp_iload_n hF dX2_hoursOf_41 rfl rfl ?_
    refine pp_aload_n hF dX2_hoursOf_42 rfl rfl ?_
    refine pp_getR hF fdK_X2_16 dX2_hoursOf_43 ?_
    refine pp_iload hF dX2_hoursOf_46 rfl ?_
    obtain ⟨hi5, h⟩ := pp_ck h
    refine pp_aaloadI hF vK_7 hi5 dX2_hoursOf_48 ?_
    refine pp_iconst hF dX2_hoursOf_49 ic_0 ?_
    refine pp_ialoadJ hF (vK_8 _ (vp_lt hi5)) vl_0_8 (congrArg (HAdd.hAdd _) cl_0) dX2_hoursOf_50 ?_
    refine pp_iadd hF dX2_hoursOf_51 ?_
    obtain ⟨rfl, rfl⟩ := pp_i2 h
    exact pp_ireturn hF hR dX2_hoursOf_52
set_option maxRecDepth 20000 in
theorem e_X2_hoursOf_8_L {Γ : pp_G} {r' : Int32} {σ' : pp_M} (hF : pp_Fx Γ dsK cX2_hoursOf 6 RX2 1 12) (hR : pp_Rt Γ dsK (some .int) (some (ppI r')) σ') : ∀ {n : Nat} {σ : pp_M} {a1t : Nat} {a1o : Nat} {a1n : Nat} {a2 : Int32} {a3 : Int32} {a4 : Int32} {a5 : Int32}, pp_ai dsK a1t a1o a1n → f_X2_hoursOf_8 n σ a1t a1o a1n a2 a3 a4 a5 = some (r', σ') → pp_E Γ dsK cX2_hoursOf 6 8 [(0, ppR 4 0 0), (1, ppR a1t a1o a1n), (2, ppI a2), (3, ppI a3), (4, ppI a4), (5, ppI a5)] [] σ
  | 0, _, _, _, _, _, _, _, _ => fun hv1 h => by cases h
  | n + 1, _, _, _, _, _, _, _, _ => fun hv1 h => e_X2_hoursOf_8 hF hR (fun hv1 h => e_X2_hoursOf_8_L hF hR (n := n) hv1 h) hv1 h
set_option maxRecDepth 20000 in
theorem e_X2_hoursOf_0 {Γ : pp_G} {r' : Int32} {σ' : pp_M} (hF : pp_Fx Γ dsK cX2_hoursOf 6 RX2 1 12) (hR : pp_Rt Γ dsK (some .int) (some (ppI r')) σ') {σ : pp_M} {a1t : Nat} {a1o : Nat} {a1n : Nat} {a2 : Int32} (hv1 : pp_ai dsK a1t a1o a1n) (h : f_X2_hoursOf σ a1t a1o a1n a2 = some (r', σ')) : pp_E Γ dsK cX2_hoursOf 6 0 [(0, ppR 4 0 0), (1, ppR a1t a1o a1n), (2, ppI a2)] [] σ := by
  unfold f_X2_hoursOf at h
  refine pp_iconst hF dX2_hoursOf_0 ic_0 ?_
  refine pp_istore_n hF dX2_hoursOf_1 rfl (by decide) (lv' := [(0, ppR 4 0 0), (1, ppR a1t a1o a1n), (2, ppI a2), (3, ppI (0 : Int32))]) rfl ?_
  refine pp_iconst hF dX2_hoursOf_2 ic_0 ?_
  refine pp_istore hF dX2_hoursOf_3 (by decide) (lv' := [(0, ppR 4 0 0), (1, ppR a1t a1o a1n), (2, ppI a2), (3, ppI (0 : Int32)), (4, ppI (0 : Int32))]) rfl ?_
  refine pp_iconst hF dX2_hoursOf_5 ic_0 ?_
  refine pp_istore hF dX2_hoursOf_6 (by decide) (lv' := [(0, ppR 4 0 0), (1, ppR a1t a1o a1n), (2, ppI a2), (3, ppI (0 : Int32)), (4, ppI (0 : Int32)), (5, ppI (0 : Int32))]) rfl ?_
  exact e_X2_hoursOf_8_L hF hR hv1 h
set_option maxRecDepth 20000 in
theorem c_X2_hoursOf {r' : Int32} {σ' : pp_M} {σ : pp_M} {a1t a1o a1n : Nat} {a2 : Int32} (hv1 : pp_ai dsK a1t a1o a1n) (h : f_X2_hoursOf σ a1t a1o a1n a2 = some (r', σ')) : pp_Ct yX2_hoursOf cX2_hoursOf 6 (some .int) 1 12 dsK [ppR 4 0 0, ppR a1t a1o a1n, ppI a2] σ (some (ppI r')) σ' := pp_met pl_X2 rfl okK (Nat.le_of_ble_eq_true rfl) rfl (fun Γ hF hR => (e_X2_hoursOf_0 hF hR hv1 h))
set_option maxRecDepth 20000 in
theorem e_X3_append_0 {Γ : pp_G} {r' : Int32} {σ' : pp_M} (hF : pp_Fx Γ dsK cX3_append 2 RX3 1 12) (hR : pp_Rt Γ dsK (some .boolean) (some (ppI r')) σ') {σ : pp_M} {a1 : Int32} (h : f_X3_append σ a1 = some (r', σ')) : pp_E Γ dsK cX3_append 2 0 [(0, ppR 13 0 0), (1, ppI a1)] [] σ := by
  unfold f_X3_append at h
  refine pp_aload_n hF dX3_append_0 rfl rfl ?_
  refine pp_getI hF fdK_X3_28 dX3_append_1 ?_
  refine pp_bipush hF dX3_append_4 bc_40 ?_
  refine pp_icmp_lt (tgt := 11) hF dX3_append_6 rfl (fun c1 => ?_) (fun c1 => ?_)
  · replace h := (if_pos c1).symm.trans h
    refine pp_aload_n hF dX3_append_11 rfl rfl ?_
    refine pp_getR hF fdK_X3_9 dX3_append_12 ?_
    refine pp_aload_n hF dX3_append_15 rfl rfl ?_
    refine pp_getI hF fdK_X3_28 dX3_append_16 ?_
    refine pp_iload_n hF dX3_append_19 rfl rfl ?_
    obtain ⟨hi2, h⟩ := pp_ck h
    refine pp_iastoreJ hF vK_14 hi2 (Nat.zero_add _) dX3_append_20 ?_
    refine pp_aload_n hF dX3_append_21 rfl rfl ?_
    refine pp_dupR hF dX3_append_22 ?_
    refine pp_getI hF fdK_X3_28 dX3_append_23 ?_
    refine pp_iconst hF dX3_append_26 ic_1 ?_
    refine pp_iadd hF dX3_append_27 ?_
    refine pp_putI hF fwK_X3_28 dX3_append_28 ?_
    refine pp_iconst hF dX3_append_31 ic_1 ?_
    obtain ⟨rfl, rfl⟩ := pp_i2 h
    exact pp_zreturn hF hR rfl dX3_append_32
  · replace h := (if_neg c1).symm.trans h
    refine pp_iconst hF dX3_append_9 ic_0 ?_
    obtain ⟨rfl, rfl⟩ := pp_i2 h
    exact pp_zreturn hF hR rfl dX3_append_10
set_option maxRecDepth 20000 in
theorem c_X3_append {r' : Int32} {σ' : pp_M} {σ : pp_M} {a1 : Int32} (h : f_X3_append σ a1 = some (r', σ')) : pp_Ct yX3_append cX3_append 2 (some .boolean) 1 12 dsK [ppR 13 0 0, ppI a1] σ (some (ppI r')) σ' := pp_met pl_X3 rfl okK (Nat.le_of_ble_eq_true rfl) rfl (fun Γ hF hR => (e_X3_append_0 hF hR h))
set_option maxRecDepth 20000 in
theorem e_X3_figureAt_0 {Γ : pp_G} {r' : Int32} {σ' : pp_M} (hF : pp_Fx Γ dsK cX3_figureAt 2 RX3 2 34) (hR : pp_Rt Γ dsK (some .int) (some (ppI r')) σ') {σ : pp_M} {a1 : Int32} (h : f_X3_figureAt σ a1 = some (r', σ')) : pp_E Γ dsK cX3_figureAt 2 0 [(0, ppR 13 0 0), (1, ppI a1)] [] σ := by
  unfold f_X3_figureAt at h
  refine pp_iload_n hF dX3_figureAt_0 rfl rfl ?_
  refine pp_aload_n hF dX3_figureAt_1 rfl rfl ?_
  refine pp_getI hF fdK_X3_28 dX3_figureAt_2 ?_
  refine pp_icmp_ge (tgt := 36) hF dX3_figureAt_5 rfl (fun c1 => ?_) (fun c1 => ?_)
  · replace h := (if_pos c1).symm.trans h
    refine pp_aload_n hF dX3_figureAt_8 rfl rfl ?_
    refine pp_getR hF fdK_X3_9 dX3_figureAt_9 ?_
    refine pp_iload_n hF dX3_figureAt_12 rfl rfl ?_
    obtain ⟨hi2, h⟩ := pp_ck h
    refine pp_ialoadJ hF vK_14 hi2 (Nat.zero_add _) dX3_figureAt_13 ?_
    refine pp_bipush hF dX3_figureAt_14 bc_48 ?_
    refine pp_bipush hF dX3_figureAt_16 bc_57 ?_
    obtain ⟨x18, hx18, h⟩ := pp_bd h
    refine pp_callSi hF (c_X8_within hx18) mS_X8_within lk_X3_58 rfl rfl ⟨by decide, by decide⟩ (Nat.le_of_ble_eq_true rfl) dX3_figureAt_18 ?_
    refine pp_if_eq (tgt := 36) hF dX3_figureAt_21 rfl (fun c4 => ?_) (fun c4 => ?_)
    · replace h := (if_pos c4).symm.trans h
      refine pp_iconst hF dX3_figureAt_36 ic_n1 ?_
      obtain ⟨rfl, rfl⟩ := pp_i2 h
      exact pp_ireturn hF hR dX3_figureAt_37
    · replace h := (if_neg c4).symm.trans h
      refine pp_aload_n hF dX3_figureAt_24 rfl rfl ?_
      refine pp_getR hF fdK_X3_9 dX3_figureAt_25 ?_
      refine pp_iload_n hF dX3_figureAt_28 rfl rfl ?_
      refine pp_ialoadJ hF vK_14 hi2 (Nat.zero_add _) dX3_figureAt_29 ?_
      refine pp_bipush hF dX3_figureAt_30 bc_48 ?_
      refine pp_isub hF dX3_figureAt_32 ?_
      refine pp_goto (tgt := 37) hF dX3_figureAt_33 rfl ?_
      obtain ⟨rfl, rfl⟩ := pp_i2 h
      exact pp_ireturn hF hR dX3_figureAt_37
  · replace h := (if_neg c1).symm.trans h
    refine pp_iconst hF dX3_figureAt_36 ic_n1 ?_
    obtain ⟨rfl, rfl⟩ := pp_i2 h
    exact pp_ireturn hF hR dX3_figureAt_37
set_option maxRecDepth 20000 in
theorem c_X3_figureAt {r' : Int32} {σ' : pp_M} {σ : pp_M} {a1 : Int32} (h : f_X3_figureAt σ a1 = some (r', σ')) : pp_Ct yX3_figureAt cX3_figureAt 2 (some .int) 2 34 dsK [ppR 13 0 0, ppI a1] σ (some (ppI r')) σ' := pp_met pl_X3 rfl okK (Nat.le_of_ble_eq_true rfl) rfl (fun Γ hF hR => (e_X3_figureAt_0 hF hR h))
set_option maxRecDepth 20000 in
theorem e_X3_isAt_0 {Γ : pp_G} {r' : Int32} {σ' : pp_M} (hF : pp_Fx Γ dsK cX3_isAt 3 RX3 1 12) (hR : pp_Rt Γ dsK (some .boolean) (some (ppI r')) σ') {σ : pp_M} {a1 : Int32} {a2 : Int32} (h : f_X3_isAt σ a1 a2 = some (r', σ')) : pp_E Γ dsK cX3_isAt 3 0 [(0, ppR 13 0 0), (1, ppI a1), (2, ppI a2)] [] σ := by
  unfold f_X3_isAt at h
  refine pp_iload_n hF dX3_isAt_0 rfl rfl ?_
  refine pp_aload_n hF dX3_isAt_1 rfl rfl ?_
  refine pp_getI hF fdK_X3_28 dX3_isAt_2 ?_
  refine pp_icmp_ge (tgt := 22) hF dX3_isAt_5 rfl (fun c1 => ?_) (fun c1 => ?_)
  · replace h := (if_pos c1).symm.trans h
    refine pp_aload_n hF dX3_isAt_8 rfl rfl ?_
    refine pp_getR hF fdK_X3_9 dX3_isAt_9 ?_
    refine pp_iload_n hF dX3_isAt_12 rfl rfl ?_
    obtain ⟨hi2, h⟩ := pp_ck h
    refine pp_ialoadJ hF vK_14 hi2 (Nat.zero_add _) dX3_isAt_13 ?_
    refine pp_iload_n hF dX3_isAt_14 rfl rfl ?_
    refine pp_icmp_ne (tgt := 22) hF dX3_isAt_15 rfl (fun c3 => ?_) (fun c3 => ?_)
    · replace h := (if_pos c3).symm.trans h
      refine pp_iconst hF dX3_isAt_18 ic_1 ?_
      refine pp_goto (tgt := 23) hF dX3_isAt_19 rfl ?_
      obtain ⟨rfl, rfl⟩ := pp_i2 h
      exact pp_zreturn hF hR rfl dX3_isAt_23
    · replace h := (if_neg c3).symm.trans h
      refine pp_iconst hF dX3_isAt_22 ic_0 ?_
      obtain ⟨rfl, rfl⟩ := pp_i2 h
      exact pp_zreturn hF hR rfl dX3_isAt_23
  · replace h := (if_neg c1).symm.trans h
    refine pp_iconst hF dX3_isAt_22 ic_0 ?_
    obtain ⟨rfl, rfl⟩ := pp_i2 h
    exact pp_zreturn hF hR rfl dX3_isAt_23
set_option maxRecDepth 20000 in
theorem c_X3_isAt {r' : Int32} {σ' : pp_M} {σ : pp_M} {a1 : Int32} {a2 : Int32} (h : f_X3_isAt σ a1 a2 = some (r', σ')) : pp_Ct yX3_isAt cX3_isAt 3 (some .boolean) 1 12 dsK [ppR 13 0 0, ppI a1, ppI a2] σ (some (ppI r')) σ' := pp_met pl_X3 rfl okK (Nat.le_of_ble_eq_true rfl) rfl (fun Γ hF hR => (e_X3_isAt_0 hF hR h))
set_option maxRecDepth 20000 in
theorem e_X3_readChances_146 {Γ : pp_G} {r' : Int32} {σ' : pp_M} (hF : pp_Fx Γ dsK cX3_readChances 7 RX3 3 55) (hR : pp_Rt Γ dsK (some .int) (some (ppI r')) σ') {σ : pp_M}  (h : f_X3_readChances_146 σ  = some (r', σ')) : pp_E Γ dsK cX3_readChances 7 146 [] [] σ := by
  unfold f_X3_readChances_146 at h
  refine pp_iconst hF dX3_readChances_146 ic_n1 ?_
  refine pp_goto (tgt := 151) hF dX3_readChances_147 rfl ?_
  obtain ⟨rfl, rfl⟩ := pp_i2 h
  exact pp_ireturn hF hR dX3_readChances_151
set_option maxRecDepth 20000 in
theorem e_X3_readChances_115 {Γ : pp_G} {r' : Int32} {σ' : pp_M} (hF : pp_Fx Γ dsK cX3_readChances 7 RX3 3 55) (hR : pp_Rt Γ dsK (some .int) (some (ppI r')) σ') {σ : pp_M} {a3 : Int32} {a4 : Int32} {b0 : Int32} {b1 : Int32} {k8 : pp_M → Int32 → Int32 → Int32 → Option (Int32 × pp_M)} (hk8 : ∀ {σ : pp_M} {a2 : Int32} {a3 : Int32} {a4 : Int32}, k8 σ a2 a3 a4 = some (r', σ') → pp_E Γ dsK cX3_readChances 7 8 [(0, ppR 13 0 0), (2, ppI a2), (3, ppI a3), (4, ppI a4)] [] σ) (h : f_X3_readChances_115 k8 σ a3 a4 b0 b1 = some (r', σ')) : pp_E Γ dsK cX3_readChances 7 115 [(0, ppR 13 0 0), (3, ppI a3), (4, ppI a4)] [ppI b1, ppI b0] σ := by
  unfold f_X3_readChances_115 at h
  refine pp_iadd hF dX3_readChances_115 ?_
  refine pp_istore_n hF dX3_readChances_116 rfl (by decide) (lv' := [(0, ppR 13 0 0), (2, ppI (b0 + b1)), (3, ppI a3), (4, ppI a4)]) rfl ?_
  refine pp_iinc hF dX3_readChances_117 rfl (congrArg (HAdd.hAdd _) ic_1) (by decide) (lv' := [(0, ppR 13 0 0), (2, ppI (b0 + b1)), (3, ppI a3), (4, ppI (a4 + (1 : Int32)))]) rfl ?_
  refine pp_goto (tgt := 8) hF dX3_readChances_120 rfl ?_
  exact hk8 h
set_option maxRecDepth 20000 in
theorem e_X3_readChances_80 {Γ : pp_G} {r' : Int32} {σ' : pp_M} (hF : pp_Fx Γ dsK cX3_readChances 7 RX3 3 55) (hR : pp_Rt Γ dsK (some .int) (some (ppI r')) σ') {σ : pp_M} {a2 : Int32} {a3 : Int32} {a4 : Int32} {a5 : Int32} {a6 : Int32} {k8 : pp_M → Int32 → Int32 → Int32 → Option (Int32 × pp_M)} (hk8 : ∀ {σ : pp_M} {a2 : Int32} {a3 : Int32} {a4 : Int32}, k8 σ a2 a3 a4 = some (r', σ') → pp_E Γ dsK cX3_readChances 7 8 [(0, ppR 13 0 0), (2, ppI a2), (3, ppI a3), (4, ppI a4)] [] σ) (h : f_X3_readChances_80 k8 σ a2 a3 a4 a5 a6 = some (r', σ')) : pp_E Γ dsK cX3_readChances 7 80 [(0, ppR 13 0 0), (2, ppI a2), (3, ppI a3), (4, ppI a4), (5, ppI a5), (6, ppI a6)] [] σ := by
  unfold f_X3_readChances_80 at h
  refine pp_iload hF dX3_readChances_80 rfl ?_
  refine pp_iconst hF dX3_readChances_82 ic_0 ?_
  refine pp_iload_n hF dX3_readChances_83 rfl rfl ?_
  obtain ⟨x84, hx84, h⟩ := pp_bd h
  refine pp_callSi hF (c_X8_within hx84) mS_X8_within lk_X3_58 rfl rfl ⟨by decide, by decide⟩ (Nat.le_of_ble_eq_true rfl) dX3_readChances_84 ?_
  refine pp_if_ne (tgt := 92) hF dX3_readChances_87 rfl (fun c2 => ?_) (fun c2 => ?_)
  · replace h := (if_pos c2).symm.trans h
    refine pp_iload_n hF dX3_readChances_90 rfl rfl ?_
    obtain ⟨rfl, rfl⟩ := pp_i2 h
    exact pp_ireturn hF hR dX3_readChances_91
  · replace h := (if_neg c2).symm.trans h
    refine pp_aload_n hF dX3_readChances_92 rfl rfl ?_
    refine pp_getR hF fdK_X3_15 dX3_readChances_93 ?_
    refine pp_iload hF dX3_readChances_96 rfl ?_
    refine pp_iload hF dX3_readChances_98 rfl ?_
    obtain ⟨hi3, h⟩ := pp_ck h
    refine pp_iastoreJ hF vK_15 hi3 (Nat.zero_add _) dX3_readChances_100 ?_
    refine pp_iload hF dX3_readChances_101 rfl ?_
    refine pp_istore_n hF dX3_readChances_103 rfl (by decide) (lv' := [(0, ppR 13 0 0), (2, ppI a2), (3, ppI a5), (4, ppI a4), (5, ppI a5), (6, ppI a6)]) rfl ?_
    refine pp_iload_n hF dX3_readChances_104 rfl rfl ?_
    refine pp_iload hF dX3_readChances_105 rfl ?_
    refine pp_if_lt (tgt := 114) hF dX3_readChances_107 rfl (fun c4 => ?_) (fun c4 => ?_)
    · replace h := (if_pos c4).symm.trans h
      refine pp_iconst hF dX3_readChances_114 ic_1 ?_
      refine pp_few [0, 2, 3] (lv' := [(0, ppR 13 0 0), (3, ppI a5), (4, ppI a4)]) rfl ?_
      exact e_X3_readChances_115 hF hR hk8 h
    · replace h := (if_neg c4).symm.trans h
      refine pp_iconst hF dX3_readChances_110 ic_2 ?_
      refine pp_goto (tgt := 115) hF dX3_readChances_111 rfl ?_
      refine pp_few [0, 2, 3] (lv' := [(0, ppR 13 0 0), (3, ppI a5), (4, ppI a4)]) rfl ?_
      exact e_X3_readChances_115 hF hR hk8 h
set_option maxRecDepth 20000 in
theorem e_X3_readChances_42 {Γ : pp_G} {r' : Int32} {σ' : pp_M} (hF : pp_Fx Γ dsK cX3_readChances 7 RX3 3 55) (hR : pp_Rt Γ dsK (some .int) (some (ppI r')) σ') {σ : pp_M} {a3 : Int32} {a4 : Int32} {b0 : Int32} {b1 : Int32} {k8 : pp_M → Int32 → Int32 → Int32 → Option (Int32 × pp_M)} (hk8 : ∀ {σ : pp_M} {a2 : Int32} {a3 : Int32} {a4 : Int32}, k8 σ a2 a3 a4 = some (r', σ') → pp_E Γ dsK cX3_readChances 7 8 [(0, ppR 13 0 0), (2, ppI a2), (3, ppI a3), (4, ppI a4)] [] σ) (h : f_X3_readChances_42 k8 σ a3 a4 b0 b1 = some (r', σ')) : pp_E Γ dsK cX3_readChances 7 42 [(0, ppR 13 0 0), (3, ppI a3), (4, ppI a4)] [ppI b1, ppI b0] σ := by
  unfold f_X3_readChances_42 at h
  refine pp_iadd hF dX3_readChances_42 ?_
  refine pp_istore_n hF dX3_readChances_43 rfl (by decide) (lv' := [(0, ppR 13 0 0), (2, ppI (b0 + b1)), (3, ppI a3), (4, ppI a4)]) rfl ?_
  refine pp_aload_n hF dX3_readChances_44 rfl rfl ?_
  refine pp_iload_n hF dX3_readChances_45 rfl rfl ?_
  obtain ⟨x46, hx46, h⟩ := pp_bd h
  refine pp_callVi hF (c_X3_figureAt hx46) mV_X3_figureAt lk_X3_41 obK_13 rfl rfl ⟨by decide, by decide⟩ (Nat.le_of_ble_eq_true rfl) dX3_readChances_46 ?_
  refine pp_istore hF dX3_readChances_49 (by decide) (lv' := [(0, ppR 13 0 0), (2, ppI (b0 + b1)), (3, ppI a3), (4, ppI a4), (5, ppI x46.1)]) rfl ?_
  refine pp_aload_n hF dX3_readChances_51 rfl rfl ?_
  refine pp_iload_n hF dX3_readChances_52 rfl rfl ?_
  refine pp_iconst hF dX3_readChances_53 ic_1 ?_
  refine pp_iadd hF dX3_readChances_54 ?_
  obtain ⟨x55, hx55, h⟩ := pp_bd h
  refine pp_callVi hF (c_X3_figureAt hx55) mV_X3_figureAt lk_X3_41 obK_13 rfl rfl ⟨by decide, by decide⟩ (Nat.le_of_ble_eq_true rfl) dX3_readChances_55 ?_
  refine pp_istore hF dX3_readChances_58 (by decide) (lv' := [(0, ppR 13 0 0), (2, ppI (b0 + b1)), (3, ppI a3), (4, ppI a4), (5, ppI x46.1), (6, ppI x55.1)]) rfl ?_
  refine pp_iload hF dX3_readChances_60 rfl ?_
  refine pp_if_lt (tgt := 80) hF dX3_readChances_62 rfl (fun c3 => ?_) (fun c3 => ?_)
  · replace h := (if_pos c3).symm.trans h
    exact e_X3_readChances_80 hF hR hk8 h
  · replace h := (if_neg c3).symm.trans h
    refine pp_iload hF dX3_readChances_65 rfl ?_
    refine pp_if_lt (tgt := 80) hF dX3_readChances_67 rfl (fun c4 => ?_) (fun c4 => ?_)
    · replace h := (if_pos c4).symm.trans h
      exact e_X3_readChances_80 hF hR hk8 h
    · replace h := (if_neg c4).symm.trans h
      refine pp_bipush hF dX3_readChances_70 bc_10 ?_
      refine pp_iload hF dX3_readChances_72 rfl ?_
      refine pp_imul hF dX3_readChances_74 ?_
      refine pp_iload hF dX3_readChances_75 rfl ?_
      refine pp_iadd hF dX3_readChances_77 ?_
      refine pp_istore hF dX3_readChances_78 (by decide) (lv' := [(0, ppR 13 0 0), (2, ppI (b0 + b1)), (3, ppI a3), (4, ppI a4), (5, ppI (((10 : Int32) * x46.1) + x55.1)), (6, ppI x55.1)]) rfl ?_
      exact e_X3_readChances_80 hF hR hk8 h
set_option maxRecDepth 20000 in
theorem e_X3_readChances_31 {Γ : pp_G} {r' : Int32} {σ' : pp_M} (hF : pp_Fx Γ dsK cX3_readChances 7 RX3 3 55) (hR : pp_Rt Γ dsK (some .int) (some (ppI r')) σ') {σ : pp_M} {a2 : Int32} {a3 : Int32} {a4 : Int32} {k8 : pp_M → Int32 → Int32 → Int32 → Option (Int32 × pp_M)} (hk8 : ∀ {σ : pp_M} {a2 : Int32} {a3 : Int32} {a4 : Int32}, k8 σ a2 a3 a4 = some (r', σ') → pp_E Γ dsK cX3_readChances 7 8 [(0, ppR 13 0 0), (2, ppI a2), (3, ppI a3), (4, ppI a4)] [] σ) (h : f_X3_readChances_31 k8 σ a2 a3 a4 = some (r', σ')) : pp_E Γ dsK cX3_readChances 7 31 [(0, ppR 13 0 0), (2, ppI a2), (3, ppI a3), (4, ppI a4)] [] σ := by
  unfold f_X3_readChances_31 at h
  refine pp_iload_n hF dX3_readChances_31 rfl rfl ?_
  refine pp_iload hF dX3_readChances_32 rfl ?_
  refine pp_if_le (tgt := 41) hF dX3_readChances_34 rfl (fun c1 => ?_) (fun c1 => ?_)
  · replace h := (if_pos c1).symm.trans h
    refine pp_iconst hF dX3_readChances_37 ic_1 ?_
    refine pp_goto (tgt := 42) hF dX3_readChances_38 rfl ?_
    refine pp_few [0, 2, 3] (lv' := [(0, ppR 13 0 0), (3, ppI a3), (4, ppI a4)]) rfl ?_
    exact e_X3_readChances_42 hF hR hk8 h
  · replace h := (if_neg c1).symm.trans h
    refine pp_iconst hF dX3_readChances_41 ic_0 ?_
    refine pp_few [0, 2, 3] (lv' := [(0, ppR 13 0 0), (3, ppI a3), (4, ppI a4)]) rfl ?_
    exact e_X3_readChances_42 hF hR hk8 h
set_option maxRecDepth 20000 in
theorem e_X3_readChances_8 {Γ : pp_G} {r' : Int32} {σ' : pp_M} (hF : pp_Fx Γ dsK cX3_readChances 7 RX3 3 55) (hR : pp_Rt Γ dsK (some .int) (some (ppI r')) σ') {σ : pp_M} {a2 : Int32} {a3 : Int32} {a4 : Int32} {k8 : pp_M → Int32 → Int32 → Int32 → Option (Int32 × pp_M)} (hk8 : ∀ {σ : pp_M} {a2 : Int32} {a3 : Int32} {a4 : Int32}, k8 σ a2 a3 a4 = some (r', σ') → pp_E Γ dsK cX3_readChances 7 8 [(0, ppR 13 0 0), (2, ppI a2), (3, ppI a3), (4, ppI a4)] [] σ) (h : f_X3_readChances_8_B k8 σ a2 a3 a4 = some (r', σ')) : pp_E Γ dsK cX3_readChances 7 8 [(0, ppR 13 0 0), (2, ppI a2), (3, ppI a3), (4, ppI a4)] [] σ := by
  unfold f_X3_readChances_8_B at h
  refine pp_iload hF dX3_readChances_8 rfl ?_
  refine pp_iconst hF dX3_readChances_10 ic_3 ?_
  refine pp_icmp_ge (tgt := 123) hF dX3_readChances_11 rfl (fun c1 => ?_) (fun c1 => ?_)
  · replace h := (if_pos c1).symm.trans h
    refine pp_iload hF dX3_readChances_14 rfl ?_
    refine pp_if_le (tgt := 31) hF dX3_readChances_16 rfl (fun c2 => ?_) (fun c2 => ?_)
    · replace h := (if_pos c2).symm.trans h
      refine pp_aload_n hF dX3_readChances_19 rfl rfl ?_
      refine pp_iload_n hF dX3_readChances_20 rfl rfl ?_
      refine pp_bipush hF dX3_readChances_21 bc_44 ?_
      obtain ⟨x23, hx23, h⟩ := pp_bd h
      refine pp_callVi hF (c_X3_isAt hx23) mV_X3_isAt lk_X3_48 obK_13 rfl rfl ⟨by decide, by decide⟩ (Nat.le_of_ble_eq_true rfl) dX3_readChances_23 ?_
      refine pp_if_ne (tgt := 31) hF dX3_readChances_26 rfl (fun c4 => ?_) (fun c4 => ?_)
      · replace h := (if_pos c4).symm.trans h
        refine pp_iload_n hF dX3_readChances_29 rfl rfl ?_
        obtain ⟨rfl, rfl⟩ := pp_i2 h
        exact pp_ireturn hF hR dX3_readChances_30
      · replace h := (if_neg c4).symm.trans h
        exact e_X3_readChances_31 hF hR hk8 h
    · replace h := (if_neg c2).symm.trans h
      exact e_X3_readChances_31 hF hR hk8 h
  · replace h := (if_neg c1).symm.trans h
    refine pp_aload_n hF dX3_readChances_123 rfl rfl ?_
    refine pp_iload_n hF dX3_readChances_124 rfl rfl ?_
    refine pp_putI hF fwK_X3_25 dX3_readChances_125 ?_
    refine pp_iload_n hF dX3_readChances_128 rfl rfl ?_
    refine pp_aload_n hF dX3_readChances_129 rfl rfl ?_
    refine pp_getI hF fdK_X3_28 dX3_readChances_130 ?_
    refine pp_icmp_ge (tgt := 146) hF dX3_readChances_133 rfl (fun c5 => ?_) (fun c5 => ?_)
    · replace h := (if_pos c5).symm.trans h
      refine pp_aload_n hF dX3_readChances_136 rfl rfl ?_
      refine pp_iload_n hF dX3_readChances_137 rfl rfl ?_
      refine pp_bipush hF dX3_readChances_138 bc_59 ?_
      obtain ⟨x140, hx140, h⟩ := pp_bd h
      refine pp_callVi hF (c_X3_isAt hx140) mV_X3_isAt lk_X3_48 obK_13 rfl rfl ⟨by decide, by decide⟩ (Nat.le_of_ble_eq_true rfl) dX3_readChances_140 ?_
      refine pp_if_eq (tgt := 150) hF dX3_readChances_143 rfl (fun c7 => ?_) (fun c7 => ?_)
      · replace h := (if_pos c7).symm.trans h
        refine pp_iload_n hF dX3_readChances_150 rfl rfl ?_
        obtain ⟨rfl, rfl⟩ := pp_i2 h
        exact pp_ireturn hF hR dX3_readChances_151
      · replace h := (if_neg c7).symm.trans h
        refine pp_few [] (lv' := []) rfl ?_
        exact e_X3_readChances_146 hF hR h
    · replace h := (if_neg c5).symm.trans h
      refine pp_few [] (lv' := []) rfl ?_
      exact e_X3_readChances_146 hF hR h
set_option maxRecDepth 20000 in
theorem e_X3_readChances_8_L {Γ : pp_G} {r' : Int32} {σ' : pp_M} (hF : pp_Fx Γ dsK cX3_readChances 7 RX3 3 55) (hR : pp_Rt Γ dsK (some .int) (some (ppI r')) σ') : ∀ {n : Nat} {σ : pp_M} {a2 : Int32} {a3 : Int32} {a4 : Int32}, f_X3_readChances_8 n σ a2 a3 a4 = some (r', σ') → pp_E Γ dsK cX3_readChances 7 8 [(0, ppR 13 0 0), (2, ppI a2), (3, ppI a3), (4, ppI a4)] [] σ
  | 0, _, _, _, _ => fun h => by cases h
  | n + 1, _, _, _, _ => fun h => e_X3_readChances_8 hF hR (fun h => e_X3_readChances_8_L hF hR (n := n) h) h
set_option maxRecDepth 20000 in
theorem e_X3_readChances_0 {Γ : pp_G} {r' : Int32} {σ' : pp_M} (hF : pp_Fx Γ dsK cX3_readChances 7 RX3 3 55) (hR : pp_Rt Γ dsK (some .int) (some (ppI r')) σ') {σ : pp_M} {a1 : Int32} (h : f_X3_readChances σ a1 = some (r', σ')) : pp_E Γ dsK cX3_readChances 7 0 [(0, ppR 13 0 0), (1, ppI a1)] [] σ := by
  unfold f_X3_readChances at h
  refine pp_iload_n hF dX3_readChances_0 rfl rfl ?_
  refine pp_istore_n hF dX3_readChances_1 rfl (by decide) (lv' := [(0, ppR 13 0 0), (1, ppI a1), (2, ppI a1)]) rfl ?_
  refine pp_bipush hF dX3_readChances_2 bc_16 ?_
  refine pp_istore_n hF dX3_readChances_4 rfl (by decide) (lv' := [(0, ppR 13 0 0), (1, ppI a1), (2, ppI a1), (3, ppI (16 : Int32))]) rfl ?_
  refine pp_iconst hF dX3_readChances_5 ic_0 ?_
  refine pp_istore hF dX3_readChances_6 (by decide) (lv' := [(0, ppR 13 0 0), (1, ppI a1), (2, ppI a1), (3, ppI (16 : Int32)), (4, ppI (0 : Int32))]) rfl ?_
  refine pp_few [0, 2, 3, 4] (lv' := [(0, ppR 13 0 0), (2, ppI a1), (3, ppI (16 : Int32)), (4, ppI (0 : Int32))]) rfl ?_
  exact e_X3_readChances_8_L hF hR h
set_option maxRecDepth 20000 in
theorem c_X3_readChances {r' : Int32} {σ' : pp_M} {σ : pp_M} {a1 : Int32} (h : f_X3_readChances σ a1 = some (r', σ')) : pp_Ct yX3_readChances cX3_readChances 7 (some .int) 3 55 dsK [ppR 13 0 0, ppI a1] σ (some (ppI r')) σ' := pp_met pl_X3 rfl okK (Nat.le_of_ble_eq_true rfl) rfl (fun Γ hF hR => (e_X3_readChances_0 hF hR h))
set_option maxRecDepth 20000 in
theorem e_X8_isFarm_0 {Γ : pp_G} {r' : Int32} {σ' : pp_M} (hF : pp_Fx Γ dsK cX8_isFarm 1 RX8 2 34) (hR : pp_Rt Γ dsK (some .boolean) (some (ppI r')) σ') {σ : pp_M} {a0 : Int32} (h : f_X8_isFarm σ a0 = some (r', σ')) : pp_E Γ dsK cX8_isFarm 1 0 [(0, ppI a0)] [] σ := by
  unfold f_X8_isFarm at h
  refine pp_iload_n hF dX8_isFarm_0 rfl rfl ?_
  refine pp_iconst hF dX8_isFarm_1 ic_1 ?_
  refine pp_bipush hF dX8_isFarm_2 bc_7 ?_
  obtain ⟨x4, hx4, h⟩ := pp_bd h
  refine pp_callSi hF (c_X8_within hx4) mS_X8_within lk_X8_95 rfl rfl ⟨by decide, by decide⟩ (Nat.le_of_ble_eq_true rfl) dX8_isFarm_4 ?_
  obtain ⟨hb2, h⟩ := pp_ck h
  obtain ⟨rfl, rfl⟩ := pp_i2 h
  exact pp_zreturn hF hR (pp_bn hb2) dX8_isFarm_7
set_option maxRecDepth 20000 in
theorem c_X8_isFarm {r' : Int32} {σ' : pp_M} {σ : pp_M} {a0 : Int32} (h : f_X8_isFarm σ a0 = some (r', σ')) : pp_Ct yX8_isFarm cX8_isFarm 1 (some .boolean) 2 34 dsK [ppI a0] σ (some (ppI r')) σ' := pp_met pl_X8 rfl okK (Nat.le_of_ble_eq_true rfl) rfl (fun Γ hF hR => (e_X8_isFarm_0 hF hR h))
set_option maxRecDepth 20000 in
theorem e_X8_isThing_0 {Γ : pp_G} {r' : Int32} {σ' : pp_M} (hF : pp_Fx Γ dsK cX8_isThing 1 RX8 2 34) (hR : pp_Rt Γ dsK (some .boolean) (some (ppI r')) σ') {σ : pp_M} {a0 : Int32} (h : f_X8_isThing σ a0 = some (r', σ')) : pp_E Γ dsK cX8_isThing 1 0 [(0, ppI a0)] [] σ := by
  unfold f_X8_isThing at h
  refine pp_iload_n hF dX8_isThing_0 rfl rfl ?_
  refine pp_iconst hF dX8_isThing_1 ic_0 ?_
  refine pp_iconst hF dX8_isThing_2 ic_5 ?_
  obtain ⟨x3, hx3, h⟩ := pp_bd h
  refine pp_callSi hF (c_X8_within hx3) mS_X8_within lk_X8_95 rfl rfl ⟨by decide, by decide⟩ (Nat.le_of_ble_eq_true rfl) dX8_isThing_3 ?_
  obtain ⟨hb2, h⟩ := pp_ck h
  obtain ⟨rfl, rfl⟩ := pp_i2 h
  exact pp_zreturn hF hR (pp_bn hb2) dX8_isThing_6
set_option maxRecDepth 20000 in
theorem c_X8_isThing {r' : Int32} {σ' : pp_M} {σ : pp_M} {a0 : Int32} (h : f_X8_isThing σ a0 = some (r', σ')) : pp_Ct yX8_isThing cX8_isThing 1 (some .boolean) 2 34 dsK [ppI a0] σ (some (ppI r')) σ' := pp_met pl_X8 rfl okK (Nat.le_of_ble_eq_true rfl) rfl (fun Γ hF hR => (e_X8_isThing_0 hF hR h))
set_option maxRecDepth 20000 in
theorem e_X3_readPart_0 {Γ : pp_G} {r' : Int32} {σ' : pp_M} (hF : pp_Fx Γ dsK cX3_readPart 2 RX3 4 81) (hR : pp_Rt Γ dsK (some .int) (some (ppI r')) σ') {σ : pp_M} {a1 : Int32} (h : f_X3_readPart σ a1 = some (r', σ')) : pp_E Γ dsK cX3_readPart 2 0 [(0, ppR 13 0 0), (1, ppI a1)] [] σ := by
  unfold f_X3_readPart at h
  refine pp_aload_n hF dX3_readPart_0 rfl rfl ?_
  refine pp_aload_n hF dX3_readPart_1 rfl rfl ?_
  refine pp_iload_n hF dX3_readPart_2 rfl rfl ?_
  obtain ⟨x3, hx3, h⟩ := pp_bd h
  refine pp_callVi hF (c_X3_figureAt hx3) mV_X3_figureAt lk_X3_41 obK_13 rfl rfl ⟨by decide, by decide⟩ (Nat.le_of_ble_eq_true rfl) dX3_readPart_3 ?_
  refine pp_putI hF fwK_X3_18 dX3_readPart_6 ?_
  refine pp_aload_n hF dX3_readPart_9 rfl rfl ?_
  refine pp_getI hF fdK_X3_18 dX3_readPart_10 ?_
  obtain ⟨x13, hx13, h⟩ := pp_bd h
  refine pp_callSi hF (c_X8_isFarm hx13) mS_X8_isFarm lk_X3_44 rfl rfl ⟨by decide, by decide⟩ (Nat.le_of_ble_eq_true rfl) dX3_readPart_13 ?_
  refine pp_if_ne (tgt := 21) hF dX3_readPart_16 rfl (fun c3 => ?_) (fun c3 => ?_)
  · replace h := (if_pos c3).symm.trans h
    refine pp_iload_n hF dX3_readPart_19 rfl rfl ?_
    obtain ⟨rfl, rfl⟩ := pp_i2 h
    exact pp_ireturn hF hR dX3_readPart_20
  · replace h := (if_neg c3).symm.trans h
    refine pp_aload_n hF dX3_readPart_21 rfl rfl ?_
    refine pp_iload_n hF dX3_readPart_22 rfl rfl ?_
    refine pp_iconst hF dX3_readPart_23 ic_1 ?_
    refine pp_iadd hF dX3_readPart_24 ?_
    refine pp_bipush hF dX3_readPart_25 bc_58 ?_
    obtain ⟨x27, hx27, h⟩ := pp_bd h
    refine pp_callVi hF (c_X3_isAt hx27) mV_X3_isAt lk_X3_48 obK_13 rfl rfl ⟨by decide, by decide⟩ (Nat.le_of_ble_eq_true rfl) dX3_readPart_27 ?_
    refine pp_if_ne (tgt := 37) hF dX3_readPart_30 rfl (fun c5 => ?_) (fun c5 => ?_)
    · replace h := (if_pos c5).symm.trans h
      refine pp_iload_n hF dX3_readPart_33 rfl rfl ?_
      refine pp_iconst hF dX3_readPart_34 ic_1 ?_
      refine pp_iadd hF dX3_readPart_35 ?_
      obtain ⟨rfl, rfl⟩ := pp_i2 h
      exact pp_ireturn hF hR dX3_readPart_36
    · replace h := (if_neg c5).symm.trans h
      refine pp_aload_n hF dX3_readPart_37 rfl rfl ?_
      refine pp_aload_n hF dX3_readPart_38 rfl rfl ?_
      refine pp_iload_n hF dX3_readPart_39 rfl rfl ?_
      refine pp_iconst hF dX3_readPart_40 ic_2 ?_
      refine pp_iadd hF dX3_readPart_41 ?_
      obtain ⟨x42, hx42, h⟩ := pp_bd h
      refine pp_callVi hF (c_X3_figureAt hx42) mV_X3_figureAt lk_X3_41 obK_13 rfl rfl ⟨by decide, by decide⟩ (Nat.le_of_ble_eq_true rfl) dX3_readPart_42 ?_
      refine pp_putI hF fwK_X3_22 dX3_readPart_45 ?_
      refine pp_aload_n hF dX3_readPart_48 rfl rfl ?_
      refine pp_getI hF fdK_X3_22 dX3_readPart_49 ?_
      obtain ⟨x52, hx52, h⟩ := pp_bd h
      refine pp_callSi hF (c_X8_isThing hx52) mS_X8_isThing lk_X3_52 rfl rfl ⟨by decide, by decide⟩ (Nat.le_of_ble_eq_true rfl) dX3_readPart_52 ?_
      refine pp_if_ne (tgt := 62) hF dX3_readPart_55 rfl (fun c8 => ?_) (fun c8 => ?_)
      · replace h := (if_pos c8).symm.trans h
        refine pp_iload_n hF dX3_readPart_58 rfl rfl ?_
        refine pp_iconst hF dX3_readPart_59 ic_2 ?_
        refine pp_iadd hF dX3_readPart_60 ?_
        obtain ⟨rfl, rfl⟩ := pp_i2 h
        exact pp_ireturn hF hR dX3_readPart_61
      · replace h := (if_neg c8).symm.trans h
        refine pp_aload_n hF dX3_readPart_62 rfl rfl ?_
        refine pp_iload_n hF dX3_readPart_63 rfl rfl ?_
        refine pp_iconst hF dX3_readPart_64 ic_3 ?_
        refine pp_iadd hF dX3_readPart_65 ?_
        refine pp_bipush hF dX3_readPart_66 bc_61 ?_
        obtain ⟨x68, hx68, h⟩ := pp_bd h
        refine pp_callVi hF (c_X3_isAt hx68) mV_X3_isAt lk_X3_48 obK_13 rfl rfl ⟨by decide, by decide⟩ (Nat.le_of_ble_eq_true rfl) dX3_readPart_68 ?_
        refine pp_if_ne (tgt := 78) hF dX3_readPart_71 rfl (fun c10 => ?_) (fun c10 => ?_)
        · replace h := (if_pos c10).symm.trans h
          refine pp_iload_n hF dX3_readPart_74 rfl rfl ?_
          refine pp_iconst hF dX3_readPart_75 ic_3 ?_
          refine pp_iadd hF dX3_readPart_76 ?_
          obtain ⟨rfl, rfl⟩ := pp_i2 h
          exact pp_ireturn hF hR dX3_readPart_77
        · replace h := (if_neg c10).symm.trans h
          refine pp_aload_n hF dX3_readPart_78 rfl rfl ?_
          refine pp_iload_n hF dX3_readPart_79 rfl rfl ?_
          refine pp_iconst hF dX3_readPart_80 ic_4 ?_
          refine pp_iadd hF dX3_readPart_81 ?_
          obtain ⟨x82, hx82, h⟩ := pp_bd h
          refine pp_callVi hF (c_X3_readChances hx82) mV_X3_readChances lk_X3_55 obK_13 rfl rfl ⟨by decide, by decide⟩ (Nat.le_of_ble_eq_true rfl) dX3_readPart_82 ?_
          obtain ⟨rfl, rfl⟩ := pp_i2 h
          exact pp_ireturn hF hR dX3_readPart_85
set_option maxRecDepth 20000 in
theorem c_X3_readPart {r' : Int32} {σ' : pp_M} {σ : pp_M} {a1 : Int32} (h : f_X3_readPart σ a1 = some (r', σ')) : pp_Ct yX3_readPart cX3_readPart 2 (some .int) 4 81 dsK [ppR 13 0 0, ppI a1] σ (some (ppI r')) σ' := pp_met pl_X3 rfl okK (Nat.le_of_ble_eq_true rfl) rfl (fun Γ hF hR => (e_X3_readPart_0 hF hR h))
set_option maxRecDepth 20000 in
theorem e_X3_findFault_4 {Γ : pp_G} {r' : Int32} {σ' : pp_M} (hF : pp_Fx Γ dsK cX3_findFault 4 RX3 5 102) (hR : pp_Rt Γ dsK (some .int) (some (ppI r')) σ') {σ : pp_M} {a1 : Int32} {a2 : Int32} {k4 : pp_M → Int32 → Int32 → Option (Int32 × pp_M)} (hk4 : ∀ {σ : pp_M} {a1 : Int32} {a2 : Int32}, k4 σ a1 a2 = some (r', σ') → pp_E Γ dsK cX3_findFault 4 4 [(0, ppR 13 0 0), (1, ppI a1), (2, ppI a2)] [] σ) (h : f_X3_findFault_4_B k4 σ a1 a2 = some (r', σ')) : pp_E Γ dsK cX3_findFault 4 4 [(0, ppR 13 0 0), (1, ppI a1), (2, ppI a2)] [] σ := by
  unfold f_X3_findFault_4_B at h
  refine pp_iload_n hF dX3_findFault_4 rfl rfl ?_
  refine pp_bipush hF dX3_findFault_5 bc_40 ?_
  refine pp_icmp_ge (tgt := 47) hF dX3_findFault_7 rfl (fun c1 => ?_) (fun c1 => ?_)
  · replace h := (if_pos c1).symm.trans h
    refine pp_aload_n hF dX3_findFault_10 rfl rfl ?_
    refine pp_iload_n hF dX3_findFault_11 rfl rfl ?_
    obtain ⟨x12, hx12, h⟩ := pp_bd h
    refine pp_callVi hF (c_X3_readPart hx12) mV_X3_readPart lk_X3_31 obK_13 rfl rfl ⟨by decide, by decide⟩ (Nat.le_of_ble_eq_true rfl) dX3_findFault_12 ?_
    refine pp_istore_n hF dX3_findFault_15 rfl (by decide) (lv' := [(0, ppR 13 0 0), (1, ppI a1), (2, ppI a2), (3, ppI x12.1)]) rfl ?_
    refine pp_iload_n hF dX3_findFault_16 rfl rfl ?_
    refine pp_iconst hF dX3_findFault_17 ic_n1 ?_
    refine pp_icmp_ne (tgt := 32) hF dX3_findFault_18 rfl (fun c3 => ?_) (fun c3 => ?_)
    · replace h := (if_pos c3).symm.trans h
      refine pp_aload_n hF dX3_findFault_21 rfl rfl ?_
      refine pp_getI hF fdK_X3_25 dX3_findFault_22 ?_
      refine pp_aload_n hF dX3_findFault_25 rfl rfl ?_
      refine pp_getI hF fdK_X3_28 dX3_findFault_26 ?_
      refine pp_icmp_lt (tgt := 34) hF dX3_findFault_29 rfl (fun c4 => ?_) (fun c4 => ?_)
      · replace h := (if_pos c4).symm.trans h
        refine pp_aload_n hF dX3_findFault_34 rfl rfl ?_
        refine pp_getI hF fdK_X3_25 dX3_findFault_35 ?_
        refine pp_iconst hF dX3_findFault_38 ic_1 ?_
        refine pp_iadd hF dX3_findFault_39 ?_
        refine pp_istore_n hF dX3_findFault_40 rfl (by decide) (lv' := [(0, ppR 13 0 0), (1, ppI ((x12.2.1 13 4) + (1 : Int32))), (2, ppI a2), (3, ppI x12.1)]) rfl ?_
        refine pp_iinc hF dX3_findFault_41 rfl (congrArg (HAdd.hAdd _) ic_1) (by decide) (lv' := [(0, ppR 13 0 0), (1, ppI ((x12.2.1 13 4) + (1 : Int32))), (2, ppI (a2 + (1 : Int32))), (3, ppI x12.1)]) rfl ?_
        refine pp_goto (tgt := 4) hF dX3_findFault_44 rfl ?_
        refine pp_few [0, 1, 2] (lv' := [(0, ppR 13 0 0), (1, ppI ((x12.2.1 13 4) + (1 : Int32))), (2, ppI (a2 + (1 : Int32)))]) rfl ?_
        exact hk4 h
      · replace h := (if_neg c4).symm.trans h
        refine pp_iload_n hF dX3_findFault_32 rfl rfl ?_
        obtain ⟨rfl, rfl⟩ := pp_i2 h
        exact pp_ireturn hF hR dX3_findFault_33
    · replace h := (if_neg c3).symm.trans h
      refine pp_iload_n hF dX3_findFault_32 rfl rfl ?_
      obtain ⟨rfl, rfl⟩ := pp_i2 h
      exact pp_ireturn hF hR dX3_findFault_33
  · replace h := (if_neg c1).symm.trans h
    refine pp_iload_n hF dX3_findFault_47 rfl rfl ?_
    obtain ⟨rfl, rfl⟩ := pp_i2 h
    exact pp_ireturn hF hR dX3_findFault_48
set_option maxRecDepth 20000 in
theorem e_X3_findFault_4_L {Γ : pp_G} {r' : Int32} {σ' : pp_M} (hF : pp_Fx Γ dsK cX3_findFault 4 RX3 5 102) (hR : pp_Rt Γ dsK (some .int) (some (ppI r')) σ') : ∀ {n : Nat} {σ : pp_M} {a1 : Int32} {a2 : Int32}, f_X3_findFault_4 n σ a1 a2 = some (r', σ') → pp_E Γ dsK cX3_findFault 4 4 [(0, ppR 13 0 0), (1, ppI a1), (2, ppI a2)] [] σ
  | 0, _, _, _ => fun h => by cases h
  | n + 1, _, _, _ => fun h => e_X3_findFault_4 hF hR (fun h => e_X3_findFault_4_L hF hR (n := n) h) h
set_option maxRecDepth 20000 in
theorem e_X3_findFault_0 {Γ : pp_G} {r' : Int32} {σ' : pp_M} (hF : pp_Fx Γ dsK cX3_findFault 4 RX3 5 102) (hR : pp_Rt Γ dsK (some .int) (some (ppI r')) σ') {σ : pp_M}  (h : f_X3_findFault σ  = some (r', σ')) : pp_E Γ dsK cX3_findFault 4 0 [(0, ppR 13 0 0)] [] σ := by
  unfold f_X3_findFault at h
  refine pp_iconst hF dX3_findFault_0 ic_0 ?_
  refine pp_istore_n hF dX3_findFault_1 rfl (by decide) (lv' := [(0, ppR 13 0 0), (1, ppI (0 : Int32))]) rfl ?_
  refine pp_iconst hF dX3_findFault_2 ic_0 ?_
  refine pp_istore_n hF dX3_findFault_3 rfl (by decide) (lv' := [(0, ppR 13 0 0), (1, ppI (0 : Int32)), (2, ppI (0 : Int32))]) rfl ?_
  exact e_X3_findFault_4_L hF hR h
set_option maxRecDepth 20000 in
theorem c_X3_findFault {r' : Int32} {σ' : pp_M} {σ : pp_M}  (h : f_X3_findFault σ  = some (r', σ')) : pp_Ct yX3_findFault cX3_findFault 4 (some .int) 5 102 dsK [ppR 13 0 0] σ (some (ppI r')) σ' := pp_met pl_X3 rfl okK (Nat.le_of_ble_eq_true rfl) rfl (fun Γ hF hR => (e_X3_findFault_0 hF hR h))
set_option maxRecDepth 20000 in
theorem e_X4_take_49 {Γ : pp_G} {r' : Int32} {σ' : pp_M} (hF : pp_Fx Γ dsK cX4_take 7 RX4 2 34) (hR : pp_Rt Γ dsK (some .boolean) (some (ppI r')) σ') {σ : pp_M} {a1 : Int32} {a2 : Int32} {a3t : Nat} {a3o : Nat} {a3n : Nat} {a4 : Int32} {a6 : Int32} {k49 : pp_M → Int32 → Int32 → Nat → Nat → Nat → Int32 → Int32 → Option (Int32 × pp_M)} (hk49 : ∀ {σ : pp_M} {a1 : Int32} {a2 : Int32} {a3t : Nat} {a3o : Nat} {a3n : Nat} {a4 : Int32} {a6 : Int32}, pp_ai dsK a3t a3o a3n → k49 σ a1 a2 a3t a3o a3n a4 a6 = some (r', σ') → pp_E Γ dsK cX4_take 7 49 [(0, ppR 9 0 0), (1, ppI a1), (2, ppI a2), (3, ppR a3t a3o a3n), (4, ppI a4), (6, ppI a6)] [] σ) (hv3 : pp_ai dsK a3t a3o a3n) (h : f_X4_take_49_B k49 σ a1 a2 a3t a3o a3n a4 a6 = some (r', σ')) : pp_E Γ dsK cX4_take 7 49 [(0, ppR 9 0 0), (1, ppI a1), (2, ppI a2), (3, ppR a3t a3o a3n), (4, ppI a4), (6, ppI a6)] [] σ := by
  unfold f_X4_take_49_B at h
  refine pp_iload hF dX4_take_49 rfl ?_
  refine pp_iconst hF dX4_take_51 ic_3 ?_
  refine pp_icmp_ge (tgt := 82) hF dX4_take_52 rfl (fun c1 => ?_) (fun c1 => ?_)
  · replace h := (if_pos c1).symm.trans h
    refine pp_aload_n hF dX4_take_55 rfl rfl ?_
    refine pp_getR hF fdK_X4_11 dX4_take_56 ?_
    refine pp_iload_n hF dX4_take_59 rfl rfl ?_
    refine pp_bipush hF dX4_take_60 bc_6 ?_
    refine pp_imul hF dX4_take_62 ?_
    refine pp_iload_n hF dX4_take_63 rfl rfl ?_
    refine pp_iadd hF dX4_take_64 ?_
    obtain ⟨hi2, h⟩ := pp_ck h
    refine pp_aaloadI hF vK_10 hi2 dX4_take_65 ?_
    refine pp_iload hF dX4_take_66 rfl ?_
    refine pp_aload_n hF dX4_take_68 rfl rfl ?_
    refine pp_iload hF dX4_take_69 rfl ?_
    refine pp_iload hF dX4_take_71 rfl ?_
    refine pp_iadd hF dX4_take_73 ?_
    obtain ⟨hi3, h⟩ := pp_ck h
    refine pp_ialoadJ hF hv3 hi3 rfl dX4_take_74 ?_
    obtain ⟨hi4, h⟩ := pp_ck h
    refine pp_iastoreJ hF (vK_11 _ (vp_lt hi2)) hi4 rfl dX4_take_75 ?_
    refine pp_iinc hF dX4_take_76 rfl (congrArg (HAdd.hAdd _) ic_1) (by decide) (lv' := [(0, ppR 9 0 0), (1, ppI a1), (2, ppI a2), (3, ppR a3t a3o a3n), (4, ppI a4), (6, ppI (a6 + (1 : Int32)))]) rfl ?_
    refine pp_goto (tgt := 49) hF dX4_take_79 rfl ?_
    exact hk49 hv3 h
  · replace h := (if_neg c1).symm.trans h
    refine pp_iconst hF dX4_take_82 ic_1 ?_
    obtain ⟨rfl, rfl⟩ := pp_i2 h
    exact pp_zreturn hF hR rfl dX4_take_83
set_option maxRecDepth 20000 in
theorem e_X4_take_49_L {Γ : pp_G} {r' : Int32} {σ' : pp_M} (hF : pp_Fx Γ dsK cX4_take 7 RX4 2 34) (hR : pp_Rt Γ dsK (some .boolean) (some (ppI r')) σ') : ∀ {n : Nat} {σ : pp_M} {a1 : Int32} {a2 : Int32} {a3t : Nat} {a3o : Nat} {a3n : Nat} {a4 : Int32} {a6 : Int32}, pp_ai dsK a3t a3o a3n → f_X4_take_49 n σ a1 a2 a3t a3o a3n a4 a6 = some (r', σ') → pp_E Γ dsK cX4_take 7 49 [(0, ppR 9 0 0), (1, ppI a1), (2, ppI a2), (3, ppR a3t a3o a3n), (4, ppI a4), (6, ppI a6)] [] σ
  | 0, _, _, _, _, _, _, _, _ => fun hv3 h => by cases h
  | n + 1, _, _, _, _, _, _, _, _ => fun hv3 h => e_X4_take_49 hF hR (fun hv3 h => e_X4_take_49_L hF hR (n := n) hv3 h) hv3 h
set_option maxRecDepth 20000 in
theorem e_X4_take_7 {Γ : pp_G} {r' : Int32} {σ' : pp_M} (hF : pp_Fx Γ dsK cX4_take 7 RX4 2 34) (hR : pp_Rt Γ dsK (some .boolean) (some (ppI r')) σ') {σ : pp_M} {a1 : Int32} {a2 : Int32} {a3t : Nat} {a3o : Nat} {a3n : Nat} {a4 : Int32} {a5 : Int32} {a6 : Int32} {k7 : pp_M → Int32 → Int32 → Nat → Nat → Nat → Int32 → Int32 → Int32 → Option (Int32 × pp_M)} (hk7 : ∀ {σ : pp_M} {a1 : Int32} {a2 : Int32} {a3t : Nat} {a3o : Nat} {a3n : Nat} {a4 : Int32} {a5 : Int32} {a6 : Int32}, pp_ai dsK a3t a3o a3n → k7 σ a1 a2 a3t a3o a3n a4 a5 a6 = some (r', σ') → pp_E Γ dsK cX4_take 7 7 [(0, ppR 9 0 0), (1, ppI a1), (2, ppI a2), (3, ppR a3t a3o a3n), (4, ppI a4), (5, ppI a5), (6, ppI a6)] [] σ) (hv3 : pp_ai dsK a3t a3o a3n) (h : f_X4_take_7_B k7 σ a1 a2 a3t a3o a3n a4 a5 a6 = some (r', σ')) : pp_E Γ dsK cX4_take 7 7 [(0, ppR 9 0 0), (1, ppI a1), (2, ppI a2), (3, ppR a3t a3o a3n), (4, ppI a4), (5, ppI a5), (6, ppI a6)] [] σ := by
  unfold f_X4_take_7_B at h
  refine pp_iload hF dX4_take_7 rfl ?_
  refine pp_iconst hF dX4_take_9 ic_3 ?_
  refine pp_icmp_ge (tgt := 46) hF dX4_take_10 rfl (fun c1 => ?_) (fun c1 => ?_)
  · replace h := (if_pos c1).symm.trans h
    refine pp_aload_n hF dX4_take_13 rfl rfl ?_
    refine pp_iload hF dX4_take_14 rfl ?_
    refine pp_iload hF dX4_take_16 rfl ?_
    refine pp_iadd hF dX4_take_18 ?_
    obtain ⟨hi2, h⟩ := pp_ck h
    refine pp_ialoadJ hF hv3 hi2 rfl dX4_take_19 ?_
    refine pp_iconst hF dX4_take_20 ic_0 ?_
    refine pp_iload hF dX4_take_21 rfl ?_
    obtain ⟨x23, hx23, h⟩ := pp_bd h
    refine pp_callSi hF (c_X8_within hx23) mS_X8_within lk_X4_20 rfl rfl ⟨by decide, by decide⟩ (Nat.le_of_ble_eq_true rfl) dX4_take_23 ?_
    refine pp_if_ne (tgt := 31) hF dX4_take_26 rfl (fun c4 => ?_) (fun c4 => ?_)
    · replace h := (if_pos c4).symm.trans h
      refine pp_iconst hF dX4_take_29 ic_0 ?_
      obtain ⟨rfl, rfl⟩ := pp_i2 h
      exact pp_zreturn hF hR rfl dX4_take_30
    · replace h := (if_neg c4).symm.trans h
      refine pp_aload_n hF dX4_take_31 rfl rfl ?_
      refine pp_iload hF dX4_take_32 rfl ?_
      refine pp_iload hF dX4_take_34 rfl ?_
      refine pp_iadd hF dX4_take_36 ?_
      refine pp_ialoadJ hF hv3 hi2 rfl dX4_take_37 ?_
      refine pp_istore hF dX4_take_38 (by decide) (lv' := [(0, ppR 9 0 0), (1, ppI a1), (2, ppI a2), (3, ppR a3t a3o a3n), (4, ppI a4), (5, ppI (x23.2.1 a3t (a3o + (a4 + a6).toNatClampNeg))), (6, ppI a6)]) rfl ?_
      refine pp_iinc hF dX4_take_40 rfl (congrArg (HAdd.hAdd _) ic_1) (by decide) (lv' := [(0, ppR 9 0 0), (1, ppI a1), (2, ppI a2), (3, ppR a3t a3o a3n), (4, ppI a4), (5, ppI (x23.2.1 a3t (a3o + (a4 + a6).toNatClampNeg))), (6, ppI (a6 + (1 : Int32)))]) rfl ?_
      refine pp_goto (tgt := 7) hF dX4_take_43 rfl ?_
      exact hk7 hv3 h
  · replace h := (if_neg c1).symm.trans h
    refine pp_iconst hF dX4_take_46 ic_0 ?_
    refine pp_istore hF dX4_take_47 (by decide) (lv' := [(0, ppR 9 0 0), (1, ppI a1), (2, ppI a2), (3, ppR a3t a3o a3n), (4, ppI a4), (5, ppI a5), (6, ppI (0 : Int32))]) rfl ?_
    refine pp_few [0, 1, 2, 3, 4, 6] (lv' := [(0, ppR 9 0 0), (1, ppI a1), (2, ppI a2), (3, ppR a3t a3o a3n), (4, ppI a4), (6, ppI (0 : Int32))]) rfl ?_
    exact e_X4_take_49_L hF hR hv3 h
set_option maxRecDepth 20000 in
theorem e_X4_take_7_L {Γ : pp_G} {r' : Int32} {σ' : pp_M} (hF : pp_Fx Γ dsK cX4_take 7 RX4 2 34) (hR : pp_Rt Γ dsK (some .boolean) (some (ppI r')) σ') : ∀ {n : Nat} {σ : pp_M} {a1 : Int32} {a2 : Int32} {a3t : Nat} {a3o : Nat} {a3n : Nat} {a4 : Int32} {a5 : Int32} {a6 : Int32}, pp_ai dsK a3t a3o a3n → f_X4_take_7 n σ a1 a2 a3t a3o a3n a4 a5 a6 = some (r', σ') → pp_E Γ dsK cX4_take 7 7 [(0, ppR 9 0 0), (1, ppI a1), (2, ppI a2), (3, ppR a3t a3o a3n), (4, ppI a4), (5, ppI a5), (6, ppI a6)] [] σ
  | 0, _, _, _, _, _, _, _, _, _ => fun hv3 h => by cases h
  | n + 1, _, _, _, _, _, _, _, _, _ => fun hv3 h => e_X4_take_7 hF hR (fun hv3 h => e_X4_take_7_L hF hR (n := n) hv3 h) hv3 h
set_option maxRecDepth 20000 in
theorem e_X4_take_0 {Γ : pp_G} {r' : Int32} {σ' : pp_M} (hF : pp_Fx Γ dsK cX4_take 7 RX4 2 34) (hR : pp_Rt Γ dsK (some .boolean) (some (ppI r')) σ') {σ : pp_M} {a1 : Int32} {a2 : Int32} {a3t : Nat} {a3o : Nat} {a3n : Nat} {a4 : Int32} (hv3 : pp_ai dsK a3t a3o a3n) (h : f_X4_take σ a1 a2 a3t a3o a3n a4 = some (r', σ')) : pp_E Γ dsK cX4_take 7 0 [(0, ppR 9 0 0), (1, ppI a1), (2, ppI a2), (3, ppR a3t a3o a3n), (4, ppI a4)] [] σ := by
  unfold f_X4_take at h
  refine pp_bipush hF dX4_take_0 bc_16 ?_
  refine pp_istore hF dX4_take_2 (by decide) (lv' := [(0, ppR 9 0 0), (1, ppI a1), (2, ppI a2), (3, ppR a3t a3o a3n), (4, ppI a4), (5, ppI (16 : Int32))]) rfl ?_
  refine pp_iconst hF dX4_take_4 ic_0 ?_
  refine pp_istore hF dX4_take_5 (by decide) (lv' := [(0, ppR 9 0 0), (1, ppI a1), (2, ppI a2), (3, ppR a3t a3o a3n), (4, ppI a4), (5, ppI (16 : Int32)), (6, ppI (0 : Int32))]) rfl ?_
  exact e_X4_take_7_L hF hR hv3 h
set_option maxRecDepth 20000 in
theorem c_X4_take {r' : Int32} {σ' : pp_M} {σ : pp_M} {a1 : Int32} {a2 : Int32} {a3t a3o a3n : Nat} {a4 : Int32} (hv3 : pp_ai dsK a3t a3o a3n) (h : f_X4_take σ a1 a2 a3t a3o a3n a4 = some (r', σ')) : pp_Ct yX4_take cX4_take 7 (some .boolean) 2 34 dsK [ppR 9 0 0, ppI a1, ppI a2, ppR a3t a3o a3n, ppI a4] σ (some (ppI r')) σ' := pp_met pl_X4 rfl okK (Nat.le_of_ble_eq_true rfl) rfl (fun Γ hF hR => (e_X4_take_0 hF hR hv3 h))
set_option maxRecDepth 20000 in
theorem e_X3_tellTo_4 {Γ : pp_G} {r' : Int32} {σ' : pp_M} (hF : pp_Fx Γ dsK cX3_tellTo 4 RX3 5 102) (hR : pp_Rt Γ dsK (some .int) (some (ppI r')) σ') {σ : pp_M} {a2 : Int32} {a3 : Int32} {k4 : pp_M → Int32 → Int32 → Option (Int32 × pp_M)} (hk4 : ∀ {σ : pp_M} {a2 : Int32} {a3 : Int32}, k4 σ a2 a3 = some (r', σ') → pp_E Γ dsK cX3_tellTo 4 4 [(0, ppR 13 0 0), (1, ppR 9 0 0), (2, ppI a2), (3, ppI a3)] [] σ) (h : f_X3_tellTo_4_B k4 σ a2 a3 = some (r', σ')) : pp_E Γ dsK cX3_tellTo 4 4 [(0, ppR 13 0 0), (1, ppR 9 0 0), (2, ppI a2), (3, ppI a3)] [] σ := by
  unfold f_X3_tellTo_4_B at h
  refine pp_iload_n hF dX3_tellTo_4 rfl rfl ?_
  refine pp_bipush hF dX3_tellTo_5 bc_40 ?_
  refine pp_icmp_ge (tgt := 58) hF dX3_tellTo_7 rfl (fun c1 => ?_) (fun c1 => ?_)
  · replace h := (if_pos c1).symm.trans h
    refine pp_iload_n hF dX3_tellTo_10 rfl rfl ?_
    refine pp_aload_n hF dX3_tellTo_11 rfl rfl ?_
    refine pp_getI hF fdK_X3_28 dX3_tellTo_12 ?_
    refine pp_icmp_ge (tgt := 58) hF dX3_tellTo_15 rfl (fun c2 => ?_) (fun c2 => ?_)
    · replace h := (if_pos c2).symm.trans h
      refine pp_aload_n hF dX3_tellTo_18 rfl rfl ?_
      refine pp_iload_n hF dX3_tellTo_19 rfl rfl ?_
      obtain ⟨x20, hx20, h⟩ := pp_bd h
      refine pp_callVi hF (c_X3_readPart hx20) mV_X3_readPart lk_X3_31 obK_13 rfl rfl ⟨by decide, by decide⟩ (Nat.le_of_ble_eq_true rfl) dX3_tellTo_20 ?_
      refine pp_iconst hF dX3_tellTo_23 ic_n1 ?_
      refine pp_icmp_ne (tgt := 58) hF dX3_tellTo_24 rfl (fun c4 => ?_) (fun c4 => ?_)
      · replace h := (if_pos c4).symm.trans h
        refine pp_aload_n hF dX3_tellTo_27 rfl rfl ?_
        refine pp_aload_n hF dX3_tellTo_28 rfl rfl ?_
        refine pp_getI hF fdK_X3_18 dX3_tellTo_29 ?_
        refine pp_aload_n hF dX3_tellTo_32 rfl rfl ?_
        refine pp_getI hF fdK_X3_22 dX3_tellTo_33 ?_
        refine pp_aload_n hF dX3_tellTo_36 rfl rfl ?_
        refine pp_getR hF fdK_X3_15 dX3_tellTo_37 ?_
        refine pp_iconst hF dX3_tellTo_40 ic_0 ?_
        obtain ⟨x41, hx41, h⟩ := pp_bd h
        refine pp_callVi hF (c_X4_take vK_15 hx41) mV_X4_take lk_X3_35 obK_9 rfl rfl ⟨by decide, by decide⟩ (Nat.le_of_ble_eq_true rfl) dX3_tellTo_41 ?_
        refine pp_popI hF dX3_tellTo_44 ?_
        refine pp_iinc hF dX3_tellTo_45 rfl (congrArg (HAdd.hAdd _) ic_1) (by decide) (lv' := [(0, ppR 13 0 0), (1, ppR 9 0 0), (2, ppI (a2 + (1 : Int32))), (3, ppI a3)]) rfl ?_
        refine pp_aload_n hF dX3_tellTo_48 rfl rfl ?_
        refine pp_getI hF fdK_X3_25 dX3_tellTo_49 ?_
        refine pp_iconst hF dX3_tellTo_52 ic_1 ?_
        refine pp_iadd hF dX3_tellTo_53 ?_
        refine pp_istore_n hF dX3_tellTo_54 rfl (by decide) (lv' := [(0, ppR 13 0 0), (1, ppR 9 0 0), (2, ppI (a2 + (1 : Int32))), (3, ppI ((x41.2.1 13 4) + (1 : Int32)))]) rfl ?_
        refine pp_goto (tgt := 4) hF dX3_tellTo_55 rfl ?_
        exact hk4 h
      · replace h := (if_neg c4).symm.trans h
        refine pp_iload_n hF dX3_tellTo_58 rfl rfl ?_
        obtain ⟨rfl, rfl⟩ := pp_i2 h
        exact pp_ireturn hF hR dX3_tellTo_59
    · replace h := (if_neg c2).symm.trans h
      refine pp_iload_n hF dX3_tellTo_58 rfl rfl ?_
      obtain ⟨rfl, rfl⟩ := pp_i2 h
      exact pp_ireturn hF hR dX3_tellTo_59
  · replace h := (if_neg c1).symm.trans h
    refine pp_iload_n hF dX3_tellTo_58 rfl rfl ?_
    obtain ⟨rfl, rfl⟩ := pp_i2 h
    exact pp_ireturn hF hR dX3_tellTo_59
set_option maxRecDepth 20000 in
theorem e_X3_tellTo_4_L {Γ : pp_G} {r' : Int32} {σ' : pp_M} (hF : pp_Fx Γ dsK cX3_tellTo 4 RX3 5 102) (hR : pp_Rt Γ dsK (some .int) (some (ppI r')) σ') : ∀ {n : Nat} {σ : pp_M} {a2 : Int32} {a3 : Int32}, f_X3_tellTo_4 n σ a2 a3 = some (r', σ') → pp_E Γ dsK cX3_tellTo 4 4 [(0, ppR 13 0 0), (1, ppR 9 0 0), (2, ppI a2), (3, ppI a3)] [] σ
  | 0, _, _, _ => fun h => by cases h
  | n + 1, _, _, _ => fun h => e_X3_tellTo_4 hF hR (fun h => e_X3_tellTo_4_L hF hR (n := n) h) h
set_option maxRecDepth 20000 in
theorem e_X3_tellTo_0 {Γ : pp_G} {r' : Int32} {σ' : pp_M} (hF : pp_Fx Γ dsK cX3_tellTo 4 RX3 5 102) (hR : pp_Rt Γ dsK (some .int) (some (ppI r')) σ') {σ : pp_M}  (h : f_X3_tellTo σ  = some (r', σ')) : pp_E Γ dsK cX3_tellTo 4 0 [(0, ppR 13 0 0), (1, ppR 9 0 0)] [] σ := by
  unfold f_X3_tellTo at h
  refine pp_iconst hF dX3_tellTo_0 ic_0 ?_
  refine pp_istore_n hF dX3_tellTo_1 rfl (by decide) (lv' := [(0, ppR 13 0 0), (1, ppR 9 0 0), (2, ppI (0 : Int32))]) rfl ?_
  refine pp_iconst hF dX3_tellTo_2 ic_0 ?_
  refine pp_istore_n hF dX3_tellTo_3 rfl (by decide) (lv' := [(0, ppR 13 0 0), (1, ppR 9 0 0), (2, ppI (0 : Int32)), (3, ppI (0 : Int32))]) rfl ?_
  exact e_X3_tellTo_4_L hF hR h
set_option maxRecDepth 20000 in
theorem c_X3_tellTo {r' : Int32} {σ' : pp_M} {σ : pp_M}  (h : f_X3_tellTo σ  = some (r', σ')) : pp_Ct yX3_tellTo cX3_tellTo 4 (some .int) 5 102 dsK [ppR 13 0 0, ppR 9 0 0] σ (some (ppI r')) σ' := pp_met pl_X3 rfl okK (Nat.le_of_ble_eq_true rfl) rfl (fun Γ hF hR => (e_X3_tellTo_0 hF hR h))
set_option maxRecDepth 20000 in
theorem e_X4_countChances_44 {Γ : pp_G} {r' : Int32} {σ' : pp_M} (hF : pp_Fx Γ dsK cX4_countChances 5 RX4 2 36) (hR : pp_Rt Γ dsK (some .int) (some (ppI r')) σ') {σ : pp_M} {a2 : Int32} {a3 : Int32} {a4 : Int32} {b0 : Int32} {b1 : Int32} {k4 : pp_M → Int32 → Int32 → Option (Int32 × pp_M)} (hk4 : ∀ {σ : pp_M} {a1 : Int32} {a2 : Int32}, k4 σ a1 a2 = some (r', σ') → pp_E Γ dsK cX4_countChances 5 4 [(0, ppR 9 0 0), (1, ppI a1), (2, ppI a2)] [] σ) {k12 : pp_M → Int32 → Int32 → Int32 → Option (Int32 × pp_M)} (hk12 : ∀ {σ : pp_M} {a1 : Int32} {a2 : Int32} {a3 : Int32}, k12 σ a1 a2 a3 = some (r', σ') → pp_E Γ dsK cX4_countChances 5 12 [(0, ppR 9 0 0), (1, ppI a1), (2, ppI a2), (3, ppI a3)] [] σ) {k21 : pp_M → Int32 → Int32 → Int32 → Int32 → Option (Int32 × pp_M)} (hk21 : ∀ {σ : pp_M} {a1 : Int32} {a2 : Int32} {a3 : Int32} {a4 : Int32}, k21 σ a1 a2 a3 a4 = some (r', σ') → pp_E Γ dsK cX4_countChances 5 21 [(0, ppR 9 0 0), (1, ppI a1), (2, ppI a2), (3, ppI a3), (4, ppI a4)] [] σ) (h : f_X4_countChances_44 k4 k12 k21 σ a2 a3 a4 b0 b1 = some (r', σ')) : pp_E Γ dsK cX4_countChances 5 44 [(0, ppR 9 0 0), (2, ppI a2), (3, ppI a3), (4, ppI a4)] [ppI b1, ppI b0] σ := by
  unfold f_X4_countChances_44 at h
  refine pp_iadd hF dX4_countChances_44 ?_
  refine pp_istore_n hF dX4_countChances_45 rfl (by decide) (lv' := [(0, ppR 9 0 0), (1, ppI (b0 + b1)), (2, ppI a2), (3, ppI a3), (4, ppI a4)]) rfl ?_
  refine pp_iinc hF dX4_countChances_46 rfl (congrArg (HAdd.hAdd _) ic_1) (by decide) (lv' := [(0, ppR 9 0 0), (1, ppI (b0 + b1)), (2, ppI a2), (3, ppI a3), (4, ppI (a4 + (1 : Int32)))]) rfl ?_
  refine pp_goto (tgt := 21) hF dX4_countChances_49 rfl ?_
  exact hk21 h
set_option maxRecDepth 20000 in
theorem e_X4_countChances_21 {Γ : pp_G} {r' : Int32} {σ' : pp_M} (hF : pp_Fx Γ dsK cX4_countChances 5 RX4 2 36) (hR : pp_Rt Γ dsK (some .int) (some (ppI r')) σ') {σ : pp_M} {a1 : Int32} {a2 : Int32} {a3 : Int32} {a4 : Int32} {k4 : pp_M → Int32 → Int32 → Option (Int32 × pp_M)} (hk4 : ∀ {σ : pp_M} {a1 : Int32} {a2 : Int32}, k4 σ a1 a2 = some (r', σ') → pp_E Γ dsK cX4_countChances 5 4 [(0, ppR 9 0 0), (1, ppI a1), (2, ppI a2)] [] σ) {k12 : pp_M → Int32 → Int32 → Int32 → Option (Int32 × pp_M)} (hk12 : ∀ {σ : pp_M} {a1 : Int32} {a2 : Int32} {a3 : Int32}, k12 σ a1 a2 a3 = some (r', σ') → pp_E Γ dsK cX4_countChances 5 12 [(0, ppR 9 0 0), (1, ppI a1), (2, ppI a2), (3, ppI a3)] [] σ) {k21 : pp_M → Int32 → Int32 → Int32 → Int32 → Option (Int32 × pp_M)} (hk21 : ∀ {σ : pp_M} {a1 : Int32} {a2 : Int32} {a3 : Int32} {a4 : Int32}, k21 σ a1 a2 a3 a4 = some (r', σ') → pp_E Γ dsK cX4_countChances 5 21 [(0, ppR 9 0 0), (1, ppI a1), (2, ppI a2), (3, ppI a3), (4, ppI a4)] [] σ) (h : f_X4_countChances_21_B k4 k12 k21 σ a1 a2 a3 a4 = some (r', σ')) : pp_E Γ dsK cX4_countChances 5 21 [(0, ppR 9 0 0), (1, ppI a1), (2, ppI a2), (3, ppI a3), (4, ppI a4)] [] σ := by
  unfold f_X4_countChances_21_B at h
  refine pp_iload hF dX4_countChances_21 rfl ?_
  refine pp_iconst hF dX4_countChances_23 ic_3 ?_
  refine pp_icmp_ge (tgt := 52) hF dX4_countChances_24 rfl (fun c1 => ?_) (fun c1 => ?_)
  · replace h := (if_pos c1).symm.trans h
    refine pp_iload_n hF dX4_countChances_27 rfl rfl ?_
    refine pp_aload_n hF dX4_countChances_28 rfl rfl ?_
    refine pp_iload_n hF dX4_countChances_29 rfl rfl ?_
    refine pp_iload_n hF dX4_countChances_30 rfl rfl ?_
    refine pp_iload hF dX4_countChances_31 rfl ?_
    obtain ⟨x33, hx33, h⟩ := pp_bd h
    refine pp_callVi hF (c_X4_chanceOf hx33) mV_X4_chanceOf lk_X4_24 obK_9 rfl rfl ⟨by decide, by decide⟩ (Nat.le_of_ble_eq_true rfl) dX4_countChances_33 ?_
    refine pp_if_le (tgt := 43) hF dX4_countChances_36 rfl (fun c3 => ?_) (fun c3 => ?_)
    · replace h := (if_pos c3).symm.trans h
      refine pp_iconst hF dX4_countChances_39 ic_1 ?_
      refine pp_goto (tgt := 44) hF dX4_countChances_40 rfl ?_
      refine pp_few [0, 2, 3, 4] (lv' := [(0, ppR 9 0 0), (2, ppI a2), (3, ppI a3), (4, ppI a4)]) rfl ?_
      exact e_X4_countChances_44 hF hR hk4 hk12 hk21 h
    · replace h := (if_neg c3).symm.trans h
      refine pp_iconst hF dX4_countChances_43 ic_0 ?_
      refine pp_few [0, 2, 3, 4] (lv' := [(0, ppR 9 0 0), (2, ppI a2), (3, ppI a3), (4, ppI a4)]) rfl ?_
      exact e_X4_countChances_44 hF hR hk4 hk12 hk21 h
  · replace h := (if_neg c1).symm.trans h
    refine pp_iinc hF dX4_countChances_52 rfl (congrArg (HAdd.hAdd _) ic_1) (by decide) (lv' := [(0, ppR 9 0 0), (1, ppI a1), (2, ppI a2), (3, ppI (a3 + (1 : Int32))), (4, ppI a4)]) rfl ?_
    refine pp_goto (tgt := 12) hF dX4_countChances_55 rfl ?_
    refine pp_few [0, 1, 2, 3] (lv' := [(0, ppR 9 0 0), (1, ppI a1), (2, ppI a2), (3, ppI (a3 + (1 : Int32)))]) rfl ?_
    exact hk12 h
set_option maxRecDepth 20000 in
theorem e_X4_countChances_21_L {Γ : pp_G} {r' : Int32} {σ' : pp_M} (hF : pp_Fx Γ dsK cX4_countChances 5 RX4 2 36) (hR : pp_Rt Γ dsK (some .int) (some (ppI r')) σ') {k4 : pp_M → Int32 → Int32 → Option (Int32 × pp_M)} (hk4 : ∀ {σ : pp_M} {a1 : Int32} {a2 : Int32}, k4 σ a1 a2 = some (r', σ') → pp_E Γ dsK cX4_countChances 5 4 [(0, ppR 9 0 0), (1, ppI a1), (2, ppI a2)] [] σ) {k12 : pp_M → Int32 → Int32 → Int32 → Option (Int32 × pp_M)} (hk12 : ∀ {σ : pp_M} {a1 : Int32} {a2 : Int32} {a3 : Int32}, k12 σ a1 a2 a3 = some (r', σ') → pp_E Γ dsK cX4_countChances 5 12 [(0, ppR 9 0 0), (1, ppI a1), (2, ppI a2), (3, ppI a3)] [] σ) : ∀ {n : Nat} {σ : pp_M} {a1 : Int32} {a2 : Int32} {a3 : Int32} {a4 : Int32}, f_X4_countChances_21 k4 k12 n σ a1 a2 a3 a4 = some (r', σ') → pp_E Γ dsK cX4_countChances 5 21 [(0, ppR 9 0 0), (1, ppI a1), (2, ppI a2), (3, ppI a3), (4, ppI a4)] [] σ
  | 0, _, _, _, _, _ => fun h => by cases h
  | n + 1, _, _, _, _, _ => fun h => e_X4_countChances_21 hF hR hk4 hk12 (fun h => e_X4_countChances_21_L hF hR hk4 hk12 (n := n) h) h
set_option maxRecDepth 20000 in
theorem e_X4_countChances_12 {Γ : pp_G} {r' : Int32} {σ' : pp_M} (hF : pp_Fx Γ dsK cX4_countChances 5 RX4 2 36) (hR : pp_Rt Γ dsK (some .int) (some (ppI r')) σ') {σ : pp_M} {a1 : Int32} {a2 : Int32} {a3 : Int32} {k4 : pp_M → Int32 → Int32 → Option (Int32 × pp_M)} (hk4 : ∀ {σ : pp_M} {a1 : Int32} {a2 : Int32}, k4 σ a1 a2 = some (r', σ') → pp_E Γ dsK cX4_countChances 5 4 [(0, ppR 9 0 0), (1, ppI a1), (2, ppI a2)] [] σ) {k12 : pp_M → Int32 → Int32 → Int32 → Option (Int32 × pp_M)} (hk12 : ∀ {σ : pp_M} {a1 : Int32} {a2 : Int32} {a3 : Int32}, k12 σ a1 a2 a3 = some (r', σ') → pp_E Γ dsK cX4_countChances 5 12 [(0, ppR 9 0 0), (1, ppI a1), (2, ppI a2), (3, ppI a3)] [] σ) (h : f_X4_countChances_12_B k4 k12 σ a1 a2 a3 = some (r', σ')) : pp_E Γ dsK cX4_countChances 5 12 [(0, ppR 9 0 0), (1, ppI a1), (2, ppI a2), (3, ppI a3)] [] σ := by
  unfold f_X4_countChances_12_B at h
  refine pp_iload_n hF dX4_countChances_12 rfl rfl ?_
  refine pp_bipush hF dX4_countChances_13 bc_6 ?_
  refine pp_icmp_ge (tgt := 58) hF dX4_countChances_15 rfl (fun c1 => ?_) (fun c1 => ?_)
  · replace h := (if_pos c1).symm.trans h
    refine pp_iconst hF dX4_countChances_18 ic_0 ?_
    refine pp_istore hF dX4_countChances_19 (by decide) (lv' := [(0, ppR 9 0 0), (1, ppI a1), (2, ppI a2), (3, ppI a3), (4, ppI (0 : Int32))]) rfl ?_
    exact e_X4_countChances_21_L hF hR hk4 hk12 h
  · replace h := (if_neg c1).symm.trans h
    refine pp_iinc hF dX4_countChances_58 rfl (congrArg (HAdd.hAdd _) ic_1) (by decide) (lv' := [(0, ppR 9 0 0), (1, ppI a1), (2, ppI (a2 + (1 : Int32))), (3, ppI a3)]) rfl ?_
    refine pp_goto (tgt := 4) hF dX4_countChances_61 rfl ?_
    refine pp_few [0, 1, 2] (lv' := [(0, ppR 9 0 0), (1, ppI a1), (2, ppI (a2 + (1 : Int32)))]) rfl ?_
    exact hk4 h
set_option maxRecDepth 20000 in
theorem e_X4_countChances_12_L {Γ : pp_G} {r' : Int32} {σ' : pp_M} (hF : pp_Fx Γ dsK cX4_countChances 5 RX4 2 36) (hR : pp_Rt Γ dsK (some .int) (some (ppI r')) σ') {k4 : pp_M → Int32 → Int32 → Option (Int32 × pp_M)} (hk4 : ∀ {σ : pp_M} {a1 : Int32} {a2 : Int32}, k4 σ a1 a2 = some (r', σ') → pp_E Γ dsK cX4_countChances 5 4 [(0, ppR 9 0 0), (1, ppI a1), (2, ppI a2)] [] σ) : ∀ {n : Nat} {σ : pp_M} {a1 : Int32} {a2 : Int32} {a3 : Int32}, f_X4_countChances_12 k4 n σ a1 a2 a3 = some (r', σ') → pp_E Γ dsK cX4_countChances 5 12 [(0, ppR 9 0 0), (1, ppI a1), (2, ppI a2), (3, ppI a3)] [] σ
  | 0, _, _, _, _ => fun h => by cases h
  | n + 1, _, _, _, _ => fun h => e_X4_countChances_12 hF hR hk4 (fun h => e_X4_countChances_12_L hF hR hk4 (n := n) h) h
set_option maxRecDepth 20000 in
theorem e_X4_countChances_4 {Γ : pp_G} {r' : Int32} {σ' : pp_M} (hF : pp_Fx Γ dsK cX4_countChances 5 RX4 2 36) (hR : pp_Rt Γ dsK (some .int) (some (ppI r')) σ') {σ : pp_M} {a1 : Int32} {a2 : Int32} {k4 : pp_M → Int32 → Int32 → Option (Int32 × pp_M)} (hk4 : ∀ {σ : pp_M} {a1 : Int32} {a2 : Int32}, k4 σ a1 a2 = some (r', σ') → pp_E Γ dsK cX4_countChances 5 4 [(0, ppR 9 0 0), (1, ppI a1), (2, ppI a2)] [] σ) (h : f_X4_countChances_4_B k4 σ a1 a2 = some (r', σ')) : pp_E Γ dsK cX4_countChances 5 4 [(0, ppR 9 0 0), (1, ppI a1), (2, ppI a2)] [] σ := by
  unfold f_X4_countChances_4_B at h
  refine pp_iload_n hF dX4_countChances_4 rfl rfl ?_
  refine pp_bipush hF dX4_countChances_5 bc_7 ?_
  refine pp_icmp_gt (tgt := 64) hF dX4_countChances_7 rfl (fun c1 => ?_) (fun c1 => ?_)
  · replace h := (if_pos c1).symm.trans h
    refine pp_iload_n hF dX4_countChances_64 rfl rfl ?_
    obtain ⟨rfl, rfl⟩ := pp_i2 h
    exact pp_ireturn hF hR dX4_countChances_65
  · replace h := (if_neg c1).symm.trans h
    refine pp_iconst hF dX4_countChances_10 ic_0 ?_
    refine pp_istore_n hF dX4_countChances_11 rfl (by decide) (lv' := [(0, ppR 9 0 0), (1, ppI a1), (2, ppI a2), (3, ppI (0 : Int32))]) rfl ?_
    exact e_X4_countChances_12_L hF hR hk4 h
set_option maxRecDepth 20000 in
theorem e_X4_countChances_4_L {Γ : pp_G} {r' : Int32} {σ' : pp_M} (hF : pp_Fx Γ dsK cX4_countChances 5 RX4 2 36) (hR : pp_Rt Γ dsK (some .int) (some (ppI r')) σ') : ∀ {n : Nat} {σ : pp_M} {a1 : Int32} {a2 : Int32}, f_X4_countChances_4 n σ a1 a2 = some (r', σ') → pp_E Γ dsK cX4_countChances 5 4 [(0, ppR 9 0 0), (1, ppI a1), (2, ppI a2)] [] σ
  | 0, _, _, _ => fun h => by cases h
  | n + 1, _, _, _ => fun h => e_X4_countChances_4 hF hR (fun h => e_X4_countChances_4_L hF hR (n := n) h) h
set_option maxRecDepth 20000 in
theorem e_X4_countChances_0 {Γ : pp_G} {r' : Int32} {σ' : pp_M} (hF : pp_Fx Γ dsK cX4_countChances 5 RX4 2 36) (hR : pp_Rt Γ dsK (some .int) (some (ppI r')) σ') {σ : pp_M}  (h : f_X4_countChances σ  = some (r', σ')) : pp_E Γ dsK cX4_countChances 5 0 [(0, ppR 9 0 0)] [] σ := by
  unfold f_X4_countChances at h
  refine pp_iconst hF dX4_countChances_0 ic_0 ?_
  refine pp_istore_n hF dX4_countChances_1 rfl (by decide) (lv' := [(0, ppR 9 0 0), (1, ppI (0 : Int32))]) rfl ?_
  refine pp_iconst hF dX4_countChances_2 ic_1 ?_
  refine pp_istore_n hF dX4_countChances_3 rfl (by decide) (lv' := [(0, ppR 9 0 0), (1, ppI (0 : Int32)), (2, ppI (1 : Int32))]) rfl ?_
  exact e_X4_countChances_4_L hF hR h
set_option maxRecDepth 20000 in
theorem c_X4_countChances {r' : Int32} {σ' : pp_M} {σ : pp_M}  (h : f_X4_countChances σ  = some (r', σ')) : pp_Ct yX4_countChances cX4_countChances 5 (some .int) 2 36 dsK [ppR 9 0 0] σ (some (ppI r')) σ' := pp_met pl_X4 rfl okK (Nat.le_of_ble_eq_true rfl) rfl (fun Γ hF hR => (e_X4_countChances_0 hF hR h))
set_option maxRecDepth 20000 in
theorem e_X5_leastNumber_15 {Γ : pp_G} {r' : Int32} {σ' : pp_M} (hF : pp_Fx Γ dsK cX5_leastNumber 5 RX5 1 12) (hR : pp_Rt Γ dsK (some .int) (some (ppI r')) σ') {σ : pp_M} {a1 : Int32} {a2 : Int32} {a3 : Int32} {a4 : Int32} {k15 : pp_M → Int32 → Int32 → Int32 → Int32 → Option (Int32 × pp_M)} (hk15 : ∀ {σ : pp_M} {a1 : Int32} {a2 : Int32} {a3 : Int32} {a4 : Int32}, k15 σ a1 a2 a3 a4 = some (r', σ') → pp_E Γ dsK cX5_leastNumber 5 15 [(0, ppR 25 0 0), (1, ppI a1), (2, ppI a2), (3, ppI a3), (4, ppI a4)] [] σ) (h : f_X5_leastNumber_15_B k15 σ a1 a2 a3 a4 = some (r', σ')) : pp_E Γ dsK cX5_leastNumber 5 15 [(0, ppR 25 0 0), (1, ppI a1), (2, ppI a2), (3, ppI a3), (4, ppI a4)] [] σ := by
  unfold f_X5_leastNumber_15_B at h
  refine pp_iload hF dX5_leastNumber_15 rfl ?_
  refine pp_aload_n hF dX5_leastNumber_17 rfl rfl ?_
  refine pp_getR hF fdK_X5_16 dX5_leastNumber_18 ?_
  refine pp_iload_n hF dX5_leastNumber_21 rfl rfl ?_
  obtain ⟨hi1, h⟩ := pp_ck h
  refine pp_ialoadJ hF vK_28 hi1 (Nat.zero_add _) dX5_leastNumber_22 ?_
  refine pp_icmp_gt (tgt := 80) hF dX5_leastNumber_23 rfl (fun c2 => ?_) (fun c2 => ?_)
  · replace h := (if_pos c2).symm.trans h
    refine pp_iconst hF dX5_leastNumber_80 ic_0 ?_
    obtain ⟨rfl, rfl⟩ := pp_i2 h
    exact pp_ireturn hF hR dX5_leastNumber_81
  · replace h := (if_neg c2).symm.trans h
    refine pp_iload hF dX5_leastNumber_26 rfl ?_
    refine pp_iload_n hF dX5_leastNumber_28 rfl rfl ?_
    refine pp_imul hF dX5_leastNumber_29 ?_
    refine pp_iload_n hF dX5_leastNumber_30 rfl rfl ?_
    refine pp_icmp_gt (tgt := 80) hF dX5_leastNumber_31 rfl (fun c3 => ?_) (fun c3 => ?_)
    · replace h := (if_pos c3).symm.trans h
      refine pp_iconst hF dX5_leastNumber_80 ic_0 ?_
      obtain ⟨rfl, rfl⟩ := pp_i2 h
      exact pp_ireturn hF hR dX5_leastNumber_81
    · replace h := (if_neg c3).symm.trans h
      refine pp_aload_n hF dX5_leastNumber_34 rfl rfl ?_
      refine pp_getR hF fdK_X5_11 dX5_leastNumber_35 ?_
      refine pp_iload_n hF dX5_leastNumber_38 rfl rfl ?_
      refine pp_aaloadL hF vK_26 hi1 dX5_leastNumber_39 ?_
      refine pp_iload hF dX5_leastNumber_40 rfl ?_
      obtain ⟨hi4, h⟩ := pp_ck h
      refine pp_laloadJ hF (vK_27 _ (vp_lt hi1)) hi4 rfl dX5_leastNumber_42 ?_
      refine pp_aload_n hF dX5_leastNumber_43 rfl rfl ?_
      refine pp_getR hF fdK_X5_20 dX5_leastNumber_44 ?_
      refine pp_iload_n hF dX5_leastNumber_47 rfl rfl ?_
      refine pp_iconst hF dX5_leastNumber_48 ic_1 ?_
      refine pp_iadd hF dX5_leastNumber_49 ?_
      obtain ⟨hi5, h⟩ := pp_ck h
      refine pp_aaloadL hF vK_29 hi5 dX5_leastNumber_50 ?_
      refine pp_iload_n hF dX5_leastNumber_51 rfl rfl ?_
      refine pp_iload hF dX5_leastNumber_52 rfl ?_
      refine pp_iload_n hF dX5_leastNumber_54 rfl rfl ?_
      refine pp_imul hF dX5_leastNumber_55 ?_
      refine pp_isub hF dX5_leastNumber_56 ?_
      obtain ⟨hi6, h⟩ := pp_ck h
      refine pp_laloadJ hF (vK_30 _ (vp_lt hi5)) hi6 rfl dX5_leastNumber_57 ?_
      refine pp_ladd hF dX5_leastNumber_58 ?_
      refine pp_aload_n hF dX5_leastNumber_59 rfl rfl ?_
      refine pp_getR hF fdK_X5_20 dX5_leastNumber_60 ?_
      refine pp_iload_n hF dX5_leastNumber_63 rfl rfl ?_
      obtain ⟨hi7, h⟩ := pp_ck h
      refine pp_aaloadL hF vK_29 hi7 dX5_leastNumber_64 ?_
      refine pp_iload_n hF dX5_leastNumber_65 rfl rfl ?_
      obtain ⟨hi8, h⟩ := pp_ck h
      refine pp_laloadJ hF (vK_30 _ (vp_lt hi7)) hi8 rfl dX5_leastNumber_66 ?_
      refine pp_lcmp_ne (tgt := 74) hF dX5_leastNumber_67 dX5_leastNumber_68 rfl (fun c9 => ?_) (fun c9 => ?_)
      · replace h := (if_pos c9).symm.trans h
        refine pp_iload hF dX5_leastNumber_71 rfl ?_
        obtain ⟨rfl, rfl⟩ := pp_i2 h
        exact pp_ireturn hF hR dX5_leastNumber_73
      · replace h := (if_neg c9).symm.trans h
        refine pp_iinc hF dX5_leastNumber_74 rfl (congrArg (HAdd.hAdd _) ic_1) (by decide) (lv' := [(0, ppR 25 0 0), (1, ppI a1), (2, ppI a2), (3, ppI a3), (4, ppI (a4 + (1 : Int32)))]) rfl ?_
        refine pp_goto (tgt := 15) hF dX5_leastNumber_77 rfl ?_
        exact hk15 h
set_option maxRecDepth 20000 in
theorem e_X5_leastNumber_15_L {Γ : pp_G} {r' : Int32} {σ' : pp_M} (hF : pp_Fx Γ dsK cX5_leastNumber 5 RX5 1 12) (hR : pp_Rt Γ dsK (some .int) (some (ppI r')) σ') : ∀ {n : Nat} {σ : pp_M} {a1 : Int32} {a2 : Int32} {a3 : Int32} {a4 : Int32}, f_X5_leastNumber_15 n σ a1 a2 a3 a4 = some (r', σ') → pp_E Γ dsK cX5_leastNumber 5 15 [(0, ppR 25 0 0), (1, ppI a1), (2, ppI a2), (3, ppI a3), (4, ppI a4)] [] σ
  | 0, _, _, _, _, _ => fun h => by cases h
  | n + 1, _, _, _, _, _ => fun h => e_X5_leastNumber_15 hF hR (fun h => e_X5_leastNumber_15_L hF hR (n := n) h) h
set_option maxRecDepth 20000 in
theorem e_X5_leastNumber_0 {Γ : pp_G} {r' : Int32} {σ' : pp_M} (hF : pp_Fx Γ dsK cX5_leastNumber 5 RX5 1 12) (hR : pp_Rt Γ dsK (some .int) (some (ppI r')) σ') {σ : pp_M} {a1 : Int32} {a2 : Int32} (h : f_X5_leastNumber σ a1 a2 = some (r', σ')) : pp_E Γ dsK cX5_leastNumber 5 0 [(0, ppR 25 0 0), (1, ppI a1), (2, ppI a2)] [] σ := by
  unfold f_X5_leastNumber at h
  refine pp_aload_n hF dX5_leastNumber_0 rfl rfl ?_
  refine pp_getR hF fdK_X5_40 dX5_leastNumber_1 ?_
  refine pp_getR hF fdK_X5_44 dX5_leastNumber_4 ?_
  refine pp_iload_n hF dX5_leastNumber_7 rfl rfl ?_
  obtain ⟨hi1, h⟩ := pp_ck h
  refine pp_aaloadI hF vK_2 hi1 dX5_leastNumber_8 ?_
  refine pp_iconst hF dX5_leastNumber_9 ic_1 ?_
  refine pp_ialoadJ hF (vK_3 _ (vp_lt hi1)) vl_1_6 (congrArg (HAdd.hAdd _) cl_1) dX5_leastNumber_10 ?_
  refine pp_istore_n hF dX5_leastNumber_11 rfl (by decide) (lv' := [(0, ppR 25 0 0), (1, ppI a1), (2, ppI a2), (3, ppI (σ.1 3 ((a1.toNatClampNeg * 6) + 1)))]) rfl ?_
  refine pp_iconst hF dX5_leastNumber_12 ic_0 ?_
  refine pp_istore hF dX5_leastNumber_13 (by decide) (lv' := [(0, ppR 25 0 0), (1, ppI a1), (2, ppI a2), (3, ppI (σ.1 3 ((a1.toNatClampNeg * 6) + 1))), (4, ppI (0 : Int32))]) rfl ?_
  exact e_X5_leastNumber_15_L hF hR h
set_option maxRecDepth 20000 in
theorem c_X5_leastNumber {r' : Int32} {σ' : pp_M} {σ : pp_M} {a1 : Int32} {a2 : Int32} (h : f_X5_leastNumber σ a1 a2 = some (r', σ')) : pp_Ct yX5_leastNumber cX5_leastNumber 5 (some .int) 1 12 dsK [ppR 25 0 0, ppI a1, ppI a2] σ (some (ppI r')) σ' := pp_met pl_X5 rfl okK (Nat.le_of_ble_eq_true rfl) rfl (fun Γ hF hR => (e_X5_leastNumber_0 hF hR h))
set_option maxRecDepth 20000 in
theorem e_X5_fillMost_92 {Γ : pp_G} {σ' : pp_M} (hF : pp_Fx Γ dsK cX5_fillMost 10 RX5 1 100) (hR : pp_Rt Γ dsK none none σ') {σ : pp_M} {a1 : Int32} {a2 : Int32} {a3 : Int32} {a4 : Int32} {a5o : Nat} {a6 : Int32} {a7 : Int64} {k26 : pp_M → Int32 → Int32 → Int32 → Int32 → Nat → Int32 → Option (pp_M)} (hk26 : ∀ {σ : pp_M} {a1 : Int32} {a2 : Int32} {a3 : Int32} {a4 : Int32} {a5o : Nat} {a6 : Int32}, pp_al dsK 30 a5o 101 → k26 σ a1 a2 a3 a4 a5o a6 = some σ' → pp_E Γ dsK cX5_fillMost 10 26 [(0, ppR 25 0 0), (1, ppI a1), (2, ppI a2), (3, ppI a3), (4, ppI a4), (5, ppR 30 a5o 101), (6, ppI a6)] [] σ) (hv5 : pp_al dsK 30 a5o 101) (h : f_X5_fillMost_92 k26 σ a1 a2 a3 a4 a5o a6 a7 = some σ') : pp_E Γ dsK cX5_fillMost 10 92 [(0, ppR 25 0 0), (1, ppI a1), (2, ppI a2), (3, ppI a3), (4, ppI a4), (5, ppR 30 a5o 101), (6, ppI a6), (7, ppL a7)] [] σ := by
  unfold f_X5_fillMost_92 at h
  refine pp_aload_n hF dX5_fillMost_92 rfl rfl ?_
  refine pp_getR hF fdK_X5_20 dX5_fillMost_93 ?_
  refine pp_iload_n hF dX5_fillMost_96 rfl rfl ?_
  obtain ⟨hi1, h⟩ := pp_ck h
  refine pp_aaloadL hF vK_29 hi1 dX5_fillMost_97 ?_
  refine pp_iload hF dX5_fillMost_98 rfl ?_
  refine pp_lload hF dX5_fillMost_100 rfl ?_
  obtain ⟨hi2, h⟩ := pp_ck h
  refine pp_lastoreJ hF (vK_30 _ (vp_lt hi1)) hi2 rfl dX5_fillMost_102 ?_
  refine pp_iinc hF dX5_fillMost_103 rfl (congrArg (HAdd.hAdd _) ic_1) (by decide) (lv' := [(0, ppR 25 0 0), (1, ppI a1), (2, ppI a2), (3, ppI a3), (4, ppI a4), (5, ppR 30 a5o 101), (6, ppI (a6 + (1 : Int32))), (7, ppL a7)]) rfl ?_
  refine pp_goto (tgt := 26) hF dX5_fillMost_106 rfl ?_
  refine pp_few [0, 1, 2, 3, 4, 5, 6] (lv' := [(0, ppR 25 0 0), (1, ppI a1), (2, ppI a2), (3, ppI a3), (4, ppI a4), (5, ppR 30 a5o 101), (6, ppI (a6 + (1 : Int32)))]) rfl ?_
  exact hk26 hv5 h
set_option maxRecDepth 20000 in
theorem e_X5_fillMost_42 {Γ : pp_G} {σ' : pp_M} (hF : pp_Fx Γ dsK cX5_fillMost 10 RX5 1 100) (hR : pp_Rt Γ dsK none none σ') {σ : pp_M} {a1 : Int32} {a2 : Int32} {a3 : Int32} {a4 : Int32} {a5o : Nat} {a6 : Int32} {a7 : Int64} {a9 : Int32} {k26 : pp_M → Int32 → Int32 → Int32 → Int32 → Nat → Int32 → Option (pp_M)} (hk26 : ∀ {σ : pp_M} {a1 : Int32} {a2 : Int32} {a3 : Int32} {a4 : Int32} {a5o : Nat} {a6 : Int32}, pp_al dsK 30 a5o 101 → k26 σ a1 a2 a3 a4 a5o a6 = some σ' → pp_E Γ dsK cX5_fillMost 10 26 [(0, ppR 25 0 0), (1, ppI a1), (2, ppI a2), (3, ppI a3), (4, ppI a4), (5, ppR 30 a5o 101), (6, ppI a6)] [] σ) {k42 : pp_M → Int32 → Int32 → Int32 → Int32 → Nat → Int32 → Int64 → Int32 → Option (pp_M)} (hk42 : ∀ {σ : pp_M} {a1 : Int32} {a2 : Int32} {a3 : Int32} {a4 : Int32} {a5o : Nat} {a6 : Int32} {a7 : Int64} {a9 : Int32}, pp_al dsK 30 a5o 101 → k42 σ a1 a2 a3 a4 a5o a6 a7 a9 = some σ' → pp_E Γ dsK cX5_fillMost 10 42 [(0, ppR 25 0 0), (1, ppI a1), (2, ppI a2), (3, ppI a3), (4, ppI a4), (5, ppR 30 a5o 101), (6, ppI a6), (7, ppL a7), (9, ppI a9)] [] σ) (hv5 : pp_al dsK 30 a5o 101) (h : f_X5_fillMost_42_B k26 k42 σ a1 a2 a3 a4 a5o a6 a7 a9 = some σ') : pp_E Γ dsK cX5_fillMost 10 42 [(0, ppR 25 0 0), (1, ppI a1), (2, ppI a2), (3, ppI a3), (4, ppI a4), (5, ppR 30 a5o 101), (6, ppI a6), (7, ppL a7), (9, ppI a9)] [] σ := by
  unfold f_X5_fillMost_42_B at h
  refine pp_iload hF dX5_fillMost_42 rfl ?_
  refine pp_iload_n hF dX5_fillMost_44 rfl rfl ?_
  refine pp_icmp_gt (tgt := 92) hF dX5_fillMost_45 rfl (fun c1 => ?_) (fun c1 => ?_)
  · replace h := (if_pos c1).symm.trans h
    refine pp_few [0, 1, 2, 3, 4, 5, 6, 7] (lv' := [(0, ppR 25 0 0), (1, ppI a1), (2, ppI a2), (3, ppI a3), (4, ppI a4), (5, ppR 30 a5o 101), (6, ppI a6), (7, ppL a7)]) rfl ?_
    exact e_X5_fillMost_92 hF hR hk26 hv5 h
  · replace h := (if_neg c1).symm.trans h
    refine pp_iload hF dX5_fillMost_48 rfl ?_
    refine pp_iload hF dX5_fillMost_50 rfl ?_
    refine pp_imul hF dX5_fillMost_52 ?_
    refine pp_iload hF dX5_fillMost_53 rfl ?_
    refine pp_icmp_gt (tgt := 92) hF dX5_fillMost_55 rfl (fun c2 => ?_) (fun c2 => ?_)
    · replace h := (if_pos c2).symm.trans h
      refine pp_few [0, 1, 2, 3, 4, 5, 6, 7] (lv' := [(0, ppR 25 0 0), (1, ppI a1), (2, ppI a2), (3, ppI a3), (4, ppI a4), (5, ppR 30 a5o 101), (6, ppI a6), (7, ppL a7)]) rfl ?_
      exact e_X5_fillMost_92 hF hR hk26 hv5 h
    · replace h := (if_neg c2).symm.trans h
      refine pp_lload hF dX5_fillMost_58 rfl ?_
      refine pp_aload_n hF dX5_fillMost_60 rfl rfl ?_
      refine pp_getR hF fdK_X5_11 dX5_fillMost_61 ?_
      refine pp_iload_n hF dX5_fillMost_64 rfl rfl ?_
      obtain ⟨hi3, h⟩ := pp_ck h
      refine pp_aaloadL hF vK_26 hi3 dX5_fillMost_65 ?_
      refine pp_iload hF dX5_fillMost_66 rfl ?_
      obtain ⟨hi4, h⟩ := pp_ck h
      refine pp_laloadJ hF (vK_27 _ (vp_lt hi3)) hi4 rfl dX5_fillMost_68 ?_
      refine pp_aload hF dX5_fillMost_69 rfl ?_
      refine pp_iload hF dX5_fillMost_71 rfl ?_
      refine pp_iload hF dX5_fillMost_73 rfl ?_
      refine pp_iload hF dX5_fillMost_75 rfl ?_
      refine pp_imul hF dX5_fillMost_77 ?_
      refine pp_isub hF dX5_fillMost_78 ?_
      obtain ⟨hi5, h⟩ := pp_ck h
      refine pp_laloadJ hF hv5 hi5 rfl dX5_fillMost_79 ?_
      refine pp_ladd hF dX5_fillMost_80 ?_
      refine pp_mmax hF wm_598 wm_599 wm_60 wq_max ⟨by decide, by decide⟩ (Nat.le_of_ble_eq_true rfl) dX5_fillMost_81 ?_
      refine pp_lstore hF dX5_fillMost_84 (by decide) (lv' := [(0, ppR 25 0 0), (1, ppI a1), (2, ppI a2), (3, ppI a3), (4, ppI a4), (5, ppR 30 a5o 101), (6, ppI a6), (7, ppL (if ((σ.2 27 ((a1.toNatClampNeg * 5) + a9.toNatClampNeg)) + (σ.2 30 (a5o + (a6 - (a9 * a4)).toNatClampNeg))) < a7 then a7 else ((σ.2 27 ((a1.toNatClampNeg * 5) + a9.toNatClampNeg)) + (σ.2 30 (a5o + (a6 - (a9 * a4)).toNatClampNeg))))), (9, ppI a9)]) rfl ?_
      refine pp_iinc hF dX5_fillMost_86 rfl (congrArg (HAdd.hAdd _) ic_1) (by decide) (lv' := [(0, ppR 25 0 0), (1, ppI a1), (2, ppI a2), (3, ppI a3), (4, ppI a4), (5, ppR 30 a5o 101), (6, ppI a6), (7, ppL (if ((σ.2 27 ((a1.toNatClampNeg * 5) + a9.toNatClampNeg)) + (σ.2 30 (a5o + (a6 - (a9 * a4)).toNatClampNeg))) < a7 then a7 else ((σ.2 27 ((a1.toNatClampNeg * 5) + a9.toNatClampNeg)) + (σ.2 30 (a5o + (a6 - (a9 * a4)).toNatClampNeg))))), (9, ppI (a9 + (1 : Int32)))]) rfl ?_
      refine pp_goto (tgt := 42) hF dX5_fillMost_89 rfl ?_
      exact hk42 hv5 h
set_option maxRecDepth 20000 in
theorem e_X5_fillMost_42_L {Γ : pp_G} {σ' : pp_M} (hF : pp_Fx Γ dsK cX5_fillMost 10 RX5 1 100) (hR : pp_Rt Γ dsK none none σ') {k26 : pp_M → Int32 → Int32 → Int32 → Int32 → Nat → Int32 → Option (pp_M)} (hk26 : ∀ {σ : pp_M} {a1 : Int32} {a2 : Int32} {a3 : Int32} {a4 : Int32} {a5o : Nat} {a6 : Int32}, pp_al dsK 30 a5o 101 → k26 σ a1 a2 a3 a4 a5o a6 = some σ' → pp_E Γ dsK cX5_fillMost 10 26 [(0, ppR 25 0 0), (1, ppI a1), (2, ppI a2), (3, ppI a3), (4, ppI a4), (5, ppR 30 a5o 101), (6, ppI a6)] [] σ) : ∀ {n : Nat} {σ : pp_M} {a1 : Int32} {a2 : Int32} {a3 : Int32} {a4 : Int32} {a5o : Nat} {a6 : Int32} {a7 : Int64} {a9 : Int32}, pp_al dsK 30 a5o 101 → f_X5_fillMost_42 k26 n σ a1 a2 a3 a4 a5o a6 a7 a9 = some σ' → pp_E Γ dsK cX5_fillMost 10 42 [(0, ppR 25 0 0), (1, ppI a1), (2, ppI a2), (3, ppI a3), (4, ppI a4), (5, ppR 30 a5o 101), (6, ppI a6), (7, ppL a7), (9, ppI a9)] [] σ
  | 0, _, _, _, _, _, _, _, _, _ => fun hv5 h => by cases h
  | n + 1, _, _, _, _, _, _, _, _, _ => fun hv5 h => e_X5_fillMost_42 hF hR hk26 (fun hv5 h => e_X5_fillMost_42_L hF hR hk26 (n := n) hv5 h) hv5 h
set_option maxRecDepth 20000 in
theorem e_X5_fillMost_26 {Γ : pp_G} {σ' : pp_M} (hF : pp_Fx Γ dsK cX5_fillMost 10 RX5 1 100) (hR : pp_Rt Γ dsK none none σ') {σ : pp_M} {a1 : Int32} {a2 : Int32} {a3 : Int32} {a4 : Int32} {a5o : Nat} {a6 : Int32} {k26 : pp_M → Int32 → Int32 → Int32 → Int32 → Nat → Int32 → Option (pp_M)} (hk26 : ∀ {σ : pp_M} {a1 : Int32} {a2 : Int32} {a3 : Int32} {a4 : Int32} {a5o : Nat} {a6 : Int32}, pp_al dsK 30 a5o 101 → k26 σ a1 a2 a3 a4 a5o a6 = some σ' → pp_E Γ dsK cX5_fillMost 10 26 [(0, ppR 25 0 0), (1, ppI a1), (2, ppI a2), (3, ppI a3), (4, ppI a4), (5, ppR 30 a5o 101), (6, ppI a6)] [] σ) (hv5 : pp_al dsK 30 a5o 101) (h : f_X5_fillMost_26_B k26 σ a1 a2 a3 a4 a5o a6 = some σ') : pp_E Γ dsK cX5_fillMost 10 26 [(0, ppR 25 0 0), (1, ppI a1), (2, ppI a2), (3, ppI a3), (4, ppI a4), (5, ppR 30 a5o 101), (6, ppI a6)] [] σ := by
  unfold f_X5_fillMost_26_B at h
  refine pp_iload hF dX5_fillMost_26 rfl ?_
  refine pp_iload_n hF dX5_fillMost_28 rfl rfl ?_
  refine pp_icmp_gt (tgt := 109) hF dX5_fillMost_29 rfl (fun c1 => ?_) (fun c1 => ?_)
  · replace h := (if_pos c1).symm.trans h
    obtain rfl := (Option.some.inj h).symm
    exact pp_return hF hR dX5_fillMost_109
  · replace h := (if_neg c1).symm.trans h
    refine pp_aload hF dX5_fillMost_32 rfl ?_
    refine pp_iload hF dX5_fillMost_34 rfl ?_
    obtain ⟨hi2, h⟩ := pp_ck h
    refine pp_laloadJ hF hv5 hi2 rfl dX5_fillMost_36 ?_
    refine pp_lstore hF dX5_fillMost_37 (by decide) (lv' := [(0, ppR 25 0 0), (1, ppI a1), (2, ppI a2), (3, ppI a3), (4, ppI a4), (5, ppR 30 a5o 101), (6, ppI a6), (7, ppL (σ.2 30 (a5o + a6.toNatClampNeg)))]) rfl ?_
    refine pp_iconst hF dX5_fillMost_39 ic_1 ?_
    refine pp_istore hF dX5_fillMost_40 (by decide) (lv' := [(0, ppR 25 0 0), (1, ppI a1), (2, ppI a2), (3, ppI a3), (4, ppI a4), (5, ppR 30 a5o 101), (6, ppI a6), (7, ppL (σ.2 30 (a5o + a6.toNatClampNeg))), (9, ppI (1 : Int32))]) rfl ?_
    exact e_X5_fillMost_42_L hF hR hk26 hv5 h
set_option maxRecDepth 20000 in
theorem e_X5_fillMost_26_L {Γ : pp_G} {σ' : pp_M} (hF : pp_Fx Γ dsK cX5_fillMost 10 RX5 1 100) (hR : pp_Rt Γ dsK none none σ') : ∀ {n : Nat} {σ : pp_M} {a1 : Int32} {a2 : Int32} {a3 : Int32} {a4 : Int32} {a5o : Nat} {a6 : Int32}, pp_al dsK 30 a5o 101 → f_X5_fillMost_26 n σ a1 a2 a3 a4 a5o a6 = some σ' → pp_E Γ dsK cX5_fillMost 10 26 [(0, ppR 25 0 0), (1, ppI a1), (2, ppI a2), (3, ppI a3), (4, ppI a4), (5, ppR 30 a5o 101), (6, ppI a6)] [] σ
  | 0, _, _, _, _, _, _, _ => fun hv5 h => by cases h
  | n + 1, _, _, _, _, _, _, _ => fun hv5 h => e_X5_fillMost_26 hF hR (fun hv5 h => e_X5_fillMost_26_L hF hR (n := n) hv5 h) hv5 h
set_option maxRecDepth 20000 in
theorem e_X5_fillMost_0 {Γ : pp_G} {σ' : pp_M} (hF : pp_Fx Γ dsK cX5_fillMost 10 RX5 1 100) (hR : pp_Rt Γ dsK none none σ') {σ : pp_M} {a1 : Int32} {a2 : Int32} {a3 : Int32} (h : f_X5_fillMost σ a1 a2 a3 = some σ') : pp_E Γ dsK cX5_fillMost 10 0 [(0, ppR 25 0 0), (1, ppI a1), (2, ppI a2), (3, ppI a3)] [] σ := by
  unfold f_X5_fillMost at h
  refine pp_aload_n hF dX5_fillMost_0 rfl rfl ?_
  refine pp_getR hF fdK_X5_40 dX5_fillMost_1 ?_
  refine pp_getR hF fdK_X5_44 dX5_fillMost_4 ?_
  refine pp_iload_n hF dX5_fillMost_7 rfl rfl ?_
  obtain ⟨hi1, h⟩ := pp_ck h
  refine pp_aaloadI hF vK_2 hi1 dX5_fillMost_8 ?_
  refine pp_iconst hF dX5_fillMost_9 ic_1 ?_
  refine pp_ialoadJ hF (vK_3 _ (vp_lt hi1)) vl_1_6 (congrArg (HAdd.hAdd _) cl_1) dX5_fillMost_10 ?_
  refine pp_istore hF dX5_fillMost_11 (by decide) (lv' := [(0, ppR 25 0 0), (1, ppI a1), (2, ppI a2), (3, ppI a3), (4, ppI (σ.1 3 ((a1.toNatClampNeg * 6) + 1)))]) rfl ?_
  refine pp_aload_n hF dX5_fillMost_13 rfl rfl ?_
  refine pp_getR hF fdK_X5_20 dX5_fillMost_14 ?_
  refine pp_iload_n hF dX5_fillMost_17 rfl rfl ?_
  refine pp_iconst hF dX5_fillMost_18 ic_1 ?_
  refine pp_iadd hF dX5_fillMost_19 ?_
  obtain ⟨hi2, h⟩ := pp_ck h
  refine pp_aaloadL hF vK_29 hi2 dX5_fillMost_20 ?_
  refine pp_astore hF dX5_fillMost_21 (by decide) (lv' := [(0, ppR 25 0 0), (1, ppI a1), (2, ppI a2), (3, ppI a3), (4, ppI (σ.1 3 ((a1.toNatClampNeg * 6) + 1))), (5, ppR 30 ((a1 + (1 : Int32)).toNatClampNeg * 101) 101)]) rfl ?_
  refine pp_iconst hF dX5_fillMost_23 ic_0 ?_
  refine pp_istore hF dX5_fillMost_24 (by decide) (lv' := [(0, ppR 25 0 0), (1, ppI a1), (2, ppI a2), (3, ppI a3), (4, ppI (σ.1 3 ((a1.toNatClampNeg * 6) + 1))), (5, ppR 30 ((a1 + (1 : Int32)).toNatClampNeg * 101) 101), (6, ppI (0 : Int32))]) rfl ?_
  exact e_X5_fillMost_26_L hF hR (vK_30 _ (vp_lt hi2)) h
set_option maxRecDepth 20000 in
theorem c_X5_fillMost {σ' : pp_M} {σ : pp_M} {a1 : Int32} {a2 : Int32} {a3 : Int32} (h : f_X5_fillMost σ a1 a2 a3 = some σ') : pp_Ct yX5_fillMost cX5_fillMost 10 none 1 100 dsK [ppR 25 0 0, ppI a1, ppI a2, ppI a3] σ none σ' := pp_met pl_X5 rfl okK (Nat.le_of_ble_eq_true rfl) rfl (fun Γ hF hR => (e_X5_fillMost_0 hF hR h))
set_option maxRecDepth 20000 in
theorem e_X5_mostGain_24 {Γ : pp_G} {r' : Int64} {σ' : pp_M} (hF : pp_Fx Γ dsK cX5_mostGain 4 RX5 2 129) (hR : pp_Rt Γ dsK (some .long) (some (ppL r')) σ') {σ : pp_M} {a1 : Int32} {a2 : Int32} {a3 : Int32} {b1 : Int32} {b2 : Int32} {b3 : Int32} {k2 : pp_M → Int32 → Int32 → Int32 → Option (Int64 × pp_M)} (hk2 : ∀ {σ : pp_M} {a1 : Int32} {a2 : Int32} {a3 : Int32}, k2 σ a1 a2 a3 = some (r', σ') → pp_E Γ dsK cX5_mostGain 4 2 [(0, ppR 25 0 0), (1, ppI a1), (2, ppI a2), (3, ppI a3)] [] σ) (h : f_X5_mostGain_24 k2 σ a1 a2 a3 b1 b2 b3 = some (r', σ')) : pp_E Γ dsK cX5_mostGain 4 24 [(0, ppR 25 0 0), (1, ppI a1), (2, ppI a2), (3, ppI a3)] [ppI b3, ppI b2, ppI b1, ppR 25 0 0] σ := by
  unfold f_X5_mostGain_24 at h
  obtain ⟨x24, hx24, h⟩ := pp_bd h
  refine pp_callVv hF (c_X5_fillMost hx24) mV_X5_fillMost lk_X5_60 obK_25 rfl rfl ⟨by decide, by decide⟩ (Nat.le_of_ble_eq_true rfl) dX5_mostGain_24 ?_
  refine pp_iinc hF dX5_mostGain_27 rfl (congrArg (HAdd.hAdd _) ic_n1) (by decide) (lv' := [(0, ppR 25 0 0), (1, ppI a1), (2, ppI a2), (3, ppI (a3 + (-1 : Int32)))]) rfl ?_
  refine pp_goto (tgt := 2) hF dX5_mostGain_30 rfl ?_
  exact hk2 h
set_option maxRecDepth 20000 in
theorem e_X5_mostGain_2 {Γ : pp_G} {r' : Int64} {σ' : pp_M} (hF : pp_Fx Γ dsK cX5_mostGain 4 RX5 2 129) (hR : pp_Rt Γ dsK (some .long) (some (ppL r')) σ') {σ : pp_M} {a1 : Int32} {a2 : Int32} {a3 : Int32} {k2 : pp_M → Int32 → Int32 → Int32 → Option (Int64 × pp_M)} (hk2 : ∀ {σ : pp_M} {a1 : Int32} {a2 : Int32} {a3 : Int32}, k2 σ a1 a2 a3 = some (r', σ') → pp_E Γ dsK cX5_mostGain 4 2 [(0, ppR 25 0 0), (1, ppI a1), (2, ppI a2), (3, ppI a3)] [] σ) (h : f_X5_mostGain_2_B k2 σ a1 a2 a3 = some (r', σ')) : pp_E Γ dsK cX5_mostGain 4 2 [(0, ppR 25 0 0), (1, ppI a1), (2, ppI a2), (3, ppI a3)] [] σ := by
  unfold f_X5_mostGain_2_B at h
  refine pp_iload_n hF dX5_mostGain_2 rfl rfl ?_
  refine pp_if_lt (tgt := 33) hF dX5_mostGain_3 rfl (fun c1 => ?_) (fun c1 => ?_)
  · replace h := (if_pos c1).symm.trans h
    refine pp_aload_n hF dX5_mostGain_33 rfl rfl ?_
    refine pp_getR hF fdK_X5_20 dX5_mostGain_34 ?_
    refine pp_iconst hF dX5_mostGain_37 ic_0 ?_
    refine pp_aaloadLJ hF vK_29 vl_0_7 rfl dX5_mostGain_38 ?_
    refine pp_iload_n hF dX5_mostGain_39 rfl rfl ?_
    obtain ⟨hi2, h⟩ := pp_ck h
    refine pp_laloadJ hF (vK_30 _ (vp_lt vl_0_7)) hi2 (Nat.zero_add _) dX5_mostGain_40 ?_
    obtain ⟨rfl, rfl⟩ := pp_i2 h
    exact pp_lreturn hF hR dX5_mostGain_41
  · replace h := (if_neg c1).symm.trans h
    refine pp_aload_n hF dX5_mostGain_6 rfl rfl ?_
    refine pp_iload_n hF dX5_mostGain_7 rfl rfl ?_
    refine pp_iload_n hF dX5_mostGain_8 rfl rfl ?_
    refine pp_iload_n hF dX5_mostGain_9 rfl rfl ?_
    refine pp_iload_n hF dX5_mostGain_10 rfl rfl ?_
    refine pp_icmp_ne (tgt := 18) hF dX5_mostGain_11 rfl (fun c3 => ?_) (fun c3 => ?_)
    · replace h := (if_pos c3).symm.trans h
      refine pp_iconst hF dX5_mostGain_14 ic_0 ?_
      refine pp_goto (tgt := 24) hF dX5_mostGain_15 rfl ?_
      exact e_X5_mostGain_24 hF hR hk2 h
    · replace h := (if_neg c3).symm.trans h
      refine pp_aload_n hF dX5_mostGain_18 rfl rfl ?_
      refine pp_getR hF fdK_X5_16 dX5_mostGain_19 ?_
      refine pp_iload_n hF dX5_mostGain_22 rfl rfl ?_
      obtain ⟨hi4, h⟩ := pp_ck h
      refine pp_ialoadJ hF vK_28 hi4 (Nat.zero_add _) dX5_mostGain_23 ?_
      exact e_X5_mostGain_24 hF hR hk2 h
set_option maxRecDepth 20000 in
theorem e_X5_mostGain_2_L {Γ : pp_G} {r' : Int64} {σ' : pp_M} (hF : pp_Fx Γ dsK cX5_mostGain 4 RX5 2 129) (hR : pp_Rt Γ dsK (some .long) (some (ppL r')) σ') : ∀ {n : Nat} {σ : pp_M} {a1 : Int32} {a2 : Int32} {a3 : Int32}, f_X5_mostGain_2 n σ a1 a2 a3 = some (r', σ') → pp_E Γ dsK cX5_mostGain 4 2 [(0, ppR 25 0 0), (1, ppI a1), (2, ppI a2), (3, ppI a3)] [] σ
  | 0, _, _, _, _ => fun h => by cases h
  | n + 1, _, _, _, _ => fun h => e_X5_mostGain_2 hF hR (fun h => e_X5_mostGain_2_L hF hR (n := n) h) h
set_option maxRecDepth 20000 in
theorem e_X5_mostGain_0 {Γ : pp_G} {r' : Int64} {σ' : pp_M} (hF : pp_Fx Γ dsK cX5_mostGain 4 RX5 2 129) (hR : pp_Rt Γ dsK (some .long) (some (ppL r')) σ') {σ : pp_M} {a1 : Int32} {a2 : Int32} (h : f_X5_mostGain σ a1 a2 = some (r', σ')) : pp_E Γ dsK cX5_mostGain 4 0 [(0, ppR 25 0 0), (1, ppI a1), (2, ppI a2)] [] σ := by
  unfold f_X5_mostGain at h
  refine pp_iconst hF dX5_mostGain_0 ic_5 ?_
  refine pp_istore_n hF dX5_mostGain_1 rfl (by decide) (lv' := [(0, ppR 25 0 0), (1, ppI a1), (2, ppI a2), (3, ppI (5 : Int32))]) rfl ?_
  exact e_X5_mostGain_2_L hF hR h
set_option maxRecDepth 20000 in
theorem c_X5_mostGain {r' : Int64} {σ' : pp_M} {σ : pp_M} {a1 : Int32} {a2 : Int32} (h : f_X5_mostGain σ a1 a2 = some (r', σ')) : pp_Ct yX5_mostGain cX5_mostGain 4 (some .long) 2 129 dsK [ppR 25 0 0, ppI a1, ppI a2] σ (some (ppL r')) σ' := pp_met pl_X5 rfl okK (Nat.le_of_ble_eq_true rfl) rfl (fun Γ hF hR => (e_X5_mostGain_0 hF hR h))
set_option maxRecDepth 20000 in
theorem e_X5_chooseBest_39 {Γ : pp_G} {σ' : pp_M} (hF : pp_Fx Γ dsK cX5_chooseBest 6 RX5 3 152) (hR : pp_Rt Γ dsK none none σ') {σ : pp_M} {a4 : Int32} {a5 : Int32} {k39 : pp_M → Int32 → Int32 → Option (pp_M)} (hk39 : ∀ {σ : pp_M} {a4 : Int32} {a5 : Int32}, k39 σ a4 a5 = some σ' → pp_E Γ dsK cX5_chooseBest 6 39 [(0, ppR 25 0 0), (4, ppI a4), (5, ppI a5)] [] σ) (h : f_X5_chooseBest_39_B k39 σ a4 a5 = some σ') : pp_E Γ dsK cX5_chooseBest 6 39 [(0, ppR 25 0 0), (4, ppI a4), (5, ppI a5)] [] σ := by
  unfold f_X5_chooseBest_39_B at h
  refine pp_iload hF dX5_chooseBest_39 rfl ?_
  refine pp_bipush hF dX5_chooseBest_41 bc_6 ?_
  refine pp_icmp_ge (tgt := 92) hF dX5_chooseBest_43 rfl (fun c1 => ?_) (fun c1 => ?_)
  · replace h := (if_pos c1).symm.trans h
    refine pp_aload_n hF dX5_chooseBest_46 rfl rfl ?_
    refine pp_getR hF fdK_X5_27 dX5_chooseBest_47 ?_
    refine pp_iload hF dX5_chooseBest_50 rfl ?_
    refine pp_aload_n hF dX5_chooseBest_52 rfl rfl ?_
    refine pp_iload hF dX5_chooseBest_53 rfl ?_
    refine pp_iload hF dX5_chooseBest_55 rfl ?_
    obtain ⟨x57, hx57, h⟩ := pp_bd h
    refine pp_callVi hF (c_X5_leastNumber hx57) mV_X5_leastNumber lk_X5_74 obK_25 rfl rfl ⟨by decide, by decide⟩ (Nat.le_of_ble_eq_true rfl) dX5_chooseBest_57 ?_
    obtain ⟨hi3, h⟩ := pp_ck h
    refine pp_iastoreJ hF vK_32 hi3 (Nat.zero_add _) dX5_chooseBest_60 ?_
    refine pp_iload hF dX5_chooseBest_61 rfl ?_
    refine pp_aload_n hF dX5_chooseBest_63 rfl rfl ?_
    refine pp_getR hF fdK_X5_27 dX5_chooseBest_64 ?_
    refine pp_iload hF dX5_chooseBest_67 rfl ?_
    refine pp_ialoadJ hF vK_32 hi3 (Nat.zero_add _) dX5_chooseBest_69 ?_
    refine pp_aload_n hF dX5_chooseBest_70 rfl rfl ?_
    refine pp_getR hF fdK_X5_40 dX5_chooseBest_71 ?_
    refine pp_getR hF fdK_X5_44 dX5_chooseBest_74 ?_
    refine pp_iload hF dX5_chooseBest_77 rfl ?_
    refine pp_aaloadI hF vK_2 hi3 dX5_chooseBest_79 ?_
    refine pp_iconst hF dX5_chooseBest_80 ic_1 ?_
    refine pp_ialoadJ hF (vK_3 _ (vp_lt hi3)) vl_1_6 (congrArg (HAdd.hAdd _) cl_1) dX5_chooseBest_81 ?_
    refine pp_imul hF dX5_chooseBest_82 ?_
    refine pp_isub hF dX5_chooseBest_83 ?_
    refine pp_istore hF dX5_chooseBest_84 (by decide) (lv' := [(0, ppR 25 0 0), (4, ppI (a4 - (((ppS x57.2 32 a5.toNatClampNeg x57.1).1 32 a5.toNatClampNeg) * ((ppS x57.2 32 a5.toNatClampNeg x57.1).1 3 ((a5.toNatClampNeg * 6) + 1))))), (5, ppI a5)]) rfl ?_
    refine pp_iinc hF dX5_chooseBest_86 rfl (congrArg (HAdd.hAdd _) ic_1) (by decide) (lv' := [(0, ppR 25 0 0), (4, ppI (a4 - (((ppS x57.2 32 a5.toNatClampNeg x57.1).1 32 a5.toNatClampNeg) * ((ppS x57.2 32 a5.toNatClampNeg x57.1).1 3 ((a5.toNatClampNeg * 6) + 1))))), (5, ppI (a5 + (1 : Int32)))]) rfl ?_
    refine pp_goto (tgt := 39) hF dX5_chooseBest_89 rfl ?_
    exact hk39 h
  · replace h := (if_neg c1).symm.trans h
    obtain rfl := (Option.some.inj h).symm
    exact pp_return hF hR dX5_chooseBest_92
set_option maxRecDepth 20000 in
theorem e_X5_chooseBest_39_L {Γ : pp_G} {σ' : pp_M} (hF : pp_Fx Γ dsK cX5_chooseBest 6 RX5 3 152) (hR : pp_Rt Γ dsK none none σ') : ∀ {n : Nat} {σ : pp_M} {a4 : Int32} {a5 : Int32}, f_X5_chooseBest_39 n σ a4 a5 = some σ' → pp_E Γ dsK cX5_chooseBest 6 39 [(0, ppR 25 0 0), (4, ppI a4), (5, ppI a5)] [] σ
  | 0, _, _, _ => fun h => by cases h
  | n + 1, _, _, _ => fun h => e_X5_chooseBest_39 hF hR (fun h => e_X5_chooseBest_39_L hF hR (n := n) h) h
set_option maxRecDepth 20000 in
theorem e_X5_chooseBest_36 {Γ : pp_G} {σ' : pp_M} (hF : pp_Fx Γ dsK cX5_chooseBest 6 RX5 3 152) (hR : pp_Rt Γ dsK none none σ') {σ : pp_M} {a4 : Int32} (h : f_X5_chooseBest_36 σ a4 = some σ') : pp_E Γ dsK cX5_chooseBest 6 36 [(0, ppR 25 0 0), (4, ppI a4)] [] σ := by
  unfold f_X5_chooseBest_36 at h
  refine pp_iconst hF dX5_chooseBest_36 ic_0 ?_
  refine pp_istore hF dX5_chooseBest_37 (by decide) (lv' := [(0, ppR 25 0 0), (4, ppI a4), (5, ppI (0 : Int32))]) rfl ?_
  exact e_X5_chooseBest_39_L hF hR h
set_option maxRecDepth 20000 in
theorem e_X5_chooseBest_10 {Γ : pp_G} {σ' : pp_M} (hF : pp_Fx Γ dsK cX5_chooseBest 6 RX5 3 152) (hR : pp_Rt Γ dsK none none σ') {σ : pp_M} {a1 : Int32} {a2 : Int64} {a4 : Int32} {k10 : pp_M → Int32 → Int64 → Int32 → Option (pp_M)} (hk10 : ∀ {σ : pp_M} {a1 : Int32} {a2 : Int64} {a4 : Int32}, k10 σ a1 a2 a4 = some σ' → pp_E Γ dsK cX5_chooseBest 6 10 [(0, ppR 25 0 0), (1, ppI a1), (2, ppL a2), (4, ppI a4)] [] σ) (h : f_X5_chooseBest_10_B k10 σ a1 a2 a4 = some σ') : pp_E Γ dsK cX5_chooseBest 6 10 [(0, ppR 25 0 0), (1, ppI a1), (2, ppL a2), (4, ppI a4)] [] σ := by
  unfold f_X5_chooseBest_10_B at h
  refine pp_iload hF dX5_chooseBest_10 rfl ?_
  refine pp_iload_n hF dX5_chooseBest_12 rfl rfl ?_
  refine pp_icmp_ge (tgt := 36) hF dX5_chooseBest_13 rfl (fun c1 => ?_) (fun c1 => ?_)
  · replace h := (if_pos c1).symm.trans h
    refine pp_aload_n hF dX5_chooseBest_16 rfl rfl ?_
    refine pp_getR hF fdK_X5_20 dX5_chooseBest_17 ?_
    refine pp_iconst hF dX5_chooseBest_20 ic_0 ?_
    refine pp_aaloadLJ hF vK_29 vl_0_7 rfl dX5_chooseBest_21 ?_
    refine pp_iload hF dX5_chooseBest_22 rfl ?_
    obtain ⟨hi2, h⟩ := pp_ck h
    refine pp_laloadJ hF (vK_30 _ (vp_lt vl_0_7)) hi2 (Nat.zero_add _) dX5_chooseBest_24 ?_
    refine pp_lload_n hF dX5_chooseBest_25 rfl rfl ?_
    refine pp_lcmp_ge (tgt := 36) hF dX5_chooseBest_26 dX5_chooseBest_27 rfl (fun c3 => ?_) (fun c3 => ?_)
    · replace h := (if_pos c3).symm.trans h
      refine pp_iinc hF dX5_chooseBest_30 rfl (congrArg (HAdd.hAdd _) ic_1) (by decide) (lv' := [(0, ppR 25 0 0), (1, ppI a1), (2, ppL a2), (4, ppI (a4 + (1 : Int32)))]) rfl ?_
      refine pp_goto (tgt := 10) hF dX5_chooseBest_33 rfl ?_
      exact hk10 h
    · replace h := (if_neg c3).symm.trans h
      refine pp_few [0, 3] (lv' := [(0, ppR 25 0 0), (4, ppI a4)]) rfl ?_
      exact e_X5_chooseBest_36 hF hR h
  · replace h := (if_neg c1).symm.trans h
    refine pp_few [0, 3] (lv' := [(0, ppR 25 0 0), (4, ppI a4)]) rfl ?_
    exact e_X5_chooseBest_36 hF hR h
set_option maxRecDepth 20000 in
theorem e_X5_chooseBest_10_L {Γ : pp_G} {σ' : pp_M} (hF : pp_Fx Γ dsK cX5_chooseBest 6 RX5 3 152) (hR : pp_Rt Γ dsK none none σ') : ∀ {n : Nat} {σ : pp_M} {a1 : Int32} {a2 : Int64} {a4 : Int32}, f_X5_chooseBest_10 n σ a1 a2 a4 = some σ' → pp_E Γ dsK cX5_chooseBest 6 10 [(0, ppR 25 0 0), (1, ppI a1), (2, ppL a2), (4, ppI a4)] [] σ
  | 0, _, _, _, _ => fun h => by cases h
  | n + 1, _, _, _, _ => fun h => e_X5_chooseBest_10 hF hR (fun h => e_X5_chooseBest_10_L hF hR (n := n) h) h
set_option maxRecDepth 20000 in
theorem e_X5_chooseBest_0 {Γ : pp_G} {σ' : pp_M} (hF : pp_Fx Γ dsK cX5_chooseBest 6 RX5 3 152) (hR : pp_Rt Γ dsK none none σ') {σ : pp_M} {a1 : Int32} (h : f_X5_chooseBest σ a1 = some σ') : pp_E Γ dsK cX5_chooseBest 6 0 [(0, ppR 25 0 0), (1, ppI a1)] [] σ := by
  unfold f_X5_chooseBest at h
  refine pp_aload_n hF dX5_chooseBest_0 rfl rfl ?_
  refine pp_iload_n hF dX5_chooseBest_1 rfl rfl ?_
  refine pp_iconst hF dX5_chooseBest_2 ic_n1 ?_
  obtain ⟨x3, hx3, h⟩ := pp_bd h
  refine pp_callVl hF (c_X5_mostGain hx3) mV_X5_mostGain lk_X5_70 obK_25 rfl rfl ⟨by decide, by decide⟩ (Nat.le_of_ble_eq_true rfl) dX5_chooseBest_3 ?_
  refine pp_lstore_n hF dX5_chooseBest_6 rfl (by decide) (lv' := [(0, ppR 25 0 0), (1, ppI a1), (2, ppL x3.1)]) rfl ?_
  refine pp_iconst hF dX5_chooseBest_7 ic_0 ?_
  refine pp_istore hF dX5_chooseBest_8 (by decide) (lv' := [(0, ppR 25 0 0), (1, ppI a1), (2, ppL x3.1), (4, ppI (0 : Int32))]) rfl ?_
  exact e_X5_chooseBest_10_L hF hR h
set_option maxRecDepth 20000 in
theorem c_X5_chooseBest {σ' : pp_M} {σ : pp_M} {a1 : Int32} (h : f_X5_chooseBest σ a1 = some σ') : pp_Ct yX5_chooseBest cX5_chooseBest 6 none 3 152 dsK [ppR 25 0 0, ppI a1] σ none σ' := pp_met pl_X5 rfl okK (Nat.le_of_ble_eq_true rfl) rfl (fun Γ hF hR => (e_X5_chooseBest_0 hF hR h))
set_option maxRecDepth 20000 in
theorem e_X5_stepGain_0 {Γ : pp_G} {r' : Int64} {σ' : pp_M} (hF : pp_Fx Γ dsK cX5_stepGain 3 RX5 1 12) (hR : pp_Rt Γ dsK (some .long) (some (ppL r')) σ') {σ : pp_M} {a1 : Int32} {a2 : Int32} (h : f_X5_stepGain σ a1 a2 = some (r', σ')) : pp_E Γ dsK cX5_stepGain 3 0 [(0, ppR 25 0 0), (1, ppI a1), (2, ppI a2)] [] σ := by
  unfold f_X5_stepGain at h
  refine pp_aload_n hF dX5_stepGain_0 rfl rfl ?_
  refine pp_getR hF fdK_X5_11 dX5_stepGain_1 ?_
  refine pp_iload_n hF dX5_stepGain_4 rfl rfl ?_
  obtain ⟨hi1, h⟩ := pp_ck h
  refine pp_aaloadL hF vK_26 hi1 dX5_stepGain_5 ?_
  refine pp_iload_n hF dX5_stepGain_6 rfl rfl ?_
  refine pp_iconst hF dX5_stepGain_7 ic_1 ?_
  refine pp_iadd hF dX5_stepGain_8 ?_
  obtain ⟨hi2, h⟩ := pp_ck h
  refine pp_laloadJ hF (vK_27 _ (vp_lt hi1)) hi2 rfl dX5_stepGain_9 ?_
  refine pp_aload_n hF dX5_stepGain_10 rfl rfl ?_
  refine pp_getR hF fdK_X5_11 dX5_stepGain_11 ?_
  refine pp_iload_n hF dX5_stepGain_14 rfl rfl ?_
  refine pp_aaloadL hF vK_26 hi1 dX5_stepGain_15 ?_
  refine pp_iload_n hF dX5_stepGain_16 rfl rfl ?_
  obtain ⟨hi3, h⟩ := pp_ck h
  refine pp_laloadJ hF (vK_27 _ (vp_lt hi1)) hi3 rfl dX5_stepGain_17 ?_
  refine pp_lsub hF dX5_stepGain_18 ?_
  obtain ⟨rfl, rfl⟩ := pp_i2 h
  exact pp_lreturn hF hR dX5_stepGain_19
set_option maxRecDepth 20000 in
theorem c_X5_stepGain {r' : Int64} {σ' : pp_M} {σ : pp_M} {a1 : Int32} {a2 : Int32} (h : f_X5_stepGain σ a1 a2 = some (r', σ')) : pp_Ct yX5_stepGain cX5_stepGain 3 (some .long) 1 12 dsK [ppR 25 0 0, ppI a1, ppI a2] σ (some (ppL r')) σ' := pp_met pl_X5 rfl okK (Nat.le_of_ble_eq_true rfl) rfl (fun Γ hF hR => (e_X5_stepGain_0 hF hR h))
set_option maxRecDepth 20000 in
theorem e_X5_nextLoaded_88 {Γ : pp_G} {r' : Int32} {σ' : pp_M} (hF : pp_Fx Γ dsK cX5_nextLoaded 10 RX5 2 34) (hR : pp_Rt Γ dsK (some .int) (some (ppI r')) σ') {σ : pp_M} {a1 : Int32} {a2 : Int32} {a3 : Int64} {a5 : Int32} {a6 : Int32} {k10 : pp_M → Int32 → Int32 → Int64 → Int32 → Int32 → Option (Int32 × pp_M)} (hk10 : ∀ {σ : pp_M} {a1 : Int32} {a2 : Int32} {a3 : Int64} {a5 : Int32} {a6 : Int32}, k10 σ a1 a2 a3 a5 a6 = some (r', σ') → pp_E Γ dsK cX5_nextLoaded 10 10 [(0, ppR 25 0 0), (1, ppI a1), (2, ppI a2), (3, ppL a3), (5, ppI a5), (6, ppI a6)] [] σ) (h : f_X5_nextLoaded_88 k10 σ a1 a2 a3 a5 a6 = some (r', σ')) : pp_E Γ dsK cX5_nextLoaded 10 88 [(0, ppR 25 0 0), (1, ppI a1), (2, ppI a2), (3, ppL a3), (5, ppI a5), (6, ppI a6)] [] σ := by
  unfold f_X5_nextLoaded_88 at h
  refine pp_iinc hF dX5_nextLoaded_88 rfl (congrArg (HAdd.hAdd _) ic_1) (by decide) (lv' := [(0, ppR 25 0 0), (1, ppI a1), (2, ppI a2), (3, ppL a3), (5, ppI a5), (6, ppI (a6 + (1 : Int32)))]) rfl ?_
  refine pp_goto (tgt := 10) hF dX5_nextLoaded_91 rfl ?_
  exact hk10 h
set_option maxRecDepth 20000 in
theorem e_X5_nextLoaded_10 {Γ : pp_G} {r' : Int32} {σ' : pp_M} (hF : pp_Fx Γ dsK cX5_nextLoaded 10 RX5 2 34) (hR : pp_Rt Γ dsK (some .int) (some (ppI r')) σ') {σ : pp_M} {a1 : Int32} {a2 : Int32} {a3 : Int64} {a5 : Int32} {a6 : Int32} {k10 : pp_M → Int32 → Int32 → Int64 → Int32 → Int32 → Option (Int32 × pp_M)} (hk10 : ∀ {σ : pp_M} {a1 : Int32} {a2 : Int32} {a3 : Int64} {a5 : Int32} {a6 : Int32}, k10 σ a1 a2 a3 a5 a6 = some (r', σ') → pp_E Γ dsK cX5_nextLoaded 10 10 [(0, ppR 25 0 0), (1, ppI a1), (2, ppI a2), (3, ppL a3), (5, ppI a5), (6, ppI a6)] [] σ) (h : f_X5_nextLoaded_10_B k10 σ a1 a2 a3 a5 a6 = some (r', σ')) : pp_E Γ dsK cX5_nextLoaded 10 10 [(0, ppR 25 0 0), (1, ppI a1), (2, ppI a2), (3, ppL a3), (5, ppI a5), (6, ppI a6)] [] σ := by
  unfold f_X5_nextLoaded_10_B at h
  refine pp_iload hF dX5_nextLoaded_10 rfl ?_
  refine pp_bipush hF dX5_nextLoaded_12 bc_6 ?_
  refine pp_icmp_ge (tgt := 94) hF dX5_nextLoaded_14 rfl (fun c1 => ?_) (fun c1 => ?_)
  · replace h := (if_pos c1).symm.trans h
    refine pp_aload_n hF dX5_nextLoaded_17 rfl rfl ?_
    refine pp_getR hF fdK_X5_40 dX5_nextLoaded_18 ?_
    refine pp_getR hF fdK_X5_44 dX5_nextLoaded_21 ?_
    refine pp_iload hF dX5_nextLoaded_24 rfl ?_
    obtain ⟨hi2, h⟩ := pp_ck h
    refine pp_aaloadI hF vK_2 hi2 dX5_nextLoaded_26 ?_
    refine pp_iconst hF dX5_nextLoaded_27 ic_1 ?_
    refine pp_ialoadJ hF (vK_3 _ (vp_lt hi2)) vl_1_6 (congrArg (HAdd.hAdd _) cl_1) dX5_nextLoaded_28 ?_
    refine pp_istore hF dX5_nextLoaded_29 (by decide) (lv' := [(0, ppR 25 0 0), (1, ppI a1), (2, ppI a2), (3, ppL a3), (5, ppI a5), (6, ppI a6), (7, ppI (σ.1 3 ((a6.toNatClampNeg * 6) + 1)))]) rfl ?_
    refine pp_aload_n hF dX5_nextLoaded_31 rfl rfl ?_
    refine pp_getR hF fdK_X5_30 dX5_nextLoaded_32 ?_
    refine pp_iload hF dX5_nextLoaded_35 rfl ?_
    refine pp_ialoadJ hF vK_33 hi2 (Nat.zero_add _) dX5_nextLoaded_37 ?_
    refine pp_iconst hF dX5_nextLoaded_38 ic_4 ?_
    refine pp_icmp_ge (tgt := 88) hF dX5_nextLoaded_39 rfl (fun c3 => ?_) (fun c3 => ?_)
    · replace h := (if_pos c3).symm.trans h
      refine pp_iload hF dX5_nextLoaded_42 rfl ?_
      refine pp_iload_n hF dX5_nextLoaded_44 rfl rfl ?_
      refine pp_icmp_gt (tgt := 88) hF dX5_nextLoaded_45 rfl (fun c4 => ?_) (fun c4 => ?_)
      · replace h := (if_pos c4).symm.trans h
        refine pp_few [0, 1, 2, 3, 4, 5] (lv' := [(0, ppR 25 0 0), (1, ppI a1), (2, ppI a2), (3, ppL a3), (5, ppI a5), (6, ppI a6)]) rfl ?_
        exact e_X5_nextLoaded_88 hF hR hk10 h
      · replace h := (if_neg c4).symm.trans h
        refine pp_aload_n hF dX5_nextLoaded_48 rfl rfl ?_
        refine pp_iload hF dX5_nextLoaded_49 rfl ?_
        refine pp_aload_n hF dX5_nextLoaded_51 rfl rfl ?_
        refine pp_getR hF fdK_X5_30 dX5_nextLoaded_52 ?_
        refine pp_iload hF dX5_nextLoaded_55 rfl ?_
        refine pp_ialoadJ hF vK_33 hi2 (Nat.zero_add _) dX5_nextLoaded_57 ?_
        obtain ⟨x58, hx58, h⟩ := pp_bd h
        refine pp_callVl hF (c_X5_stepGain hx58) mV_X5_stepGain lk_X5_82 obK_25 rfl rfl ⟨by decide, by decide⟩ (Nat.le_of_ble_eq_true rfl) dX5_nextLoaded_58 ?_
        refine pp_lstore hF dX5_nextLoaded_61 (by decide) (lv' := [(0, ppR 25 0 0), (1, ppI a1), (2, ppI a2), (3, ppL a3), (5, ppI a5), (6, ppI a6), (7, ppI (σ.1 3 ((a6.toNatClampNeg * 6) + 1))), (8, ppL x58.1)]) rfl ?_
        refine pp_lload hF dX5_nextLoaded_63 rfl ?_
        refine pp_iload hF dX5_nextLoaded_65 rfl ?_
        refine pp_i2l hF dX5_nextLoaded_67 ?_
        refine pp_lmul hF dX5_nextLoaded_68 ?_
        refine pp_lload_n hF dX5_nextLoaded_69 rfl rfl ?_
        refine pp_iload hF dX5_nextLoaded_70 rfl ?_
        refine pp_i2l hF dX5_nextLoaded_72 ?_
        refine pp_lmul hF dX5_nextLoaded_73 ?_
        refine pp_lcmp_le (tgt := 88) hF dX5_nextLoaded_74 dX5_nextLoaded_75 rfl (fun c6 => ?_) (fun c6 => ?_)
        · replace h := (if_pos c6).symm.trans h
          refine pp_iload hF dX5_nextLoaded_78 rfl ?_
          refine pp_istore_n hF dX5_nextLoaded_80 rfl (by decide) (lv' := [(0, ppR 25 0 0), (1, ppI a1), (2, ppI a6), (3, ppL a3), (5, ppI a5), (6, ppI a6), (7, ppI (σ.1 3 ((a6.toNatClampNeg * 6) + 1))), (8, ppL x58.1)]) rfl ?_
          refine pp_lload hF dX5_nextLoaded_81 rfl ?_
          refine pp_lstore_n hF dX5_nextLoaded_83 rfl (by decide) (lv' := [(0, ppR 25 0 0), (1, ppI a1), (2, ppI a6), (3, ppL x58.1), (5, ppI a5), (6, ppI a6), (7, ppI (σ.1 3 ((a6.toNatClampNeg * 6) + 1))), (8, ppL x58.1)]) rfl ?_
          refine pp_iload hF dX5_nextLoaded_84 rfl ?_
          refine pp_istore hF dX5_nextLoaded_86 (by decide) (lv' := [(0, ppR 25 0 0), (1, ppI a1), (2, ppI a6), (3, ppL x58.1), (5, ppI (σ.1 3 ((a6.toNatClampNeg * 6) + 1))), (6, ppI a6), (7, ppI (σ.1 3 ((a6.toNatClampNeg * 6) + 1))), (8, ppL x58.1)]) rfl ?_
          refine pp_few [0, 1, 2, 3, 4, 5] (lv' := [(0, ppR 25 0 0), (1, ppI a1), (2, ppI a6), (3, ppL x58.1), (5, ppI (σ.1 3 ((a6.toNatClampNeg * 6) + 1))), (6, ppI a6)]) rfl ?_
          exact e_X5_nextLoaded_88 hF hR hk10 h
        · replace h := (if_neg c6).symm.trans h
          refine pp_few [0, 1, 2, 3, 4, 5] (lv' := [(0, ppR 25 0 0), (1, ppI a1), (2, ppI a2), (3, ppL a3), (5, ppI a5), (6, ppI a6)]) rfl ?_
          exact e_X5_nextLoaded_88 hF hR hk10 h
    · replace h := (if_neg c3).symm.trans h
      refine pp_few [0, 1, 2, 3, 4, 5] (lv' := [(0, ppR 25 0 0), (1, ppI a1), (2, ppI a2), (3, ppL a3), (5, ppI a5), (6, ppI a6)]) rfl ?_
      exact e_X5_nextLoaded_88 hF hR hk10 h
  · replace h := (if_neg c1).symm.trans h
    refine pp_iload_n hF dX5_nextLoaded_94 rfl rfl ?_
    obtain ⟨rfl, rfl⟩ := pp_i2 h
    exact pp_ireturn hF hR dX5_nextLoaded_95
set_option maxRecDepth 20000 in
theorem e_X5_nextLoaded_10_L {Γ : pp_G} {r' : Int32} {σ' : pp_M} (hF : pp_Fx Γ dsK cX5_nextLoaded 10 RX5 2 34) (hR : pp_Rt Γ dsK (some .int) (some (ppI r')) σ') : ∀ {n : Nat} {σ : pp_M} {a1 : Int32} {a2 : Int32} {a3 : Int64} {a5 : Int32} {a6 : Int32}, f_X5_nextLoaded_10 n σ a1 a2 a3 a5 a6 = some (r', σ') → pp_E Γ dsK cX5_nextLoaded 10 10 [(0, ppR 25 0 0), (1, ppI a1), (2, ppI a2), (3, ppL a3), (5, ppI a5), (6, ppI a6)] [] σ
  | 0, _, _, _, _, _, _ => fun h => by cases h
  | n + 1, _, _, _, _, _, _ => fun h => e_X5_nextLoaded_10 hF hR (fun h => e_X5_nextLoaded_10_L hF hR (n := n) h) h
set_option maxRecDepth 20000 in
theorem e_X5_nextLoaded_0 {Γ : pp_G} {r' : Int32} {σ' : pp_M} (hF : pp_Fx Γ dsK cX5_nextLoaded 10 RX5 2 34) (hR : pp_Rt Γ dsK (some .int) (some (ppI r')) σ') {σ : pp_M} {a1 : Int32} (h : f_X5_nextLoaded σ a1 = some (r', σ')) : pp_E Γ dsK cX5_nextLoaded 10 0 [(0, ppR 25 0 0), (1, ppI a1)] [] σ := by
  unfold f_X5_nextLoaded at h
  refine pp_iconst hF dX5_nextLoaded_0 ic_n1 ?_
  refine pp_istore_n hF dX5_nextLoaded_1 rfl (by decide) (lv' := [(0, ppR 25 0 0), (1, ppI a1), (2, ppI (-1 : Int32))]) rfl ?_
  refine pp_lconst hF dX5_nextLoaded_2 lc_0 ?_
  refine pp_lstore_n hF dX5_nextLoaded_3 rfl (by decide) (lv' := [(0, ppR 25 0 0), (1, ppI a1), (2, ppI (-1 : Int32)), (3, ppL (0 : Int64))]) rfl ?_
  refine pp_iconst hF dX5_nextLoaded_4 ic_1 ?_
  refine pp_istore hF dX5_nextLoaded_5 (by decide) (lv' := [(0, ppR 25 0 0), (1, ppI a1), (2, ppI (-1 : Int32)), (3, ppL (0 : Int64)), (5, ppI (1 : Int32))]) rfl ?_
  refine pp_iconst hF dX5_nextLoaded_7 ic_0 ?_
  refine pp_istore hF dX5_nextLoaded_8 (by decide) (lv' := [(0, ppR 25 0 0), (1, ppI a1), (2, ppI (-1 : Int32)), (3, ppL (0 : Int64)), (5, ppI (1 : Int32)), (6, ppI (0 : Int32))]) rfl ?_
  exact e_X5_nextLoaded_10_L hF hR h
set_option maxRecDepth 20000 in
theorem c_X5_nextLoaded {r' : Int32} {σ' : pp_M} {σ : pp_M} {a1 : Int32} (h : f_X5_nextLoaded σ a1 = some (r', σ')) : pp_Ct yX5_nextLoaded cX5_nextLoaded 10 (some .int) 2 34 dsK [ppR 25 0 0, ppI a1] σ (some (ppI r')) σ' := pp_met pl_X5 rfl okK (Nat.le_of_ble_eq_true rfl) rfl (fun Γ hF hR => (e_X5_nextLoaded_0 hF hR h))
set_option maxRecDepth 20000 in
theorem e_X5_chooseLoaded_25 {Γ : pp_G} {σ' : pp_M} (hF : pp_Fx Γ dsK cX5_chooseLoaded 5 RX5 3 63) (hR : pp_Rt Γ dsK none none σ') {σ : pp_M} {a2 : Int32} {a3 : Int32} {k25 : pp_M → Int32 → Int32 → Option (pp_M)} (hk25 : ∀ {σ : pp_M} {a2 : Int32} {a3 : Int32}, k25 σ a2 a3 = some σ' → pp_E Γ dsK cX5_chooseLoaded 5 25 [(0, ppR 25 0 0), (2, ppI a2), (3, ppI a3)] [] σ) (h : f_X5_chooseLoaded_25_B k25 σ a2 a3 = some σ') : pp_E Γ dsK cX5_chooseLoaded 5 25 [(0, ppR 25 0 0), (2, ppI a2), (3, ppI a3)] [] σ := by
  unfold f_X5_chooseLoaded_25_B at h
  refine pp_iload_n hF dX5_chooseLoaded_25 rfl rfl ?_
  refine pp_bipush hF dX5_chooseLoaded_26 bc_24 ?_
  refine pp_icmp_ge (tgt := 77) hF dX5_chooseLoaded_28 rfl (fun c1 => ?_) (fun c1 => ?_)
  · replace h := (if_pos c1).symm.trans h
    refine pp_aload_n hF dX5_chooseLoaded_31 rfl rfl ?_
    refine pp_iload_n hF dX5_chooseLoaded_32 rfl rfl ?_
    obtain ⟨x33, hx33, h⟩ := pp_bd h
    refine pp_callVi hF (c_X5_nextLoaded hx33) mV_X5_nextLoaded lk_X5_78 obK_25 rfl rfl ⟨by decide, by decide⟩ (Nat.le_of_ble_eq_true rfl) dX5_chooseLoaded_33 ?_
    refine pp_istore hF dX5_chooseLoaded_36 (by decide) (lv' := [(0, ppR 25 0 0), (2, ppI a2), (3, ppI a3), (4, ppI x33.1)]) rfl ?_
    refine pp_iload hF dX5_chooseLoaded_38 rfl ?_
    refine pp_iconst hF dX5_chooseLoaded_40 ic_n1 ?_
    refine pp_icmp_ne (tgt := 45) hF dX5_chooseLoaded_41 rfl (fun c3 => ?_) (fun c3 => ?_)
    · replace h := (if_pos c3).symm.trans h
      obtain rfl := (Option.some.inj h).symm
      exact pp_return hF hR dX5_chooseLoaded_44
    · replace h := (if_neg c3).symm.trans h
      refine pp_aload_n hF dX5_chooseLoaded_45 rfl rfl ?_
      refine pp_getR hF fdK_X5_30 dX5_chooseLoaded_46 ?_
      refine pp_iload hF dX5_chooseLoaded_49 rfl ?_
      refine pp_dup2 hF dX5_chooseLoaded_51 ?_
      obtain ⟨hi4, h⟩ := pp_ck h
      refine pp_ialoadJ hF vK_33 hi4 (Nat.zero_add _) dX5_chooseLoaded_52 ?_
      refine pp_iconst hF dX5_chooseLoaded_53 ic_1 ?_
      refine pp_iadd hF dX5_chooseLoaded_54 ?_
      refine pp_iastoreJ hF vK_33 hi4 (Nat.zero_add _) dX5_chooseLoaded_55 ?_
      refine pp_iload_n hF dX5_chooseLoaded_56 rfl rfl ?_
      refine pp_aload_n hF dX5_chooseLoaded_57 rfl rfl ?_
      refine pp_getR hF fdK_X5_40 dX5_chooseLoaded_58 ?_
      refine pp_getR hF fdK_X5_44 dX5_chooseLoaded_61 ?_
      refine pp_iload hF dX5_chooseLoaded_64 rfl ?_
      refine pp_aaloadI hF vK_2 hi4 dX5_chooseLoaded_66 ?_
      refine pp_iconst hF dX5_chooseLoaded_67 ic_1 ?_
      refine pp_ialoadJ hF (vK_3 _ (vp_lt hi4)) vl_1_6 (congrArg (HAdd.hAdd _) cl_1) dX5_chooseLoaded_68 ?_
      refine pp_isub hF dX5_chooseLoaded_69 ?_
      refine pp_istore_n hF dX5_chooseLoaded_70 rfl (by decide) (lv' := [(0, ppR 25 0 0), (2, ppI (a2 - ((ppS x33.2 33 x33.1.toNatClampNeg ((x33.2.1 33 x33.1.toNatClampNeg) + (1 : Int32))).1 3 ((x33.1.toNatClampNeg * 6) + 1)))), (3, ppI a3), (4, ppI x33.1)]) rfl ?_
      refine pp_iinc hF dX5_chooseLoaded_71 rfl (congrArg (HAdd.hAdd _) ic_1) (by decide) (lv' := [(0, ppR 25 0 0), (2, ppI (a2 - ((ppS x33.2 33 x33.1.toNatClampNeg ((x33.2.1 33 x33.1.toNatClampNeg) + (1 : Int32))).1 3 ((x33.1.toNatClampNeg * 6) + 1)))), (3, ppI (a3 + (1 : Int32))), (4, ppI x33.1)]) rfl ?_
      refine pp_goto (tgt := 25) hF dX5_chooseLoaded_74 rfl ?_
      refine pp_few [0, 1, 2] (lv' := [(0, ppR 25 0 0), (2, ppI (a2 - ((ppS x33.2 33 x33.1.toNatClampNeg ((x33.2.1 33 x33.1.toNatClampNeg) + (1 : Int32))).1 3 ((x33.1.toNatClampNeg * 6) + 1)))), (3, ppI (a3 + (1 : Int32)))]) rfl ?_
      exact hk25 h
  · replace h := (if_neg c1).symm.trans h
    obtain rfl := (Option.some.inj h).symm
    exact pp_return hF hR dX5_chooseLoaded_77
set_option maxRecDepth 20000 in
theorem e_X5_chooseLoaded_25_L {Γ : pp_G} {σ' : pp_M} (hF : pp_Fx Γ dsK cX5_chooseLoaded 5 RX5 3 63) (hR : pp_Rt Γ dsK none none σ') : ∀ {n : Nat} {σ : pp_M} {a2 : Int32} {a3 : Int32}, f_X5_chooseLoaded_25 n σ a2 a3 = some σ' → pp_E Γ dsK cX5_chooseLoaded 5 25 [(0, ppR 25 0 0), (2, ppI a2), (3, ppI a3)] [] σ
  | 0, _, _, _ => fun h => by cases h
  | n + 1, _, _, _ => fun h => e_X5_chooseLoaded_25 hF hR (fun h => e_X5_chooseLoaded_25_L hF hR (n := n) h) h
set_option maxRecDepth 20000 in
theorem e_X5_chooseLoaded_4 {Γ : pp_G} {σ' : pp_M} (hF : pp_Fx Γ dsK cX5_chooseLoaded 5 RX5 3 63) (hR : pp_Rt Γ dsK none none σ') {σ : pp_M} {a2 : Int32} {a3 : Int32} {k4 : pp_M → Int32 → Int32 → Option (pp_M)} (hk4 : ∀ {σ : pp_M} {a2 : Int32} {a3 : Int32}, k4 σ a2 a3 = some σ' → pp_E Γ dsK cX5_chooseLoaded 5 4 [(0, ppR 25 0 0), (2, ppI a2), (3, ppI a3)] [] σ) (h : f_X5_chooseLoaded_4_B k4 σ a2 a3 = some σ') : pp_E Γ dsK cX5_chooseLoaded 5 4 [(0, ppR 25 0 0), (2, ppI a2), (3, ppI a3)] [] σ := by
  unfold f_X5_chooseLoaded_4_B at h
  refine pp_iload_n hF dX5_chooseLoaded_4 rfl rfl ?_
  refine pp_bipush hF dX5_chooseLoaded_5 bc_6 ?_
  refine pp_icmp_ge (tgt := 23) hF dX5_chooseLoaded_7 rfl (fun c1 => ?_) (fun c1 => ?_)
  · replace h := (if_pos c1).symm.trans h
    refine pp_aload_n hF dX5_chooseLoaded_10 rfl rfl ?_
    refine pp_getR hF fdK_X5_30 dX5_chooseLoaded_11 ?_
    refine pp_iload_n hF dX5_chooseLoaded_14 rfl rfl ?_
    refine pp_iconst hF dX5_chooseLoaded_15 ic_0 ?_
    obtain ⟨hi2, h⟩ := pp_ck h
    refine pp_iastoreJ hF vK_33 hi2 (Nat.zero_add _) dX5_chooseLoaded_16 ?_
    refine pp_iinc hF dX5_chooseLoaded_17 rfl (congrArg (HAdd.hAdd _) ic_1) (by decide) (lv' := [(0, ppR 25 0 0), (2, ppI a2), (3, ppI (a3 + (1 : Int32)))]) rfl ?_
    refine pp_goto (tgt := 4) hF dX5_chooseLoaded_20 rfl ?_
    exact hk4 h
  · replace h := (if_neg c1).symm.trans h
    refine pp_iconst hF dX5_chooseLoaded_23 ic_0 ?_
    refine pp_istore_n hF dX5_chooseLoaded_24 rfl (by decide) (lv' := [(0, ppR 25 0 0), (2, ppI a2), (3, ppI (0 : Int32))]) rfl ?_
    exact e_X5_chooseLoaded_25_L hF hR h
set_option maxRecDepth 20000 in
theorem e_X5_chooseLoaded_4_L {Γ : pp_G} {σ' : pp_M} (hF : pp_Fx Γ dsK cX5_chooseLoaded 5 RX5 3 63) (hR : pp_Rt Γ dsK none none σ') : ∀ {n : Nat} {σ : pp_M} {a2 : Int32} {a3 : Int32}, f_X5_chooseLoaded_4 n σ a2 a3 = some σ' → pp_E Γ dsK cX5_chooseLoaded 5 4 [(0, ppR 25 0 0), (2, ppI a2), (3, ppI a3)] [] σ
  | 0, _, _, _ => fun h => by cases h
  | n + 1, _, _, _ => fun h => e_X5_chooseLoaded_4 hF hR (fun h => e_X5_chooseLoaded_4_L hF hR (n := n) h) h
set_option maxRecDepth 20000 in
theorem e_X5_chooseLoaded_0 {Γ : pp_G} {σ' : pp_M} (hF : pp_Fx Γ dsK cX5_chooseLoaded 5 RX5 3 63) (hR : pp_Rt Γ dsK none none σ') {σ : pp_M} {a1 : Int32} (h : f_X5_chooseLoaded σ a1 = some σ') : pp_E Γ dsK cX5_chooseLoaded 5 0 [(0, ppR 25 0 0), (1, ppI a1)] [] σ := by
  unfold f_X5_chooseLoaded at h
  refine pp_iload_n hF dX5_chooseLoaded_0 rfl rfl ?_
  refine pp_istore_n hF dX5_chooseLoaded_1 rfl (by decide) (lv' := [(0, ppR 25 0 0), (1, ppI a1), (2, ppI a1)]) rfl ?_
  refine pp_iconst hF dX5_chooseLoaded_2 ic_0 ?_
  refine pp_istore_n hF dX5_chooseLoaded_3 rfl (by decide) (lv' := [(0, ppR 25 0 0), (1, ppI a1), (2, ppI a1), (3, ppI (0 : Int32))]) rfl ?_
  refine pp_few [0, 2, 3] (lv' := [(0, ppR 25 0 0), (2, ppI a1), (3, ppI (0 : Int32))]) rfl ?_
  exact e_X5_chooseLoaded_4_L hF hR h
set_option maxRecDepth 20000 in
theorem c_X5_chooseLoaded {σ' : pp_M} {σ : pp_M} {a1 : Int32} (h : f_X5_chooseLoaded σ a1 = some σ') : pp_Ct yX5_chooseLoaded cX5_chooseLoaded 5 none 3 63 dsK [ppR 25 0 0, ppI a1] σ none σ' := pp_met pl_X5 rfl okK (Nat.le_of_ble_eq_true rfl) rfl (fun Γ hF hR => (e_X5_chooseLoaded_0 hF hR h))
set_option maxRecDepth 20000 in
theorem e_X5_nextStep_82 {Γ : pp_G} {r' : Int32} {σ' : pp_M} (hF : pp_Fx Γ dsK cX5_nextStep 9 RX5 2 34) (hR : pp_Rt Γ dsK (some .int) (some (ppI r')) σ') {σ : pp_M} {a1 : Int32} {a2 : Int64} {a4 : Int32} {a5 : Int32} {k10 : pp_M → Int32 → Int64 → Int32 → Int32 → Option (Int32 × pp_M)} (hk10 : ∀ {σ : pp_M} {a1 : Int32} {a2 : Int64} {a4 : Int32} {a5 : Int32}, k10 σ a1 a2 a4 a5 = some (r', σ') → pp_E Γ dsK cX5_nextStep 9 10 [(0, ppR 25 0 0), (1, ppI a1), (2, ppL a2), (4, ppI a4), (5, ppI a5)] [] σ) (h : f_X5_nextStep_82 k10 σ a1 a2 a4 a5 = some (r', σ')) : pp_E Γ dsK cX5_nextStep 9 82 [(0, ppR 25 0 0), (1, ppI a1), (2, ppL a2), (4, ppI a4), (5, ppI a5)] [] σ := by
  unfold f_X5_nextStep_82 at h
  refine pp_iinc hF dX5_nextStep_82 rfl (congrArg (HAdd.hAdd _) ic_1) (by decide) (lv' := [(0, ppR 25 0 0), (1, ppI a1), (2, ppL a2), (4, ppI a4), (5, ppI (a5 + (1 : Int32)))]) rfl ?_
  refine pp_goto (tgt := 10) hF dX5_nextStep_85 rfl ?_
  exact hk10 h
set_option maxRecDepth 20000 in
theorem e_X5_nextStep_10 {Γ : pp_G} {r' : Int32} {σ' : pp_M} (hF : pp_Fx Γ dsK cX5_nextStep 9 RX5 2 34) (hR : pp_Rt Γ dsK (some .int) (some (ppI r')) σ') {σ : pp_M} {a1 : Int32} {a2 : Int64} {a4 : Int32} {a5 : Int32} {k10 : pp_M → Int32 → Int64 → Int32 → Int32 → Option (Int32 × pp_M)} (hk10 : ∀ {σ : pp_M} {a1 : Int32} {a2 : Int64} {a4 : Int32} {a5 : Int32}, k10 σ a1 a2 a4 a5 = some (r', σ') → pp_E Γ dsK cX5_nextStep 9 10 [(0, ppR 25 0 0), (1, ppI a1), (2, ppL a2), (4, ppI a4), (5, ppI a5)] [] σ) (h : f_X5_nextStep_10_B k10 σ a1 a2 a4 a5 = some (r', σ')) : pp_E Γ dsK cX5_nextStep 9 10 [(0, ppR 25 0 0), (1, ppI a1), (2, ppL a2), (4, ppI a4), (5, ppI a5)] [] σ := by
  unfold f_X5_nextStep_10_B at h
  refine pp_iload hF dX5_nextStep_10 rfl ?_
  refine pp_bipush hF dX5_nextStep_12 bc_24 ?_
  refine pp_icmp_ge (tgt := 88) hF dX5_nextStep_14 rfl (fun c1 => ?_) (fun c1 => ?_)
  · replace h := (if_pos c1).symm.trans h
    refine pp_aload_n hF dX5_nextStep_17 rfl rfl ?_
    refine pp_getR hF fdK_X5_40 dX5_nextStep_18 ?_
    refine pp_getR hF fdK_X5_44 dX5_nextStep_21 ?_
    refine pp_iload hF dX5_nextStep_24 rfl ?_
    refine pp_iconst hF dX5_nextStep_26 ic_4 ?_
    refine pp_idiv hF dX5_nextStep_27 (by decide) ?_
    obtain ⟨hi2, h⟩ := pp_ck h
    refine pp_aaloadI hF vK_2 hi2 dX5_nextStep_28 ?_
    refine pp_iconst hF dX5_nextStep_29 ic_1 ?_
    refine pp_ialoadJ hF (vK_3 _ (vp_lt hi2)) vl_1_6 (congrArg (HAdd.hAdd _) cl_1) dX5_nextStep_30 ?_
    refine pp_istore hF dX5_nextStep_31 (by decide) (lv' := [(0, ppR 25 0 0), (1, ppI a1), (2, ppL a2), (4, ppI a4), (5, ppI a5), (6, ppI (σ.1 3 (((a5 / (4 : Int32)).toNatClampNeg * 6) + 1)))]) rfl ?_
    refine pp_aload_n hF dX5_nextStep_33 rfl rfl ?_
    refine pp_iload hF dX5_nextStep_34 rfl ?_
    refine pp_iconst hF dX5_nextStep_36 ic_4 ?_
    refine pp_idiv hF dX5_nextStep_37 (by decide) ?_
    refine pp_iload hF dX5_nextStep_38 rfl ?_
    refine pp_iconst hF dX5_nextStep_40 ic_4 ?_
    refine pp_irem hF dX5_nextStep_41 (by decide) ?_
    obtain ⟨x42, hx42, h⟩ := pp_bd h
    refine pp_callVl hF (c_X5_stepGain hx42) mV_X5_stepGain lk_X5_82 obK_25 rfl rfl ⟨by decide, by decide⟩ (Nat.le_of_ble_eq_true rfl) dX5_nextStep_42 ?_
    refine pp_lstore hF dX5_nextStep_45 (by decide) (lv' := [(0, ppR 25 0 0), (1, ppI a1), (2, ppL a2), (4, ppI a4), (5, ppI a5), (6, ppI (σ.1 3 (((a5 / (4 : Int32)).toNatClampNeg * 6) + 1))), (7, ppL x42.1)]) rfl ?_
    refine pp_aload_n hF dX5_nextStep_47 rfl rfl ?_
    refine pp_getR hF fdK_X5_23 dX5_nextStep_48 ?_
    refine pp_iload hF dX5_nextStep_51 rfl ?_
    obtain ⟨hi4, h⟩ := pp_ck h
    refine pp_baloadJ hF vK_31 hi4 (Nat.zero_add _) dX5_nextStep_53 ?_
    refine pp_if_ne (tgt := 82) hF dX5_nextStep_54 rfl (fun c5 => ?_) (fun c5 => ?_)
    · replace h := (if_pos c5).symm.trans h
      refine pp_lload hF dX5_nextStep_57 rfl ?_
      refine pp_iload hF dX5_nextStep_59 rfl ?_
      refine pp_i2l hF dX5_nextStep_61 ?_
      refine pp_lmul hF dX5_nextStep_62 ?_
      refine pp_lload_n hF dX5_nextStep_63 rfl rfl ?_
      refine pp_iload hF dX5_nextStep_64 rfl ?_
      refine pp_i2l hF dX5_nextStep_66 ?_
      refine pp_lmul hF dX5_nextStep_67 ?_
      refine pp_lcmp_le (tgt := 82) hF dX5_nextStep_68 dX5_nextStep_69 rfl (fun c6 => ?_) (fun c6 => ?_)
      · replace h := (if_pos c6).symm.trans h
        refine pp_iload hF dX5_nextStep_72 rfl ?_
        refine pp_istore_n hF dX5_nextStep_74 rfl (by decide) (lv' := [(0, ppR 25 0 0), (1, ppI a5), (2, ppL a2), (4, ppI a4), (5, ppI a5), (6, ppI (σ.1 3 (((a5 / (4 : Int32)).toNatClampNeg * 6) + 1))), (7, ppL x42.1)]) rfl ?_
        refine pp_lload hF dX5_nextStep_75 rfl ?_
        refine pp_lstore_n hF dX5_nextStep_77 rfl (by decide) (lv' := [(0, ppR 25 0 0), (1, ppI a5), (2, ppL x42.1), (4, ppI a4), (5, ppI a5), (6, ppI (σ.1 3 (((a5 / (4 : Int32)).toNatClampNeg * 6) + 1))), (7, ppL x42.1)]) rfl ?_
        refine pp_iload hF dX5_nextStep_78 rfl ?_
        refine pp_istore hF dX5_nextStep_80 (by decide) (lv' := [(0, ppR 25 0 0), (1, ppI a5), (2, ppL x42.1), (4, ppI (σ.1 3 (((a5 / (4 : Int32)).toNatClampNeg * 6) + 1))), (5, ppI a5), (6, ppI (σ.1 3 (((a5 / (4 : Int32)).toNatClampNeg * 6) + 1))), (7, ppL x42.1)]) rfl ?_
        refine pp_few [0, 1, 2, 3, 4] (lv' := [(0, ppR 25 0 0), (1, ppI a5), (2, ppL x42.1), (4, ppI (σ.1 3 (((a5 / (4 : Int32)).toNatClampNeg * 6) + 1))), (5, ppI a5)]) rfl ?_
        exact e_X5_nextStep_82 hF hR hk10 h
      · replace h := (if_neg c6).symm.trans h
        refine pp_few [0, 1, 2, 3, 4] (lv' := [(0, ppR 25 0 0), (1, ppI a1), (2, ppL a2), (4, ppI a4), (5, ppI a5)]) rfl ?_
        exact e_X5_nextStep_82 hF hR hk10 h
    · replace h := (if_neg c5).symm.trans h
      refine pp_few [0, 1, 2, 3, 4] (lv' := [(0, ppR 25 0 0), (1, ppI a1), (2, ppL a2), (4, ppI a4), (5, ppI a5)]) rfl ?_
      exact e_X5_nextStep_82 hF hR hk10 h
  · replace h := (if_neg c1).symm.trans h
    refine pp_iload_n hF dX5_nextStep_88 rfl rfl ?_
    obtain ⟨rfl, rfl⟩ := pp_i2 h
    exact pp_ireturn hF hR dX5_nextStep_89
set_option maxRecDepth 20000 in
theorem e_X5_nextStep_10_L {Γ : pp_G} {r' : Int32} {σ' : pp_M} (hF : pp_Fx Γ dsK cX5_nextStep 9 RX5 2 34) (hR : pp_Rt Γ dsK (some .int) (some (ppI r')) σ') : ∀ {n : Nat} {σ : pp_M} {a1 : Int32} {a2 : Int64} {a4 : Int32} {a5 : Int32}, f_X5_nextStep_10 n σ a1 a2 a4 a5 = some (r', σ') → pp_E Γ dsK cX5_nextStep 9 10 [(0, ppR 25 0 0), (1, ppI a1), (2, ppL a2), (4, ppI a4), (5, ppI a5)] [] σ
  | 0, _, _, _, _, _ => fun h => by cases h
  | n + 1, _, _, _, _, _ => fun h => e_X5_nextStep_10 hF hR (fun h => e_X5_nextStep_10_L hF hR (n := n) h) h
set_option maxRecDepth 20000 in
theorem e_X5_nextStep_0 {Γ : pp_G} {r' : Int32} {σ' : pp_M} (hF : pp_Fx Γ dsK cX5_nextStep 9 RX5 2 34) (hR : pp_Rt Γ dsK (some .int) (some (ppI r')) σ') {σ : pp_M}  (h : f_X5_nextStep σ  = some (r', σ')) : pp_E Γ dsK cX5_nextStep 9 0 [(0, ppR 25 0 0)] [] σ := by
  unfold f_X5_nextStep at h
  refine pp_iconst hF dX5_nextStep_0 ic_n1 ?_
  refine pp_istore_n hF dX5_nextStep_1 rfl (by decide) (lv' := [(0, ppR 25 0 0), (1, ppI (-1 : Int32))]) rfl ?_
  refine pp_lconst hF dX5_nextStep_2 lc_0 ?_
  refine pp_lstore_n hF dX5_nextStep_3 rfl (by decide) (lv' := [(0, ppR 25 0 0), (1, ppI (-1 : Int32)), (2, ppL (0 : Int64))]) rfl ?_
  refine pp_iconst hF dX5_nextStep_4 ic_1 ?_
  refine pp_istore hF dX5_nextStep_5 (by decide) (lv' := [(0, ppR 25 0 0), (1, ppI (-1 : Int32)), (2, ppL (0 : Int64)), (4, ppI (1 : Int32))]) rfl ?_
  refine pp_iconst hF dX5_nextStep_7 ic_0 ?_
  refine pp_istore hF dX5_nextStep_8 (by decide) (lv' := [(0, ppR 25 0 0), (1, ppI (-1 : Int32)), (2, ppL (0 : Int64)), (4, ppI (1 : Int32)), (5, ppI (0 : Int32))]) rfl ?_
  exact e_X5_nextStep_10_L hF hR h
set_option maxRecDepth 20000 in
theorem c_X5_nextStep {r' : Int32} {σ' : pp_M} {σ : pp_M}  (h : f_X5_nextStep σ  = some (r', σ')) : pp_Ct yX5_nextStep cX5_nextStep 9 (some .int) 2 34 dsK [ppR 25 0 0] σ (some (ppI r')) σ' := pp_met pl_X5 rfl okK (Nat.le_of_ble_eq_true rfl) rfl (fun Γ hF hR => (e_X5_nextStep_0 hF hR h))
set_option maxRecDepth 20000 in
theorem e_X5_findBound_147 {Γ : pp_G} {σ' : pp_M} (hF : pp_Fx Γ dsK cX5_findBound 8 RX5 3 62) (hR : pp_Rt Γ dsK none none σ') {σ : pp_M} {a2 : Int32} {a3 : Int32} {a7 : Int32} {k37 : pp_M → Int32 → Int32 → Option (pp_M)} (hk37 : ∀ {σ : pp_M} {a2 : Int32} {a3 : Int32}, k37 σ a2 a3 = some σ' → pp_E Γ dsK cX5_findBound 8 37 [(0, ppR 25 0 0), (2, ppI a2), (3, ppI a3)] [] σ) (h : f_X5_findBound_147 k37 σ a2 a3 a7 = some σ') : pp_E Γ dsK cX5_findBound 8 147 [(0, ppR 25 0 0), (2, ppI a2), (3, ppI a3), (7, ppI a7)] [] σ := by
  unfold f_X5_findBound_147 at h
  refine pp_iload_n hF dX5_findBound_147 rfl rfl ?_
  refine pp_iload hF dX5_findBound_148 rfl ?_
  refine pp_isub hF dX5_findBound_150 ?_
  refine pp_istore_n hF dX5_findBound_151 rfl (by decide) (lv' := [(0, ppR 25 0 0), (2, ppI (a2 - a7)), (3, ppI a3), (7, ppI a7)]) rfl ?_
  refine pp_iinc hF dX5_findBound_152 rfl (congrArg (HAdd.hAdd _) ic_1) (by decide) (lv' := [(0, ppR 25 0 0), (2, ppI (a2 - a7)), (3, ppI (a3 + (1 : Int32))), (7, ppI a7)]) rfl ?_
  refine pp_goto (tgt := 37) hF dX5_findBound_155 rfl ?_
  refine pp_few [0, 1, 2] (lv' := [(0, ppR 25 0 0), (2, ppI (a2 - a7)), (3, ppI (a3 + (1 : Int32)))]) rfl ?_
  exact hk37 h
set_option maxRecDepth 20000 in
theorem e_X5_findBound_37 {Γ : pp_G} {σ' : pp_M} (hF : pp_Fx Γ dsK cX5_findBound 8 RX5 3 62) (hR : pp_Rt Γ dsK none none σ') {σ : pp_M} {a2 : Int32} {a3 : Int32} {k37 : pp_M → Int32 → Int32 → Option (pp_M)} (hk37 : ∀ {σ : pp_M} {a2 : Int32} {a3 : Int32}, k37 σ a2 a3 = some σ' → pp_E Γ dsK cX5_findBound 8 37 [(0, ppR 25 0 0), (2, ppI a2), (3, ppI a3)] [] σ) (h : f_X5_findBound_37_B k37 σ a2 a3 = some σ') : pp_E Γ dsK cX5_findBound 8 37 [(0, ppR 25 0 0), (2, ppI a2), (3, ppI a3)] [] σ := by
  unfold f_X5_findBound_37_B at h
  refine pp_iload_n hF dX5_findBound_37 rfl rfl ?_
  refine pp_bipush hF dX5_findBound_38 bc_24 ?_
  refine pp_icmp_ge (tgt := 158) hF dX5_findBound_40 rfl (fun c1 => ?_) (fun c1 => ?_)
  · replace h := (if_pos c1).symm.trans h
    refine pp_iload_n hF dX5_findBound_43 rfl rfl ?_
    refine pp_if_le (tgt := 158) hF dX5_findBound_44 rfl (fun c2 => ?_) (fun c2 => ?_)
    · replace h := (if_pos c2).symm.trans h
      refine pp_aload_n hF dX5_findBound_47 rfl rfl ?_
      obtain ⟨x48, hx48, h⟩ := pp_bd h
      refine pp_callVi hF (c_X5_nextStep hx48) mV_X5_nextStep lk_X5_85 obK_25 rfl rfl ⟨by decide, by decide⟩ (Nat.le_of_ble_eq_true rfl) dX5_findBound_48 ?_
      refine pp_istore hF dX5_findBound_51 (by decide) (lv' := [(0, ppR 25 0 0), (2, ppI a2), (3, ppI a3), (4, ppI x48.1)]) rfl ?_
      refine pp_iload hF dX5_findBound_53 rfl ?_
      refine pp_iconst hF dX5_findBound_55 ic_n1 ?_
      refine pp_icmp_ne (tgt := 60) hF dX5_findBound_56 rfl (fun c4 => ?_) (fun c4 => ?_)
      · replace h := (if_pos c4).symm.trans h
        obtain rfl := (Option.some.inj h).symm
        exact pp_return hF hR dX5_findBound_59
      · replace h := (if_neg c4).symm.trans h
        refine pp_aload_n hF dX5_findBound_60 rfl rfl ?_
        refine pp_getR hF fdK_X5_23 dX5_findBound_61 ?_
        refine pp_iload hF dX5_findBound_64 rfl ?_
        refine pp_iconst hF dX5_findBound_66 ic_1 ?_
        obtain ⟨hi5, h⟩ := pp_ck h
        refine pp_bastoreJ hF vK_31 hi5 rfl (Nat.zero_add _) dX5_findBound_67 ?_
        refine pp_aload_n hF dX5_findBound_68 rfl rfl ?_
        refine pp_iload hF dX5_findBound_69 rfl ?_
        refine pp_iconst hF dX5_findBound_71 ic_4 ?_
        refine pp_idiv hF dX5_findBound_72 (by decide) ?_
        refine pp_iload hF dX5_findBound_73 rfl ?_
        refine pp_iconst hF dX5_findBound_75 ic_4 ?_
        refine pp_irem hF dX5_findBound_76 (by decide) ?_
        obtain ⟨x77, hx77, h⟩ := pp_bd h
        refine pp_callVl hF (c_X5_stepGain hx77) mV_X5_stepGain lk_X5_82 obK_25 rfl rfl ⟨by decide, by decide⟩ (Nat.le_of_ble_eq_true rfl) dX5_findBound_77 ?_
        refine pp_lstore hF dX5_findBound_80 (by decide) (lv' := [(0, ppR 25 0 0), (2, ppI a2), (3, ppI a3), (4, ppI x48.1), (5, ppL x77.1)]) rfl ?_
        refine pp_aload_n hF dX5_findBound_82 rfl rfl ?_
        refine pp_getR hF fdK_X5_40 dX5_findBound_83 ?_
        refine pp_getR hF fdK_X5_44 dX5_findBound_86 ?_
        refine pp_iload hF dX5_findBound_89 rfl ?_
        refine pp_iconst hF dX5_findBound_91 ic_4 ?_
        refine pp_idiv hF dX5_findBound_92 (by decide) ?_
        obtain ⟨hi7, h⟩ := pp_ck h
        refine pp_aaloadI hF vK_2 hi7 dX5_findBound_93 ?_
        refine pp_iconst hF dX5_findBound_94 ic_1 ?_
        refine pp_ialoadJ hF (vK_3 _ (vp_lt hi7)) vl_1_6 (congrArg (HAdd.hAdd _) cl_1) dX5_findBound_95 ?_
        refine pp_istore hF dX5_findBound_96 (by decide) (lv' := [(0, ppR 25 0 0), (2, ppI a2), (3, ppI a3), (4, ppI x48.1), (5, ppL x77.1), (7, ppI (x77.2.1 3 (((x48.1 / (4 : Int32)).toNatClampNeg * 6) + 1)))]) rfl ?_
        refine pp_iload hF dX5_findBound_98 rfl ?_
        refine pp_iload_n hF dX5_findBound_100 rfl rfl ?_
        refine pp_icmp_gt (tgt := 118) hF dX5_findBound_101 rfl (fun c8 => ?_) (fun c8 => ?_)
        · replace h := (if_pos c8).symm.trans h
          refine pp_aload_n hF dX5_findBound_118 rfl rfl ?_
          refine pp_aload_n hF dX5_findBound_119 rfl rfl ?_
          refine pp_getL hF fdK_X5_33 dX5_findBound_120 ?_
          refine pp_iload hF dX5_findBound_123 rfl ?_
          refine pp_i2l hF dX5_findBound_125 ?_
          refine pp_lmul hF dX5_findBound_126 ?_
          refine pp_lload hF dX5_findBound_127 rfl ?_
          refine pp_iload_n hF dX5_findBound_129 rfl rfl ?_
          refine pp_i2l hF dX5_findBound_130 ?_
          refine pp_lmul hF dX5_findBound_131 ?_
          refine pp_ladd hF dX5_findBound_132 ?_
          refine pp_putL hF fwK_X5_33 dX5_findBound_133 ?_
          refine pp_aload_n hF dX5_findBound_136 rfl rfl ?_
          refine pp_ldc2 hF wm_577 dX5_findBound_137 ?_
          refine pp_iload hF dX5_findBound_140 rfl ?_
          refine pp_i2l hF dX5_findBound_142 ?_
          refine pp_lmul hF dX5_findBound_143 ?_
          refine pp_putL hF fwK_X5_37 dX5_findBound_144 ?_
          refine pp_few [0, 1, 2, 5] (lv' := [(0, ppR 25 0 0), (2, ppI a2), (3, ppI a3), (7, ppI (x77.2.1 3 (((x48.1 / (4 : Int32)).toNatClampNeg * 6) + 1)))]) rfl ?_
          exact e_X5_findBound_147 hF hR hk37 h
        · replace h := (if_neg c8).symm.trans h
          refine pp_aload_n hF dX5_findBound_104 rfl rfl ?_
          refine pp_dupR hF dX5_findBound_105 ?_
          refine pp_getL hF fdK_X5_33 dX5_findBound_106 ?_
          refine pp_lload hF dX5_findBound_109 rfl ?_
          refine pp_ladd hF dX5_findBound_111 ?_
          refine pp_putL hF fwK_X5_33 dX5_findBound_112 ?_
          refine pp_goto (tgt := 147) hF dX5_findBound_115 rfl ?_
          refine pp_few [0, 1, 2, 5] (lv' := [(0, ppR 25 0 0), (2, ppI a2), (3, ppI a3), (7, ppI (x77.2.1 3 (((x48.1 / (4 : Int32)).toNatClampNeg * 6) + 1)))]) rfl ?_
          exact e_X5_findBound_147 hF hR hk37 h
    · replace h := (if_neg c2).symm.trans h
      obtain rfl := (Option.some.inj h).symm
      exact pp_return hF hR dX5_findBound_158
  · replace h := (if_neg c1).symm.trans h
    obtain rfl := (Option.some.inj h).symm
    exact pp_return hF hR dX5_findBound_158
set_option maxRecDepth 20000 in
theorem e_X5_findBound_37_L {Γ : pp_G} {σ' : pp_M} (hF : pp_Fx Γ dsK cX5_findBound 8 RX5 3 62) (hR : pp_Rt Γ dsK none none σ') : ∀ {n : Nat} {σ : pp_M} {a2 : Int32} {a3 : Int32}, f_X5_findBound_37 n σ a2 a3 = some σ' → pp_E Γ dsK cX5_findBound 8 37 [(0, ppR 25 0 0), (2, ppI a2), (3, ppI a3)] [] σ
  | 0, _, _, _ => fun h => by cases h
  | n + 1, _, _, _ => fun h => e_X5_findBound_37 hF hR (fun h => e_X5_findBound_37_L hF hR (n := n) h) h
set_option maxRecDepth 20000 in
theorem e_X5_findBound_2 {Γ : pp_G} {σ' : pp_M} (hF : pp_Fx Γ dsK cX5_findBound 8 RX5 3 62) (hR : pp_Rt Γ dsK none none σ') {σ : pp_M} {a1 : Int32} {a2 : Int32} {k2 : pp_M → Int32 → Int32 → Option (pp_M)} (hk2 : ∀ {σ : pp_M} {a1 : Int32} {a2 : Int32}, k2 σ a1 a2 = some σ' → pp_E Γ dsK cX5_findBound 8 2 [(0, ppR 25 0 0), (1, ppI a1), (2, ppI a2)] [] σ) (h : f_X5_findBound_2_B k2 σ a1 a2 = some σ') : pp_E Γ dsK cX5_findBound 8 2 [(0, ppR 25 0 0), (1, ppI a1), (2, ppI a2)] [] σ := by
  unfold f_X5_findBound_2_B at h
  refine pp_iload_n hF dX5_findBound_2 rfl rfl ?_
  refine pp_bipush hF dX5_findBound_3 bc_24 ?_
  refine pp_icmp_ge (tgt := 21) hF dX5_findBound_5 rfl (fun c1 => ?_) (fun c1 => ?_)
  · replace h := (if_pos c1).symm.trans h
    refine pp_aload_n hF dX5_findBound_8 rfl rfl ?_
    refine pp_getR hF fdK_X5_23 dX5_findBound_9 ?_
    refine pp_iload_n hF dX5_findBound_12 rfl rfl ?_
    refine pp_iconst hF dX5_findBound_13 ic_0 ?_
    obtain ⟨hi2, h⟩ := pp_ck h
    refine pp_bastoreJ hF vK_31 hi2 rfl (Nat.zero_add _) dX5_findBound_14 ?_
    refine pp_iinc hF dX5_findBound_15 rfl (congrArg (HAdd.hAdd _) ic_1) (by decide) (lv' := [(0, ppR 25 0 0), (1, ppI a1), (2, ppI (a2 + (1 : Int32)))]) rfl ?_
    refine pp_goto (tgt := 2) hF dX5_findBound_18 rfl ?_
    exact hk2 h
  · replace h := (if_neg c1).symm.trans h
    refine pp_aload_n hF dX5_findBound_21 rfl rfl ?_
    refine pp_lconst hF dX5_findBound_22 lc_0 ?_
    refine pp_putL hF fwK_X5_33 dX5_findBound_23 ?_
    refine pp_aload_n hF dX5_findBound_26 rfl rfl ?_
    refine pp_ldc2 hF wm_577 dX5_findBound_27 ?_
    refine pp_putL hF fwK_X5_37 dX5_findBound_30 ?_
    refine pp_iload_n hF dX5_findBound_33 rfl rfl ?_
    refine pp_istore_n hF dX5_findBound_34 rfl (by decide) (lv' := [(0, ppR 25 0 0), (1, ppI a1), (2, ppI a1)]) rfl ?_
    refine pp_iconst hF dX5_findBound_35 ic_0 ?_
    refine pp_istore_n hF dX5_findBound_36 rfl (by decide) (lv' := [(0, ppR 25 0 0), (1, ppI a1), (2, ppI a1), (3, ppI (0 : Int32))]) rfl ?_
    refine pp_few [0, 2, 3] (lv' := [(0, ppR 25 0 0), (2, ppI a1), (3, ppI (0 : Int32))]) rfl ?_
    exact e_X5_findBound_37_L hF hR h
set_option maxRecDepth 20000 in
theorem e_X5_findBound_2_L {Γ : pp_G} {σ' : pp_M} (hF : pp_Fx Γ dsK cX5_findBound 8 RX5 3 62) (hR : pp_Rt Γ dsK none none σ') : ∀ {n : Nat} {σ : pp_M} {a1 : Int32} {a2 : Int32}, f_X5_findBound_2 n σ a1 a2 = some σ' → pp_E Γ dsK cX5_findBound 8 2 [(0, ppR 25 0 0), (1, ppI a1), (2, ppI a2)] [] σ
  | 0, _, _, _ => fun h => by cases h
  | n + 1, _, _, _ => fun h => e_X5_findBound_2 hF hR (fun h => e_X5_findBound_2_L hF hR (n := n) h) h
set_option maxRecDepth 20000 in
theorem e_X5_findBound_0 {Γ : pp_G} {σ' : pp_M} (hF : pp_Fx Γ dsK cX5_findBound 8 RX5 3 62) (hR : pp_Rt Γ dsK none none σ') {σ : pp_M} {a1 : Int32} (h : f_X5_findBound σ a1 = some σ') : pp_E Γ dsK cX5_findBound 8 0 [(0, ppR 25 0 0), (1, ppI a1)] [] σ := by
  unfold f_X5_findBound at h
  refine pp_iconst hF dX5_findBound_0 ic_0 ?_
  refine pp_istore_n hF dX5_findBound_1 rfl (by decide) (lv' := [(0, ppR 25 0 0), (1, ppI a1), (2, ppI (0 : Int32))]) rfl ?_
  exact e_X5_findBound_2_L hF hR h
set_option maxRecDepth 20000 in
theorem c_X5_findBound {σ' : pp_M} {σ : pp_M} {a1 : Int32} (h : f_X5_findBound σ a1 = some σ') : pp_Ct yX5_findBound cX5_findBound 8 none 3 62 dsK [ppR 25 0 0, ppI a1] σ none σ' := pp_met pl_X5 rfl okK (Nat.le_of_ble_eq_true rfl) rfl (fun Γ hF hR => (e_X5_findBound_0 hF hR h))
set_option maxRecDepth 20000 in
theorem e_X5_gainOf_5 {Γ : pp_G} {r' : Int64} {σ' : pp_M} (hF : pp_Fx Γ dsK cX5_gainOf 5 RX5 1 12) (hR : pp_Rt Γ dsK (some .long) (some (ppL r')) σ') {σ : pp_M} {a1t : Nat} {a1o : Nat} {a1n : Nat} {a2 : Int64} {a4 : Int32} {k5 : pp_M → Nat → Nat → Nat → Int64 → Int32 → Option (Int64 × pp_M)} (hk5 : ∀ {σ : pp_M} {a1t : Nat} {a1o : Nat} {a1n : Nat} {a2 : Int64} {a4 : Int32}, pp_ai dsK a1t a1o a1n → k5 σ a1t a1o a1n a2 a4 = some (r', σ') → pp_E Γ dsK cX5_gainOf 5 5 [(0, ppR 25 0 0), (1, ppR a1t a1o a1n), (2, ppL a2), (4, ppI a4)] [] σ) (hv1 : pp_ai dsK a1t a1o a1n) (h : f_X5_gainOf_5_B k5 σ a1t a1o a1n a2 a4 = some (r', σ')) : pp_E Γ dsK cX5_gainOf 5 5 [(0, ppR 25 0 0), (1, ppR a1t a1o a1n), (2, ppL a2), (4, ppI a4)] [] σ := by
  unfold f_X5_gainOf_5_B at h
  refine pp_iload hF dX5_gainOf_5 rfl ?_
  refine pp_bipush hF dX5_gainOf_7 bc_6 ?_
  refine pp_icmp_ge (tgt := 33) hF dX5_gainOf_9 rfl (fun c1 => ?_) (fun c1 => ?_)
  · replace h := (if_pos c1).symm.trans h
    refine pp_lload_n hF dX5_gainOf_12 rfl rfl ?_
    refine pp_aload_n hF dX5_gainOf_13 rfl rfl ?_
    refine pp_getR hF fdK_X5_11 dX5_gainOf_14 ?_
    refine pp_iload hF dX5_gainOf_17 rfl ?_
    obtain ⟨hi2, h⟩ := pp_ck h
    refine pp_aaloadL hF vK_26 hi2 dX5_gainOf_19 ?_
    refine pp_aload_n hF dX5_gainOf_20 rfl rfl ?_
    refine pp_iload hF dX5_gainOf_21 rfl ?_
    obtain ⟨hi3, h⟩ := pp_ck h
    refine pp_ialoadJ hF hv1 hi3 rfl dX5_gainOf_23 ?_
    obtain ⟨hi4, h⟩ := pp_ck h
    refine pp_laloadJ hF (vK_27 _ (vp_lt hi2)) hi4 rfl dX5_gainOf_24 ?_
    refine pp_ladd hF dX5_gainOf_25 ?_
    refine pp_lstore_n hF dX5_gainOf_26 rfl (by decide) (lv' := [(0, ppR 25 0 0), (1, ppR a1t a1o a1n), (2, ppL (a2 + (σ.2 27 ((a4.toNatClampNeg * 5) + (σ.1 a1t (a1o + a4.toNatClampNeg)).toNatClampNeg)))), (4, ppI a4)]) rfl ?_
    refine pp_iinc hF dX5_gainOf_27 rfl (congrArg (HAdd.hAdd _) ic_1) (by decide) (lv' := [(0, ppR 25 0 0), (1, ppR a1t a1o a1n), (2, ppL (a2 + (σ.2 27 ((a4.toNatClampNeg * 5) + (σ.1 a1t (a1o + a4.toNatClampNeg)).toNatClampNeg)))), (4, ppI (a4 + (1 : Int32)))]) rfl ?_
    refine pp_goto (tgt := 5) hF dX5_gainOf_30 rfl ?_
    exact hk5 hv1 h
  · replace h := (if_neg c1).symm.trans h
    refine pp_lload_n hF dX5_gainOf_33 rfl rfl ?_
    obtain ⟨rfl, rfl⟩ := pp_i2 h
    exact pp_lreturn hF hR dX5_gainOf_34
set_option maxRecDepth 20000 in
theorem e_X5_gainOf_5_L {Γ : pp_G} {r' : Int64} {σ' : pp_M} (hF : pp_Fx Γ dsK cX5_gainOf 5 RX5 1 12) (hR : pp_Rt Γ dsK (some .long) (some (ppL r')) σ') : ∀ {n : Nat} {σ : pp_M} {a1t : Nat} {a1o : Nat} {a1n : Nat} {a2 : Int64} {a4 : Int32}, pp_ai dsK a1t a1o a1n → f_X5_gainOf_5 n σ a1t a1o a1n a2 a4 = some (r', σ') → pp_E Γ dsK cX5_gainOf 5 5 [(0, ppR 25 0 0), (1, ppR a1t a1o a1n), (2, ppL a2), (4, ppI a4)] [] σ
  | 0, _, _, _, _, _, _ => fun hv1 h => by cases h
  | n + 1, _, _, _, _, _, _ => fun hv1 h => e_X5_gainOf_5 hF hR (fun hv1 h => e_X5_gainOf_5_L hF hR (n := n) hv1 h) hv1 h
set_option maxRecDepth 20000 in
theorem e_X5_gainOf_0 {Γ : pp_G} {r' : Int64} {σ' : pp_M} (hF : pp_Fx Γ dsK cX5_gainOf 5 RX5 1 12) (hR : pp_Rt Γ dsK (some .long) (some (ppL r')) σ') {σ : pp_M} {a1t : Nat} {a1o : Nat} {a1n : Nat} (hv1 : pp_ai dsK a1t a1o a1n) (h : f_X5_gainOf σ a1t a1o a1n = some (r', σ')) : pp_E Γ dsK cX5_gainOf 5 0 [(0, ppR 25 0 0), (1, ppR a1t a1o a1n)] [] σ := by
  unfold f_X5_gainOf at h
  refine pp_lconst hF dX5_gainOf_0 lc_0 ?_
  refine pp_lstore_n hF dX5_gainOf_1 rfl (by decide) (lv' := [(0, ppR 25 0 0), (1, ppR a1t a1o a1n), (2, ppL (0 : Int64))]) rfl ?_
  refine pp_iconst hF dX5_gainOf_2 ic_0 ?_
  refine pp_istore hF dX5_gainOf_3 (by decide) (lv' := [(0, ppR 25 0 0), (1, ppR a1t a1o a1n), (2, ppL (0 : Int64)), (4, ppI (0 : Int32))]) rfl ?_
  exact e_X5_gainOf_5_L hF hR hv1 h
set_option maxRecDepth 20000 in
theorem c_X5_gainOf {r' : Int64} {σ' : pp_M} {σ : pp_M} {a1t a1o a1n : Nat} (hv1 : pp_ai dsK a1t a1o a1n) (h : f_X5_gainOf σ a1t a1o a1n = some (r', σ')) : pp_Ct yX5_gainOf cX5_gainOf 5 (some .long) 1 12 dsK [ppR 25 0 0, ppR a1t a1o a1n] σ (some (ppL r')) σ' := pp_met pl_X5 rfl okK (Nat.le_of_ble_eq_true rfl) rfl (fun Γ hF hR => (e_X5_gainOf_0 hF hR hv1 h))
set_option maxRecDepth 20000 in
theorem e_X5_leastBringing_96 {Γ : pp_G} {r' : Int32} {σ' : pp_M} (hF : pp_Fx Γ dsK cX5_leastBringing 12 RX5 3 152) (hR : pp_Rt Γ dsK (some .int) (some (ppI r')) σ') {σ : pp_M} {a1 : Int32} {a2 : Int32} {a3 : Int64} {a5 : Int32} {a6 : Int64} {a8 : Int32} {k20 : pp_M → Int32 → Int32 → Int64 → Int32 → Int64 → Int32 → Option (Int32 × pp_M)} (hk20 : ∀ {σ : pp_M} {a1 : Int32} {a2 : Int32} {a3 : Int64} {a5 : Int32} {a6 : Int64} {a8 : Int32}, k20 σ a1 a2 a3 a5 a6 a8 = some (r', σ') → pp_E Γ dsK cX5_leastBringing 12 20 [(0, ppR 25 0 0), (1, ppI a1), (2, ppI a2), (3, ppL a3), (5, ppI a5), (6, ppL a6), (8, ppI a8)] [] σ) (h : f_X5_leastBringing_96 k20 σ a1 a2 a3 a5 a6 a8 = some (r', σ')) : pp_E Γ dsK cX5_leastBringing 12 96 [(0, ppR 25 0 0), (1, ppI a1), (2, ppI a2), (3, ppL a3), (5, ppI a5), (6, ppL a6), (8, ppI a8)] [] σ := by
  unfold f_X5_leastBringing_96 at h
  refine pp_iinc hF dX5_leastBringing_96 rfl (congrArg (HAdd.hAdd _) ic_1) (by decide) (lv' := [(0, ppR 25 0 0), (1, ppI a1), (2, ppI a2), (3, ppL a3), (5, ppI a5), (6, ppL a6), (8, ppI (a8 + (1 : Int32)))]) rfl ?_
  refine pp_goto (tgt := 20) hF dX5_leastBringing_99 rfl ?_
  exact hk20 h
set_option maxRecDepth 20000 in
theorem e_X5_leastBringing_86 {Γ : pp_G} {r' : Int32} {σ' : pp_M} (hF : pp_Fx Γ dsK cX5_leastBringing 12 RX5 3 152) (hR : pp_Rt Γ dsK (some .int) (some (ppI r')) σ') {σ : pp_M} {a1 : Int32} {a6 : Int64} {a8 : Int32} {a9 : Int32} {a10 : Int64} {k20 : pp_M → Int32 → Int32 → Int64 → Int32 → Int64 → Int32 → Option (Int32 × pp_M)} (hk20 : ∀ {σ : pp_M} {a1 : Int32} {a2 : Int32} {a3 : Int64} {a5 : Int32} {a6 : Int64} {a8 : Int32}, k20 σ a1 a2 a3 a5 a6 a8 = some (r', σ') → pp_E Γ dsK cX5_leastBringing 12 20 [(0, ppR 25 0 0), (1, ppI a1), (2, ppI a2), (3, ppL a3), (5, ppI a5), (6, ppL a6), (8, ppI a8)] [] σ) (h : f_X5_leastBringing_86 k20 σ a1 a6 a8 a9 a10 = some (r', σ')) : pp_E Γ dsK cX5_leastBringing 12 86 [(0, ppR 25 0 0), (1, ppI a1), (6, ppL a6), (8, ppI a8), (9, ppI a9), (10, ppL a10)] [] σ := by
  unfold f_X5_leastBringing_86 at h
  refine pp_iload hF dX5_leastBringing_86 rfl ?_
  refine pp_istore_n hF dX5_leastBringing_88 rfl (by decide) (lv' := [(0, ppR 25 0 0), (1, ppI a1), (2, ppI a8), (6, ppL a6), (8, ppI a8), (9, ppI a9), (10, ppL a10)]) rfl ?_
  refine pp_lload hF dX5_leastBringing_89 rfl ?_
  refine pp_lstore_n hF dX5_leastBringing_91 rfl (by decide) (lv' := [(0, ppR 25 0 0), (1, ppI a1), (2, ppI a8), (3, ppL a10), (6, ppL a6), (8, ppI a8), (9, ppI a9), (10, ppL a10)]) rfl ?_
  refine pp_iload hF dX5_leastBringing_92 rfl ?_
  refine pp_istore hF dX5_leastBringing_94 (by decide) (lv' := [(0, ppR 25 0 0), (1, ppI a1), (2, ppI a8), (3, ppL a10), (5, ppI a9), (6, ppL a6), (8, ppI a8), (9, ppI a9), (10, ppL a10)]) rfl ?_
  refine pp_few [0, 1, 2, 3, 4, 5, 6] (lv' := [(0, ppR 25 0 0), (1, ppI a1), (2, ppI a8), (3, ppL a10), (5, ppI a9), (6, ppL a6), (8, ppI a8)]) rfl ?_
  exact e_X5_leastBringing_96 hF hR hk20 h
set_option maxRecDepth 20000 in
theorem e_X5_leastBringing_20 {Γ : pp_G} {r' : Int32} {σ' : pp_M} (hF : pp_Fx Γ dsK cX5_leastBringing 12 RX5 3 152) (hR : pp_Rt Γ dsK (some .int) (some (ppI r')) σ') {σ : pp_M} {a1 : Int32} {a2 : Int32} {a3 : Int64} {a5 : Int32} {a6 : Int64} {a8 : Int32} {k20 : pp_M → Int32 → Int32 → Int64 → Int32 → Int64 → Int32 → Option (Int32 × pp_M)} (hk20 : ∀ {σ : pp_M} {a1 : Int32} {a2 : Int32} {a3 : Int64} {a5 : Int32} {a6 : Int64} {a8 : Int32}, k20 σ a1 a2 a3 a5 a6 a8 = some (r', σ') → pp_E Γ dsK cX5_leastBringing 12 20 [(0, ppR 25 0 0), (1, ppI a1), (2, ppI a2), (3, ppL a3), (5, ppI a5), (6, ppL a6), (8, ppI a8)] [] σ) (h : f_X5_leastBringing_20_B k20 σ a1 a2 a3 a5 a6 a8 = some (r', σ')) : pp_E Γ dsK cX5_leastBringing 12 20 [(0, ppR 25 0 0), (1, ppI a1), (2, ppI a2), (3, ppL a3), (5, ppI a5), (6, ppL a6), (8, ppI a8)] [] σ := by
  unfold f_X5_leastBringing_20_B at h
  refine pp_iload hF dX5_leastBringing_20 rfl ?_
  refine pp_bipush hF dX5_leastBringing_22 bc_6 ?_
  refine pp_icmp_ge (tgt := 102) hF dX5_leastBringing_24 rfl (fun c1 => ?_) (fun c1 => ?_)
  · replace h := (if_pos c1).symm.trans h
    refine pp_aload_n hF dX5_leastBringing_27 rfl rfl ?_
    refine pp_getR hF fdK_X5_27 dX5_leastBringing_28 ?_
    refine pp_iload hF dX5_leastBringing_31 rfl ?_
    obtain ⟨hi2, h⟩ := pp_ck h
    refine pp_ialoadJ hF vK_32 hi2 (Nat.zero_add _) dX5_leastBringing_33 ?_
    refine pp_aload_n hF dX5_leastBringing_34 rfl rfl ?_
    refine pp_getR hF fdK_X5_40 dX5_leastBringing_35 ?_
    refine pp_getR hF fdK_X5_44 dX5_leastBringing_38 ?_
    refine pp_iload hF dX5_leastBringing_41 rfl ?_
    refine pp_aaloadI hF vK_2 hi2 dX5_leastBringing_43 ?_
    refine pp_iconst hF dX5_leastBringing_44 ic_1 ?_
    refine pp_ialoadJ hF (vK_3 _ (vp_lt hi2)) vl_1_6 (congrArg (HAdd.hAdd _) cl_1) dX5_leastBringing_45 ?_
    refine pp_imul hF dX5_leastBringing_46 ?_
    refine pp_istore hF dX5_leastBringing_47 (by decide) (lv' := [(0, ppR 25 0 0), (1, ppI a1), (2, ppI a2), (3, ppL a3), (5, ppI a5), (6, ppL a6), (8, ppI a8), (9, ppI ((σ.1 32 a8.toNatClampNeg) * (σ.1 3 ((a8.toNatClampNeg * 6) + 1))))]) rfl ?_
    refine pp_iload hF dX5_leastBringing_49 rfl ?_
    refine pp_if_le (tgt := 96) hF dX5_leastBringing_51 rfl (fun c3 => ?_) (fun c3 => ?_)
    · replace h := (if_pos c3).symm.trans h
      refine pp_lload hF dX5_leastBringing_54 rfl ?_
      refine pp_aload_n hF dX5_leastBringing_56 rfl rfl ?_
      refine pp_iload_n hF dX5_leastBringing_57 rfl rfl ?_
      refine pp_iload hF dX5_leastBringing_58 rfl ?_
      obtain ⟨x60, hx60, h⟩ := pp_bd h
      refine pp_callVl hF (c_X5_mostGain hx60) mV_X5_mostGain lk_X5_70 obK_25 rfl rfl ⟨by decide, by decide⟩ (Nat.le_of_ble_eq_true rfl) dX5_leastBringing_60 ?_
      refine pp_lsub hF dX5_leastBringing_63 ?_
      refine pp_lstore hF dX5_leastBringing_64 (by decide) (lv' := [(0, ppR 25 0 0), (1, ppI a1), (2, ppI a2), (3, ppL a3), (5, ppI a5), (6, ppL a6), (8, ppI a8), (9, ppI ((σ.1 32 a8.toNatClampNeg) * (σ.1 3 ((a8.toNatClampNeg * 6) + 1)))), (10, ppL (a6 - x60.1))]) rfl ?_
      refine pp_iload_n hF dX5_leastBringing_66 rfl rfl ?_
      refine pp_iconst hF dX5_leastBringing_67 ic_n1 ?_
      refine pp_icmp_eq (tgt := 86) hF dX5_leastBringing_68 rfl (fun c5 => ?_) (fun c5 => ?_)
      · replace h := (if_pos c5).symm.trans h
        refine pp_few [0, 1, 5, 6, 7, 8] (lv' := [(0, ppR 25 0 0), (1, ppI a1), (6, ppL a6), (8, ppI a8), (9, ppI ((σ.1 32 a8.toNatClampNeg) * (σ.1 3 ((a8.toNatClampNeg * 6) + 1)))), (10, ppL (a6 - x60.1))]) rfl ?_
        exact e_X5_leastBringing_86 hF hR hk20 h
      · replace h := (if_neg c5).symm.trans h
        refine pp_lload hF dX5_leastBringing_71 rfl ?_
        refine pp_iload hF dX5_leastBringing_73 rfl ?_
        refine pp_i2l hF dX5_leastBringing_75 ?_
        refine pp_lmul hF dX5_leastBringing_76 ?_
        refine pp_lload_n hF dX5_leastBringing_77 rfl rfl ?_
        refine pp_iload hF dX5_leastBringing_78 rfl ?_
        refine pp_i2l hF dX5_leastBringing_80 ?_
        refine pp_lmul hF dX5_leastBringing_81 ?_
        refine pp_lcmp_ge (tgt := 96) hF dX5_leastBringing_82 dX5_leastBringing_83 rfl (fun c6 => ?_) (fun c6 => ?_)
        · replace h := (if_pos c6).symm.trans h
          refine pp_few [0, 1, 5, 6, 7, 8] (lv' := [(0, ppR 25 0 0), (1, ppI a1), (6, ppL a6), (8, ppI a8), (9, ppI ((σ.1 32 a8.toNatClampNeg) * (σ.1 3 ((a8.toNatClampNeg * 6) + 1)))), (10, ppL (a6 - x60.1))]) rfl ?_
          exact e_X5_leastBringing_86 hF hR hk20 h
        · replace h := (if_neg c6).symm.trans h
          refine pp_few [0, 1, 2, 3, 4, 5, 6] (lv' := [(0, ppR 25 0 0), (1, ppI a1), (2, ppI a2), (3, ppL a3), (5, ppI a5), (6, ppL a6), (8, ppI a8)]) rfl ?_
          exact e_X5_leastBringing_96 hF hR hk20 h
    · replace h := (if_neg c3).symm.trans h
      refine pp_few [0, 1, 2, 3, 4, 5, 6] (lv' := [(0, ppR 25 0 0), (1, ppI a1), (2, ppI a2), (3, ppL a3), (5, ppI a5), (6, ppL a6), (8, ppI a8)]) rfl ?_
      exact e_X5_leastBringing_96 hF hR hk20 h
  · replace h := (if_neg c1).symm.trans h
    refine pp_iload_n hF dX5_leastBringing_102 rfl rfl ?_
    obtain ⟨rfl, rfl⟩ := pp_i2 h
    exact pp_ireturn hF hR dX5_leastBringing_103
set_option maxRecDepth 20000 in
theorem e_X5_leastBringing_20_L {Γ : pp_G} {r' : Int32} {σ' : pp_M} (hF : pp_Fx Γ dsK cX5_leastBringing 12 RX5 3 152) (hR : pp_Rt Γ dsK (some .int) (some (ppI r')) σ') : ∀ {n : Nat} {σ : pp_M} {a1 : Int32} {a2 : Int32} {a3 : Int64} {a5 : Int32} {a6 : Int64} {a8 : Int32}, f_X5_leastBringing_20 n σ a1 a2 a3 a5 a6 a8 = some (r', σ') → pp_E Γ dsK cX5_leastBringing 12 20 [(0, ppR 25 0 0), (1, ppI a1), (2, ppI a2), (3, ppL a3), (5, ppI a5), (6, ppL a6), (8, ppI a8)] [] σ
  | 0, _, _, _, _, _, _, _ => fun h => by cases h
  | n + 1, _, _, _, _, _, _, _ => fun h => e_X5_leastBringing_20 hF hR (fun h => e_X5_leastBringing_20_L hF hR (n := n) h) h
set_option maxRecDepth 20000 in
theorem e_X5_leastBringing_0 {Γ : pp_G} {r' : Int32} {σ' : pp_M} (hF : pp_Fx Γ dsK cX5_leastBringing 12 RX5 3 152) (hR : pp_Rt Γ dsK (some .int) (some (ppI r')) σ') {σ : pp_M} {a1 : Int32} (h : f_X5_leastBringing σ a1 = some (r', σ')) : pp_E Γ dsK cX5_leastBringing 12 0 [(0, ppR 25 0 0), (1, ppI a1)] [] σ := by
  unfold f_X5_leastBringing at h
  refine pp_iconst hF dX5_leastBringing_0 ic_n1 ?_
  refine pp_istore_n hF dX5_leastBringing_1 rfl (by decide) (lv' := [(0, ppR 25 0 0), (1, ppI a1), (2, ppI (-1 : Int32))]) rfl ?_
  refine pp_lconst hF dX5_leastBringing_2 lc_0 ?_
  refine pp_lstore_n hF dX5_leastBringing_3 rfl (by decide) (lv' := [(0, ppR 25 0 0), (1, ppI a1), (2, ppI (-1 : Int32)), (3, ppL (0 : Int64))]) rfl ?_
  refine pp_iconst hF dX5_leastBringing_4 ic_1 ?_
  refine pp_istore hF dX5_leastBringing_5 (by decide) (lv' := [(0, ppR 25 0 0), (1, ppI a1), (2, ppI (-1 : Int32)), (3, ppL (0 : Int64)), (5, ppI (1 : Int32))]) rfl ?_
  refine pp_aload_n hF dX5_leastBringing_7 rfl rfl ?_
  refine pp_aload_n hF dX5_leastBringing_8 rfl rfl ?_
  refine pp_getR hF fdK_X5_27 dX5_leastBringing_9 ?_
  obtain ⟨x12, hx12, h⟩ := pp_bd h
  refine pp_callVl hF (c_X5_gainOf vK_32 hx12) mV_X5_gainOf lk_X5_52 obK_25 rfl rfl ⟨by decide, by decide⟩ (Nat.le_of_ble_eq_true rfl) dX5_leastBringing_12 ?_
  refine pp_lstore hF dX5_leastBringing_15 (by decide) (lv' := [(0, ppR 25 0 0), (1, ppI a1), (2, ppI (-1 : Int32)), (3, ppL (0 : Int64)), (5, ppI (1 : Int32)), (6, ppL x12.1)]) rfl ?_
  refine pp_iconst hF dX5_leastBringing_17 ic_0 ?_
  refine pp_istore hF dX5_leastBringing_18 (by decide) (lv' := [(0, ppR 25 0 0), (1, ppI a1), (2, ppI (-1 : Int32)), (3, ppL (0 : Int64)), (5, ppI (1 : Int32)), (6, ppL x12.1), (8, ppI (0 : Int32))]) rfl ?_
  exact e_X5_leastBringing_20_L hF hR h
set_option maxRecDepth 20000 in
theorem c_X5_leastBringing {r' : Int32} {σ' : pp_M} {σ : pp_M} {a1 : Int32} (h : f_X5_leastBringing σ a1 = some (r', σ')) : pp_Ct yX5_leastBringing cX5_leastBringing 12 (some .int) 3 152 dsK [ppR 25 0 0, ppI a1] σ (some (ppI r')) σ' := pp_met pl_X5 rfl okK (Nat.le_of_ble_eq_true rfl) rfl (fun Γ hF hR => (e_X5_leastBringing_0 hF hR h))
set_option maxRecDepth 20000 in
theorem e_X5_peakGain_0 {Γ : pp_G} {r' : Int64} {σ' : pp_M} (hF : pp_Fx Γ dsK cX5_peakGain 1 RX5 2 36) (hR : pp_Rt Γ dsK (some .long) (some (ppL r')) σ') {σ : pp_M}  (h : f_X5_peakGain σ  = some (r', σ')) : pp_E Γ dsK cX5_peakGain 1 0 [(0, ppR 25 0 0)] [] σ := by
  unfold f_X5_peakGain at h
  refine pp_aload_n hF dX5_peakGain_0 rfl rfl ?_
  refine pp_aload_n hF dX5_peakGain_1 rfl rfl ?_
  refine pp_getR hF fdK_X5_16 dX5_peakGain_2 ?_
  obtain ⟨x5, hx5, h⟩ := pp_bd h
  refine pp_callVl hF (c_X5_gainOf vK_28 hx5) mV_X5_gainOf lk_X5_52 obK_25 rfl rfl ⟨by decide, by decide⟩ (Nat.le_of_ble_eq_true rfl) dX5_peakGain_5 ?_
  obtain ⟨rfl, rfl⟩ := pp_i2 h
  exact pp_lreturn hF hR dX5_peakGain_8
set_option maxRecDepth 20000 in
theorem c_X5_peakGain {r' : Int64} {σ' : pp_M} {σ : pp_M}  (h : f_X5_peakGain σ  = some (r', σ')) : pp_Ct yX5_peakGain cX5_peakGain 1 (some .long) 2 36 dsK [ppR 25 0 0] σ (some (ppL r')) σ' := pp_met pl_X5 rfl okK (Nat.le_of_ble_eq_true rfl) rfl (fun Γ hF hR => (e_X5_peakGain_0 hF hR h))
set_option maxRecDepth 20000 in
theorem e_X5_peaksFit_0 {Γ : pp_G} {r' : Int32} {σ' : pp_M} (hF : pp_Fx Γ dsK cX5_peaksFit 2 RX5 2 35) (hR : pp_Rt Γ dsK (some .boolean) (some (ppI r')) σ') {σ : pp_M} {a1 : Int32} (h : f_X5_peaksFit σ a1 = some (r', σ')) : pp_E Γ dsK cX5_peaksFit 2 0 [(0, ppR 25 0 0), (1, ppI a1)] [] σ := by
  unfold f_X5_peaksFit at h
  refine pp_aload_n hF dX5_peaksFit_0 rfl rfl ?_
  refine pp_getR hF fdK_X5_40 dX5_peaksFit_1 ?_
  refine pp_aload_n hF dX5_peaksFit_4 rfl rfl ?_
  refine pp_getR hF fdK_X5_16 dX5_peaksFit_5 ?_
  obtain ⟨x8, hx8, h⟩ := pp_bd h
  refine pp_callVi hF (c_X1_weightOf vK_28 hx8) mV_X1_weightOf lk_X5_56 obK_1 rfl rfl ⟨by decide, by decide⟩ (Nat.le_of_ble_eq_true rfl) dX5_peaksFit_8 ?_
  refine pp_iload_n hF dX5_peaksFit_11 rfl rfl ?_
  refine pp_icmp_gt (tgt := 19) hF dX5_peaksFit_12 rfl (fun c2 => ?_) (fun c2 => ?_)
  · replace h := (if_pos c2).symm.trans h
    refine pp_iconst hF dX5_peaksFit_19 ic_0 ?_
    obtain ⟨rfl, rfl⟩ := pp_i2 h
    exact pp_zreturn hF hR rfl dX5_peaksFit_20
  · replace h := (if_neg c2).symm.trans h
    refine pp_iconst hF dX5_peaksFit_15 ic_1 ?_
    refine pp_goto (tgt := 20) hF dX5_peaksFit_16 rfl ?_
    obtain ⟨rfl, rfl⟩ := pp_i2 h
    exact pp_zreturn hF hR rfl dX5_peaksFit_20
set_option maxRecDepth 20000 in
theorem c_X5_peaksFit {r' : Int32} {σ' : pp_M} {σ : pp_M} {a1 : Int32} (h : f_X5_peaksFit σ a1 = some (r', σ')) : pp_Ct yX5_peaksFit cX5_peaksFit 2 (some .boolean) 2 35 dsK [ppR 25 0 0, ppI a1] σ (some (ppI r')) σ' := pp_met pl_X5 rfl okK (Nat.le_of_ble_eq_true rfl) rfl (fun Γ hF hR => (e_X5_peaksFit_0 hF hR h))
set_option maxRecDepth 20000 in
theorem e_X5_weighGains_88 {Γ : pp_G} {σ' : pp_M} (hF : pp_Fx Γ dsK cX5_weighGains 4 RX5 1 12) (hR : pp_Rt Γ dsK none none σ') {σ : pp_M} {a1t : Nat} {a1o : Nat} {a1n : Nat} {a2 : Int32} {a3 : Int32} {k2 : pp_M → Nat → Nat → Nat → Int32 → Option (pp_M)} (hk2 : ∀ {σ : pp_M} {a1t : Nat} {a1o : Nat} {a1n : Nat} {a2 : Int32}, pp_al dsK a1t a1o a1n → k2 σ a1t a1o a1n a2 = some σ' → pp_E Γ dsK cX5_weighGains 4 2 [(0, ppR 25 0 0), (1, ppR a1t a1o a1n), (2, ppI a2)] [] σ) {k17 : pp_M → Nat → Nat → Nat → Int32 → Int32 → Option (pp_M)} (hk17 : ∀ {σ : pp_M} {a1t : Nat} {a1o : Nat} {a1n : Nat} {a2 : Int32} {a3 : Int32}, pp_al dsK a1t a1o a1n → k17 σ a1t a1o a1n a2 a3 = some σ' → pp_E Γ dsK cX5_weighGains 4 17 [(0, ppR 25 0 0), (1, ppR a1t a1o a1n), (2, ppI a2), (3, ppI a3)] [] σ) (hv1 : pp_al dsK a1t a1o a1n) (h : f_X5_weighGains_88 k2 k17 σ a1t a1o a1n a2 a3 = some σ') : pp_E Γ dsK cX5_weighGains 4 88 [(0, ppR 25 0 0), (1, ppR a1t a1o a1n), (2, ppI a2), (3, ppI a3)] [] σ := by
  unfold f_X5_weighGains_88 at h
  refine pp_iinc hF dX5_weighGains_88 rfl (congrArg (HAdd.hAdd _) ic_1) (by decide) (lv' := [(0, ppR 25 0 0), (1, ppR a1t a1o a1n), (2, ppI a2), (3, ppI (a3 + (1 : Int32)))]) rfl ?_
  refine pp_goto (tgt := 17) hF dX5_weighGains_91 rfl ?_
  exact hk17 hv1 h
set_option maxRecDepth 20000 in
theorem e_X5_weighGains_17 {Γ : pp_G} {σ' : pp_M} (hF : pp_Fx Γ dsK cX5_weighGains 4 RX5 1 12) (hR : pp_Rt Γ dsK none none σ') {σ : pp_M} {a1t : Nat} {a1o : Nat} {a1n : Nat} {a2 : Int32} {a3 : Int32} {k2 : pp_M → Nat → Nat → Nat → Int32 → Option (pp_M)} (hk2 : ∀ {σ : pp_M} {a1t : Nat} {a1o : Nat} {a1n : Nat} {a2 : Int32}, pp_al dsK a1t a1o a1n → k2 σ a1t a1o a1n a2 = some σ' → pp_E Γ dsK cX5_weighGains 4 2 [(0, ppR 25 0 0), (1, ppR a1t a1o a1n), (2, ppI a2)] [] σ) {k17 : pp_M → Nat → Nat → Nat → Int32 → Int32 → Option (pp_M)} (hk17 : ∀ {σ : pp_M} {a1t : Nat} {a1o : Nat} {a1n : Nat} {a2 : Int32} {a3 : Int32}, pp_al dsK a1t a1o a1n → k17 σ a1t a1o a1n a2 a3 = some σ' → pp_E Γ dsK cX5_weighGains 4 17 [(0, ppR 25 0 0), (1, ppR a1t a1o a1n), (2, ppI a2), (3, ppI a3)] [] σ) (hv1 : pp_al dsK a1t a1o a1n) (h : f_X5_weighGains_17_B k2 k17 σ a1t a1o a1n a2 a3 = some σ') : pp_E Γ dsK cX5_weighGains 4 17 [(0, ppR 25 0 0), (1, ppR a1t a1o a1n), (2, ppI a2), (3, ppI a3)] [] σ := by
  unfold f_X5_weighGains_17_B at h
  refine pp_iload_n hF dX5_weighGains_17 rfl rfl ?_
  refine pp_iconst hF dX5_weighGains_18 ic_5 ?_
  refine pp_icmp_ge (tgt := 94) hF dX5_weighGains_19 rfl (fun c1 => ?_) (fun c1 => ?_)
  · replace h := (if_pos c1).symm.trans h
    refine pp_aload_n hF dX5_weighGains_22 rfl rfl ?_
    refine pp_getR hF fdK_X5_11 dX5_weighGains_23 ?_
    refine pp_iload_n hF dX5_weighGains_26 rfl rfl ?_
    obtain ⟨hi2, h⟩ := pp_ck h
    refine pp_aaloadL hF vK_26 hi2 dX5_weighGains_27 ?_
    refine pp_iload_n hF dX5_weighGains_28 rfl rfl ?_
    refine pp_aload_n hF dX5_weighGains_29 rfl rfl ?_
    refine pp_iload_n hF dX5_weighGains_30 rfl rfl ?_
    refine pp_iconst hF dX5_weighGains_31 ic_5 ?_
    refine pp_imul hF dX5_weighGains_32 ?_
    refine pp_iload_n hF dX5_weighGains_33 rfl rfl ?_
    refine pp_iadd hF dX5_weighGains_34 ?_
    obtain ⟨hi3, h⟩ := pp_ck h
    refine pp_laloadJ hF hv1 hi3 rfl dX5_weighGains_35 ?_
    refine pp_iload_n hF dX5_weighGains_36 rfl rfl ?_
    refine pp_aload_n hF dX5_weighGains_37 rfl rfl ?_
    refine pp_getR hF fdK_X5_40 dX5_weighGains_38 ?_
    refine pp_getR hF fdK_X5_44 dX5_weighGains_41 ?_
    refine pp_iload_n hF dX5_weighGains_44 rfl rfl ?_
    refine pp_aaloadI hF vK_2 hi2 dX5_weighGains_45 ?_
    refine pp_iconst hF dX5_weighGains_46 ic_0 ?_
    refine pp_ialoadJ hF (vK_3 _ (vp_lt hi2)) vl_0_6 (congrArg (HAdd.hAdd _) cl_0) dX5_weighGains_47 ?_
    refine pp_imul hF dX5_weighGains_48 ?_
    refine pp_i2l hF dX5_weighGains_49 ?_
    refine pp_ldc2 hF wm_577 dX5_weighGains_50 ?_
    refine pp_lmul hF dX5_weighGains_53 ?_
    refine pp_lsub hF dX5_weighGains_54 ?_
    obtain ⟨hi4, h⟩ := pp_ck h
    refine pp_lastoreJ hF (vK_27 _ (vp_lt hi2)) hi4 rfl dX5_weighGains_55 ?_
    refine pp_aload_n hF dX5_weighGains_56 rfl rfl ?_
    refine pp_getR hF fdK_X5_11 dX5_weighGains_57 ?_
    refine pp_iload_n hF dX5_weighGains_60 rfl rfl ?_
    refine pp_aaloadL hF vK_26 hi2 dX5_weighGains_61 ?_
    refine pp_iload_n hF dX5_weighGains_62 rfl rfl ?_
    refine pp_laloadJ hF (vK_27 _ (vp_lt hi2)) hi4 rfl dX5_weighGains_63 ?_
    refine pp_aload_n hF dX5_weighGains_64 rfl rfl ?_
    refine pp_getR hF fdK_X5_11 dX5_weighGains_65 ?_
    refine pp_iload_n hF dX5_weighGains_68 rfl rfl ?_
    refine pp_aaloadL hF vK_26 hi2 dX5_weighGains_69 ?_
    refine pp_aload_n hF dX5_weighGains_70 rfl rfl ?_
    refine pp_getR hF fdK_X5_16 dX5_weighGains_71 ?_
    refine pp_iload_n hF dX5_weighGains_74 rfl rfl ?_
    refine pp_ialoadJ hF vK_28 hi2 (Nat.zero_add _) dX5_weighGains_75 ?_
    obtain ⟨hi5, h⟩ := pp_ck h
    refine pp_laloadJ hF (vK_27 _ (vp_lt hi2)) hi5 rfl dX5_weighGains_76 ?_
    refine pp_lcmp_le (tgt := 88) hF dX5_weighGains_77 dX5_weighGains_78 rfl (fun c6 => ?_) (fun c6 => ?_)
    · replace h := (if_pos c6).symm.trans h
      refine pp_aload_n hF dX5_weighGains_81 rfl rfl ?_
      refine pp_getR hF fdK_X5_16 dX5_weighGains_82 ?_
      refine pp_iload_n hF dX5_weighGains_85 rfl rfl ?_
      refine pp_iload_n hF dX5_weighGains_86 rfl rfl ?_
      refine pp_iastoreJ hF vK_28 hi2 (Nat.zero_add _) dX5_weighGains_87 ?_
      exact e_X5_weighGains_88 hF hR hk2 hk17 hv1 h
    · replace h := (if_neg c6).symm.trans h
      exact e_X5_weighGains_88 hF hR hk2 hk17 hv1 h
  · replace h := (if_neg c1).symm.trans h
    refine pp_iinc hF dX5_weighGains_94 rfl (congrArg (HAdd.hAdd _) ic_1) (by decide) (lv' := [(0, ppR 25 0 0), (1, ppR a1t a1o a1n), (2, ppI (a2 + (1 : Int32))), (3, ppI a3)]) rfl ?_
    refine pp_goto (tgt := 2) hF dX5_weighGains_97 rfl ?_
    refine pp_few [0, 1, 2] (lv' := [(0, ppR 25 0 0), (1, ppR a1t a1o a1n), (2, ppI (a2 + (1 : Int32)))]) rfl ?_
    exact hk2 hv1 h
set_option maxRecDepth 20000 in
theorem e_X5_weighGains_17_L {Γ : pp_G} {σ' : pp_M} (hF : pp_Fx Γ dsK cX5_weighGains 4 RX5 1 12) (hR : pp_Rt Γ dsK none none σ') {k2 : pp_M → Nat → Nat → Nat → Int32 → Option (pp_M)} (hk2 : ∀ {σ : pp_M} {a1t : Nat} {a1o : Nat} {a1n : Nat} {a2 : Int32}, pp_al dsK a1t a1o a1n → k2 σ a1t a1o a1n a2 = some σ' → pp_E Γ dsK cX5_weighGains 4 2 [(0, ppR 25 0 0), (1, ppR a1t a1o a1n), (2, ppI a2)] [] σ) : ∀ {n : Nat} {σ : pp_M} {a1t : Nat} {a1o : Nat} {a1n : Nat} {a2 : Int32} {a3 : Int32}, pp_al dsK a1t a1o a1n → f_X5_weighGains_17 k2 n σ a1t a1o a1n a2 a3 = some σ' → pp_E Γ dsK cX5_weighGains 4 17 [(0, ppR 25 0 0), (1, ppR a1t a1o a1n), (2, ppI a2), (3, ppI a3)] [] σ
  | 0, _, _, _, _, _, _ => fun hv1 h => by cases h
  | n + 1, _, _, _, _, _, _ => fun hv1 h => e_X5_weighGains_17 hF hR hk2 (fun hv1 h => e_X5_weighGains_17_L hF hR hk2 (n := n) hv1 h) hv1 h
set_option maxRecDepth 20000 in
theorem e_X5_weighGains_2 {Γ : pp_G} {σ' : pp_M} (hF : pp_Fx Γ dsK cX5_weighGains 4 RX5 1 12) (hR : pp_Rt Γ dsK none none σ') {σ : pp_M} {a1t : Nat} {a1o : Nat} {a1n : Nat} {a2 : Int32} {k2 : pp_M → Nat → Nat → Nat → Int32 → Option (pp_M)} (hk2 : ∀ {σ : pp_M} {a1t : Nat} {a1o : Nat} {a1n : Nat} {a2 : Int32}, pp_al dsK a1t a1o a1n → k2 σ a1t a1o a1n a2 = some σ' → pp_E Γ dsK cX5_weighGains 4 2 [(0, ppR 25 0 0), (1, ppR a1t a1o a1n), (2, ppI a2)] [] σ) (hv1 : pp_al dsK a1t a1o a1n) (h : f_X5_weighGains_2_B k2 σ a1t a1o a1n a2 = some σ') : pp_E Γ dsK cX5_weighGains 4 2 [(0, ppR 25 0 0), (1, ppR a1t a1o a1n), (2, ppI a2)] [] σ := by
  unfold f_X5_weighGains_2_B at h
  refine pp_iload_n hF dX5_weighGains_2 rfl rfl ?_
  refine pp_bipush hF dX5_weighGains_3 bc_6 ?_
  refine pp_icmp_ge (tgt := 100) hF dX5_weighGains_5 rfl (fun c1 => ?_) (fun c1 => ?_)
  · replace h := (if_pos c1).symm.trans h
    refine pp_aload_n hF dX5_weighGains_8 rfl rfl ?_
    refine pp_getR hF fdK_X5_16 dX5_weighGains_9 ?_
    refine pp_iload_n hF dX5_weighGains_12 rfl rfl ?_
    refine pp_iconst hF dX5_weighGains_13 ic_0 ?_
    obtain ⟨hi2, h⟩ := pp_ck h
    refine pp_iastoreJ hF vK_28 hi2 (Nat.zero_add _) dX5_weighGains_14 ?_
    refine pp_iconst hF dX5_weighGains_15 ic_0 ?_
    refine pp_istore_n hF dX5_weighGains_16 rfl (by decide) (lv' := [(0, ppR 25 0 0), (1, ppR a1t a1o a1n), (2, ppI a2), (3, ppI (0 : Int32))]) rfl ?_
    exact e_X5_weighGains_17_L hF hR hk2 hv1 h
  · replace h := (if_neg c1).symm.trans h
    obtain rfl := (Option.some.inj h).symm
    exact pp_return hF hR dX5_weighGains_100
set_option maxRecDepth 20000 in
theorem e_X5_weighGains_2_L {Γ : pp_G} {σ' : pp_M} (hF : pp_Fx Γ dsK cX5_weighGains 4 RX5 1 12) (hR : pp_Rt Γ dsK none none σ') : ∀ {n : Nat} {σ : pp_M} {a1t : Nat} {a1o : Nat} {a1n : Nat} {a2 : Int32}, pp_al dsK a1t a1o a1n → f_X5_weighGains_2 n σ a1t a1o a1n a2 = some σ' → pp_E Γ dsK cX5_weighGains 4 2 [(0, ppR 25 0 0), (1, ppR a1t a1o a1n), (2, ppI a2)] [] σ
  | 0, _, _, _, _, _ => fun hv1 h => by cases h
  | n + 1, _, _, _, _, _ => fun hv1 h => e_X5_weighGains_2 hF hR (fun hv1 h => e_X5_weighGains_2_L hF hR (n := n) hv1 h) hv1 h
set_option maxRecDepth 20000 in
theorem e_X5_weighGains_0 {Γ : pp_G} {σ' : pp_M} (hF : pp_Fx Γ dsK cX5_weighGains 4 RX5 1 12) (hR : pp_Rt Γ dsK none none σ') {σ : pp_M} {a1t : Nat} {a1o : Nat} {a1n : Nat} (hv1 : pp_al dsK a1t a1o a1n) (h : f_X5_weighGains σ a1t a1o a1n = some σ') : pp_E Γ dsK cX5_weighGains 4 0 [(0, ppR 25 0 0), (1, ppR a1t a1o a1n)] [] σ := by
  unfold f_X5_weighGains at h
  refine pp_iconst hF dX5_weighGains_0 ic_0 ?_
  refine pp_istore_n hF dX5_weighGains_1 rfl (by decide) (lv' := [(0, ppR 25 0 0), (1, ppR a1t a1o a1n), (2, ppI (0 : Int32))]) rfl ?_
  exact e_X5_weighGains_2_L hF hR hv1 h
set_option maxRecDepth 20000 in
theorem c_X5_weighGains {σ' : pp_M} {σ : pp_M} {a1t a1o a1n : Nat} (hv1 : pp_al dsK a1t a1o a1n) (h : f_X5_weighGains σ a1t a1o a1n = some σ') : pp_Ct yX5_weighGains cX5_weighGains 4 none 1 12 dsK [ppR 25 0 0, ppR a1t a1o a1n] σ none σ' := pp_met pl_X5 rfl okK (Nat.le_of_ble_eq_true rfl) rfl (fun Γ hF hR => (e_X5_weighGains_0 hF hR hv1 h))
set_option maxRecDepth 20000 in
theorem e_X6_isBetter_32 {Γ : pp_G} {r' : Int32} {σ' : pp_M} (hF : pp_Fx Γ dsK cX6_isBetter 5 RX6 1 12) (hR : pp_Rt Γ dsK (some .boolean) (some (ppI r')) σ') {σ : pp_M}  (h : f_X6_isBetter_32 σ  = some (r', σ')) : pp_E Γ dsK cX6_isBetter 5 32 [] [] σ := by
  unfold f_X6_isBetter_32 at h
  refine pp_iconst hF dX6_isBetter_32 ic_1 ?_
  refine pp_goto (tgt := 37) hF dX6_isBetter_33 rfl ?_
  obtain ⟨rfl, rfl⟩ := pp_i2 h
  exact pp_zreturn hF hR rfl dX6_isBetter_37
set_option maxRecDepth 20000 in
theorem e_X6_isBetter_0 {Γ : pp_G} {r' : Int32} {σ' : pp_M} (hF : pp_Fx Γ dsK cX6_isBetter 5 RX6 1 12) (hR : pp_Rt Γ dsK (some .boolean) (some (ppI r')) σ') {σ : pp_M} {a1 : Int32} {a2 : Int32} {a3 : Int64} (h : f_X6_isBetter σ a1 a2 a3 = some (r', σ')) : pp_E Γ dsK cX6_isBetter 5 0 [(0, ppR 36 0 0), (1, ppI a1), (2, ppI a2), (3, ppL a3)] [] σ := by
  unfold f_X6_isBetter at h
  refine pp_lload_n hF dX6_isBetter_0 rfl rfl ?_
  refine pp_aload_n hF dX6_isBetter_1 rfl rfl ?_
  refine pp_getR hF fdK_X6_9 dX6_isBetter_2 ?_
  refine pp_iload_n hF dX6_isBetter_5 rfl rfl ?_
  obtain ⟨hi1, h⟩ := pp_ck h
  refine pp_laloadJ hF vK_37 hi1 (Nat.zero_add _) dX6_isBetter_6 ?_
  refine pp_lcmp_gt (tgt := 32) hF dX6_isBetter_7 dX6_isBetter_8 rfl (fun c2 => ?_) (fun c2 => ?_)
  · replace h := (if_pos c2).symm.trans h
    refine pp_few [] (lv' := []) rfl ?_
    exact e_X6_isBetter_32 hF hR h
  · replace h := (if_neg c2).symm.trans h
    refine pp_lload_n hF dX6_isBetter_11 rfl rfl ?_
    refine pp_aload_n hF dX6_isBetter_12 rfl rfl ?_
    refine pp_getR hF fdK_X6_9 dX6_isBetter_13 ?_
    refine pp_iload_n hF dX6_isBetter_16 rfl rfl ?_
    refine pp_laloadJ hF vK_37 hi1 (Nat.zero_add _) dX6_isBetter_17 ?_
    refine pp_lcmp_ne (tgt := 36) hF dX6_isBetter_18 dX6_isBetter_19 rfl (fun c3 => ?_) (fun c3 => ?_)
    · replace h := (if_pos c3).symm.trans h
      refine pp_iload_n hF dX6_isBetter_22 rfl rfl ?_
      refine pp_aload_n hF dX6_isBetter_23 rfl rfl ?_
      refine pp_getR hF fdK_X6_15 dX6_isBetter_24 ?_
      refine pp_iload_n hF dX6_isBetter_27 rfl rfl ?_
      refine pp_ialoadJ hF vK_38 hi1 (Nat.zero_add _) dX6_isBetter_28 ?_
      refine pp_icmp_ge (tgt := 36) hF dX6_isBetter_29 rfl (fun c4 => ?_) (fun c4 => ?_)
      · replace h := (if_pos c4).symm.trans h
        refine pp_few [] (lv' := []) rfl ?_
        exact e_X6_isBetter_32 hF hR h
      · replace h := (if_neg c4).symm.trans h
        refine pp_iconst hF dX6_isBetter_36 ic_0 ?_
        obtain ⟨rfl, rfl⟩ := pp_i2 h
        exact pp_zreturn hF hR rfl dX6_isBetter_37
    · replace h := (if_neg c3).symm.trans h
      refine pp_iconst hF dX6_isBetter_36 ic_0 ?_
      obtain ⟨rfl, rfl⟩ := pp_i2 h
      exact pp_zreturn hF hR rfl dX6_isBetter_37
set_option maxRecDepth 20000 in
theorem c_X6_isBetter {r' : Int32} {σ' : pp_M} {σ : pp_M} {a1 : Int32} {a2 : Int32} {a3 : Int64} (h : f_X6_isBetter σ a1 a2 a3 = some (r', σ')) : pp_Ct yX6_isBetter cX6_isBetter 5 (some .boolean) 1 12 dsK [ppR 36 0 0, ppI a1, ppI a2, ppL a3] σ (some (ppI r')) σ' := pp_met pl_X6 rfl okK (Nat.le_of_ble_eq_true rfl) rfl (fun Γ hF hR => (e_X6_isBetter_0 hF hR h))
set_option maxRecDepth 20000 in
theorem e_X6_bestSet_46 {Γ : pp_G} {r' : Int32} {σ' : pp_M} (hF : pp_Fx Γ dsK cX6_bestSet 3 RX6 2 36) (hR : pp_Rt Γ dsK (some .int) (some (ppI r')) σ') {σ : pp_M} {a1 : Int32} {a2 : Int32} {k4 : pp_M → Int32 → Int32 → Option (Int32 × pp_M)} (hk4 : ∀ {σ : pp_M} {a1 : Int32} {a2 : Int32}, k4 σ a1 a2 = some (r', σ') → pp_E Γ dsK cX6_bestSet 3 4 [(0, ppR 36 0 0), (1, ppI a1), (2, ppI a2)] [] σ) (h : f_X6_bestSet_46 k4 σ a1 a2 = some (r', σ')) : pp_E Γ dsK cX6_bestSet 3 46 [(0, ppR 36 0 0), (1, ppI a1), (2, ppI a2)] [] σ := by
  unfold f_X6_bestSet_46 at h
  refine pp_iinc hF dX6_bestSet_46 rfl (congrArg (HAdd.hAdd _) ic_1) (by decide) (lv' := [(0, ppR 36 0 0), (1, ppI a1), (2, ppI (a2 + (1 : Int32)))]) rfl ?_
  refine pp_goto (tgt := 4) hF dX6_bestSet_49 rfl ?_
  exact hk4 h
set_option maxRecDepth 20000 in
theorem e_X6_bestSet_4 {Γ : pp_G} {r' : Int32} {σ' : pp_M} (hF : pp_Fx Γ dsK cX6_bestSet 3 RX6 2 36) (hR : pp_Rt Γ dsK (some .int) (some (ppI r')) σ') {σ : pp_M} {a1 : Int32} {a2 : Int32} {k4 : pp_M → Int32 → Int32 → Option (Int32 × pp_M)} (hk4 : ∀ {σ : pp_M} {a1 : Int32} {a2 : Int32}, k4 σ a1 a2 = some (r', σ') → pp_E Γ dsK cX6_bestSet 3 4 [(0, ppR 36 0 0), (1, ppI a1), (2, ppI a2)] [] σ) (h : f_X6_bestSet_4_B k4 σ a1 a2 = some (r', σ')) : pp_E Γ dsK cX6_bestSet 3 4 [(0, ppR 36 0 0), (1, ppI a1), (2, ppI a2)] [] σ := by
  unfold f_X6_bestSet_4_B at h
  refine pp_iload_n hF dX6_bestSet_4 rfl rfl ?_
  refine pp_sipush hF dX6_bestSet_5 sc_128 ?_
  refine pp_icmp_ge (tgt := 52) hF dX6_bestSet_8 rfl (fun c1 => ?_) (fun c1 => ?_)
  · replace h := (if_pos c1).symm.trans h
    refine pp_aload_n hF dX6_bestSet_11 rfl rfl ?_
    refine pp_getR hF fdK_X6_9 dX6_bestSet_12 ?_
    refine pp_iload_n hF dX6_bestSet_15 rfl rfl ?_
    obtain ⟨hi2, h⟩ := pp_ck h
    refine pp_laloadJ hF vK_37 hi2 (Nat.zero_add _) dX6_bestSet_16 ?_
    refine pp_ldc2 hF wm_664 dX6_bestSet_17 ?_
    refine pp_lcmp_eq (tgt := 46) hF dX6_bestSet_20 dX6_bestSet_21 rfl (fun c3 => ?_) (fun c3 => ?_)
    · replace h := (if_pos c3).symm.trans h
      exact e_X6_bestSet_46 hF hR hk4 h
    · replace h := (if_neg c3).symm.trans h
      refine pp_aload_n hF dX6_bestSet_24 rfl rfl ?_
      refine pp_iload_n hF dX6_bestSet_25 rfl rfl ?_
      refine pp_aload_n hF dX6_bestSet_26 rfl rfl ?_
      refine pp_getR hF fdK_X6_15 dX6_bestSet_27 ?_
      refine pp_iload_n hF dX6_bestSet_30 rfl rfl ?_
      refine pp_ialoadJ hF vK_38 hi2 (Nat.zero_add _) dX6_bestSet_31 ?_
      refine pp_aload_n hF dX6_bestSet_32 rfl rfl ?_
      refine pp_getR hF fdK_X6_9 dX6_bestSet_33 ?_
      refine pp_iload_n hF dX6_bestSet_36 rfl rfl ?_
      refine pp_laloadJ hF vK_37 hi2 (Nat.zero_add _) dX6_bestSet_37 ?_
      obtain ⟨x38, hx38, h⟩ := pp_bd h
      refine pp_callVi hF (c_X6_isBetter hx38) mV_X6_isBetter lk_X6_118 obK_36 rfl rfl ⟨by decide, by decide⟩ (Nat.le_of_ble_eq_true rfl) dX6_bestSet_38 ?_
      refine pp_if_eq (tgt := 46) hF dX6_bestSet_41 rfl (fun c5 => ?_) (fun c5 => ?_)
      · replace h := (if_pos c5).symm.trans h
        exact e_X6_bestSet_46 hF hR hk4 h
      · replace h := (if_neg c5).symm.trans h
        refine pp_iload_n hF dX6_bestSet_44 rfl rfl ?_
        refine pp_istore_n hF dX6_bestSet_45 rfl (by decide) (lv' := [(0, ppR 36 0 0), (1, ppI a2), (2, ppI a2)]) rfl ?_
        exact e_X6_bestSet_46 hF hR hk4 h
  · replace h := (if_neg c1).symm.trans h
    refine pp_iload_n hF dX6_bestSet_52 rfl rfl ?_
    obtain ⟨rfl, rfl⟩ := pp_i2 h
    exact pp_ireturn hF hR dX6_bestSet_53
set_option maxRecDepth 20000 in
theorem e_X6_bestSet_4_L {Γ : pp_G} {r' : Int32} {σ' : pp_M} (hF : pp_Fx Γ dsK cX6_bestSet 3 RX6 2 36) (hR : pp_Rt Γ dsK (some .int) (some (ppI r')) σ') : ∀ {n : Nat} {σ : pp_M} {a1 : Int32} {a2 : Int32}, f_X6_bestSet_4 n σ a1 a2 = some (r', σ') → pp_E Γ dsK cX6_bestSet 3 4 [(0, ppR 36 0 0), (1, ppI a1), (2, ppI a2)] [] σ
  | 0, _, _, _ => fun h => by cases h
  | n + 1, _, _, _ => fun h => e_X6_bestSet_4 hF hR (fun h => e_X6_bestSet_4_L hF hR (n := n) h) h
set_option maxRecDepth 20000 in
theorem e_X6_bestSet_0 {Γ : pp_G} {r' : Int32} {σ' : pp_M} (hF : pp_Fx Γ dsK cX6_bestSet 3 RX6 2 36) (hR : pp_Rt Γ dsK (some .int) (some (ppI r')) σ') {σ : pp_M}  (h : f_X6_bestSet σ  = some (r', σ')) : pp_E Γ dsK cX6_bestSet 3 0 [(0, ppR 36 0 0)] [] σ := by
  unfold f_X6_bestSet at h
  refine pp_iconst hF dX6_bestSet_0 ic_0 ?_
  refine pp_istore_n hF dX6_bestSet_1 rfl (by decide) (lv' := [(0, ppR 36 0 0), (1, ppI (0 : Int32))]) rfl ?_
  refine pp_iconst hF dX6_bestSet_2 ic_1 ?_
  refine pp_istore_n hF dX6_bestSet_3 rfl (by decide) (lv' := [(0, ppR 36 0 0), (1, ppI (0 : Int32)), (2, ppI (1 : Int32))]) rfl ?_
  exact e_X6_bestSet_4_L hF hR h
set_option maxRecDepth 20000 in
theorem c_X6_bestSet {r' : Int32} {σ' : pp_M} {σ : pp_M}  (h : f_X6_bestSet σ  = some (r', σ')) : pp_Ct yX6_bestSet cX6_bestSet 3 (some .int) 2 36 dsK [ppR 36 0 0] σ (some (ppI r')) σ' := pp_met pl_X6 rfl okK (Nat.le_of_ble_eq_true rfl) rfl (fun Γ hF hR => (e_X6_bestSet_0 hF hR h))
set_option maxRecDepth 20000 in
theorem e_X6_bitOf_0 {Γ : pp_G} {r' : Int32} {σ' : pp_M} (hF : pp_Fx Γ dsK cX6_bitOf 1 RX6 1 12) (hR : pp_Rt Γ dsK (some .int) (some (ppI r')) σ') {σ : pp_M} {a0 : Int32} (h : f_X6_bitOf σ a0 = some (r', σ')) : pp_E Γ dsK cX6_bitOf 1 0 [(0, ppI a0)] [] σ := by
  unfold f_X6_bitOf at h
  refine pp_iconst hF dX6_bitOf_0 ic_1 ?_
  refine pp_iload_n hF dX6_bitOf_1 rfl rfl ?_
  refine pp_iconst hF dX6_bitOf_2 ic_1 ?_
  refine pp_isub hF dX6_bitOf_3 ?_
  refine pp_ishl hF dX6_bitOf_4 ?_
  obtain ⟨rfl, rfl⟩ := pp_i2 h
  exact pp_ireturn hF hR dX6_bitOf_5
set_option maxRecDepth 20000 in
theorem c_X6_bitOf {r' : Int32} {σ' : pp_M} {σ : pp_M} {a0 : Int32} (h : f_X6_bitOf σ a0 = some (r', σ')) : pp_Ct yX6_bitOf cX6_bitOf 1 (some .int) 1 12 dsK [ppI a0] σ (some (ppI r')) σ' := pp_met pl_X6 rfl okK (Nat.le_of_ble_eq_true rfl) rfl (fun Γ hF hR => (e_X6_bitOf_0 hF hR h))
set_option maxRecDepth 20000 in
theorem e_X6_clear_2 {Γ : pp_G} {σ' : pp_M} (hF : pp_Fx Γ dsK cX6_clear 2 RX6 2 36) (hR : pp_Rt Γ dsK none none σ') {σ : pp_M} {a1 : Int32} {k2 : pp_M → Int32 → Option (pp_M)} (hk2 : ∀ {σ : pp_M} {a1 : Int32}, k2 σ a1 = some σ' → pp_E Γ dsK cX6_clear 2 2 [(0, ppR 36 0 0), (1, ppI a1)] [] σ) (h : f_X6_clear_2_B k2 σ a1 = some σ') : pp_E Γ dsK cX6_clear 2 2 [(0, ppR 36 0 0), (1, ppI a1)] [] σ := by
  unfold f_X6_clear_2_B at h
  refine pp_iload_n hF dX6_clear_2 rfl rfl ?_
  refine pp_sipush hF dX6_clear_3 sc_128 ?_
  refine pp_icmp_ge (tgt := 31) hF dX6_clear_6 rfl (fun c1 => ?_) (fun c1 => ?_)
  · replace h := (if_pos c1).symm.trans h
    refine pp_aload_n hF dX6_clear_9 rfl rfl ?_
    refine pp_getR hF fdK_X6_9 dX6_clear_10 ?_
    refine pp_iload_n hF dX6_clear_13 rfl rfl ?_
    refine pp_ldc2 hF wm_664 dX6_clear_14 ?_
    obtain ⟨hi2, h⟩ := pp_ck h
    refine pp_lastoreJ hF vK_37 hi2 (Nat.zero_add _) dX6_clear_17 ?_
    refine pp_aload_n hF dX6_clear_18 rfl rfl ?_
    refine pp_getR hF fdK_X6_15 dX6_clear_19 ?_
    refine pp_iload_n hF dX6_clear_22 rfl rfl ?_
    refine pp_iconst hF dX6_clear_23 ic_0 ?_
    refine pp_iastoreJ hF vK_38 hi2 (Nat.zero_add _) dX6_clear_24 ?_
    refine pp_iinc hF dX6_clear_25 rfl (congrArg (HAdd.hAdd _) ic_1) (by decide) (lv' := [(0, ppR 36 0 0), (1, ppI (a1 + (1 : Int32)))]) rfl ?_
    refine pp_goto (tgt := 2) hF dX6_clear_28 rfl ?_
    exact hk2 h
  · replace h := (if_neg c1).symm.trans h
    refine pp_aload_n hF dX6_clear_31 rfl rfl ?_
    refine pp_getR hF fdK_X6_53 dX6_clear_32 ?_
    obtain ⟨x35, hx35, h⟩ := pp_bd h
    refine pp_callVv hF (c_X0_comeHome hx35) mV_X0_comeHome lk_X6_77 obK_21 rfl rfl ⟨by decide, by decide⟩ (Nat.le_of_ble_eq_true rfl) dX6_clear_35 ?_
    obtain rfl := (Option.some.inj h).symm
    exact pp_return hF hR dX6_clear_38
set_option maxRecDepth 20000 in
theorem e_X6_clear_2_L {Γ : pp_G} {σ' : pp_M} (hF : pp_Fx Γ dsK cX6_clear 2 RX6 2 36) (hR : pp_Rt Γ dsK none none σ') : ∀ {n : Nat} {σ : pp_M} {a1 : Int32}, f_X6_clear_2 n σ a1 = some σ' → pp_E Γ dsK cX6_clear 2 2 [(0, ppR 36 0 0), (1, ppI a1)] [] σ
  | 0, _, _ => fun h => by cases h
  | n + 1, _, _ => fun h => e_X6_clear_2 hF hR (fun h => e_X6_clear_2_L hF hR (n := n) h) h
set_option maxRecDepth 20000 in
theorem e_X6_clear_0 {Γ : pp_G} {σ' : pp_M} (hF : pp_Fx Γ dsK cX6_clear 2 RX6 2 36) (hR : pp_Rt Γ dsK none none σ') {σ : pp_M}  (h : f_X6_clear σ  = some σ') : pp_E Γ dsK cX6_clear 2 0 [(0, ppR 36 0 0)] [] σ := by
  unfold f_X6_clear at h
  refine pp_iconst hF dX6_clear_0 ic_0 ?_
  refine pp_istore_n hF dX6_clear_1 rfl (by decide) (lv' := [(0, ppR 36 0 0), (1, ppI (0 : Int32))]) rfl ?_
  exact e_X6_clear_2_L hF hR h
set_option maxRecDepth 20000 in
theorem c_X6_clear {σ' : pp_M} {σ : pp_M}  (h : f_X6_clear σ  = some σ') : pp_Ct yX6_clear cX6_clear 2 none 2 36 dsK [ppR 36 0 0] σ none σ' := pp_met pl_X6 rfl okK (Nat.le_of_ble_eq_true rfl) rfl (fun Γ hF hR => (e_X6_clear_0 hF hR h))
set_option maxRecDepth 20000 in
theorem e_X6_keep_0 {Γ : pp_G} {σ' : pp_M} (hF : pp_Fx Γ dsK cX6_keep 5 RX6 2 36) (hR : pp_Rt Γ dsK none none σ') {σ : pp_M} {a1 : Int32} {a2 : Int32} {a3 : Int64} (h : f_X6_keep σ a1 a2 a3 = some σ') : pp_E Γ dsK cX6_keep 5 0 [(0, ppR 36 0 0), (1, ppI a1), (2, ppI a2), (3, ppL a3)] [] σ := by
  unfold f_X6_keep at h
  refine pp_aload_n hF dX6_keep_0 rfl rfl ?_
  refine pp_iload_n hF dX6_keep_1 rfl rfl ?_
  refine pp_iload_n hF dX6_keep_2 rfl rfl ?_
  refine pp_lload_n hF dX6_keep_3 rfl rfl ?_
  obtain ⟨x4, hx4, h⟩ := pp_bd h
  refine pp_callVi hF (c_X6_isBetter hx4) mV_X6_isBetter lk_X6_118 obK_36 rfl rfl ⟨by decide, by decide⟩ (Nat.le_of_ble_eq_true rfl) dX6_keep_4 ?_
  refine pp_if_eq (tgt := 24) hF dX6_keep_7 rfl (fun c2 => ?_) (fun c2 => ?_)
  · replace h := (if_pos c2).symm.trans h
    obtain rfl := (Option.some.inj h).symm
    exact pp_return hF hR dX6_keep_24
  · replace h := (if_neg c2).symm.trans h
    refine pp_aload_n hF dX6_keep_10 rfl rfl ?_
    refine pp_getR hF fdK_X6_9 dX6_keep_11 ?_
    refine pp_iload_n hF dX6_keep_14 rfl rfl ?_
    refine pp_lload_n hF dX6_keep_15 rfl rfl ?_
    obtain ⟨hi3, h⟩ := pp_ck h
    refine pp_lastoreJ hF vK_37 hi3 (Nat.zero_add _) dX6_keep_16 ?_
    refine pp_aload_n hF dX6_keep_17 rfl rfl ?_
    refine pp_getR hF fdK_X6_15 dX6_keep_18 ?_
    refine pp_iload_n hF dX6_keep_21 rfl rfl ?_
    refine pp_iload_n hF dX6_keep_22 rfl rfl ?_
    refine pp_iastoreJ hF vK_38 hi3 (Nat.zero_add _) dX6_keep_23 ?_
    obtain rfl := (Option.some.inj h).symm
    exact pp_return hF hR dX6_keep_24
set_option maxRecDepth 20000 in
theorem c_X6_keep {σ' : pp_M} {σ : pp_M} {a1 : Int32} {a2 : Int32} {a3 : Int64} (h : f_X6_keep σ a1 a2 a3 = some σ') : pp_Ct yX6_keep cX6_keep 5 none 2 36 dsK [ppR 36 0 0, ppI a1, ppI a2, ppL a3] σ none σ' := pp_met pl_X6 rfl okK (Nat.le_of_ble_eq_true rfl) rfl (fun Γ hF hR => (e_X6_keep_0 hF hR h))
set_option maxRecDepth 20000 in
theorem e_X6_valueOfPack_5 {Γ : pp_G} {r' : Int64} {σ' : pp_M} (hF : pp_Fx Γ dsK cX6_valueOfPack 5 RX6 1 12) (hR : pp_Rt Γ dsK (some .long) (some (ppL r')) σ') {σ : pp_M} {a1t : Nat} {a1o : Nat} {a1n : Nat} {a2 : Int64} {a4 : Int32} {k5 : pp_M → Nat → Nat → Nat → Int64 → Int32 → Option (Int64 × pp_M)} (hk5 : ∀ {σ : pp_M} {a1t : Nat} {a1o : Nat} {a1n : Nat} {a2 : Int64} {a4 : Int32}, pp_al dsK a1t a1o a1n → k5 σ a1t a1o a1n a2 a4 = some (r', σ') → pp_E Γ dsK cX6_valueOfPack 5 5 [(0, ppR 36 0 0), (1, ppR a1t a1o a1n), (2, ppL a2), (4, ppI a4)] [] σ) (hv1 : pp_al dsK a1t a1o a1n) (h : f_X6_valueOfPack_5_B k5 σ a1t a1o a1n a2 a4 = some (r', σ')) : pp_E Γ dsK cX6_valueOfPack 5 5 [(0, ppR 36 0 0), (1, ppR a1t a1o a1n), (2, ppL a2), (4, ppI a4)] [] σ := by
  unfold f_X6_valueOfPack_5_B at h
  refine pp_iload hF dX6_valueOfPack_5 rfl ?_
  refine pp_bipush hF dX6_valueOfPack_7 bc_6 ?_
  refine pp_icmp_ge (tgt := 35) hF dX6_valueOfPack_9 rfl (fun c1 => ?_) (fun c1 => ?_)
  · replace h := (if_pos c1).symm.trans h
    refine pp_lload_n hF dX6_valueOfPack_12 rfl rfl ?_
    refine pp_aload_n hF dX6_valueOfPack_13 rfl rfl ?_
    refine pp_iload hF dX6_valueOfPack_14 rfl ?_
    refine pp_iconst hF dX6_valueOfPack_16 ic_5 ?_
    refine pp_imul hF dX6_valueOfPack_17 ?_
    refine pp_aload_n hF dX6_valueOfPack_18 rfl rfl ?_
    refine pp_getR hF fdK_X6_61 dX6_valueOfPack_19 ?_
    refine pp_iload hF dX6_valueOfPack_22 rfl ?_
    obtain ⟨hi2, h⟩ := pp_ck h
    refine pp_ialoadJ hF vK_35 hi2 (Nat.zero_add _) dX6_valueOfPack_24 ?_
    refine pp_iadd hF dX6_valueOfPack_25 ?_
    obtain ⟨hi3, h⟩ := pp_ck h
    refine pp_laloadJ hF hv1 hi3 rfl dX6_valueOfPack_26 ?_
    refine pp_ladd hF dX6_valueOfPack_27 ?_
    refine pp_lstore_n hF dX6_valueOfPack_28 rfl (by decide) (lv' := [(0, ppR 36 0 0), (1, ppR a1t a1o a1n), (2, ppL (a2 + (σ.2 a1t (a1o + ((a4 * (5 : Int32)) + (σ.1 35 a4.toNatClampNeg)).toNatClampNeg)))), (4, ppI a4)]) rfl ?_
    refine pp_iinc hF dX6_valueOfPack_29 rfl (congrArg (HAdd.hAdd _) ic_1) (by decide) (lv' := [(0, ppR 36 0 0), (1, ppR a1t a1o a1n), (2, ppL (a2 + (σ.2 a1t (a1o + ((a4 * (5 : Int32)) + (σ.1 35 a4.toNatClampNeg)).toNatClampNeg)))), (4, ppI (a4 + (1 : Int32)))]) rfl ?_
    refine pp_goto (tgt := 5) hF dX6_valueOfPack_32 rfl ?_
    exact hk5 hv1 h
  · replace h := (if_neg c1).symm.trans h
    refine pp_lload_n hF dX6_valueOfPack_35 rfl rfl ?_
    obtain ⟨rfl, rfl⟩ := pp_i2 h
    exact pp_lreturn hF hR dX6_valueOfPack_36
set_option maxRecDepth 20000 in
theorem e_X6_valueOfPack_5_L {Γ : pp_G} {r' : Int64} {σ' : pp_M} (hF : pp_Fx Γ dsK cX6_valueOfPack 5 RX6 1 12) (hR : pp_Rt Γ dsK (some .long) (some (ppL r')) σ') : ∀ {n : Nat} {σ : pp_M} {a1t : Nat} {a1o : Nat} {a1n : Nat} {a2 : Int64} {a4 : Int32}, pp_al dsK a1t a1o a1n → f_X6_valueOfPack_5 n σ a1t a1o a1n a2 a4 = some (r', σ') → pp_E Γ dsK cX6_valueOfPack 5 5 [(0, ppR 36 0 0), (1, ppR a1t a1o a1n), (2, ppL a2), (4, ppI a4)] [] σ
  | 0, _, _, _, _, _, _ => fun hv1 h => by cases h
  | n + 1, _, _, _, _, _, _ => fun hv1 h => e_X6_valueOfPack_5 hF hR (fun hv1 h => e_X6_valueOfPack_5_L hF hR (n := n) hv1 h) hv1 h
set_option maxRecDepth 20000 in
theorem e_X6_valueOfPack_0 {Γ : pp_G} {r' : Int64} {σ' : pp_M} (hF : pp_Fx Γ dsK cX6_valueOfPack 5 RX6 1 12) (hR : pp_Rt Γ dsK (some .long) (some (ppL r')) σ') {σ : pp_M} {a1t : Nat} {a1o : Nat} {a1n : Nat} (hv1 : pp_al dsK a1t a1o a1n) (h : f_X6_valueOfPack σ a1t a1o a1n = some (r', σ')) : pp_E Γ dsK cX6_valueOfPack 5 0 [(0, ppR 36 0 0), (1, ppR a1t a1o a1n)] [] σ := by
  unfold f_X6_valueOfPack at h
  refine pp_lconst hF dX6_valueOfPack_0 lc_0 ?_
  refine pp_lstore_n hF dX6_valueOfPack_1 rfl (by decide) (lv' := [(0, ppR 36 0 0), (1, ppR a1t a1o a1n), (2, ppL (0 : Int64))]) rfl ?_
  refine pp_iconst hF dX6_valueOfPack_2 ic_0 ?_
  refine pp_istore hF dX6_valueOfPack_3 (by decide) (lv' := [(0, ppR 36 0 0), (1, ppR a1t a1o a1n), (2, ppL (0 : Int64)), (4, ppI (0 : Int32))]) rfl ?_
  exact e_X6_valueOfPack_5_L hF hR hv1 h
set_option maxRecDepth 20000 in
theorem c_X6_valueOfPack {r' : Int64} {σ' : pp_M} {σ : pp_M} {a1t a1o a1n : Nat} (hv1 : pp_al dsK a1t a1o a1n) (h : f_X6_valueOfPack σ a1t a1o a1n = some (r', σ')) : pp_Ct yX6_valueOfPack cX6_valueOfPack 5 (some .long) 1 12 dsK [ppR 36 0 0, ppR a1t a1o a1n] σ (some (ppL r')) σ' := pp_met pl_X6 rfl okK (Nat.le_of_ble_eq_true rfl) rfl (fun Γ hF hR => (e_X6_valueOfPack_0 hF hR hv1 h))
set_option maxRecDepth 20000 in
theorem e_X6_judge_94 {Γ : pp_G} {σ' : pp_M} (hF : pp_Fx Γ dsK cX6_judge 7 RX6 3 152) (hR : pp_Rt Γ dsK none none σ') {σ : pp_M} {b1 : Int32} {b2 : Int32} {b3 : Int64} (h : f_X6_judge_94 σ b1 b2 b3 = some σ') : pp_E Γ dsK cX6_judge 7 94 [] [ppL b3, ppI b2, ppI b1, ppR 36 0 0] σ := by
  unfold f_X6_judge_94 at h
  obtain ⟨x94, hx94, h⟩ := pp_bd h
  refine pp_callVv hF (c_X6_keep hx94) mV_X6_keep lk_X6_104 obK_36 rfl rfl ⟨by decide, by decide⟩ (Nat.le_of_ble_eq_true rfl) dX6_judge_94 ?_
  obtain rfl := (Option.some.inj h).symm
  exact pp_return hF hR dX6_judge_97
set_option maxRecDepth 20000 in
theorem e_X6_judge_0 {Γ : pp_G} {σ' : pp_M} (hF : pp_Fx Γ dsK cX6_judge 7 RX6 3 152) (hR : pp_Rt Γ dsK none none σ') {σ : pp_M} {a1 : Int32} {a2 : Int32} {a3 : Int32} (h : f_X6_judge σ a1 a2 a3 = some σ') : pp_E Γ dsK cX6_judge 7 0 [(0, ppR 36 0 0), (1, ppI a1), (2, ppI a2), (3, ppI a3)] [] σ := by
  unfold f_X6_judge at h
  refine pp_aload_n hF dX6_judge_0 rfl rfl ?_
  refine pp_getR hF fdK_X6_53 dX6_judge_1 ?_
  refine pp_getR hF fdK_X6_96 dX6_judge_4 ?_
  refine pp_iload_n hF dX6_judge_7 rfl rfl ?_
  obtain ⟨hi1, h⟩ := pp_ck h
  refine pp_aaloadL hF vK_22 hi1 dX6_judge_8 ?_
  refine pp_astore hF dX6_judge_9 (by decide) (lv' := [(0, ppR 36 0 0), (1, ppI a1), (2, ppI a2), (3, ppI a3), (4, ppR 23 (a1.toNatClampNeg * 30) 30)]) rfl ?_
  refine pp_aload_n hF dX6_judge_11 rfl rfl ?_
  refine pp_getI hF fdK_X6_23 dX6_judge_12 ?_
  refine pp_if_eq (tgt := 31) hF dX6_judge_15 rfl (fun c2 => ?_) (fun c2 => ?_)
  · replace h := (if_pos c2).symm.trans h
    refine pp_aload_n hF dX6_judge_31 rfl rfl ?_
    refine pp_getR hF fdK_X6_57 dX6_judge_32 ?_
    refine pp_aload hF dX6_judge_35 rfl ?_
    obtain ⟨x37, hx37, h⟩ := pp_bd h
    refine pp_callVv hF (c_X5_weighGains (vK_23 _ (vp_lt hi1)) hx37) mV_X5_weighGains lk_X6_108 obK_25 rfl rfl ⟨by decide, by decide⟩ (Nat.le_of_ble_eq_true rfl) dX6_judge_37 ?_
    refine pp_aload_n hF dX6_judge_40 rfl rfl ?_
    refine pp_getR hF fdK_X6_57 dX6_judge_41 ?_
    obtain ⟨x44, hx44, h⟩ := pp_bd h
    refine pp_callVl hF (c_X5_peakGain hx44) mV_X5_peakGain lk_X6_114 obK_25 rfl rfl ⟨by decide, by decide⟩ (Nat.le_of_ble_eq_true rfl) dX6_judge_44 ?_
    refine pp_lstore hF dX6_judge_47 (by decide) (lv' := [(0, ppR 36 0 0), (1, ppI a1), (2, ppI a2), (3, ppI a3), (4, ppR 23 (a1.toNatClampNeg * 30) 30), (5, ppL x44.1)]) rfl ?_
    refine pp_aload_n hF dX6_judge_49 rfl rfl ?_
    refine pp_iload_n hF dX6_judge_50 rfl rfl ?_
    refine pp_iload_n hF dX6_judge_51 rfl rfl ?_
    refine pp_lload hF dX6_judge_52 rfl ?_
    obtain ⟨x54, hx54, h⟩ := pp_bd h
    refine pp_callVi hF (c_X6_isBetter hx54) mV_X6_isBetter lk_X6_118 obK_36 rfl rfl ⟨by decide, by decide⟩ (Nat.le_of_ble_eq_true rfl) dX6_judge_54 ?_
    refine pp_if_eq (tgt := 97) hF dX6_judge_57 rfl (fun c6 => ?_) (fun c6 => ?_)
    · replace h := (if_pos c6).symm.trans h
      obtain rfl := (Option.some.inj h).symm
      exact pp_return hF hR dX6_judge_97
    · replace h := (if_neg c6).symm.trans h
      refine pp_aload_n hF dX6_judge_60 rfl rfl ?_
      refine pp_iload_n hF dX6_judge_61 rfl rfl ?_
      refine pp_iload_n hF dX6_judge_62 rfl rfl ?_
      refine pp_aload_n hF dX6_judge_63 rfl rfl ?_
      refine pp_getR hF fdK_X6_57 dX6_judge_64 ?_
      refine pp_aload_n hF dX6_judge_67 rfl rfl ?_
      refine pp_getI hF fdK_X6_36 dX6_judge_68 ?_
      obtain ⟨x71, hx71, h⟩ := pp_bd h
      refine pp_callVi hF (c_X5_peaksFit hx71) mV_X5_peaksFit lk_X6_122 obK_25 rfl rfl ⟨by decide, by decide⟩ (Nat.le_of_ble_eq_true rfl) dX6_judge_71 ?_
      refine pp_if_eq (tgt := 82) hF dX6_judge_74 rfl (fun c8 => ?_) (fun c8 => ?_)
      · replace h := (if_pos c8).symm.trans h
        refine pp_aload_n hF dX6_judge_82 rfl rfl ?_
        refine pp_getR hF fdK_X6_57 dX6_judge_83 ?_
        refine pp_aload_n hF dX6_judge_86 rfl rfl ?_
        refine pp_getI hF fdK_X6_36 dX6_judge_87 ?_
        refine pp_iconst hF dX6_judge_90 ic_n1 ?_
        obtain ⟨x91, hx91, h⟩ := pp_bd h
        refine pp_callVl hF (c_X5_mostGain hx91) mV_X5_mostGain lk_X6_126 obK_25 rfl rfl ⟨by decide, by decide⟩ (Nat.le_of_ble_eq_true rfl) dX6_judge_91 ?_
        refine pp_few [] (lv' := []) rfl ?_
        exact e_X6_judge_94 hF hR h
      · replace h := (if_neg c8).symm.trans h
        refine pp_lload hF dX6_judge_77 rfl ?_
        refine pp_goto (tgt := 94) hF dX6_judge_79 rfl ?_
        refine pp_few [] (lv' := []) rfl ?_
        exact e_X6_judge_94 hF hR h
  · replace h := (if_neg c2).symm.trans h
    refine pp_aload_n hF dX6_judge_18 rfl rfl ?_
    refine pp_iload_n hF dX6_judge_19 rfl rfl ?_
    refine pp_iload_n hF dX6_judge_20 rfl rfl ?_
    refine pp_aload_n hF dX6_judge_21 rfl rfl ?_
    refine pp_aload hF dX6_judge_22 rfl ?_
    obtain ⟨x24, hx24, h⟩ := pp_bd h
    refine pp_callVl hF (c_X6_valueOfPack (vK_23 _ (vp_lt hi1)) hx24) mV_X6_valueOfPack lk_X6_100 obK_36 rfl rfl ⟨by decide, by decide⟩ (Nat.le_of_ble_eq_true rfl) dX6_judge_24 ?_
    obtain ⟨x27, hx27, h⟩ := pp_bd h
    refine pp_callVv hF (c_X6_keep hx27) mV_X6_keep lk_X6_104 obK_36 rfl rfl ⟨by decide, by decide⟩ (Nat.le_of_ble_eq_true rfl) dX6_judge_27 ?_
    obtain rfl := (Option.some.inj h).symm
    exact pp_return hF hR dX6_judge_30
set_option maxRecDepth 20000 in
theorem c_X6_judge {σ' : pp_M} {σ : pp_M} {a1 : Int32} {a2 : Int32} {a3 : Int32} (h : f_X6_judge σ a1 a2 a3 = some σ') : pp_Ct yX6_judge cX6_judge 7 none 3 152 dsK [ppR 36 0 0, ppI a1, ppI a2, ppI a3] σ none σ' := pp_met pl_X6 rfl okK (Nat.le_of_ble_eq_true rfl) rfl (fun Γ hF hR => (e_X6_judge_0 hF hR h))
set_option maxRecDepth 20000 in
theorem e_X6_lengthen_125 {Γ : pp_G} {σ' : pp_M} {F0 L0 : Nat} {rc : pp_M → Int32 → Int32 → Int32 → Int32 → Int32 → Option (pp_M)} (hF : pp_Fx Γ dsK cX6_lengthen 9 RX6 (5 + F0) (178 + L0)) (hR : pp_Rt Γ dsK none none σ') (hrc : ∀ {σ σ' : pp_M} {a1 a2 a3 a4 a5 : Int32}, rc σ a1 a2 a3 a4 a5 = some σ' → pp_Ct yX6_lengthen cX6_lengthen 9 none F0 L0 dsK [ppR 36 0 0, ppI a1, ppI a2, ppI a3, ppI a4, ppI a5] σ none σ') {σ : pp_M} {a1 : Int32} {a2 : Int32} {a3 : Int32} {a4 : Int32} {a5 : Int32} {a6 : Int32} {k36 : pp_M → Int32 → Int32 → Int32 → Int32 → Int32 → Int32 → Option (pp_M)} (hk36 : ∀ {σ : pp_M} {a1 : Int32} {a2 : Int32} {a3 : Int32} {a4 : Int32} {a5 : Int32} {a6 : Int32}, k36 σ a1 a2 a3 a4 a5 a6 = some σ' → pp_E Γ dsK cX6_lengthen 9 36 [(0, ppR 36 0 0), (1, ppI a1), (2, ppI a2), (3, ppI a3), (4, ppI a4), (5, ppI a5), (6, ppI a6)] [] σ) (h : f_X6_lengthen_125 rc k36 σ a1 a2 a3 a4 a5 a6 = some σ') : pp_E Γ dsK cX6_lengthen 9 125 [(0, ppR 36 0 0), (1, ppI a1), (2, ppI a2), (3, ppI a3), (4, ppI a4), (5, ppI a5), (6, ppI a6)] [] σ := by
  unfold f_X6_lengthen_125 at h
  refine pp_iinc hF dX6_lengthen_125 rfl (congrArg (HAdd.hAdd _) ic_1) (by decide) (lv' := [(0, ppR 36 0 0), (1, ppI a1), (2, ppI a2), (3, ppI a3), (4, ppI a4), (5, ppI a5), (6, ppI (a6 + (1 : Int32)))]) rfl ?_
  refine pp_goto (tgt := 36) hF dX6_lengthen_128 rfl ?_
  exact hk36 h
set_option maxRecDepth 20000 in
theorem e_X6_lengthen_36 {Γ : pp_G} {σ' : pp_M} {F0 L0 : Nat} {rc : pp_M → Int32 → Int32 → Int32 → Int32 → Int32 → Option (pp_M)} (hF : pp_Fx Γ dsK cX6_lengthen 9 RX6 (5 + F0) (178 + L0)) (hR : pp_Rt Γ dsK none none σ') (hrc : ∀ {σ σ' : pp_M} {a1 a2 a3 a4 a5 : Int32}, rc σ a1 a2 a3 a4 a5 = some σ' → pp_Ct yX6_lengthen cX6_lengthen 9 none F0 L0 dsK [ppR 36 0 0, ppI a1, ppI a2, ppI a3, ppI a4, ppI a5] σ none σ') {σ : pp_M} {a1 : Int32} {a2 : Int32} {a3 : Int32} {a4 : Int32} {a5 : Int32} {a6 : Int32} {k36 : pp_M → Int32 → Int32 → Int32 → Int32 → Int32 → Int32 → Option (pp_M)} (hk36 : ∀ {σ : pp_M} {a1 : Int32} {a2 : Int32} {a3 : Int32} {a4 : Int32} {a5 : Int32} {a6 : Int32}, k36 σ a1 a2 a3 a4 a5 a6 = some σ' → pp_E Γ dsK cX6_lengthen 9 36 [(0, ppR 36 0 0), (1, ppI a1), (2, ppI a2), (3, ppI a3), (4, ppI a4), (5, ppI a5), (6, ppI a6)] [] σ) (h : f_X6_lengthen_36_B rc k36 σ a1 a2 a3 a4 a5 a6 = some σ') : pp_E Γ dsK cX6_lengthen 9 36 [(0, ppR 36 0 0), (1, ppI a1), (2, ppI a2), (3, ppI a3), (4, ppI a4), (5, ppI a5), (6, ppI a6)] [] σ := by
  unfold f_X6_lengthen_36_B at h
  refine pp_iload hF dX6_lengthen_36 rfl ?_
  refine pp_bipush hF dX6_lengthen_38 bc_7 ?_
  refine pp_icmp_gt (tgt := 131) hF dX6_lengthen_40 rfl (fun c1 => ?_) (fun c1 => ?_)
  · replace h := (if_pos c1).symm.trans h
    obtain rfl := (Option.some.inj h).symm
    exact pp_return hF hR dX6_lengthen_131
  · replace h := (if_neg c1).symm.trans h
    refine pp_iload_n hF dX6_lengthen_43 rfl rfl ?_
    refine pp_iconst hF dX6_lengthen_44 ic_5 ?_
    refine pp_icmp_ge (tgt := 131) hF dX6_lengthen_45 rfl (fun c2 => ?_) (fun c2 => ?_)
    · replace h := (if_pos c2).symm.trans h
      refine pp_iload hF dX6_lengthen_48 rfl ?_
      obtain ⟨x50, hx50, h⟩ := pp_bd h
      refine pp_callSi hF (c_X6_bitOf hx50) mS_X6_bitOf lk_X6_71 rfl rfl ⟨by omega, by omega⟩ (Nat.le_of_ble_eq_true rfl) dX6_lengthen_50 ?_
      refine pp_istore hF dX6_lengthen_53 (by decide) (lv' := [(0, ppR 36 0 0), (1, ppI a1), (2, ppI a2), (3, ppI a3), (4, ppI a4), (5, ppI a5), (6, ppI a6), (7, ppI x50.1)]) rfl ?_
      refine pp_aload_n hF dX6_lengthen_55 rfl rfl ?_
      refine pp_getI hF fdK_X6_26 dX6_lengthen_56 ?_
      refine pp_iload hF dX6_lengthen_59 rfl ?_
      refine pp_iand hF dX6_lengthen_61 ?_
      refine pp_if_eq (tgt := 125) hF dX6_lengthen_62 rfl (fun c4 => ?_) (fun c4 => ?_)
      · replace h := (if_pos c4).symm.trans h
        refine pp_few [0, 1, 2, 3, 4, 5, 6] (lv' := [(0, ppR 36 0 0), (1, ppI a1), (2, ppI a2), (3, ppI a3), (4, ppI a4), (5, ppI a5), (6, ppI a6)]) rfl ?_
        exact e_X6_lengthen_125 hF hR hrc hk36 h
      · replace h := (if_neg c4).symm.trans h
        refine pp_iload_n hF dX6_lengthen_65 rfl rfl ?_
        refine pp_iload hF dX6_lengthen_66 rfl ?_
        refine pp_iand hF dX6_lengthen_68 ?_
        refine pp_if_ne (tgt := 125) hF dX6_lengthen_69 rfl (fun c5 => ?_) (fun c5 => ?_)
        · replace h := (if_pos c5).symm.trans h
          refine pp_aload_n hF dX6_lengthen_72 rfl rfl ?_
          refine pp_getR hF fdK_X6_53 dX6_lengthen_73 ?_
          refine pp_iload_n hF dX6_lengthen_76 rfl rfl ?_
          refine pp_iconst hF dX6_lengthen_77 ic_1 ?_
          refine pp_iadd hF dX6_lengthen_78 ?_
          refine pp_iload hF dX6_lengthen_79 rfl ?_
          obtain ⟨x81, hx81, h⟩ := pp_bd h
          refine pp_callVv hF (c_X0_callAt hx81) mV_X0_callAt lk_X6_92 obK_21 rfl rfl ⟨by omega, by omega⟩ (Nat.le_of_ble_eq_true rfl) dX6_lengthen_81 ?_
          refine pp_iload hF dX6_lengthen_84 rfl ?_
          refine pp_aload_n hF dX6_lengthen_86 rfl rfl ?_
          refine pp_getR hF fdK_X6_49 dX6_lengthen_87 ?_
          refine pp_getR hF fdK_X6_82 dX6_lengthen_90 ?_
          refine pp_iload hF dX6_lengthen_93 rfl ?_
          obtain ⟨hi7, h⟩ := pp_ck h
          refine pp_aaloadI hF vK_7 hi7 dX6_lengthen_95 ?_
          refine pp_iload_n hF dX6_lengthen_96 rfl rfl ?_
          obtain ⟨hi8, h⟩ := pp_ck h
          refine pp_ialoadJ hF (vK_8 _ (vp_lt hi7)) hi8 rfl dX6_lengthen_97 ?_
          refine pp_iadd hF dX6_lengthen_98 ?_
          refine pp_istore hF dX6_lengthen_99 (by decide) (lv' := [(0, ppR 36 0 0), (1, ppI a1), (2, ppI a2), (3, ppI a3), (4, ppI a4), (5, ppI a5), (6, ppI a6), (7, ppI x50.1), (8, ppI (a4 + (x81.1 8 ((a6.toNatClampNeg * 8) + a3.toNatClampNeg))))]) rfl ?_
          refine pp_aload_n hF dX6_lengthen_101 rfl rfl ?_
          refine pp_iload_n hF dX6_lengthen_102 rfl rfl ?_
          refine pp_iconst hF dX6_lengthen_103 ic_1 ?_
          refine pp_iadd hF dX6_lengthen_104 ?_
          refine pp_iload_n hF dX6_lengthen_105 rfl rfl ?_
          refine pp_iload hF dX6_lengthen_106 rfl ?_
          refine pp_ior hF dX6_lengthen_108 ?_
          refine pp_iload hF dX6_lengthen_109 rfl ?_
          refine pp_iload hF dX6_lengthen_111 rfl ?_
          refine pp_iload hF dX6_lengthen_113 rfl ?_
          refine pp_iload hF dX6_lengthen_115 rfl ?_
          refine pp_iconst hF dX6_lengthen_117 ic_3 ?_
          refine pp_iload_n hF dX6_lengthen_118 rfl rfl ?_
          refine pp_imul hF dX6_lengthen_119 ?_
          refine pp_ishl hF dX6_lengthen_120 ?_
          refine pp_iadd hF dX6_lengthen_121 ?_
          obtain ⟨x122, hx122, h⟩ := pp_bd h
          refine pp_callVv hF (hrc hx122) mV_X6_lengthen lk_X6_67 obK_36 rfl rfl ⟨by omega, by omega⟩ (Nat.le_of_ble_eq_true rfl) dX6_lengthen_122 ?_
          refine pp_few [0, 1, 2, 3, 4, 5, 6] (lv' := [(0, ppR 36 0 0), (1, ppI a1), (2, ppI a2), (3, ppI a3), (4, ppI a4), (5, ppI a5), (6, ppI a6)]) rfl ?_
          exact e_X6_lengthen_125 hF hR hrc hk36 h
        · replace h := (if_neg c5).symm.trans h
          refine pp_few [0, 1, 2, 3, 4, 5, 6] (lv' := [(0, ppR 36 0 0), (1, ppI a1), (2, ppI a2), (3, ppI a3), (4, ppI a4), (5, ppI a5), (6, ppI a6)]) rfl ?_
          exact e_X6_lengthen_125 hF hR hrc hk36 h
    · replace h := (if_neg c2).symm.trans h
      obtain rfl := (Option.some.inj h).symm
      exact pp_return hF hR dX6_lengthen_131
set_option maxRecDepth 20000 in
theorem e_X6_lengthen_36_L {Γ : pp_G} {σ' : pp_M} {F0 L0 : Nat} {rc : pp_M → Int32 → Int32 → Int32 → Int32 → Int32 → Option (pp_M)} (hF : pp_Fx Γ dsK cX6_lengthen 9 RX6 (5 + F0) (178 + L0)) (hR : pp_Rt Γ dsK none none σ') (hrc : ∀ {σ σ' : pp_M} {a1 a2 a3 a4 a5 : Int32}, rc σ a1 a2 a3 a4 a5 = some σ' → pp_Ct yX6_lengthen cX6_lengthen 9 none F0 L0 dsK [ppR 36 0 0, ppI a1, ppI a2, ppI a3, ppI a4, ppI a5] σ none σ') : ∀ {n : Nat} {σ : pp_M} {a1 : Int32} {a2 : Int32} {a3 : Int32} {a4 : Int32} {a5 : Int32} {a6 : Int32}, f_X6_lengthen_36 rc n σ a1 a2 a3 a4 a5 a6 = some σ' → pp_E Γ dsK cX6_lengthen 9 36 [(0, ppR 36 0 0), (1, ppI a1), (2, ppI a2), (3, ppI a3), (4, ppI a4), (5, ppI a5), (6, ppI a6)] [] σ
  | 0, _, _, _, _, _, _, _ => fun h => by cases h
  | n + 1, _, _, _, _, _, _, _ => fun h => e_X6_lengthen_36 hF hR hrc (fun h => e_X6_lengthen_36_L hF hR hrc (n := n) h) h
set_option maxRecDepth 20000 in
theorem e_X6_lengthen_0 {Γ : pp_G} {σ' : pp_M} {F0 L0 : Nat} {rc : pp_M → Int32 → Int32 → Int32 → Int32 → Int32 → Option (pp_M)} (hF : pp_Fx Γ dsK cX6_lengthen 9 RX6 (5 + F0) (178 + L0)) (hR : pp_Rt Γ dsK none none σ') (hrc : ∀ {σ σ' : pp_M} {a1 a2 a3 a4 a5 : Int32}, rc σ a1 a2 a3 a4 a5 = some σ' → pp_Ct yX6_lengthen cX6_lengthen 9 none F0 L0 dsK [ppR 36 0 0, ppI a1, ppI a2, ppI a3, ppI a4, ppI a5] σ none σ') {σ : pp_M} {a1 : Int32} {a2 : Int32} {a3 : Int32} {a4 : Int32} {a5 : Int32} (h : f_X6_lengthen_0 rc σ a1 a2 a3 a4 a5 = some σ') : pp_E Γ dsK cX6_lengthen 9 0 [(0, ppR 36 0 0), (1, ppI a1), (2, ppI a2), (3, ppI a3), (4, ppI a4), (5, ppI a5)] [] σ := by
  unfold f_X6_lengthen_0 at h
  refine pp_aload_n hF dX6_lengthen_0 rfl rfl ?_
  refine pp_getR hF fdK_X6_49 dX6_lengthen_1 ?_
  refine pp_getR hF fdK_X6_82 dX6_lengthen_4 ?_
  refine pp_aload_n hF dX6_lengthen_7 rfl rfl ?_
  refine pp_getI hF fdK_X6_30 dX6_lengthen_8 ?_
  obtain ⟨hi1, h⟩ := pp_ck h
  refine pp_aaloadI hF vK_7 hi1 dX6_lengthen_11 ?_
  refine pp_iload_n hF dX6_lengthen_12 rfl rfl ?_
  obtain ⟨hi2, h⟩ := pp_ck h
  refine pp_ialoadJ hF (vK_8 _ (vp_lt hi1)) hi2 rfl dX6_lengthen_13 ?_
  refine pp_iload hF dX6_lengthen_14 rfl ?_
  refine pp_iadd hF dX6_lengthen_16 ?_
  refine pp_aload_n hF dX6_lengthen_17 rfl rfl ?_
  refine pp_getI hF fdK_X6_33 dX6_lengthen_18 ?_
  refine pp_icmp_le (tgt := 25) hF dX6_lengthen_21 rfl (fun c3 => ?_) (fun c3 => ?_)
  · replace h := (if_pos c3).symm.trans h
    obtain rfl := (Option.some.inj h).symm
    exact pp_return hF hR dX6_lengthen_24
  · replace h := (if_neg c3).symm.trans h
    refine pp_aload_n hF dX6_lengthen_25 rfl rfl ?_
    refine pp_iload_n hF dX6_lengthen_26 rfl rfl ?_
    refine pp_iload_n hF dX6_lengthen_27 rfl rfl ?_
    refine pp_iload hF dX6_lengthen_28 rfl ?_
    obtain ⟨x30, hx30, h⟩ := pp_bd h
    refine pp_callVv hF (c_X6_judge hx30) mV_X6_judge lk_X6_88 obK_36 rfl rfl ⟨by omega, by omega⟩ (Nat.le_of_ble_eq_true rfl) dX6_lengthen_30 ?_
    refine pp_iconst hF dX6_lengthen_33 ic_1 ?_
    refine pp_istore hF dX6_lengthen_34 (by decide) (lv' := [(0, ppR 36 0 0), (1, ppI a1), (2, ppI a2), (3, ppI a3), (4, ppI a4), (5, ppI a5), (6, ppI (1 : Int32))]) rfl ?_
    exact e_X6_lengthen_36_L hF hR hrc h
set_option maxRecDepth 20000 in
theorem c_X6_lengthen : ∀ {d : Nat} {σ σ' : pp_M} {a1 a2 a3 a4 a5 : Int32}, f_X6_lengthen d σ a1 a2 a3 a4 a5 = some σ' → pp_Ct yX6_lengthen cX6_lengthen 9 none (5 * d) (178 * d) dsK [ppR 36 0 0, ppI a1, ppI a2, ppI a3, ppI a4, ppI a5] σ none σ'
  | 0, _, _, _, _, _, _, _ => fun h => by cases h
  | d + 1, _, _, _, _, _, _, _ => fun h => by
    rw [show 5 * (d + 1) = 5 + 5 * d by omega, show 178 * (d + 1) = 178 + 178 * d by omega]
    exact pp_met pl_X6 rfl okK (Nat.le_of_ble_eq_true rfl) rfl (fun Γ hF hR => e_X6_lengthen_0 (F0 := 5 * d) (L0 := 178 * d) hF hR (fun h => c_X6_lengthen h) h)
set_option maxRecDepth 20000 in
theorem e_X6_findOnward_27 {Γ : pp_G} {σ' : pp_M} (hF : pp_Fx Γ dsK cX6_findOnward 5 RX6 41 1452) (hR : pp_Rt Γ dsK none none σ') {σ : pp_M} {a2 : Int32} {a3 : Int32} {a4 : Int32} {b1 : Int32} (h : f_X6_findOnward_27 σ a2 a3 a4 b1 = some σ') : pp_E Γ dsK cX6_findOnward 5 27 [(0, ppR 36 0 0), (2, ppI a2), (3, ppI a3), (4, ppI a4)] [ppI b1, ppR 36 0 0] σ := by
  unfold f_X6_findOnward_27 at h
  refine pp_putI hF fwK_X6_26 dX6_findOnward_27 ?_
  refine pp_aload_n hF dX6_findOnward_30 rfl rfl ?_
  refine pp_iload_n hF dX6_findOnward_31 rfl rfl ?_
  refine pp_putI hF fwK_X6_30 dX6_findOnward_32 ?_
  refine pp_aload_n hF dX6_findOnward_35 rfl rfl ?_
  refine pp_iload_n hF dX6_findOnward_36 rfl rfl ?_
  refine pp_iload hF dX6_findOnward_37 rfl ?_
  refine pp_isub hF dX6_findOnward_39 ?_
  refine pp_putI hF fwK_X6_33 dX6_findOnward_40 ?_
  refine pp_aload_n hF dX6_findOnward_43 rfl rfl ?_
  obtain ⟨x44, hx44, h⟩ := pp_bd h
  refine pp_callVv hF (c_X6_clear hx44) mV_X6_clear lk_X6_64 obK_36 rfl rfl ⟨by decide, by decide⟩ (Nat.le_of_ble_eq_true rfl) dX6_findOnward_44 ?_
  refine pp_aload_n hF dX6_findOnward_47 rfl rfl ?_
  refine pp_iconst hF dX6_findOnward_48 ic_0 ?_
  refine pp_iconst hF dX6_findOnward_49 ic_0 ?_
  refine pp_iconst hF dX6_findOnward_50 ic_0 ?_
  refine pp_iconst hF dX6_findOnward_51 ic_0 ?_
  refine pp_iconst hF dX6_findOnward_52 ic_0 ?_
  obtain ⟨x53, hx53, h⟩ := pp_bd h
  refine pp_callVv hF (c_X6_lengthen (d := 8)  hx53) mV_X6_lengthen lk_X6_67 obK_36 rfl rfl ⟨by decide, by decide⟩ (Nat.le_of_ble_eq_true rfl) dX6_findOnward_53 ?_
  obtain rfl := (Option.some.inj h).symm
  exact pp_return hF hR dX6_findOnward_56
set_option maxRecDepth 20000 in
theorem e_X6_findOnward_0 {Γ : pp_G} {σ' : pp_M} (hF : pp_Fx Γ dsK cX6_findOnward 5 RX6 41 1452) (hR : pp_Rt Γ dsK none none σ') {σ : pp_M} {a1 : Int32} {a2 : Int32} {a3 : Int32} {a4 : Int32} (h : f_X6_findOnward σ a1 a2 a3 a4 = some σ') : pp_E Γ dsK cX6_findOnward 5 0 [(0, ppR 36 0 0), (1, ppI a1), (2, ppI a2), (3, ppI a3), (4, ppI a4)] [] σ := by
  unfold f_X6_findOnward at h
  refine pp_aload_n hF dX6_findOnward_0 rfl rfl ?_
  refine pp_iconst hF dX6_findOnward_1 ic_0 ?_
  refine pp_putZ hF fwK_X6_19 rfl rfl dX6_findOnward_2 ?_
  refine pp_aload_n hF dX6_findOnward_5 rfl rfl ?_
  refine pp_iconst hF dX6_findOnward_6 ic_1 ?_
  refine pp_putZ hF fwK_X6_23 rfl rfl dX6_findOnward_7 ?_
  refine pp_aload_n hF dX6_findOnward_10 rfl rfl ?_
  refine pp_iload_n hF dX6_findOnward_11 rfl rfl ?_
  refine pp_if_ne (tgt := 19) hF dX6_findOnward_12 rfl (fun c1 => ?_) (fun c1 => ?_)
  · replace h := (if_pos c1).symm.trans h
    refine pp_iload_n hF dX6_findOnward_15 rfl rfl ?_
    refine pp_goto (tgt := 27) hF dX6_findOnward_16 rfl ?_
    refine pp_few [0, 2, 3, 4] (lv' := [(0, ppR 36 0 0), (2, ppI a2), (3, ppI a3), (4, ppI a4)]) rfl ?_
    exact e_X6_findOnward_27 hF hR h
  · replace h := (if_neg c1).symm.trans h
    refine pp_iload_n hF dX6_findOnward_19 rfl rfl ?_
    refine pp_iload_n hF dX6_findOnward_20 rfl rfl ?_
    obtain ⟨x21, hx21, h⟩ := pp_bd h
    refine pp_callSi hF (c_X6_bitOf hx21) mS_X6_bitOf lk_X6_71 rfl rfl ⟨by decide, by decide⟩ (Nat.le_of_ble_eq_true rfl) dX6_findOnward_21 ?_
    refine pp_iconst hF dX6_findOnward_24 ic_n1 ?_
    refine pp_ixor hF dX6_findOnward_25 ?_
    refine pp_iand hF dX6_findOnward_26 ?_
    refine pp_few [0, 2, 3, 4] (lv' := [(0, ppR 36 0 0), (2, ppI a2), (3, ppI a3), (4, ppI a4)]) rfl ?_
    exact e_X6_findOnward_27 hF hR h
set_option maxRecDepth 20000 in
theorem c_X6_findOnward {σ' : pp_M} {σ : pp_M} {a1 : Int32} {a2 : Int32} {a3 : Int32} {a4 : Int32} (h : f_X6_findOnward σ a1 a2 a3 a4 = some σ') : pp_Ct yX6_findOnward cX6_findOnward 5 none 41 1452 dsK [ppR 36 0 0, ppI a1, ppI a2, ppI a3, ppI a4] σ none σ' := pp_met pl_X6 rfl okK (Nat.le_of_ble_eq_true rfl) rfl (fun Γ hF hR => (e_X6_findOnward_0 hF hR h))
set_option maxRecDepth 20000 in
theorem e_X6_findRounds_0 {Γ : pp_G} {σ' : pp_M} (hF : pp_Fx Γ dsK cX6_findRounds 4 RX6 41 1452) (hR : pp_Rt Γ dsK none none σ') {σ : pp_M} {a1 : Int32} {a2 : Int32} {a3 : Int32} (h : f_X6_findRounds σ a1 a2 a3 = some σ') : pp_E Γ dsK cX6_findRounds 4 0 [(0, ppR 36 0 0), (1, ppI a1), (2, ppI a2), (3, ppI a3)] [] σ := by
  unfold f_X6_findRounds at h
  refine pp_aload_n hF dX6_findRounds_0 rfl rfl ?_
  refine pp_getI hF fdK_X6_19 dX6_findRounds_1 ?_
  refine pp_if_eq (tgt := 8) hF dX6_findRounds_4 rfl (fun c1 => ?_) (fun c1 => ?_)
  · replace h := (if_pos c1).symm.trans h
    refine pp_aload_n hF dX6_findRounds_8 rfl rfl ?_
    refine pp_iconst hF dX6_findRounds_9 ic_0 ?_
    refine pp_putZ hF fwK_X6_23 rfl rfl dX6_findRounds_10 ?_
    refine pp_aload_n hF dX6_findRounds_13 rfl rfl ?_
    refine pp_iload_n hF dX6_findRounds_14 rfl rfl ?_
    refine pp_putI hF fwK_X6_26 dX6_findRounds_15 ?_
    refine pp_aload_n hF dX6_findRounds_18 rfl rfl ?_
    refine pp_iconst hF dX6_findRounds_19 ic_0 ?_
    refine pp_putI hF fwK_X6_30 dX6_findRounds_20 ?_
    refine pp_aload_n hF dX6_findRounds_23 rfl rfl ?_
    refine pp_iload_n hF dX6_findRounds_24 rfl rfl ?_
    refine pp_putI hF fwK_X6_33 dX6_findRounds_25 ?_
    refine pp_aload_n hF dX6_findRounds_28 rfl rfl ?_
    refine pp_iload_n hF dX6_findRounds_29 rfl rfl ?_
    refine pp_putI hF fwK_X6_36 dX6_findRounds_30 ?_
    refine pp_aload_n hF dX6_findRounds_33 rfl rfl ?_
    obtain ⟨x34, hx34, h⟩ := pp_bd h
    refine pp_callVv hF (c_X6_clear hx34) mV_X6_clear lk_X6_64 obK_36 rfl rfl ⟨by decide, by decide⟩ (Nat.le_of_ble_eq_true rfl) dX6_findRounds_34 ?_
    refine pp_aload_n hF dX6_findRounds_37 rfl rfl ?_
    refine pp_iconst hF dX6_findRounds_38 ic_0 ?_
    refine pp_iconst hF dX6_findRounds_39 ic_0 ?_
    refine pp_iconst hF dX6_findRounds_40 ic_0 ?_
    refine pp_iconst hF dX6_findRounds_41 ic_0 ?_
    refine pp_iconst hF dX6_findRounds_42 ic_0 ?_
    obtain ⟨x43, hx43, h⟩ := pp_bd h
    refine pp_callVv hF (c_X6_lengthen (d := 8)  hx43) mV_X6_lengthen lk_X6_67 obK_36 rfl rfl ⟨by decide, by decide⟩ (Nat.le_of_ble_eq_true rfl) dX6_findRounds_43 ?_
    refine pp_aload_n hF dX6_findRounds_46 rfl rfl ?_
    refine pp_iconst hF dX6_findRounds_47 ic_1 ?_
    refine pp_putZ hF fwK_X6_19 rfl rfl dX6_findRounds_48 ?_
    obtain rfl := (Option.some.inj h).symm
    exact pp_return hF hR dX6_findRounds_51
  · replace h := (if_neg c1).symm.trans h
    obtain rfl := (Option.some.inj h).symm
    exact pp_return hF hR dX6_findRounds_7
set_option maxRecDepth 20000 in
theorem c_X6_findRounds {σ' : pp_M} {σ : pp_M} {a1 : Int32} {a2 : Int32} {a3 : Int32} (h : f_X6_findRounds σ a1 a2 a3 = some σ') : pp_Ct yX6_findRounds cX6_findRounds 4 none 41 1452 dsK [ppR 36 0 0, ppI a1, ppI a2, ppI a3] σ none σ' := pp_met pl_X6 rfl okK (Nat.le_of_ble_eq_true rfl) rfl (fun Γ hF hR => (e_X6_findRounds_0 hF hR h))
set_option maxRecDepth 20000 in
theorem e_X6_forget_0 {Γ : pp_G} {σ' : pp_M} (hF : pp_Fx Γ dsK cX6_forget 1 RX6 1 12) (hR : pp_Rt Γ dsK none none σ') {σ : pp_M}  (h : f_X6_forget σ  = some σ') : pp_E Γ dsK cX6_forget 1 0 [(0, ppR 36 0 0)] [] σ := by
  unfold f_X6_forget at h
  refine pp_aload_n hF dX6_forget_0 rfl rfl ?_
  refine pp_iconst hF dX6_forget_1 ic_0 ?_
  refine pp_putZ hF fwK_X6_19 rfl rfl dX6_forget_2 ?_
  obtain rfl := (Option.some.inj h).symm
  exact pp_return hF hR dX6_forget_5
set_option maxRecDepth 20000 in
theorem c_X6_forget {σ' : pp_M} {σ : pp_M}  (h : f_X6_forget σ  = some σ') : pp_Ct yX6_forget cX6_forget 1 none 1 12 dsK [ppR 36 0 0] σ none σ' := pp_met pl_X6 rfl okK (Nat.le_of_ble_eq_true rfl) rfl (fun Γ hF hR => (e_X6_forget_0 hF hR h))
set_option maxRecDepth 20000 in
theorem e_X6_partWith_78 {Γ : pp_G} {σ' : pp_M} (hF : pp_Fx Γ dsK cX6_partWith 4 RX6 1 12) (hR : pp_Rt Γ dsK none none σ') {σ : pp_M} {a1 : Int32} {a2 : Int32} {a3 : Int32} {k2 : pp_M → Int32 → Int32 → Int32 → Option (pp_M)} (hk2 : ∀ {σ : pp_M} {a1 : Int32} {a2 : Int32} {a3 : Int32}, k2 σ a1 a2 a3 = some σ' → pp_E Γ dsK cX6_partWith 4 2 [(0, ppR 36 0 0), (1, ppI a1), (2, ppI a2), (3, ppI a3)] [] σ) (h : f_X6_partWith_78 k2 σ a1 a2 a3 = some σ') : pp_E Γ dsK cX6_partWith 4 78 [(0, ppR 36 0 0), (1, ppI a1), (2, ppI a2), (3, ppI a3)] [] σ := by
  unfold f_X6_partWith_78 at h
  refine pp_iinc hF dX6_partWith_78 rfl (congrArg (HAdd.hAdd _) ic_1) (by decide) (lv' := [(0, ppR 36 0 0), (1, ppI a1), (2, ppI a2), (3, ppI (a3 + (1 : Int32)))]) rfl ?_
  refine pp_goto (tgt := 2) hF dX6_partWith_81 rfl ?_
  exact hk2 h
set_option maxRecDepth 20000 in
theorem e_X6_partWith_2 {Γ : pp_G} {σ' : pp_M} (hF : pp_Fx Γ dsK cX6_partWith 4 RX6 1 12) (hR : pp_Rt Γ dsK none none σ') {σ : pp_M} {a1 : Int32} {a2 : Int32} {a3 : Int32} {k2 : pp_M → Int32 → Int32 → Int32 → Option (pp_M)} (hk2 : ∀ {σ : pp_M} {a1 : Int32} {a2 : Int32} {a3 : Int32}, k2 σ a1 a2 a3 = some σ' → pp_E Γ dsK cX6_partWith 4 2 [(0, ppR 36 0 0), (1, ppI a1), (2, ppI a2), (3, ppI a3)] [] σ) (h : f_X6_partWith_2_B k2 σ a1 a2 a3 = some σ') : pp_E Γ dsK cX6_partWith 4 2 [(0, ppR 36 0 0), (1, ppI a1), (2, ppI a2), (3, ppI a3)] [] σ := by
  unfold f_X6_partWith_2_B at h
  refine pp_iload_n hF dX6_partWith_2 rfl rfl ?_
  refine pp_sipush hF dX6_partWith_3 sc_128 ?_
  refine pp_icmp_ge (tgt := 84) hF dX6_partWith_6 rfl (fun c1 => ?_) (fun c1 => ?_)
  · replace h := (if_pos c1).symm.trans h
    refine pp_iload_n hF dX6_partWith_9 rfl rfl ?_
    refine pp_iload_n hF dX6_partWith_10 rfl rfl ?_
    refine pp_iconst hF dX6_partWith_11 ic_n1 ?_
    refine pp_ixor hF dX6_partWith_12 ?_
    refine pp_iand hF dX6_partWith_13 ?_
    refine pp_if_ne (tgt := 78) hF dX6_partWith_14 rfl (fun c2 => ?_) (fun c2 => ?_)
    · replace h := (if_pos c2).symm.trans h
      refine pp_aload_n hF dX6_partWith_17 rfl rfl ?_
      refine pp_getR hF fdK_X6_9 dX6_partWith_18 ?_
      refine pp_iload_n hF dX6_partWith_21 rfl rfl ?_
      obtain ⟨hi3, h⟩ := pp_ck h
      refine pp_laloadJ hF vK_37 hi3 (Nat.zero_add _) dX6_partWith_22 ?_
      refine pp_ldc2 hF wm_664 dX6_partWith_23 ?_
      refine pp_lcmp_eq (tgt := 78) hF dX6_partWith_26 dX6_partWith_27 rfl (fun c4 => ?_) (fun c4 => ?_)
      · replace h := (if_pos c4).symm.trans h
        exact e_X6_partWith_78 hF hR hk2 h
      · replace h := (if_neg c4).symm.trans h
        refine pp_aload_n hF dX6_partWith_30 rfl rfl ?_
        refine pp_getR hF fdK_X6_9 dX6_partWith_31 ?_
        refine pp_iload_n hF dX6_partWith_34 rfl rfl ?_
        obtain ⟨hi5, h⟩ := pp_ck h
        refine pp_laloadJ hF vK_37 hi5 (Nat.zero_add _) dX6_partWith_35 ?_
        refine pp_aload_n hF dX6_partWith_36 rfl rfl ?_
        refine pp_getR hF fdK_X6_9 dX6_partWith_37 ?_
        refine pp_iload_n hF dX6_partWith_40 rfl rfl ?_
        refine pp_laloadJ hF vK_37 hi3 (Nat.zero_add _) dX6_partWith_41 ?_
        refine pp_ladd hF dX6_partWith_42 ?_
        refine pp_aload_n hF dX6_partWith_43 rfl rfl ?_
        refine pp_getL hF fdK_X6_45 dX6_partWith_44 ?_
        refine pp_lcmp_le (tgt := 78) hF dX6_partWith_47 dX6_partWith_48 rfl (fun c6 => ?_) (fun c6 => ?_)
        · replace h := (if_pos c6).symm.trans h
          refine pp_aload_n hF dX6_partWith_51 rfl rfl ?_
          refine pp_iload_n hF dX6_partWith_52 rfl rfl ?_
          refine pp_putI hF fwK_X6_39 dX6_partWith_53 ?_
          refine pp_aload_n hF dX6_partWith_56 rfl rfl ?_
          refine pp_iload_n hF dX6_partWith_57 rfl rfl ?_
          refine pp_putI hF fwK_X6_42 dX6_partWith_58 ?_
          refine pp_aload_n hF dX6_partWith_61 rfl rfl ?_
          refine pp_aload_n hF dX6_partWith_62 rfl rfl ?_
          refine pp_getR hF fdK_X6_9 dX6_partWith_63 ?_
          refine pp_iload_n hF dX6_partWith_66 rfl rfl ?_
          refine pp_laloadJ hF vK_37 hi5 (Nat.zero_add _) dX6_partWith_67 ?_
          refine pp_aload_n hF dX6_partWith_68 rfl rfl ?_
          refine pp_getR hF fdK_X6_9 dX6_partWith_69 ?_
          refine pp_iload_n hF dX6_partWith_72 rfl rfl ?_
          refine pp_laloadJ hF vK_37 hi3 (Nat.zero_add _) dX6_partWith_73 ?_
          refine pp_ladd hF dX6_partWith_74 ?_
          refine pp_putL hF fwK_X6_45 dX6_partWith_75 ?_
          exact e_X6_partWith_78 hF hR hk2 h
        · replace h := (if_neg c6).symm.trans h
          exact e_X6_partWith_78 hF hR hk2 h
    · replace h := (if_neg c2).symm.trans h
      exact e_X6_partWith_78 hF hR hk2 h
  · replace h := (if_neg c1).symm.trans h
    obtain rfl := (Option.some.inj h).symm
    exact pp_return hF hR dX6_partWith_84
set_option maxRecDepth 20000 in
theorem e_X6_partWith_2_L {Γ : pp_G} {σ' : pp_M} (hF : pp_Fx Γ dsK cX6_partWith 4 RX6 1 12) (hR : pp_Rt Γ dsK none none σ') : ∀ {n : Nat} {σ : pp_M} {a1 : Int32} {a2 : Int32} {a3 : Int32}, f_X6_partWith_2 n σ a1 a2 a3 = some σ' → pp_E Γ dsK cX6_partWith 4 2 [(0, ppR 36 0 0), (1, ppI a1), (2, ppI a2), (3, ppI a3)] [] σ
  | 0, _, _, _, _ => fun h => by cases h
  | n + 1, _, _, _, _ => fun h => e_X6_partWith_2 hF hR (fun h => e_X6_partWith_2_L hF hR (n := n) h) h
set_option maxRecDepth 20000 in
theorem e_X6_partWith_0 {Γ : pp_G} {σ' : pp_M} (hF : pp_Fx Γ dsK cX6_partWith 4 RX6 1 12) (hR : pp_Rt Γ dsK none none σ') {σ : pp_M} {a1 : Int32} {a2 : Int32} (h : f_X6_partWith σ a1 a2 = some σ') : pp_E Γ dsK cX6_partWith 4 0 [(0, ppR 36 0 0), (1, ppI a1), (2, ppI a2)] [] σ := by
  unfold f_X6_partWith at h
  refine pp_iconst hF dX6_partWith_0 ic_0 ?_
  refine pp_istore_n hF dX6_partWith_1 rfl (by decide) (lv' := [(0, ppR 36 0 0), (1, ppI a1), (2, ppI a2), (3, ppI (0 : Int32))]) rfl ?_
  exact e_X6_partWith_2_L hF hR h
set_option maxRecDepth 20000 in
theorem c_X6_partWith {σ' : pp_M} {σ : pp_M} {a1 : Int32} {a2 : Int32} (h : f_X6_partWith σ a1 a2 = some σ') : pp_Ct yX6_partWith cX6_partWith 4 none 1 12 dsK [ppR 36 0 0, ppI a1, ppI a2] σ none σ' := pp_met pl_X6 rfl okK (Nat.le_of_ble_eq_true rfl) rfl (fun Γ hF hR => (e_X6_partWith_0 hF hR h))
set_option maxRecDepth 20000 in
theorem e_X6_part_55 {Γ : pp_G} {σ' : pp_M} (hF : pp_Fx Γ dsK cX6_part 3 RX6 2 35) (hR : pp_Rt Γ dsK none none σ') {σ : pp_M} {a1 : Int32} {a2 : Int32} {k17 : pp_M → Int32 → Int32 → Option (pp_M)} (hk17 : ∀ {σ : pp_M} {a1 : Int32} {a2 : Int32}, k17 σ a1 a2 = some σ' → pp_E Γ dsK cX6_part 3 17 [(0, ppR 36 0 0), (1, ppI a1), (2, ppI a2)] [] σ) (h : f_X6_part_55 k17 σ a1 a2 = some σ') : pp_E Γ dsK cX6_part 3 55 [(0, ppR 36 0 0), (1, ppI a1), (2, ppI a2)] [] σ := by
  unfold f_X6_part_55 at h
  refine pp_iinc hF dX6_part_55 rfl (congrArg (HAdd.hAdd _) ic_1) (by decide) (lv' := [(0, ppR 36 0 0), (1, ppI a1), (2, ppI (a2 + (1 : Int32)))]) rfl ?_
  refine pp_goto (tgt := 17) hF dX6_part_58 rfl ?_
  exact hk17 h
set_option maxRecDepth 20000 in
theorem e_X6_part_17 {Γ : pp_G} {σ' : pp_M} (hF : pp_Fx Γ dsK cX6_part 3 RX6 2 35) (hR : pp_Rt Γ dsK none none σ') {σ : pp_M} {a1 : Int32} {a2 : Int32} {k17 : pp_M → Int32 → Int32 → Option (pp_M)} (hk17 : ∀ {σ : pp_M} {a1 : Int32} {a2 : Int32}, k17 σ a1 a2 = some σ' → pp_E Γ dsK cX6_part 3 17 [(0, ppR 36 0 0), (1, ppI a1), (2, ppI a2)] [] σ) (h : f_X6_part_17_B k17 σ a1 a2 = some σ') : pp_E Γ dsK cX6_part 3 17 [(0, ppR 36 0 0), (1, ppI a1), (2, ppI a2)] [] σ := by
  unfold f_X6_part_17_B at h
  refine pp_iload_n hF dX6_part_17 rfl rfl ?_
  refine pp_sipush hF dX6_part_18 sc_128 ?_
  refine pp_icmp_ge (tgt := 61) hF dX6_part_21 rfl (fun c1 => ?_) (fun c1 => ?_)
  · replace h := (if_pos c1).symm.trans h
    refine pp_iload_n hF dX6_part_24 rfl rfl ?_
    refine pp_iload_n hF dX6_part_25 rfl rfl ?_
    refine pp_iconst hF dX6_part_26 ic_n1 ?_
    refine pp_ixor hF dX6_part_27 ?_
    refine pp_iand hF dX6_part_28 ?_
    refine pp_if_ne (tgt := 55) hF dX6_part_29 rfl (fun c2 => ?_) (fun c2 => ?_)
    · replace h := (if_pos c2).symm.trans h
      refine pp_aload_n hF dX6_part_32 rfl rfl ?_
      refine pp_getR hF fdK_X6_9 dX6_part_33 ?_
      refine pp_iload_n hF dX6_part_36 rfl rfl ?_
      obtain ⟨hi3, h⟩ := pp_ck h
      refine pp_laloadJ hF vK_37 hi3 (Nat.zero_add _) dX6_part_37 ?_
      refine pp_ldc2 hF wm_664 dX6_part_38 ?_
      refine pp_lcmp_eq (tgt := 55) hF dX6_part_41 dX6_part_42 rfl (fun c4 => ?_) (fun c4 => ?_)
      · replace h := (if_pos c4).symm.trans h
        exact e_X6_part_55 hF hR hk17 h
      · replace h := (if_neg c4).symm.trans h
        refine pp_aload_n hF dX6_part_45 rfl rfl ?_
        refine pp_iload_n hF dX6_part_46 rfl rfl ?_
        refine pp_iload_n hF dX6_part_47 rfl rfl ?_
        refine pp_iload_n hF dX6_part_48 rfl rfl ?_
        refine pp_iconst hF dX6_part_49 ic_n1 ?_
        refine pp_ixor hF dX6_part_50 ?_
        refine pp_iand hF dX6_part_51 ?_
        obtain ⟨x52, hx52, h⟩ := pp_bd h
        refine pp_callVv hF (c_X6_partWith hx52) mV_X6_partWith lk_X6_130 obK_36 rfl rfl ⟨by decide, by decide⟩ (Nat.le_of_ble_eq_true rfl) dX6_part_52 ?_
        exact e_X6_part_55 hF hR hk17 h
    · replace h := (if_neg c2).symm.trans h
      exact e_X6_part_55 hF hR hk17 h
  · replace h := (if_neg c1).symm.trans h
    obtain rfl := (Option.some.inj h).symm
    exact pp_return hF hR dX6_part_61
set_option maxRecDepth 20000 in
theorem e_X6_part_17_L {Γ : pp_G} {σ' : pp_M} (hF : pp_Fx Γ dsK cX6_part 3 RX6 2 35) (hR : pp_Rt Γ dsK none none σ') : ∀ {n : Nat} {σ : pp_M} {a1 : Int32} {a2 : Int32}, f_X6_part_17 n σ a1 a2 = some σ' → pp_E Γ dsK cX6_part 3 17 [(0, ppR 36 0 0), (1, ppI a1), (2, ppI a2)] [] σ
  | 0, _, _, _ => fun h => by cases h
  | n + 1, _, _, _ => fun h => e_X6_part_17 hF hR (fun h => e_X6_part_17_L hF hR (n := n) h) h
set_option maxRecDepth 20000 in
theorem e_X6_part_0 {Γ : pp_G} {σ' : pp_M} (hF : pp_Fx Γ dsK cX6_part 3 RX6 2 35) (hR : pp_Rt Γ dsK none none σ') {σ : pp_M} {a1 : Int32} (h : f_X6_part σ a1 = some σ') : pp_E Γ dsK cX6_part 3 0 [(0, ppR 36 0 0), (1, ppI a1)] [] σ := by
  unfold f_X6_part at h
  refine pp_aload_n hF dX6_part_0 rfl rfl ?_
  refine pp_iconst hF dX6_part_1 ic_0 ?_
  refine pp_putI hF fwK_X6_39 dX6_part_2 ?_
  refine pp_aload_n hF dX6_part_5 rfl rfl ?_
  refine pp_iconst hF dX6_part_6 ic_0 ?_
  refine pp_putI hF fwK_X6_42 dX6_part_7 ?_
  refine pp_aload_n hF dX6_part_10 rfl rfl ?_
  refine pp_lconst hF dX6_part_11 lc_0 ?_
  refine pp_putL hF fwK_X6_45 dX6_part_12 ?_
  refine pp_iconst hF dX6_part_15 ic_0 ?_
  refine pp_istore_n hF dX6_part_16 rfl (by decide) (lv' := [(0, ppR 36 0 0), (1, ppI a1), (2, ppI (0 : Int32))]) rfl ?_
  exact e_X6_part_17_L hF hR h
set_option maxRecDepth 20000 in
theorem c_X6_part {σ' : pp_M} {σ : pp_M} {a1 : Int32} (h : f_X6_part σ a1 = some σ') : pp_Ct yX6_part cX6_part 3 none 2 35 dsK [ppR 36 0 0, ppI a1] σ none σ' := pp_met pl_X6 rfl okK (Nat.le_of_ble_eq_true rfl) rfl (fun Γ hF hR => (e_X6_part_0 hF hR h))
set_option maxRecDepth 20000 in
theorem e_X7_isLost_0 {Γ : pp_G} {r' : Int32} {σ' : pp_M} (hF : pp_Fx Γ dsK cX7_isLost 2 RX7 1 12) (hR : pp_Rt Γ dsK (some .boolean) (some (ppI r')) σ') {σ : pp_M} {a1 : Int32} (h : f_X7_isLost σ a1 = some (r', σ')) : pp_E Γ dsK cX7_isLost 2 0 [(0, ppR 16 0 0), (1, ppI a1)] [] σ := by
  unfold f_X7_isLost at h
  refine pp_aload_n hF dX7_isLost_0 rfl rfl ?_
  refine pp_getR hF fdK_X7_20 dX7_isLost_1 ?_
  refine pp_iload_n hF dX7_isLost_4 rfl rfl ?_
  obtain ⟨hi1, h⟩ := pp_ck h
  refine pp_ialoadJ hF vK_20 hi1 (Nat.zero_add _) dX7_isLost_5 ?_
  refine pp_iconst hF dX7_isLost_6 ic_n1 ?_
  refine pp_icmp_ne (tgt := 14) hF dX7_isLost_7 rfl (fun c2 => ?_) (fun c2 => ?_)
  · replace h := (if_pos c2).symm.trans h
    refine pp_iconst hF dX7_isLost_10 ic_1 ?_
    refine pp_goto (tgt := 15) hF dX7_isLost_11 rfl ?_
    obtain ⟨rfl, rfl⟩ := pp_i2 h
    exact pp_zreturn hF hR rfl dX7_isLost_15
  · replace h := (if_neg c2).symm.trans h
    refine pp_iconst hF dX7_isLost_14 ic_0 ?_
    obtain ⟨rfl, rfl⟩ := pp_i2 h
    exact pp_zreturn hF hR rfl dX7_isLost_15
set_option maxRecDepth 20000 in
theorem c_X7_isLost {r' : Int32} {σ' : pp_M} {σ : pp_M} {a1 : Int32} (h : f_X7_isLost σ a1 = some (r', σ')) : pp_Ct yX7_isLost cX7_isLost 2 (some .boolean) 1 12 dsK [ppR 16 0 0, ppI a1] σ (some (ppI r')) σ' := pp_met pl_X7 rfl okK (Nat.le_of_ble_eq_true rfl) rfl (fun Γ hF hR => (e_X7_isLost_0 hF hR h))
set_option maxRecDepth 20000 in
theorem e_X7_findingAt_0 {Γ : pp_G} {r' : Int32} {σ' : pp_M} (hF : pp_Fx Γ dsK cX7_findingAt 4 RX7 2 34) (hR : pp_Rt Γ dsK (some .int) (some (ppI r')) σ') {σ : pp_M} {a1 : Int32} {a2 : Int32} {a3 : Int32} (h : f_X7_findingAt σ a1 a2 a3 = some (r', σ')) : pp_E Γ dsK cX7_findingAt 4 0 [(0, ppR 16 0 0), (1, ppI a1), (2, ppI a2), (3, ppI a3)] [] σ := by
  unfold f_X7_findingAt at h
  refine pp_aload_n hF dX7_findingAt_0 rfl rfl ?_
  refine pp_iload_n hF dX7_findingAt_1 rfl rfl ?_
  obtain ⟨x2, hx2, h⟩ := pp_bd h
  refine pp_callVi hF (c_X7_isLost hx2) mV_X7_isLost lk_X7_27 obK_16 rfl rfl ⟨by decide, by decide⟩ (Nat.le_of_ble_eq_true rfl) dX7_findingAt_2 ?_
  refine pp_if_eq (tgt := 10) hF dX7_findingAt_5 rfl (fun c2 => ?_) (fun c2 => ?_)
  · replace h := (if_pos c2).symm.trans h
    refine pp_aload_n hF dX7_findingAt_10 rfl rfl ?_
    refine pp_getR hF fdK_X7_16 dX7_findingAt_11 ?_
    refine pp_iload_n hF dX7_findingAt_14 rfl rfl ?_
    obtain ⟨hi3, h⟩ := pp_ck h
    refine pp_ialoadJ hF vK_19 hi3 (Nat.zero_add _) dX7_findingAt_15 ?_
    refine pp_iload_n hF dX7_findingAt_16 rfl rfl ?_
    refine pp_icmp_eq (tgt := 22) hF dX7_findingAt_17 rfl (fun c4 => ?_) (fun c4 => ?_)
    · replace h := (if_pos c4).symm.trans h
      refine pp_iload_n hF dX7_findingAt_22 rfl rfl ?_
      refine pp_iconst hF dX7_findingAt_23 ic_0 ?_
      refine pp_aload_n hF dX7_findingAt_24 rfl rfl ?_
      refine pp_getR hF fdK_X7_20 dX7_findingAt_25 ?_
      refine pp_iload_n hF dX7_findingAt_28 rfl rfl ?_
      refine pp_ialoadJ hF vK_20 hi3 (Nat.zero_add _) dX7_findingAt_29 ?_
      refine pp_iconst hF dX7_findingAt_30 ic_1 ?_
      refine pp_isub hF dX7_findingAt_31 ?_
      obtain ⟨x32, hx32, h⟩ := pp_bd h
      refine pp_callSi hF (c_X8_within hx32) mS_X8_within lk_X7_31 rfl rfl ⟨by decide, by decide⟩ (Nat.le_of_ble_eq_true rfl) dX7_findingAt_32 ?_
      refine pp_if_eq (tgt := 42) hF dX7_findingAt_35 rfl (fun c6 => ?_) (fun c6 => ?_)
      · replace h := (if_pos c6).symm.trans h
        refine pp_iconst hF dX7_findingAt_42 ic_2 ?_
        obtain ⟨rfl, rfl⟩ := pp_i2 h
        exact pp_ireturn hF hR dX7_findingAt_43
      · replace h := (if_neg c6).symm.trans h
        refine pp_iconst hF dX7_findingAt_38 ic_0 ?_
        refine pp_goto (tgt := 43) hF dX7_findingAt_39 rfl ?_
        obtain ⟨rfl, rfl⟩ := pp_i2 h
        exact pp_ireturn hF hR dX7_findingAt_43
    · replace h := (if_neg c4).symm.trans h
      refine pp_iconst hF dX7_findingAt_20 ic_3 ?_
      obtain ⟨rfl, rfl⟩ := pp_i2 h
      exact pp_ireturn hF hR dX7_findingAt_21
  · replace h := (if_neg c2).symm.trans h
    refine pp_iconst hF dX7_findingAt_8 ic_1 ?_
    obtain ⟨rfl, rfl⟩ := pp_i2 h
    exact pp_ireturn hF hR dX7_findingAt_9
set_option maxRecDepth 20000 in
theorem c_X7_findingAt {r' : Int32} {σ' : pp_M} {σ : pp_M} {a1 : Int32} {a2 : Int32} {a3 : Int32} (h : f_X7_findingAt σ a1 a2 a3 = some (r', σ')) : pp_Ct yX7_findingAt cX7_findingAt 4 (some .int) 2 34 dsK [ppR 16 0 0, ppI a1, ppI a2, ppI a3] σ (some (ppI r')) σ' := pp_met pl_X7 rfl okK (Nat.le_of_ble_eq_true rfl) rfl (fun Γ hF hR => (e_X7_findingAt_0 hF hR h))
set_option maxRecDepth 20000 in
theorem e_X7_found_0 {Γ : pp_G} {r' : Int32} {σ' : pp_M} (hF : pp_Fx Γ dsK cX7_found 2 RX7 1 12) (hR : pp_Rt Γ dsK (some .int) (some (ppI r')) σ') {σ : pp_M} {a1 : Int32} (h : f_X7_found σ a1 = some (r', σ')) : pp_E Γ dsK cX7_found 2 0 [(0, ppR 16 0 0), (1, ppI a1)] [] σ := by
  unfold f_X7_found at h
  refine pp_aload_n hF dX7_found_0 rfl rfl ?_
  refine pp_iload_n hF dX7_found_1 rfl rfl ?_
  refine pp_putI hF fwK_X7_23 dX7_found_2 ?_
  refine pp_bipush hF dX7_found_5 bc_n10 ?_
  refine pp_iload_n hF dX7_found_7 rfl rfl ?_
  refine pp_isub hF dX7_found_8 ?_
  obtain ⟨rfl, rfl⟩ := pp_i2 h
  exact pp_ireturn hF hR dX7_found_9
set_option maxRecDepth 20000 in
theorem c_X7_found {r' : Int32} {σ' : pp_M} {σ : pp_M} {a1 : Int32} (h : f_X7_found σ a1 = some (r', σ')) : pp_Ct yX7_found cX7_found 2 (some .int) 1 12 dsK [ppR 16 0 0, ppI a1] σ (some (ppI r')) σ' := pp_met pl_X7 rfl okK (Nat.le_of_ble_eq_true rfl) rfl (fun Γ hF hR => (e_X7_found_0 hF hR h))
set_option maxRecDepth 20000 in
theorem e_X7_hasItems_0 {Γ : pp_G} {r' : Int32} {σ' : pp_M} (hF : pp_Fx Γ dsK cX7_hasItems 4 RX7 1 12) (hR : pp_Rt Γ dsK (some .boolean) (some (ppI r')) σ') {σ : pp_M} {a1 : Int32} {a2 : Int32} {a3 : Int32} (h : f_X7_hasItems σ a1 a2 a3 = some (r', σ')) : pp_E Γ dsK cX7_hasItems 4 0 [(0, ppR 16 0 0), (1, ppI a1), (2, ppI a2), (3, ppI a3)] [] σ := by
  unfold f_X7_hasItems at h
  refine pp_iload_n hF dX7_hasItems_0 rfl rfl ?_
  refine pp_if_lt (tgt := 34) hF dX7_hasItems_1 rfl (fun c1 => ?_) (fun c1 => ?_)
  · replace h := (if_pos c1).symm.trans h
    refine pp_iconst hF dX7_hasItems_34 ic_0 ?_
    obtain ⟨rfl, rfl⟩ := pp_i2 h
    exact pp_zreturn hF hR rfl dX7_hasItems_35
  · replace h := (if_neg c1).symm.trans h
    refine pp_iload_n hF dX7_hasItems_4 rfl rfl ?_
    refine pp_if_lt (tgt := 34) hF dX7_hasItems_5 rfl (fun c2 => ?_) (fun c2 => ?_)
    · replace h := (if_pos c2).symm.trans h
      refine pp_iconst hF dX7_hasItems_34 ic_0 ?_
      obtain ⟨rfl, rfl⟩ := pp_i2 h
      exact pp_zreturn hF hR rfl dX7_hasItems_35
    · replace h := (if_neg c2).symm.trans h
      refine pp_iload_n hF dX7_hasItems_8 rfl rfl ?_
      refine pp_aload_n hF dX7_hasItems_9 rfl rfl ?_
      refine pp_getR hF fdK_X7_20 dX7_hasItems_10 ?_
      refine pp_iload_n hF dX7_hasItems_13 rfl rfl ?_
      obtain ⟨hi3, h⟩ := pp_ck h
      refine pp_ialoadJ hF vK_20 hi3 (Nat.zero_add _) dX7_hasItems_14 ?_
      refine pp_icmp_gt (tgt := 34) hF dX7_hasItems_15 rfl (fun c4 => ?_) (fun c4 => ?_)
      · replace h := (if_pos c4).symm.trans h
        refine pp_iconst hF dX7_hasItems_34 ic_0 ?_
        obtain ⟨rfl, rfl⟩ := pp_i2 h
        exact pp_zreturn hF hR rfl dX7_hasItems_35
      · replace h := (if_neg c4).symm.trans h
        refine pp_iload_n hF dX7_hasItems_18 rfl rfl ?_
        refine pp_aload_n hF dX7_hasItems_19 rfl rfl ?_
        refine pp_getR hF fdK_X7_20 dX7_hasItems_20 ?_
        refine pp_iload_n hF dX7_hasItems_23 rfl rfl ?_
        refine pp_ialoadJ hF vK_20 hi3 (Nat.zero_add _) dX7_hasItems_24 ?_
        refine pp_iload_n hF dX7_hasItems_25 rfl rfl ?_
        refine pp_isub hF dX7_hasItems_26 ?_
        refine pp_icmp_gt (tgt := 34) hF dX7_hasItems_27 rfl (fun c5 => ?_) (fun c5 => ?_)
        · replace h := (if_pos c5).symm.trans h
          refine pp_iconst hF dX7_hasItems_34 ic_0 ?_
          obtain ⟨rfl, rfl⟩ := pp_i2 h
          exact pp_zreturn hF hR rfl dX7_hasItems_35
        · replace h := (if_neg c5).symm.trans h
          refine pp_iconst hF dX7_hasItems_30 ic_1 ?_
          refine pp_goto (tgt := 35) hF dX7_hasItems_31 rfl ?_
          obtain ⟨rfl, rfl⟩ := pp_i2 h
          exact pp_zreturn hF hR rfl dX7_hasItems_35
set_option maxRecDepth 20000 in
theorem c_X7_hasItems {r' : Int32} {σ' : pp_M} {σ : pp_M} {a1 : Int32} {a2 : Int32} {a3 : Int32} (h : f_X7_hasItems σ a1 a2 a3 = some (r', σ')) : pp_Ct yX7_hasItems cX7_hasItems 4 (some .boolean) 1 12 dsK [ppR 16 0 0, ppI a1, ppI a2, ppI a3] σ (some (ppI r')) σ' := pp_met pl_X7 rfl okK (Nat.le_of_ble_eq_true rfl) rfl (fun Γ hF hR => (e_X7_hasItems_0 hF hR h))
set_option maxRecDepth 20000 in
theorem e_X7_lay_0 {Γ : pp_G} {σ' : pp_M} (hF : pp_Fx Γ dsK cX7_lay 5 RX7 1 12) (hR : pp_Rt Γ dsK none none σ') {σ : pp_M} {a1 : Int32} {a2 : Int32} {a3 : Int32} (h : f_X7_lay σ a1 a2 a3 = some σ') : pp_E Γ dsK cX7_lay 5 0 [(0, ppR 16 0 0), (1, ppI a1), (2, ppI a2), (3, ppI a3)] [] σ := by
  unfold f_X7_lay at h
  refine pp_aload_n hF dX7_lay_0 rfl rfl ?_
  refine pp_getR hF fdK_X7_16 dX7_lay_1 ?_
  refine pp_iload_n hF dX7_lay_4 rfl rfl ?_
  obtain ⟨hi1, h⟩ := pp_ck h
  refine pp_ialoadJ hF vK_19 hi1 (Nat.zero_add _) dX7_lay_5 ?_
  refine pp_istore hF dX7_lay_6 (by decide) (lv' := [(0, ppR 16 0 0), (1, ppI a1), (2, ppI a2), (3, ppI a3), (4, ppI (σ.1 19 a1.toNatClampNeg))]) rfl ?_
  refine pp_aload_n hF dX7_lay_8 rfl rfl ?_
  refine pp_getR hF fdK_X7_11 dX7_lay_9 ?_
  refine pp_iload_n hF dX7_lay_12 rfl rfl ?_
  refine pp_aaloadI hF vK_17 hi1 dX7_lay_13 ?_
  refine pp_iload_n hF dX7_lay_14 rfl rfl ?_
  refine pp_iload hF dX7_lay_15 rfl ?_
  refine pp_if_ne (tgt := 25) hF dX7_lay_17 rfl (fun c2 => ?_) (fun c2 => ?_)
  · replace h := (if_pos c2).symm.trans h
    refine pp_iload_n hF dX7_lay_20 rfl rfl ?_
    refine pp_i2b hF dX7_lay_21 ?_
    refine pp_goto (tgt := 37) hF dX7_lay_22 rfl ?_
    obtain ⟨hi3, h⟩ := pp_ck h
    refine pp_iastoreJ hF (vK_18 _ (vp_lt hi1)) hi3 rfl dX7_lay_37 ?_
    obtain rfl := (Option.some.inj h).symm
    exact pp_return hF hR dX7_lay_38
  · replace h := (if_neg c2).symm.trans h
    refine pp_iload hF dX7_lay_25 rfl ?_
    refine pp_iconst hF dX7_lay_27 ic_1 ?_
    refine pp_icmp_ne (tgt := 36) hF dX7_lay_28 rfl (fun c4 => ?_) (fun c4 => ?_)
    · replace h := (if_pos c4).symm.trans h
      refine pp_iload_n hF dX7_lay_31 rfl rfl ?_
      refine pp_i2s hF dX7_lay_32 ?_
      refine pp_goto (tgt := 37) hF dX7_lay_33 rfl ?_
      obtain ⟨hi5, h⟩ := pp_ck h
      refine pp_iastoreJ hF (vK_18 _ (vp_lt hi1)) hi5 rfl dX7_lay_37 ?_
      obtain rfl := (Option.some.inj h).symm
      exact pp_return hF hR dX7_lay_38
    · replace h := (if_neg c4).symm.trans h
      refine pp_iload_n hF dX7_lay_36 rfl rfl ?_
      obtain ⟨hi6, h⟩ := pp_ck h
      refine pp_iastoreJ hF (vK_18 _ (vp_lt hi1)) hi6 rfl dX7_lay_37 ?_
      obtain rfl := (Option.some.inj h).symm
      exact pp_return hF hR dX7_lay_38
set_option maxRecDepth 20000 in
theorem c_X7_lay {σ' : pp_M} {σ : pp_M} {a1 : Int32} {a2 : Int32} {a3 : Int32} (h : f_X7_lay σ a1 a2 a3 = some σ') : pp_Ct yX7_lay cX7_lay 5 none 1 12 dsK [ppR 16 0 0, ppI a1, ppI a2, ppI a3] σ none σ' := pp_met pl_X7 rfl okK (Nat.le_of_ble_eq_true rfl) rfl (fun Γ hF hR => (e_X7_lay_0 hF hR h))
set_option maxRecDepth 20000 in
theorem e_X7_renew_17 {Γ : pp_G} {σ' : pp_M} (hF : pp_Fx Γ dsK cX7_renew 5 RX7 1 12) (hR : pp_Rt Γ dsK none none σ') {σ : pp_M} {a1 : Int32} {a4 : Int32} {k17 : pp_M → Int32 → Int32 → Option (pp_M)} (hk17 : ∀ {σ : pp_M} {a1 : Int32} {a4 : Int32}, k17 σ a1 a4 = some σ' → pp_E Γ dsK cX7_renew 5 17 [(0, ppR 16 0 0), (1, ppI a1), (4, ppI a4)] [] σ) (h : f_X7_renew_17_B k17 σ a1 a4 = some σ') : pp_E Γ dsK cX7_renew 5 17 [(0, ppR 16 0 0), (1, ppI a1), (4, ppI a4)] [] σ := by
  unfold f_X7_renew_17_B at h
  refine pp_iload hF dX7_renew_17 rfl ?_
  refine pp_bipush hF dX7_renew_19 bc_40 ?_
  refine pp_icmp_ge (tgt := 40) hF dX7_renew_21 rfl (fun c1 => ?_) (fun c1 => ?_)
  · replace h := (if_pos c1).symm.trans h
    refine pp_aload_n hF dX7_renew_24 rfl rfl ?_
    refine pp_getR hF fdK_X7_11 dX7_renew_25 ?_
    refine pp_iload_n hF dX7_renew_28 rfl rfl ?_
    obtain ⟨hi2, h⟩ := pp_ck h
    refine pp_aaloadI hF vK_17 hi2 dX7_renew_29 ?_
    refine pp_iload hF dX7_renew_30 rfl ?_
    refine pp_iconst hF dX7_renew_32 ic_0 ?_
    obtain ⟨hi3, h⟩ := pp_ck h
    refine pp_iastoreJ hF (vK_18 _ (vp_lt hi2)) hi3 rfl dX7_renew_33 ?_
    refine pp_iinc hF dX7_renew_34 rfl (congrArg (HAdd.hAdd _) ic_1) (by decide) (lv' := [(0, ppR 16 0 0), (1, ppI a1), (4, ppI (a4 + (1 : Int32)))]) rfl ?_
    refine pp_goto (tgt := 17) hF dX7_renew_37 rfl ?_
    exact hk17 h
  · replace h := (if_neg c1).symm.trans h
    obtain rfl := (Option.some.inj h).symm
    exact pp_return hF hR dX7_renew_40
set_option maxRecDepth 20000 in
theorem e_X7_renew_17_L {Γ : pp_G} {σ' : pp_M} (hF : pp_Fx Γ dsK cX7_renew 5 RX7 1 12) (hR : pp_Rt Γ dsK none none σ') : ∀ {n : Nat} {σ : pp_M} {a1 : Int32} {a4 : Int32}, f_X7_renew_17 n σ a1 a4 = some σ' → pp_E Γ dsK cX7_renew 5 17 [(0, ppR 16 0 0), (1, ppI a1), (4, ppI a4)] [] σ
  | 0, _, _, _ => fun h => by cases h
  | n + 1, _, _, _ => fun h => e_X7_renew_17 hF hR (fun h => e_X7_renew_17_L hF hR (n := n) h) h
set_option maxRecDepth 20000 in
theorem e_X7_renew_0 {Γ : pp_G} {σ' : pp_M} (hF : pp_Fx Γ dsK cX7_renew 5 RX7 1 12) (hR : pp_Rt Γ dsK none none σ') {σ : pp_M} {a1 : Int32} {a2 : Int32} {a3 : Int32} (h : f_X7_renew σ a1 a2 a3 = some σ') : pp_E Γ dsK cX7_renew 5 0 [(0, ppR 16 0 0), (1, ppI a1), (2, ppI a2), (3, ppI a3)] [] σ := by
  unfold f_X7_renew at h
  refine pp_aload_n hF dX7_renew_0 rfl rfl ?_
  refine pp_getR hF fdK_X7_16 dX7_renew_1 ?_
  refine pp_iload_n hF dX7_renew_4 rfl rfl ?_
  refine pp_iload_n hF dX7_renew_5 rfl rfl ?_
  obtain ⟨hi1, h⟩ := pp_ck h
  refine pp_iastoreJ hF vK_19 hi1 (Nat.zero_add _) dX7_renew_6 ?_
  refine pp_aload_n hF dX7_renew_7 rfl rfl ?_
  refine pp_getR hF fdK_X7_20 dX7_renew_8 ?_
  refine pp_iload_n hF dX7_renew_11 rfl rfl ?_
  refine pp_iload_n hF dX7_renew_12 rfl rfl ?_
  refine pp_iastoreJ hF vK_20 hi1 (Nat.zero_add _) dX7_renew_13 ?_
  refine pp_iconst hF dX7_renew_14 ic_0 ?_
  refine pp_istore hF dX7_renew_15 (by decide) (lv' := [(0, ppR 16 0 0), (1, ppI a1), (2, ppI a2), (3, ppI a3), (4, ppI (0 : Int32))]) rfl ?_
  refine pp_few [0, 1, 4] (lv' := [(0, ppR 16 0 0), (1, ppI a1), (4, ppI (0 : Int32))]) rfl ?_
  exact e_X7_renew_17_L hF hR h
set_option maxRecDepth 20000 in
theorem c_X7_renew {σ' : pp_M} {σ : pp_M} {a1 : Int32} {a2 : Int32} {a3 : Int32} (h : f_X7_renew σ a1 a2 a3 = some σ') : pp_Ct yX7_renew cX7_renew 5 none 1 12 dsK [ppR 16 0 0, ppI a1, ppI a2, ppI a3] σ none σ' := pp_met pl_X7 rfl okK (Nat.le_of_ble_eq_true rfl) rfl (fun Γ hF hR => (e_X7_renew_0 hF hR h))
set_option maxRecDepth 20000 in
theorem e_X8_areFarms_12 {Γ : pp_G} {r' : Int32} {σ' : pp_M} (hF : pp_Fx Γ dsK cX8_areFarms 4 RX8 3 54) (hR : pp_Rt Γ dsK (some .boolean) (some (ppI r')) σ') {σ : pp_M} {a0t : Nat} {a0o : Nat} {a0n : Nat} {a1 : Int32} {a2 : Int32} {a3 : Int32} {k12 : pp_M → Nat → Nat → Nat → Int32 → Int32 → Int32 → Option (Int32 × pp_M)} (hk12 : ∀ {σ : pp_M} {a0t : Nat} {a0o : Nat} {a0n : Nat} {a1 : Int32} {a2 : Int32} {a3 : Int32}, pp_ai dsK a0t a0o a0n → k12 σ a0t a0o a0n a1 a2 a3 = some (r', σ') → pp_E Γ dsK cX8_areFarms 4 12 [(0, ppR a0t a0o a0n), (1, ppI a1), (2, ppI a2), (3, ppI a3)] [] σ) (hv0 : pp_ai dsK a0t a0o a0n) (h : f_X8_areFarms_12_B k12 σ a0t a0o a0n a1 a2 a3 = some (r', σ')) : pp_E Γ dsK cX8_areFarms 4 12 [(0, ppR a0t a0o a0n), (1, ppI a1), (2, ppI a2), (3, ppI a3)] [] σ := by
  unfold f_X8_areFarms_12_B at h
  refine pp_iload_n hF dX8_areFarms_12 rfl rfl ?_
  refine pp_iload_n hF dX8_areFarms_13 rfl rfl ?_
  refine pp_icmp_ge (tgt := 53) hF dX8_areFarms_14 rfl (fun c1 => ?_) (fun c1 => ?_)
  · replace h := (if_pos c1).symm.trans h
    refine pp_aload_n hF dX8_areFarms_17 rfl rfl ?_
    refine pp_iload_n hF dX8_areFarms_18 rfl rfl ?_
    obtain ⟨hi2, h⟩ := pp_ck h
    refine pp_ialoadJ hF hv0 hi2 rfl dX8_areFarms_19 ?_
    obtain ⟨x20, hx20, h⟩ := pp_bd h
    refine pp_callSi hF (c_X8_isFarm hx20) mS_X8_isFarm lk_X8_139 rfl rfl ⟨by decide, by decide⟩ (Nat.le_of_ble_eq_true rfl) dX8_areFarms_20 ?_
    refine pp_if_eq (tgt := 37) hF dX8_areFarms_23 rfl (fun c4 => ?_) (fun c4 => ?_)
    · replace h := (if_pos c4).symm.trans h
      refine pp_iconst hF dX8_areFarms_37 ic_0 ?_
      obtain ⟨rfl, rfl⟩ := pp_i2 h
      exact pp_zreturn hF hR rfl dX8_areFarms_38
    · replace h := (if_neg c4).symm.trans h
      refine pp_iload_n hF dX8_areFarms_26 rfl rfl ?_
      refine pp_aload_n hF dX8_areFarms_27 rfl rfl ?_
      refine pp_iload_n hF dX8_areFarms_28 rfl rfl ?_
      refine pp_ialoadJ hF hv0 hi2 rfl dX8_areFarms_29 ?_
      refine pp_ishr hF dX8_areFarms_30 ?_
      refine pp_iconst hF dX8_areFarms_31 ic_1 ?_
      refine pp_iand hF dX8_areFarms_32 ?_
      refine pp_iconst hF dX8_areFarms_33 ic_1 ?_
      refine pp_icmp_ne (tgt := 39) hF dX8_areFarms_34 rfl (fun c5 => ?_) (fun c5 => ?_)
      · replace h := (if_pos c5).symm.trans h
        refine pp_iconst hF dX8_areFarms_37 ic_0 ?_
        obtain ⟨rfl, rfl⟩ := pp_i2 h
        exact pp_zreturn hF hR rfl dX8_areFarms_38
      · replace h := (if_neg c5).symm.trans h
        refine pp_iload_n hF dX8_areFarms_39 rfl rfl ?_
        refine pp_iconst hF dX8_areFarms_40 ic_1 ?_
        refine pp_aload_n hF dX8_areFarms_41 rfl rfl ?_
        refine pp_iload_n hF dX8_areFarms_42 rfl rfl ?_
        refine pp_ialoadJ hF hv0 hi2 rfl dX8_areFarms_43 ?_
        refine pp_ishl hF dX8_areFarms_44 ?_
        refine pp_ior hF dX8_areFarms_45 ?_
        refine pp_istore_n hF dX8_areFarms_46 rfl (by decide) (lv' := [(0, ppR a0t a0o a0n), (1, ppI a1), (2, ppI (a2 ||| ((1 : Int32) <<< ((x20.2.1 a0t (a0o + a3.toNatClampNeg)) &&& 31)))), (3, ppI a3)]) rfl ?_
        refine pp_iinc hF dX8_areFarms_47 rfl (congrArg (HAdd.hAdd _) ic_1) (by decide) (lv' := [(0, ppR a0t a0o a0n), (1, ppI a1), (2, ppI (a2 ||| ((1 : Int32) <<< ((x20.2.1 a0t (a0o + a3.toNatClampNeg)) &&& 31)))), (3, ppI (a3 + (1 : Int32)))]) rfl ?_
        refine pp_goto (tgt := 12) hF dX8_areFarms_50 rfl ?_
        exact hk12 hv0 h
  · replace h := (if_neg c1).symm.trans h
    refine pp_iconst hF dX8_areFarms_53 ic_1 ?_
    obtain ⟨rfl, rfl⟩ := pp_i2 h
    exact pp_zreturn hF hR rfl dX8_areFarms_54
set_option maxRecDepth 20000 in
theorem e_X8_areFarms_12_L {Γ : pp_G} {r' : Int32} {σ' : pp_M} (hF : pp_Fx Γ dsK cX8_areFarms 4 RX8 3 54) (hR : pp_Rt Γ dsK (some .boolean) (some (ppI r')) σ') : ∀ {n : Nat} {σ : pp_M} {a0t : Nat} {a0o : Nat} {a0n : Nat} {a1 : Int32} {a2 : Int32} {a3 : Int32}, pp_ai dsK a0t a0o a0n → f_X8_areFarms_12 n σ a0t a0o a0n a1 a2 a3 = some (r', σ') → pp_E Γ dsK cX8_areFarms 4 12 [(0, ppR a0t a0o a0n), (1, ppI a1), (2, ppI a2), (3, ppI a3)] [] σ
  | 0, _, _, _, _, _, _, _ => fun hv0 h => by cases h
  | n + 1, _, _, _, _, _, _, _ => fun hv0 h => e_X8_areFarms_12 hF hR (fun hv0 h => e_X8_areFarms_12_L hF hR (n := n) hv0 h) hv0 h
set_option maxRecDepth 20000 in
theorem e_X8_areFarms_0 {Γ : pp_G} {r' : Int32} {σ' : pp_M} (hF : pp_Fx Γ dsK cX8_areFarms 4 RX8 3 54) (hR : pp_Rt Γ dsK (some .boolean) (some (ppI r')) σ') {σ : pp_M} {a0t : Nat} {a0o : Nat} {a0n : Nat} {a1 : Int32} (hv0 : pp_ai dsK a0t a0o a0n) (h : f_X8_areFarms σ a0t a0o a0n a1 = some (r', σ')) : pp_E Γ dsK cX8_areFarms 4 0 [(0, ppR a0t a0o a0n), (1, ppI a1)] [] σ := by
  unfold f_X8_areFarms at h
  refine pp_iload_n hF dX8_areFarms_0 rfl rfl ?_
  refine pp_bipush hF dX8_areFarms_1 bc_7 ?_
  refine pp_icmp_le (tgt := 8) hF dX8_areFarms_3 rfl (fun c1 => ?_) (fun c1 => ?_)
  · replace h := (if_pos c1).symm.trans h
    refine pp_iconst hF dX8_areFarms_6 ic_0 ?_
    obtain ⟨rfl, rfl⟩ := pp_i2 h
    exact pp_zreturn hF hR rfl dX8_areFarms_7
  · replace h := (if_neg c1).symm.trans h
    refine pp_iconst hF dX8_areFarms_8 ic_0 ?_
    refine pp_istore_n hF dX8_areFarms_9 rfl (by decide) (lv' := [(0, ppR a0t a0o a0n), (1, ppI a1), (2, ppI (0 : Int32))]) rfl ?_
    refine pp_iconst hF dX8_areFarms_10 ic_0 ?_
    refine pp_istore_n hF dX8_areFarms_11 rfl (by decide) (lv' := [(0, ppR a0t a0o a0n), (1, ppI a1), (2, ppI (0 : Int32)), (3, ppI (0 : Int32))]) rfl ?_
    exact e_X8_areFarms_12_L hF hR hv0 h
set_option maxRecDepth 20000 in
theorem c_X8_areFarms {r' : Int32} {σ' : pp_M} {σ : pp_M} {a0t a0o a0n : Nat} {a1 : Int32} (hv0 : pp_ai dsK a0t a0o a0n) (h : f_X8_areFarms σ a0t a0o a0n a1 = some (r', σ')) : pp_Ct yX8_areFarms cX8_areFarms 4 (some .boolean) 3 54 dsK [ppR a0t a0o a0n, ppI a1] σ (some (ppI r')) σ' := pp_met pl_X8 rfl okK (Nat.le_of_ble_eq_true rfl) rfl (fun Γ hF hR => (e_X8_areFarms_0 hF hR hv0 h))
set_option maxRecDepth 20000 in
theorem e_X8_ask_0 {Γ : pp_G} {r' : Int32} {σ' : pp_M} (hF : pp_Fx Γ dsK cX8_ask 4 RX8 6 144) (hR : pp_Rt Γ dsK (some .int) (some (ppI r')) σ') {σ : pp_M} {a1 : Int32} {a2 : Int32} {a3 : Int32} (h : f_X8_ask σ a1 a2 a3 = some (r', σ')) : pp_E Γ dsK cX8_ask 4 0 [(0, ppR 0 0 0), (1, ppI a1), (2, ppI a2), (3, ppI a3)] [] σ := by
  unfold f_X8_ask at h
  refine pp_iload_n hF dX8_ask_0 rfl rfl ?_
  obtain ⟨x1, hx1, h⟩ := pp_bd h
  refine pp_callSi hF (c_X8_isThing hx1) mS_X8_isThing lk_X8_91 rfl rfl ⟨by decide, by decide⟩ (Nat.le_of_ble_eq_true rfl) dX8_ask_1 ?_
  refine pp_if_eq (tgt := 30) hF dX8_ask_4 rfl (fun c2 => ?_) (fun c2 => ?_)
  · replace h := (if_pos c2).symm.trans h
    refine pp_bipush hF dX8_ask_30 bc_n2 ?_
    obtain ⟨rfl, rfl⟩ := pp_i2 h
    exact pp_ireturn hF hR dX8_ask_32
  · replace h := (if_neg c2).symm.trans h
    refine pp_iload_n hF dX8_ask_7 rfl rfl ?_
    refine pp_iconst hF dX8_ask_8 ic_0 ?_
    refine pp_aload_n hF dX8_ask_9 rfl rfl ?_
    refine pp_getI hF fdK_X8_78 dX8_ask_10 ?_
    refine pp_iconst hF dX8_ask_13 ic_1 ?_
    refine pp_isub hF dX8_ask_14 ?_
    obtain ⟨x15, hx15, h⟩ := pp_bd h
    refine pp_callSi hF (c_X8_within hx15) mS_X8_within lk_X8_95 rfl rfl ⟨by decide, by decide⟩ (Nat.le_of_ble_eq_true rfl) dX8_ask_15 ?_
    refine pp_if_eq (tgt := 30) hF dX8_ask_18 rfl (fun c4 => ?_) (fun c4 => ?_)
    · replace h := (if_pos c4).symm.trans h
      refine pp_bipush hF dX8_ask_30 bc_n2 ?_
      obtain ⟨rfl, rfl⟩ := pp_i2 h
      exact pp_ireturn hF hR dX8_ask_32
    · replace h := (if_neg c4).symm.trans h
      refine pp_iload_n hF dX8_ask_21 rfl rfl ?_
      refine pp_iconst hF dX8_ask_22 ic_1 ?_
      refine pp_iconst hF dX8_ask_23 ic_4 ?_
      obtain ⟨x24, hx24, h⟩ := pp_bd h
      refine pp_callSi hF (c_X8_within hx24) mS_X8_within lk_X8_95 rfl rfl ⟨by decide, by decide⟩ (Nat.le_of_ble_eq_true rfl) dX8_ask_24 ?_
      refine pp_if_ne (tgt := 33) hF dX8_ask_27 rfl (fun c6 => ?_) (fun c6 => ?_)
      · replace h := (if_pos c6).symm.trans h
        refine pp_bipush hF dX8_ask_30 bc_n2 ?_
        obtain ⟨rfl, rfl⟩ := pp_i2 h
        exact pp_ireturn hF hR dX8_ask_32
      · replace h := (if_neg c6).symm.trans h
        refine pp_aload_n hF dX8_ask_33 rfl rfl ?_
        refine pp_getR hF fdK_X8_49 dX8_ask_34 ?_
        refine pp_aload_n hF dX8_ask_37 rfl rfl ?_
        refine pp_getR hF fdK_X8_62 dX8_ask_38 ?_
        refine pp_aload_n hF dX8_ask_41 rfl rfl ?_
        refine pp_getI hF fdK_X8_78 dX8_ask_42 ?_
        obtain ⟨x45, hx45, h⟩ := pp_bd h
        refine pp_callVv hF (c_X0_goAlong vK_34 hx45) mV_X0_goAlong lk_X8_218 obK_21 rfl rfl ⟨by decide, by decide⟩ (Nat.le_of_ble_eq_true rfl) dX8_ask_45 ?_
        refine pp_aload_n hF dX8_ask_48 rfl rfl ?_
        refine pp_getR hF fdK_X8_49 dX8_ask_49 ?_
        refine pp_aload_n hF dX8_ask_52 rfl rfl ?_
        refine pp_getI hF fdK_X8_78 dX8_ask_53 ?_
        refine pp_iload_n hF dX8_ask_56 rfl rfl ?_
        refine pp_isub hF dX8_ask_57 ?_
        refine pp_aload_n hF dX8_ask_58 rfl rfl ?_
        refine pp_getR hF fdK_X8_62 dX8_ask_59 ?_
        refine pp_iload_n hF dX8_ask_62 rfl rfl ?_
        obtain ⟨hi8, h⟩ := pp_ck h
        refine pp_ialoadJ hF vK_34 hi8 (Nat.zero_add _) dX8_ask_63 ?_
        refine pp_iload_n hF dX8_ask_64 rfl rfl ?_
        refine pp_iload_n hF dX8_ask_65 rfl rfl ?_
        obtain ⟨x66, hx66, h⟩ := pp_bd h
        refine pp_callVi hF (c_X0_bestLevel hx66) mV_X0_bestLevel lk_X8_222 obK_21 rfl rfl ⟨by decide, by decide⟩ (Nat.le_of_ble_eq_true rfl) dX8_ask_66 ?_
        obtain ⟨rfl, rfl⟩ := pp_i2 h
        exact pp_ireturn hF hR dX8_ask_69
set_option maxRecDepth 20000 in
theorem c_X8_ask {r' : Int32} {σ' : pp_M} {σ : pp_M} {a1 : Int32} {a2 : Int32} {a3 : Int32} (h : f_X8_ask σ a1 a2 a3 = some (r', σ')) : pp_Ct yX8_ask cX8_ask 4 (some .int) 6 144 dsK [ppR 0 0 0, ppI a1, ppI a2, ppI a3] σ (some (ppI r')) σ' := pp_met pl_X8 rfl okK (Nat.le_of_ble_eq_true rfl) rfl (fun Γ hF hR => (e_X8_ask_0 hF hR h))
set_option maxRecDepth 20000 in
theorem e_X8_numberOrWeight_0 {Γ : pp_G} {r' : Int32} {σ' : pp_M} (hF : pp_Fx Γ dsK cX8_numberOrWeight 3 RX8 2 35) (hR : pp_Rt Γ dsK (some .int) (some (ppI r')) σ') {σ : pp_M} {a1t : Nat} {a1o : Nat} {a1n : Nat} {a2 : Int32} (hv1 : pp_ai dsK a1t a1o a1n) (h : f_X8_numberOrWeight σ a1t a1o a1n a2 = some (r', σ')) : pp_E Γ dsK cX8_numberOrWeight 3 0 [(0, ppR 0 0 0), (1, ppR a1t a1o a1n), (2, ppI a2)] [] σ := by
  unfold f_X8_numberOrWeight at h
  refine pp_iload_n hF dX8_numberOrWeight_0 rfl rfl ?_
  refine pp_iconst hF dX8_numberOrWeight_1 ic_n1 ?_
  refine pp_icmp_ne (tgt := 16) hF dX8_numberOrWeight_2 rfl (fun c1 => ?_) (fun c1 => ?_)
  · replace h := (if_pos c1).symm.trans h
    refine pp_aload_n hF dX8_numberOrWeight_5 rfl rfl ?_
    refine pp_getR hF fdK_X8_12 dX8_numberOrWeight_6 ?_
    refine pp_aload_n hF dX8_numberOrWeight_9 rfl rfl ?_
    obtain ⟨x10, hx10, h⟩ := pp_bd h
    refine pp_callVi hF (c_X1_weightOf hv1 hx10) mV_X1_weightOf lk_X8_179 obK_1 rfl rfl ⟨by decide, by decide⟩ (Nat.le_of_ble_eq_true rfl) dX8_numberOrWeight_10 ?_
    refine pp_goto (tgt := 19) hF dX8_numberOrWeight_13 rfl ?_
    obtain ⟨rfl, rfl⟩ := pp_i2 h
    exact pp_ireturn hF hR dX8_numberOrWeight_19
  · replace h := (if_neg c1).symm.trans h
    refine pp_aload_n hF dX8_numberOrWeight_16 rfl rfl ?_
    refine pp_iload_n hF dX8_numberOrWeight_17 rfl rfl ?_
    obtain ⟨hi3, h⟩ := pp_ck h
    refine pp_ialoadJ hF hv1 hi3 rfl dX8_numberOrWeight_18 ?_
    obtain ⟨rfl, rfl⟩ := pp_i2 h
    exact pp_ireturn hF hR dX8_numberOrWeight_19
set_option maxRecDepth 20000 in
theorem c_X8_numberOrWeight {r' : Int32} {σ' : pp_M} {σ : pp_M} {a1t a1o a1n : Nat} {a2 : Int32} (hv1 : pp_ai dsK a1t a1o a1n) (h : f_X8_numberOrWeight σ a1t a1o a1n a2 = some (r', σ')) : pp_Ct yX8_numberOrWeight cX8_numberOrWeight 3 (some .int) 2 35 dsK [ppR 0 0 0, ppR a1t a1o a1n, ppI a2] σ (some (ppI r')) σ' := pp_met pl_X8 rfl okK (Nat.le_of_ble_eq_true rfl) rfl (fun Γ hF hR => (e_X8_numberOrWeight_0 hF hR hv1 h))
set_option maxRecDepth 20000 in
theorem e_X8_weighUp_0 {Γ : pp_G} {σ' : pp_M} (hF : pp_Fx Γ dsK cX8_weighUp 1 RX8 6 144) (hR : pp_Rt Γ dsK none none σ') {σ : pp_M}  (h : f_X8_weighUp σ  = some σ') : pp_E Γ dsK cX8_weighUp 1 0 [(0, ppR 0 0 0)] [] σ := by
  unfold f_X8_weighUp at h
  refine pp_aload_n hF dX8_weighUp_0 rfl rfl ?_
  refine pp_getR hF fdK_X8_49 dX8_weighUp_1 ?_
  refine pp_aload_n hF dX8_weighUp_4 rfl rfl ?_
  refine pp_getR hF fdK_X8_62 dX8_weighUp_5 ?_
  refine pp_aload_n hF dX8_weighUp_8 rfl rfl ?_
  refine pp_getI hF fdK_X8_78 dX8_weighUp_9 ?_
  obtain ⟨x12, hx12, h⟩ := pp_bd h
  refine pp_callVv hF (c_X0_goAlong vK_34 hx12) mV_X0_goAlong lk_X8_218 obK_21 rfl rfl ⟨by decide, by decide⟩ (Nat.le_of_ble_eq_true rfl) dX8_weighUp_12 ?_
  refine pp_aload_n hF dX8_weighUp_15 rfl rfl ?_
  refine pp_getR hF fdK_X8_58 dX8_weighUp_16 ?_
  refine pp_aload_n hF dX8_weighUp_19 rfl rfl ?_
  refine pp_getR hF fdK_X8_49 dX8_weighUp_20 ?_
  refine pp_getR hF fdK_X8_226 dX8_weighUp_23 ?_
  refine pp_aload_n hF dX8_weighUp_26 rfl rfl ?_
  refine pp_getI hF fdK_X8_78 dX8_weighUp_27 ?_
  obtain ⟨hi2, h⟩ := pp_ck h
  refine pp_aaloadL hF vK_22 hi2 dX8_weighUp_30 ?_
  obtain ⟨x31, hx31, h⟩ := pp_bd h
  refine pp_callVv hF (c_X5_weighGains (vK_23 _ (vp_lt hi2)) hx31) mV_X5_weighGains lk_X8_366 obK_25 rfl rfl ⟨by decide, by decide⟩ (Nat.le_of_ble_eq_true rfl) dX8_weighUp_31 ?_
  obtain rfl := (Option.some.inj h).symm
  exact pp_return hF hR dX8_weighUp_34
set_option maxRecDepth 20000 in
theorem c_X8_weighUp {σ' : pp_M} {σ : pp_M}  (h : f_X8_weighUp σ  = some σ') : pp_Ct yX8_weighUp cX8_weighUp 1 none 6 144 dsK [ppR 0 0 0] σ none σ' := pp_met pl_X8 rfl okK (Nat.le_of_ble_eq_true rfl) rfl (fun Γ hF hR => (e_X8_weighUp_0 hF hR h))
set_option maxRecDepth 20000 in
theorem e_X8_best_0 {Γ : pp_G} {r' : Int32} {σ' : pp_M} (hF : pp_Fx Γ dsK cX8_best 2 RX8 7 177) (hR : pp_Rt Γ dsK (some .int) (some (ppI r')) σ') {σ : pp_M} {a1 : Int32} (h : f_X8_best σ a1 = some (r', σ')) : pp_E Γ dsK cX8_best 2 0 [(0, ppR 0 0 0), (1, ppI a1)] [] σ := by
  unfold f_X8_best at h
  refine pp_iload_n hF dX8_best_0 rfl rfl ?_
  refine pp_iconst hF dX8_best_1 ic_n1 ?_
  refine pp_iconst hF dX8_best_2 ic_5 ?_
  obtain ⟨x3, hx3, h⟩ := pp_bd h
  refine pp_callSi hF (c_X8_within hx3) mS_X8_within lk_X8_95 rfl rfl ⟨by decide, by decide⟩ (Nat.le_of_ble_eq_true rfl) dX8_best_3 ?_
  refine pp_if_ne (tgt := 12) hF dX8_best_6 rfl (fun c2 => ?_) (fun c2 => ?_)
  · replace h := (if_pos c2).symm.trans h
    refine pp_bipush hF dX8_best_9 bc_n2 ?_
    obtain ⟨rfl, rfl⟩ := pp_i2 h
    exact pp_ireturn hF hR dX8_best_11
  · replace h := (if_neg c2).symm.trans h
    refine pp_aload_n hF dX8_best_12 rfl rfl ?_
    obtain ⟨x13, hx13, h⟩ := pp_bd h
    refine pp_callVv hF (c_X8_weighUp hx13) mV_X8_weighUp lk_X8_230 obK_0 rfl rfl ⟨by decide, by decide⟩ (Nat.le_of_ble_eq_true rfl) dX8_best_13 ?_
    refine pp_aload_n hF dX8_best_16 rfl rfl ?_
    refine pp_getR hF fdK_X8_58 dX8_best_17 ?_
    refine pp_aload_n hF dX8_best_20 rfl rfl ?_
    refine pp_getI hF fdK_X8_85 dX8_best_21 ?_
    obtain ⟨x24, hx24, h⟩ := pp_bd h
    refine pp_callVv hF (c_X5_chooseBest hx24) mV_X5_chooseBest lk_X8_237 obK_25 rfl rfl ⟨by decide, by decide⟩ (Nat.le_of_ble_eq_true rfl) dX8_best_24 ?_
    refine pp_aload_n hF dX8_best_27 rfl rfl ?_
    refine pp_aload_n hF dX8_best_28 rfl rfl ?_
    refine pp_getR hF fdK_X8_58 dX8_best_29 ?_
    refine pp_getR hF fdK_X8_241 dX8_best_32 ?_
    refine pp_iload_n hF dX8_best_35 rfl rfl ?_
    obtain ⟨x36, hx36, h⟩ := pp_bd h
    refine pp_callVi hF (c_X8_numberOrWeight vK_32 hx36) mV_X8_numberOrWeight lk_X8_244 obK_0 rfl rfl ⟨by decide, by decide⟩ (Nat.le_of_ble_eq_true rfl) dX8_best_36 ?_
    obtain ⟨rfl, rfl⟩ := pp_i2 h
    exact pp_ireturn hF hR dX8_best_39
set_option maxRecDepth 20000 in
theorem c_X8_best {r' : Int32} {σ' : pp_M} {σ : pp_M} {a1 : Int32} (h : f_X8_best σ a1 = some (r', σ')) : pp_Ct yX8_best cX8_best 2 (some .int) 7 177 dsK [ppR 0 0 0, ppI a1] σ (some (ppI r')) σ' := pp_met pl_X8 rfl okK (Nat.le_of_ble_eq_true rfl) rfl (fun Γ hF hR => (e_X8_best_0 hF hR h))
set_option maxRecDepth 20000 in
theorem e_X8_isTerm_0 {Γ : pp_G} {r' : Int32} {σ' : pp_M} (hF : pp_Fx Γ dsK cX8_isTerm 1 RX8 2 34) (hR : pp_Rt Γ dsK (some .boolean) (some (ppI r')) σ') {σ : pp_M} {a0 : Int32} (h : f_X8_isTerm σ a0 = some (r', σ')) : pp_E Γ dsK cX8_isTerm 1 0 [(0, ppI a0)] [] σ := by
  unfold f_X8_isTerm at h
  refine pp_iload_n hF dX8_isTerm_0 rfl rfl ?_
  refine pp_iconst hF dX8_isTerm_1 ic_0 ?_
  refine pp_iconst hF dX8_isTerm_2 ic_1 ?_
  obtain ⟨x3, hx3, h⟩ := pp_bd h
  refine pp_callSi hF (c_X8_within hx3) mS_X8_within lk_X8_95 rfl rfl ⟨by decide, by decide⟩ (Nat.le_of_ble_eq_true rfl) dX8_isTerm_3 ?_
  obtain ⟨hb2, h⟩ := pp_ck h
  obtain ⟨rfl, rfl⟩ := pp_i2 h
  exact pp_zreturn hF hR (pp_bn hb2) dX8_isTerm_6
set_option maxRecDepth 20000 in
theorem c_X8_isTerm {r' : Int32} {σ' : pp_M} {σ : pp_M} {a0 : Int32} (h : f_X8_isTerm σ a0 = some (r', σ')) : pp_Ct yX8_isTerm cX8_isTerm 1 (some .boolean) 2 34 dsK [ppI a0] σ (some (ppI r')) σ' := pp_met pl_X8 rfl okK (Nat.le_of_ble_eq_true rfl) rfl (fun Γ hF hR => (e_X8_isTerm_0 hF hR h))
set_option maxRecDepth 20000 in
theorem e_X8_refusal_0 {Γ : pp_G} {r' : Int64} {σ' : pp_M} (hF : pp_Fx Γ dsK cX8_refusal 1 RX8 1 12) (hR : pp_Rt Γ dsK (some .long) (some (ppL r')) σ') {σ : pp_M} {a0 : Int32} (h : f_X8_refusal σ a0 = some (r', σ')) : pp_E Γ dsK cX8_refusal 1 0 [(0, ppI a0)] [] σ := by
  unfold f_X8_refusal at h
  refine pp_ldc2 hF wm_514 dX8_refusal_0 ?_
  refine pp_iload_n hF dX8_refusal_3 rfl rfl ?_
  refine pp_i2l hF dX8_refusal_4 ?_
  refine pp_lsub hF dX8_refusal_5 ?_
  obtain ⟨rfl, rfl⟩ := pp_i2 h
  exact pp_lreturn hF hR dX8_refusal_6
set_option maxRecDepth 20000 in
theorem c_X8_refusal {r' : Int64} {σ' : pp_M} {σ : pp_M} {a0 : Int32} (h : f_X8_refusal σ a0 = some (r', σ')) : pp_Ct yX8_refusal cX8_refusal 1 (some .long) 1 12 dsK [ppI a0] σ (some (ppL r')) σ' := pp_met pl_X8 rfl okK (Nat.le_of_ble_eq_true rfl) rfl (fun Γ hF hR => (e_X8_refusal_0 hF hR h))
set_option maxRecDepth 20000 in
theorem e_X8_sharedDivisor_3 {Γ : pp_G} {r' : Int64} {σ' : pp_M} (hF : pp_Fx Γ dsK cX8_sharedDivisor 7 RX8 1 12) (hR : pp_Rt Γ dsK (some .long) (some (ppL r')) σ') {σ : pp_M} {a0 : Int64} {a2 : Int64} {a4 : Int32} {k3 : pp_M → Int64 → Int64 → Int32 → Option (Int64 × pp_M)} (hk3 : ∀ {σ : pp_M} {a0 : Int64} {a2 : Int64} {a4 : Int32}, k3 σ a0 a2 a4 = some (r', σ') → pp_E Γ dsK cX8_sharedDivisor 7 3 [(0, ppL a0), (2, ppL a2), (4, ppI a4)] [] σ) (h : f_X8_sharedDivisor_3_B k3 σ a0 a2 a4 = some (r', σ')) : pp_E Γ dsK cX8_sharedDivisor 7 3 [(0, ppL a0), (2, ppL a2), (4, ppI a4)] [] σ := by
  unfold f_X8_sharedDivisor_3_B at h
  refine pp_iload hF dX8_sharedDivisor_3 rfl ?_
  refine pp_sipush hF dX8_sharedDivisor_5 sc_200 ?_
  refine pp_icmp_ge (tgt := 33) hF dX8_sharedDivisor_8 rfl (fun c1 => ?_) (fun c1 => ?_)
  · replace h := (if_pos c1).symm.trans h
    refine pp_lload_n hF dX8_sharedDivisor_11 rfl rfl ?_
    refine pp_lconst hF dX8_sharedDivisor_12 lc_0 ?_
    refine pp_lcmp_eq (tgt := 33) hF dX8_sharedDivisor_13 dX8_sharedDivisor_14 rfl (fun c2 => ?_) (fun c2 => ?_)
    · replace h := (if_pos c2).symm.trans h
      refine pp_lload_n hF dX8_sharedDivisor_33 rfl rfl ?_
      obtain ⟨rfl, rfl⟩ := pp_i2 h
      exact pp_lreturn hF hR dX8_sharedDivisor_34
    · replace h := (if_neg c2).symm.trans h
      refine pp_lload_n hF dX8_sharedDivisor_17 rfl rfl ?_
      refine pp_lload_n hF dX8_sharedDivisor_18 rfl rfl ?_
      obtain ⟨hz3, h⟩ := pp_ck h
      refine pp_lrem hF dX8_sharedDivisor_19 hz3 ?_
      refine pp_lstore hF dX8_sharedDivisor_20 (by decide) (lv' := [(0, ppL a0), (2, ppL a2), (4, ppI a4), (5, ppL (a0 - a0 / a2 * a2))]) rfl ?_
      refine pp_lload_n hF dX8_sharedDivisor_22 rfl rfl ?_
      refine pp_lstore_n hF dX8_sharedDivisor_23 rfl (by decide) (lv' := [(0, ppL a2), (2, ppL a2), (4, ppI a4), (5, ppL (a0 - a0 / a2 * a2))]) rfl ?_
      refine pp_lload hF dX8_sharedDivisor_24 rfl ?_
      refine pp_lstore_n hF dX8_sharedDivisor_26 rfl (by decide) (lv' := [(0, ppL a2), (2, ppL (a0 - a0 / a2 * a2)), (4, ppI a4), (5, ppL (a0 - a0 / a2 * a2))]) rfl ?_
      refine pp_iinc hF dX8_sharedDivisor_27 rfl (congrArg (HAdd.hAdd _) ic_1) (by decide) (lv' := [(0, ppL a2), (2, ppL (a0 - a0 / a2 * a2)), (4, ppI (a4 + (1 : Int32))), (5, ppL (a0 - a0 / a2 * a2))]) rfl ?_
      refine pp_goto (tgt := 3) hF dX8_sharedDivisor_30 rfl ?_
      refine pp_few [0, 1, 2] (lv' := [(0, ppL a2), (2, ppL (a0 - a0 / a2 * a2)), (4, ppI (a4 + (1 : Int32)))]) rfl ?_
      exact hk3 h
  · replace h := (if_neg c1).symm.trans h
    refine pp_lload_n hF dX8_sharedDivisor_33 rfl rfl ?_
    obtain ⟨rfl, rfl⟩ := pp_i2 h
    exact pp_lreturn hF hR dX8_sharedDivisor_34
set_option maxRecDepth 20000 in
theorem e_X8_sharedDivisor_3_L {Γ : pp_G} {r' : Int64} {σ' : pp_M} (hF : pp_Fx Γ dsK cX8_sharedDivisor 7 RX8 1 12) (hR : pp_Rt Γ dsK (some .long) (some (ppL r')) σ') : ∀ {n : Nat} {σ : pp_M} {a0 : Int64} {a2 : Int64} {a4 : Int32}, f_X8_sharedDivisor_3 n σ a0 a2 a4 = some (r', σ') → pp_E Γ dsK cX8_sharedDivisor 7 3 [(0, ppL a0), (2, ppL a2), (4, ppI a4)] [] σ
  | 0, _, _, _, _ => fun h => by cases h
  | n + 1, _, _, _, _ => fun h => e_X8_sharedDivisor_3 hF hR (fun h => e_X8_sharedDivisor_3_L hF hR (n := n) h) h
set_option maxRecDepth 20000 in
theorem e_X8_sharedDivisor_0 {Γ : pp_G} {r' : Int64} {σ' : pp_M} (hF : pp_Fx Γ dsK cX8_sharedDivisor 7 RX8 1 12) (hR : pp_Rt Γ dsK (some .long) (some (ppL r')) σ') {σ : pp_M} {a0 : Int64} {a2 : Int64} (h : f_X8_sharedDivisor σ a0 a2 = some (r', σ')) : pp_E Γ dsK cX8_sharedDivisor 7 0 [(0, ppL a0), (2, ppL a2)] [] σ := by
  unfold f_X8_sharedDivisor at h
  refine pp_iconst hF dX8_sharedDivisor_0 ic_0 ?_
  refine pp_istore hF dX8_sharedDivisor_1 (by decide) (lv' := [(0, ppL a0), (2, ppL a2), (4, ppI (0 : Int32))]) rfl ?_
  exact e_X8_sharedDivisor_3_L hF hR h
set_option maxRecDepth 20000 in
theorem c_X8_sharedDivisor {r' : Int64} {σ' : pp_M} {σ : pp_M} {a0 : Int64} {a2 : Int64} (h : f_X8_sharedDivisor σ a0 a2 = some (r', σ')) : pp_Ct yX8_sharedDivisor cX8_sharedDivisor 7 (some .long) 1 12 dsK [ppL a0, ppL a2] σ (some (ppL r')) σ' := pp_met pl_X8 rfl okK (Nat.le_of_ble_eq_true rfl) rfl (fun Γ hF hR => (e_X8_sharedDivisor_0 hF hR h))
set_option maxRecDepth 20000 in
theorem e_X8_term_0 {Γ : pp_G} {r' : Int64} {σ' : pp_M} (hF : pp_Fx Γ dsK cX8_term 7 RX8 2 100) (hR : pp_Rt Γ dsK (some .long) (some (ppL r')) σ') {σ : pp_M} {a0 : Int64} {a2 : Int64} {a4 : Int32} (h : f_X8_term σ a0 a2 a4 = some (r', σ')) : pp_E Γ dsK cX8_term 7 0 [(0, ppL a0), (2, ppL a2), (4, ppI a4)] [] σ := by
  unfold f_X8_term at h
  refine pp_lload_n hF dX8_term_0 rfl rfl ?_
  refine pp_mabs hF wm_530 wm_531 wm_60 wq_abs ⟨by decide, by decide⟩ (Nat.le_of_ble_eq_true rfl) dX8_term_1 ?_
  refine pp_lload_n hF dX8_term_4 rfl rfl ?_
  obtain ⟨x5, hx5, h⟩ := pp_bd h
  refine pp_callSl hF (c_X8_sharedDivisor hx5) mS_X8_sharedDivisor lk_X8_357 rfl rfl ⟨by decide, by decide⟩ (Nat.le_of_ble_eq_true rfl) dX8_term_5 ?_
  refine pp_lstore hF dX8_term_8 (by decide) (lv' := [(0, ppL a0), (2, ppL a2), (4, ppI a4), (5, ppL x5.1)]) rfl ?_
  refine pp_lload hF dX8_term_10 rfl ?_
  refine pp_lconst hF dX8_term_12 lc_0 ?_
  refine pp_lcmp_ne (tgt := 19) hF dX8_term_13 dX8_term_14 rfl (fun c2 => ?_) (fun c2 => ?_)
  · replace h := (if_pos c2).symm.trans h
    refine pp_lconst hF dX8_term_17 lc_0 ?_
    obtain ⟨rfl, rfl⟩ := pp_i2 h
    exact pp_lreturn hF hR dX8_term_18
  · replace h := (if_neg c2).symm.trans h
    refine pp_iload hF dX8_term_19 rfl ?_
    refine pp_if_ne (tgt := 31) hF dX8_term_21 rfl (fun c3 => ?_) (fun c3 => ?_)
    · replace h := (if_pos c3).symm.trans h
      refine pp_lload_n hF dX8_term_24 rfl rfl ?_
      refine pp_lload hF dX8_term_25 rfl ?_
      obtain ⟨hz4, h⟩ := pp_ck h
      refine pp_ldiv hF dX8_term_27 hz4 ?_
      refine pp_goto (tgt := 35) hF dX8_term_28 rfl ?_
      obtain ⟨rfl, rfl⟩ := pp_i2 h
      exact pp_lreturn hF hR dX8_term_35
    · replace h := (if_neg c3).symm.trans h
      refine pp_lload_n hF dX8_term_31 rfl rfl ?_
      refine pp_lload hF dX8_term_32 rfl ?_
      obtain ⟨hz5, h⟩ := pp_ck h
      refine pp_ldiv hF dX8_term_34 hz5 ?_
      obtain ⟨rfl, rfl⟩ := pp_i2 h
      exact pp_lreturn hF hR dX8_term_35
set_option maxRecDepth 20000 in
theorem c_X8_term {r' : Int64} {σ' : pp_M} {σ : pp_M} {a0 : Int64} {a2 : Int64} {a4 : Int32} (h : f_X8_term σ a0 a2 a4 = some (r', σ')) : pp_Ct yX8_term cX8_term 7 (some .long) 2 100 dsK [ppL a0, ppL a2, ppI a4] σ (some (ppL r')) σ' := pp_met pl_X8 rfl okK (Nat.le_of_ble_eq_true rfl) rfl (fun Γ hF hR => (e_X8_term_0 hF hR h))
set_option maxRecDepth 20000 in
theorem e_J6_bitCount_0f7a4_0 {Γ : pp_G} {ds : List (Nat × Nat)} {r' : Int32} {σ' : pp_M} (hF : pp_Fx Γ ds cJ6_bitCount_0f7a4 1 RJ6 1 12) (hR : pp_Rt Γ ds (some .int) (some (ppI r')) σ') {σ : pp_M} {a0 : Int32} (h : f_J6_bitCount_0f7a4 σ a0 = some (r', σ')) : pp_E Γ ds cJ6_bitCount_0f7a4 1 0 [(0, ppI a0)] [] σ := by
  unfold f_J6_bitCount_0f7a4 at h
  refine pp_iload_n hF dJ6_bitCount_0f7a4_0 rfl rfl ?_
  refine pp_iload_n hF dJ6_bitCount_0f7a4_1 rfl rfl ?_
  refine pp_iconst hF dJ6_bitCount_0f7a4_2 ic_1 ?_
  refine pp_iushr hF dJ6_bitCount_0f7a4_3 ?_
  refine pp_ldcw hF wm_653 dJ6_bitCount_0f7a4_4 ?_
  refine pp_iand hF dJ6_bitCount_0f7a4_7 ?_
  refine pp_isub hF dJ6_bitCount_0f7a4_8 ?_
  refine pp_istore_n hF dJ6_bitCount_0f7a4_9 rfl (by decide) (lv' := [(0, ppI (a0 - ((((a0).toUInt32 >>> (((1 : Int32)).toUInt32 &&& Int32.toUInt32 31)).toInt32) &&& (1431655765 : Int32))))]) rfl ?_
  refine pp_iload_n hF dJ6_bitCount_0f7a4_10 rfl rfl ?_
  refine pp_ldcw hF wm_654 dJ6_bitCount_0f7a4_11 ?_
  refine pp_iand hF dJ6_bitCount_0f7a4_14 ?_
  refine pp_iload_n hF dJ6_bitCount_0f7a4_15 rfl rfl ?_
  refine pp_iconst hF dJ6_bitCount_0f7a4_16 ic_2 ?_
  refine pp_iushr hF dJ6_bitCount_0f7a4_17 ?_
  refine pp_ldcw hF wm_654 dJ6_bitCount_0f7a4_18 ?_
  refine pp_iand hF dJ6_bitCount_0f7a4_21 ?_
  refine pp_iadd hF dJ6_bitCount_0f7a4_22 ?_
  refine pp_istore_n hF dJ6_bitCount_0f7a4_23 rfl (by decide) (lv' := [(0, ppI (((a0 - ((((a0).toUInt32 >>> (((1 : Int32)).toUInt32 &&& Int32.toUInt32 31)).toInt32) &&& (1431655765 : Int32))) &&& (858993459 : Int32)) + (((((a0 - ((((a0).toUInt32 >>> (((1 : Int32)).toUInt32 &&& Int32.toUInt32 31)).toInt32) &&& (1431655765 : Int32)))).toUInt32 >>> (((2 : Int32)).toUInt32 &&& Int32.toUInt32 31)).toInt32) &&& (858993459 : Int32))))]) rfl ?_
  refine pp_iload_n hF dJ6_bitCount_0f7a4_24 rfl rfl ?_
  refine pp_iload_n hF dJ6_bitCount_0f7a4_25 rfl rfl ?_
  refine pp_iconst hF dJ6_bitCount_0f7a4_26 ic_4 ?_
  refine pp_iushr hF dJ6_bitCount_0f7a4_27 ?_
  refine pp_iadd hF dJ6_bitCount_0f7a4_28 ?_
  refine pp_ldcw hF wm_655 dJ6_bitCount_0f7a4_29 ?_
  refine pp_iand hF dJ6_bitCount_0f7a4_32 ?_
  refine pp_istore_n hF dJ6_bitCount_0f7a4_33 rfl (by decide) (lv' := [(0, ppI (((((a0 - ((((a0).toUInt32 >>> (((1 : Int32)).toUInt32 &&& Int32.toUInt32 31)).toInt32) &&& (1431655765 : Int32))) &&& (858993459 : Int32)) + (((((a0 - ((((a0).toUInt32 >>> (((1 : Int32)).toUInt32 &&& Int32.toUInt32 31)).toInt32) &&& (1431655765 : Int32)))).toUInt32 >>> (((2 : Int32)).toUInt32 &&& Int32.toUInt32 31)).toInt32) &&& (858993459 : Int32))) + ((((((a0 - ((((a0).toUInt32 >>> (((1 : Int32)).toUInt32 &&& Int32.toUInt32 31)).toInt32) &&& (1431655765 : Int32))) &&& (858993459 : Int32)) + (((((a0 - ((((a0).toUInt32 >>> (((1 : Int32)).toUInt32 &&& Int32.toUInt32 31)).toInt32) &&& (1431655765 : Int32)))).toUInt32 >>> (((2 : Int32)).toUInt32 &&& Int32.toUInt32 31)).toInt32) &&& (858993459 : Int32)))).toUInt32 >>> (((4 : Int32)).toUInt32 &&& Int32.toUInt32 31)).toInt32)) &&& (252645135 : Int32)))]) rfl ?_
  refine pp_iload_n hF dJ6_bitCount_0f7a4_34 rfl rfl ?_
  refine pp_iload_n hF dJ6_bitCount_0f7a4_35 rfl rfl ?_
  refine pp_bipush hF dJ6_bitCount_0f7a4_36 bc_8 ?_
  refine pp_iushr hF dJ6_bitCount_0f7a4_38 ?_
  refine pp_iadd hF dJ6_bitCount_0f7a4_39 ?_
  refine pp_istore_n hF dJ6_bitCount_0f7a4_40 rfl (by decide) (lv' := [(0, ppI ((((((a0 - ((((a0).toUInt32 >>> (((1 : Int32)).toUInt32 &&& Int32.toUInt32 31)).toInt32) &&& (1431655765 : Int32))) &&& (858993459 : Int32)) + (((((a0 - ((((a0).toUInt32 >>> (((1 : Int32)).toUInt32 &&& Int32.toUInt32 31)).toInt32) &&& (1431655765 : Int32)))).toUInt32 >>> (((2 : Int32)).toUInt32 &&& Int32.toUInt32 31)).toInt32) &&& (858993459 : Int32))) + ((((((a0 - ((((a0).toUInt32 >>> (((1 : Int32)).toUInt32 &&& Int32.toUInt32 31)).toInt32) &&& (1431655765 : Int32))) &&& (858993459 : Int32)) + (((((a0 - ((((a0).toUInt32 >>> (((1 : Int32)).toUInt32 &&& Int32.toUInt32 31)).toInt32) &&& (1431655765 : Int32)))).toUInt32 >>> (((2 : Int32)).toUInt32 &&& Int32.toUInt32 31)).toInt32) &&& (858993459 : Int32)))).toUInt32 >>> (((4 : Int32)).toUInt32 &&& Int32.toUInt32 31)).toInt32)) &&& (252645135 : Int32)) + ((((((((a0 - ((((a0).toUInt32 >>> (((1 : Int32)).toUInt32 &&& Int32.toUInt32 31)).toInt32) &&& (1431655765 : Int32))) &&& (858993459 : Int32)) + (((((a0 - ((((a0).toUInt32 >>> (((1 : Int32)).toUInt32 &&& Int32.toUInt32 31)).toInt32) &&& (1431655765 : Int32)))).toUInt32 >>> (((2 : Int32)).toUInt32 &&& Int32.toUInt32 31)).toInt32) &&& (858993459 : Int32))) + ((((((a0 - ((((a0).toUInt32 >>> (((1 : Int32)).toUInt32 &&& Int32.toUInt32 31)).toInt32) &&& (1431655765 : Int32))) &&& (858993459 : Int32)) + (((((a0 - ((((a0).toUInt32 >>> (((1 : Int32)).toUInt32 &&& Int32.toUInt32 31)).toInt32) &&& (1431655765 : Int32)))).toUInt32 >>> (((2 : Int32)).toUInt32 &&& Int32.toUInt32 31)).toInt32) &&& (858993459 : Int32)))).toUInt32 >>> (((4 : Int32)).toUInt32 &&& Int32.toUInt32 31)).toInt32)) &&& (252645135 : Int32))).toUInt32 >>> (((8 : Int32)).toUInt32 &&& Int32.toUInt32 31)).toInt32)))]) rfl ?_
  refine pp_iload_n hF dJ6_bitCount_0f7a4_41 rfl rfl ?_
  refine pp_iload_n hF dJ6_bitCount_0f7a4_42 rfl rfl ?_
  refine pp_bipush hF dJ6_bitCount_0f7a4_43 bc_16 ?_
  refine pp_iushr hF dJ6_bitCount_0f7a4_45 ?_
  refine pp_iadd hF dJ6_bitCount_0f7a4_46 ?_
  refine pp_istore_n hF dJ6_bitCount_0f7a4_47 rfl (by decide) (lv' := [(0, ppI (((((((a0 - ((((a0).toUInt32 >>> (((1 : Int32)).toUInt32 &&& Int32.toUInt32 31)).toInt32) &&& (1431655765 : Int32))) &&& (858993459 : Int32)) + (((((a0 - ((((a0).toUInt32 >>> (((1 : Int32)).toUInt32 &&& Int32.toUInt32 31)).toInt32) &&& (1431655765 : Int32)))).toUInt32 >>> (((2 : Int32)).toUInt32 &&& Int32.toUInt32 31)).toInt32) &&& (858993459 : Int32))) + ((((((a0 - ((((a0).toUInt32 >>> (((1 : Int32)).toUInt32 &&& Int32.toUInt32 31)).toInt32) &&& (1431655765 : Int32))) &&& (858993459 : Int32)) + (((((a0 - ((((a0).toUInt32 >>> (((1 : Int32)).toUInt32 &&& Int32.toUInt32 31)).toInt32) &&& (1431655765 : Int32)))).toUInt32 >>> (((2 : Int32)).toUInt32 &&& Int32.toUInt32 31)).toInt32) &&& (858993459 : Int32)))).toUInt32 >>> (((4 : Int32)).toUInt32 &&& Int32.toUInt32 31)).toInt32)) &&& (252645135 : Int32)) + ((((((((a0 - ((((a0).toUInt32 >>> (((1 : Int32)).toUInt32 &&& Int32.toUInt32 31)).toInt32) &&& (1431655765 : Int32))) &&& (858993459 : Int32)) + (((((a0 - ((((a0).toUInt32 >>> (((1 : Int32)).toUInt32 &&& Int32.toUInt32 31)).toInt32) &&& (1431655765 : Int32)))).toUInt32 >>> (((2 : Int32)).toUInt32 &&& Int32.toUInt32 31)).toInt32) &&& (858993459 : Int32))) + ((((((a0 - ((((a0).toUInt32 >>> (((1 : Int32)).toUInt32 &&& Int32.toUInt32 31)).toInt32) &&& (1431655765 : Int32))) &&& (858993459 : Int32)) + (((((a0 - ((((a0).toUInt32 >>> (((1 : Int32)).toUInt32 &&& Int32.toUInt32 31)).toInt32) &&& (1431655765 : Int32)))).toUInt32 >>> (((2 : Int32)).toUInt32 &&& Int32.toUInt32 31)).toInt32) &&& (858993459 : Int32)))).toUInt32 >>> (((4 : Int32)).toUInt32 &&& Int32.toUInt32 31)).toInt32)) &&& (252645135 : Int32))).toUInt32 >>> (((8 : Int32)).toUInt32 &&& Int32.toUInt32 31)).toInt32)) + (((((((((a0 - ((((a0).toUInt32 >>> (((1 : Int32)).toUInt32 &&& Int32.toUInt32 31)).toInt32) &&& (1431655765 : Int32))) &&& (858993459 : Int32)) + (((((a0 - ((((a0).toUInt32 >>> (((1 : Int32)).toUInt32 &&& Int32.toUInt32 31)).toInt32) &&& (1431655765 : Int32)))).toUInt32 >>> (((2 : Int32)).toUInt32 &&& Int32.toUInt32 31)).toInt32) &&& (858993459 : Int32))) + ((((((a0 - ((((a0).toUInt32 >>> (((1 : Int32)).toUInt32 &&& Int32.toUInt32 31)).toInt32) &&& (1431655765 : Int32))) &&& (858993459 : Int32)) + (((((a0 - ((((a0).toUInt32 >>> (((1 : Int32)).toUInt32 &&& Int32.toUInt32 31)).toInt32) &&& (1431655765 : Int32)))).toUInt32 >>> (((2 : Int32)).toUInt32 &&& Int32.toUInt32 31)).toInt32) &&& (858993459 : Int32)))).toUInt32 >>> (((4 : Int32)).toUInt32 &&& Int32.toUInt32 31)).toInt32)) &&& (252645135 : Int32)) + ((((((((a0 - ((((a0).toUInt32 >>> (((1 : Int32)).toUInt32 &&& Int32.toUInt32 31)).toInt32) &&& (1431655765 : Int32))) &&& (858993459 : Int32)) + (((((a0 - ((((a0).toUInt32 >>> (((1 : Int32)).toUInt32 &&& Int32.toUInt32 31)).toInt32) &&& (1431655765 : Int32)))).toUInt32 >>> (((2 : Int32)).toUInt32 &&& Int32.toUInt32 31)).toInt32) &&& (858993459 : Int32))) + ((((((a0 - ((((a0).toUInt32 >>> (((1 : Int32)).toUInt32 &&& Int32.toUInt32 31)).toInt32) &&& (1431655765 : Int32))) &&& (858993459 : Int32)) + (((((a0 - ((((a0).toUInt32 >>> (((1 : Int32)).toUInt32 &&& Int32.toUInt32 31)).toInt32) &&& (1431655765 : Int32)))).toUInt32 >>> (((2 : Int32)).toUInt32 &&& Int32.toUInt32 31)).toInt32) &&& (858993459 : Int32)))).toUInt32 >>> (((4 : Int32)).toUInt32 &&& Int32.toUInt32 31)).toInt32)) &&& (252645135 : Int32))).toUInt32 >>> (((8 : Int32)).toUInt32 &&& Int32.toUInt32 31)).toInt32))).toUInt32 >>> (((16 : Int32)).toUInt32 &&& Int32.toUInt32 31)).toInt32)))]) rfl ?_
  refine pp_iload_n hF dJ6_bitCount_0f7a4_48 rfl rfl ?_
  refine pp_bipush hF dJ6_bitCount_0f7a4_49 bc_63 ?_
  refine pp_iand hF dJ6_bitCount_0f7a4_51 ?_
  obtain ⟨rfl, rfl⟩ := pp_i2 h
  exact pp_ireturn hF hR dJ6_bitCount_0f7a4_52
set_option maxRecDepth 20000 in
theorem c_J6_bitCount_0f7a4 {ds : List (Nat × Nat)} (hok : pp_ok ds) {r' : Int32} {σ' : pp_M} {σ : pp_M} {a0 : Int32} (h : f_J6_bitCount_0f7a4 σ a0 = some (r', σ')) : pp_Ct yJ6_bitCount_0f7a4 cJ6_bitCount_0f7a4 1 (some .int) 1 12 ds [ppI a0] σ (some (ppI r')) σ' := pp_met pl_J6 rfl hok (Nat.le_of_ble_eq_true rfl) rfl (fun Γ hF hR => (e_J6_bitCount_0f7a4_0 hF hR h))
set_option maxRecDepth 20000 in
theorem e_X8_tooManyOpen_0 {Γ : pp_G} {r' : Int32} {σ' : pp_M} (hF : pp_Fx Γ dsK cX8_tooManyOpen 1 RX8 2 32) (hR : pp_Rt Γ dsK (some .boolean) (some (ppI r')) σ') {σ : pp_M}  (h : f_X8_tooManyOpen σ  = some (r', σ')) : pp_E Γ dsK cX8_tooManyOpen 1 0 [(0, ppR 0 0 0)] [] σ := by
  unfold f_X8_tooManyOpen at h
  refine pp_aload_n hF dX8_tooManyOpen_0 rfl rfl ?_
  refine pp_getI hF fdK_X8_88 dX8_tooManyOpen_1 ?_
  obtain ⟨x4, hx4, h⟩ := pp_bd h
  refine pp_callSi hF (c_J6_bitCount_0f7a4 (hok := okK) hx4) mS_J6_bitCount_0f7a4 lk_X8_361 rfl rfl ⟨by decide, by decide⟩ (Nat.le_of_ble_eq_true rfl) dX8_tooManyOpen_4 ?_
  refine pp_iconst hF dX8_tooManyOpen_7 ic_5 ?_
  refine pp_icmp_le (tgt := 15) hF dX8_tooManyOpen_8 rfl (fun c2 => ?_) (fun c2 => ?_)
  · replace h := (if_pos c2).symm.trans h
    refine pp_iconst hF dX8_tooManyOpen_11 ic_1 ?_
    refine pp_goto (tgt := 16) hF dX8_tooManyOpen_12 rfl ?_
    obtain ⟨rfl, rfl⟩ := pp_i2 h
    exact pp_zreturn hF hR rfl dX8_tooManyOpen_16
  · replace h := (if_neg c2).symm.trans h
    refine pp_iconst hF dX8_tooManyOpen_15 ic_0 ?_
    obtain ⟨rfl, rfl⟩ := pp_i2 h
    exact pp_zreturn hF hR rfl dX8_tooManyOpen_16
set_option maxRecDepth 20000 in
theorem c_X8_tooManyOpen {r' : Int32} {σ' : pp_M} {σ : pp_M}  (h : f_X8_tooManyOpen σ  = some (r', σ')) : pp_Ct yX8_tooManyOpen cX8_tooManyOpen 1 (some .boolean) 2 32 dsK [ppR 0 0 0] σ (some (ppI r')) σ' := pp_met pl_X8 rfl okK (Nat.le_of_ble_eq_true rfl) rfl (fun Γ hF hR => (e_X8_tooManyOpen_0 hF hR h))
set_option maxRecDepth 20000 in
theorem e_X8_both_0 {Γ : pp_G} {r' : Int64} {σ' : pp_M} (hF : pp_Fx Γ dsK cX8_both 2 RX8 42 1475) (hR : pp_Rt Γ dsK (some .long) (some (ppL r')) σ') {σ : pp_M} {a1 : Int32} (h : f_X8_both σ a1 = some (r', σ')) : pp_E Γ dsK cX8_both 2 0 [(0, ppR 0 0 0), (1, ppI a1)] [] σ := by
  unfold f_X8_both at h
  refine pp_iload_n hF dX8_both_0 rfl rfl ?_
  obtain ⟨x1, hx1, h⟩ := pp_bd h
  refine pp_callSi hF (c_X8_isTerm hx1) mS_X8_isTerm lk_X8_193 rfl rfl ⟨by decide, by decide⟩ (Nat.le_of_ble_eq_true rfl) dX8_both_1 ?_
  refine pp_if_ne (tgt := 13) hF dX8_both_4 rfl (fun c2 => ?_) (fun c2 => ?_)
  · replace h := (if_pos c2).symm.trans h
    refine pp_bipush hF dX8_both_7 bc_n2 ?_
    obtain ⟨x9, hx9, h⟩ := pp_bd h
    refine pp_callSl hF (c_X8_refusal hx9) mS_X8_refusal lk_X8_196 rfl rfl ⟨by decide, by decide⟩ (Nat.le_of_ble_eq_true rfl) dX8_both_9 ?_
    obtain ⟨rfl, rfl⟩ := pp_i2 h
    exact pp_lreturn hF hR dX8_both_12
  · replace h := (if_neg c2).symm.trans h
    refine pp_aload_n hF dX8_both_13 rfl rfl ?_
    obtain ⟨x14, hx14, h⟩ := pp_bd h
    refine pp_callVi hF (c_X8_tooManyOpen hx14) mV_X8_tooManyOpen lk_X8_257 obK_0 rfl rfl ⟨by decide, by decide⟩ (Nat.le_of_ble_eq_true rfl) dX8_both_14 ?_
    refine pp_if_eq (tgt := 26) hF dX8_both_17 rfl (fun c5 => ?_) (fun c5 => ?_)
    · replace h := (if_pos c5).symm.trans h
      refine pp_aload_n hF dX8_both_26 rfl rfl ?_
      refine pp_getR hF fdK_X8_74 dX8_both_27 ?_
      refine pp_aload_n hF dX8_both_30 rfl rfl ?_
      refine pp_getI hF fdK_X8_88 dX8_both_31 ?_
      refine pp_aload_n hF dX8_both_34 rfl rfl ?_
      refine pp_getI hF fdK_X8_82 dX8_both_35 ?_
      refine pp_aload_n hF dX8_both_38 rfl rfl ?_
      refine pp_getI hF fdK_X8_85 dX8_both_39 ?_
      obtain ⟨x42, hx42, h⟩ := pp_bd h
      refine pp_callVv hF (c_X6_findRounds hx42) mV_X6_findRounds lk_X8_261 obK_36 rfl rfl ⟨by decide, by decide⟩ (Nat.le_of_ble_eq_true rfl) dX8_both_42 ?_
      refine pp_aload_n hF dX8_both_45 rfl rfl ?_
      refine pp_getR hF fdK_X8_74 dX8_both_46 ?_
      refine pp_aload_n hF dX8_both_49 rfl rfl ?_
      refine pp_getI hF fdK_X8_88 dX8_both_50 ?_
      obtain ⟨x53, hx53, h⟩ := pp_bd h
      refine pp_callVv hF (c_X6_part hx53) mV_X6_part lk_X8_285 obK_36 rfl rfl ⟨by decide, by decide⟩ (Nat.le_of_ble_eq_true rfl) dX8_both_53 ?_
      refine pp_aload_n hF dX8_both_56 rfl rfl ?_
      refine pp_getR hF fdK_X8_74 dX8_both_57 ?_
      refine pp_getL hF fdK_X8_294 dX8_both_60 ?_
      refine pp_ldc2 hF wm_526 dX8_both_63 ?_
      refine pp_iload_n hF dX8_both_66 rfl rfl ?_
      obtain ⟨x67, hx67, h⟩ := pp_bd h
      refine pp_callSl hF (c_X8_term hx67) mS_X8_term lk_X8_214 rfl rfl ⟨by decide, by decide⟩ (Nat.le_of_ble_eq_true rfl) dX8_both_67 ?_
      obtain ⟨rfl, rfl⟩ := pp_i2 h
      exact pp_lreturn hF hR dX8_both_70
    · replace h := (if_neg c5).symm.trans h
      refine pp_bipush hF dX8_both_20 bc_n4 ?_
      obtain ⟨x22, hx22, h⟩ := pp_bd h
      refine pp_callSl hF (c_X8_refusal hx22) mS_X8_refusal lk_X8_196 rfl rfl ⟨by decide, by decide⟩ (Nat.le_of_ble_eq_true rfl) dX8_both_22 ?_
      obtain ⟨rfl, rfl⟩ := pp_i2 h
      exact pp_lreturn hF hR dX8_both_25
set_option maxRecDepth 20000 in
theorem c_X8_both {r' : Int64} {σ' : pp_M} {σ : pp_M} {a1 : Int32} (h : f_X8_both σ a1 = some (r', σ')) : pp_Ct yX8_both cX8_both 2 (some .long) 42 1475 dsK [ppR 0 0 0, ppI a1] σ (some (ppL r')) σ' := pp_met pl_X8 rfl okK (Nat.le_of_ble_eq_true rfl) rfl (fun Γ hF hR => (e_X8_both_0 hF hR h))
set_option maxRecDepth 20000 in
theorem e_X8_brings_14 {Γ : pp_G} {r' : Int64} {σ' : pp_M} (hF : pp_Fx Γ dsK cX8_brings 5 RX8 7 164) (hR : pp_Rt Γ dsK (some .long) (some (ppL r')) σ') {σ : pp_M}  (h : f_X8_brings_14 σ  = some (r', σ')) : pp_E Γ dsK cX8_brings 5 14 [] [] σ := by
  unfold f_X8_brings_14 at h
  refine pp_bipush hF dX8_brings_14 bc_n2 ?_
  obtain ⟨x16, hx16, h⟩ := pp_bd h
  refine pp_callSl hF (c_X8_refusal hx16) mS_X8_refusal lk_X8_196 rfl rfl ⟨by decide, by decide⟩ (Nat.le_of_ble_eq_true rfl) dX8_brings_16 ?_
  obtain ⟨rfl, rfl⟩ := pp_i2 h
  exact pp_lreturn hF hR dX8_brings_19
set_option maxRecDepth 20000 in
theorem e_X8_brings_0 {Γ : pp_G} {r' : Int64} {σ' : pp_M} (hF : pp_Fx Γ dsK cX8_brings 5 RX8 7 164) (hR : pp_Rt Γ dsK (some .long) (some (ppL r')) σ') {σ : pp_M} {a1 : Int32} {a2 : Int32} (h : f_X8_brings σ a1 a2 = some (r', σ')) : pp_E Γ dsK cX8_brings 5 0 [(0, ppR 0 0 0), (1, ppI a1), (2, ppI a2)] [] σ := by
  unfold f_X8_brings at h
  refine pp_iload_n hF dX8_brings_0 rfl rfl ?_
  obtain ⟨x1, hx1, h⟩ := pp_bd h
  refine pp_callSi hF (c_X8_isThing hx1) mS_X8_isThing lk_X8_91 rfl rfl ⟨by decide, by decide⟩ (Nat.le_of_ble_eq_true rfl) dX8_brings_1 ?_
  refine pp_if_eq (tgt := 14) hF dX8_brings_4 rfl (fun c2 => ?_) (fun c2 => ?_)
  · replace h := (if_pos c2).symm.trans h
    refine pp_few [] (lv' := []) rfl ?_
    exact e_X8_brings_14 hF hR h
  · replace h := (if_neg c2).symm.trans h
    refine pp_iload_n hF dX8_brings_7 rfl rfl ?_
    obtain ⟨x8, hx8, h⟩ := pp_bd h
    refine pp_callSi hF (c_X8_isTerm hx8) mS_X8_isTerm lk_X8_193 rfl rfl ⟨by decide, by decide⟩ (Nat.le_of_ble_eq_true rfl) dX8_brings_8 ?_
    refine pp_if_ne (tgt := 20) hF dX8_brings_11 rfl (fun c4 => ?_) (fun c4 => ?_)
    · replace h := (if_pos c4).symm.trans h
      refine pp_few [] (lv' := []) rfl ?_
      exact e_X8_brings_14 hF hR h
    · replace h := (if_neg c4).symm.trans h
      refine pp_aload_n hF dX8_brings_20 rfl rfl ?_
      obtain ⟨x21, hx21, h⟩ := pp_bd h
      refine pp_callVv hF (c_X8_weighUp hx21) mV_X8_weighUp lk_X8_230 obK_0 rfl rfl ⟨by decide, by decide⟩ (Nat.le_of_ble_eq_true rfl) dX8_brings_21 ?_
      refine pp_aload_n hF dX8_brings_24 rfl rfl ?_
      refine pp_getR hF fdK_X8_58 dX8_brings_25 ?_
      refine pp_aload_n hF dX8_brings_28 rfl rfl ?_
      refine pp_getI hF fdK_X8_85 dX8_brings_29 ?_
      refine pp_iconst hF dX8_brings_32 ic_n1 ?_
      obtain ⟨x33, hx33, h⟩ := pp_bd h
      refine pp_callVl hF (c_X5_mostGain hx33) mV_X5_mostGain lk_X8_298 obK_25 rfl rfl ⟨by decide, by decide⟩ (Nat.le_of_ble_eq_true rfl) dX8_brings_33 ?_
      refine pp_lstore_n hF dX8_brings_36 rfl (by decide) (lv' := [(0, ppR 0 0 0), (1, ppI a1), (2, ppI a2), (3, ppL x33.1)]) rfl ?_
      refine pp_lload_n hF dX8_brings_37 rfl rfl ?_
      refine pp_aload_n hF dX8_brings_38 rfl rfl ?_
      refine pp_getR hF fdK_X8_58 dX8_brings_39 ?_
      refine pp_aload_n hF dX8_brings_42 rfl rfl ?_
      refine pp_getI hF fdK_X8_85 dX8_brings_43 ?_
      refine pp_iload_n hF dX8_brings_46 rfl rfl ?_
      obtain ⟨x47, hx47, h⟩ := pp_bd h
      refine pp_callVl hF (c_X5_mostGain hx47) mV_X5_mostGain lk_X8_298 obK_25 rfl rfl ⟨by decide, by decide⟩ (Nat.le_of_ble_eq_true rfl) dX8_brings_47 ?_
      refine pp_lsub hF dX8_brings_50 ?_
      refine pp_ldc2 hF wm_526 dX8_brings_51 ?_
      refine pp_iload_n hF dX8_brings_54 rfl rfl ?_
      obtain ⟨x55, hx55, h⟩ := pp_bd h
      refine pp_callSl hF (c_X8_term hx55) mS_X8_term lk_X8_214 rfl rfl ⟨by decide, by decide⟩ (Nat.le_of_ble_eq_true rfl) dX8_brings_55 ?_
      obtain ⟨rfl, rfl⟩ := pp_i2 h
      exact pp_lreturn hF hR dX8_brings_58
set_option maxRecDepth 20000 in
theorem c_X8_brings {r' : Int64} {σ' : pp_M} {σ : pp_M} {a1 : Int32} {a2 : Int32} (h : f_X8_brings σ a1 a2 = some (r', σ')) : pp_Ct yX8_brings cX8_brings 5 (some .long) 7 164 dsK [ppR 0 0 0, ppI a1, ppI a2] σ (some (ppL r')) σ' := pp_met pl_X8 rfl okK (Nat.le_of_ble_eq_true rfl) rfl (fun Γ hF hR => (e_X8_brings_0 hF hR h))
set_option maxRecDepth 20000 in
theorem e_X8_isLevel_0 {Γ : pp_G} {r' : Int32} {σ' : pp_M} (hF : pp_Fx Γ dsK cX8_isLevel 1 RX8 2 34) (hR : pp_Rt Γ dsK (some .boolean) (some (ppI r')) σ') {σ : pp_M} {a0 : Int32} (h : f_X8_isLevel σ a0 = some (r', σ')) : pp_E Γ dsK cX8_isLevel 1 0 [(0, ppI a0)] [] σ := by
  unfold f_X8_isLevel at h
  refine pp_iload_n hF dX8_isLevel_0 rfl rfl ?_
  refine pp_iconst hF dX8_isLevel_1 ic_0 ?_
  refine pp_iconst hF dX8_isLevel_2 ic_2 ?_
  obtain ⟨x3, hx3, h⟩ := pp_bd h
  refine pp_callSi hF (c_X8_within hx3) mS_X8_within lk_X8_95 rfl rfl ⟨by decide, by decide⟩ (Nat.le_of_ble_eq_true rfl) dX8_isLevel_3 ?_
  obtain ⟨hb2, h⟩ := pp_ck h
  obtain ⟨rfl, rfl⟩ := pp_i2 h
  exact pp_zreturn hF hR (pp_bn hb2) dX8_isLevel_6
set_option maxRecDepth 20000 in
theorem c_X8_isLevel {r' : Int32} {σ' : pp_M} {σ : pp_M} {a0 : Int32} (h : f_X8_isLevel σ a0 = some (r', σ')) : pp_Ct yX8_isLevel cX8_isLevel 1 (some .boolean) 2 34 dsK [ppI a0] σ (some (ppI r')) σ' := pp_met pl_X8 rfl okK (Nat.le_of_ble_eq_true rfl) rfl (fun Γ hF hR => (e_X8_isLevel_0 hF hR h))
set_option maxRecDepth 20000 in
theorem e_X8_chance_0 {Γ : pp_G} {r' : Int32} {σ' : pp_M} (hF : pp_Fx Γ dsK cX8_chance 4 RX8 3 54) (hR : pp_Rt Γ dsK (some .int) (some (ppI r')) σ') {σ : pp_M} {a1 : Int32} {a2 : Int32} {a3 : Int32} (h : f_X8_chance σ a1 a2 a3 = some (r', σ')) : pp_E Γ dsK cX8_chance 4 0 [(0, ppR 0 0 0), (1, ppI a1), (2, ppI a2), (3, ppI a3)] [] σ := by
  unfold f_X8_chance at h
  refine pp_iload_n hF dX8_chance_0 rfl rfl ?_
  obtain ⟨x1, hx1, h⟩ := pp_bd h
  refine pp_callSi hF (c_X8_isFarm hx1) mS_X8_isFarm lk_X8_139 rfl rfl ⟨by decide, by decide⟩ (Nat.le_of_ble_eq_true rfl) dX8_chance_1 ?_
  refine pp_if_eq (tgt := 21) hF dX8_chance_4 rfl (fun c2 => ?_) (fun c2 => ?_)
  · replace h := (if_pos c2).symm.trans h
    refine pp_bipush hF dX8_chance_21 bc_n2 ?_
    obtain ⟨rfl, rfl⟩ := pp_i2 h
    exact pp_ireturn hF hR dX8_chance_23
  · replace h := (if_neg c2).symm.trans h
    refine pp_iload_n hF dX8_chance_7 rfl rfl ?_
    obtain ⟨x8, hx8, h⟩ := pp_bd h
    refine pp_callSi hF (c_X8_isThing hx8) mS_X8_isThing lk_X8_91 rfl rfl ⟨by decide, by decide⟩ (Nat.le_of_ble_eq_true rfl) dX8_chance_8 ?_
    refine pp_if_eq (tgt := 21) hF dX8_chance_11 rfl (fun c4 => ?_) (fun c4 => ?_)
    · replace h := (if_pos c4).symm.trans h
      refine pp_bipush hF dX8_chance_21 bc_n2 ?_
      obtain ⟨rfl, rfl⟩ := pp_i2 h
      exact pp_ireturn hF hR dX8_chance_23
    · replace h := (if_neg c4).symm.trans h
      refine pp_iload_n hF dX8_chance_14 rfl rfl ?_
      obtain ⟨x15, hx15, h⟩ := pp_bd h
      refine pp_callSi hF (c_X8_isLevel hx15) mS_X8_isLevel lk_X8_165 rfl rfl ⟨by decide, by decide⟩ (Nat.le_of_ble_eq_true rfl) dX8_chance_15 ?_
      refine pp_if_ne (tgt := 24) hF dX8_chance_18 rfl (fun c6 => ?_) (fun c6 => ?_)
      · replace h := (if_pos c6).symm.trans h
        refine pp_bipush hF dX8_chance_21 bc_n2 ?_
        obtain ⟨rfl, rfl⟩ := pp_i2 h
        exact pp_ireturn hF hR dX8_chance_23
      · replace h := (if_neg c6).symm.trans h
        refine pp_aload_n hF dX8_chance_24 rfl rfl ?_
        refine pp_getR hF fdK_X8_26 dX8_chance_25 ?_
        refine pp_iload_n hF dX8_chance_28 rfl rfl ?_
        refine pp_iload_n hF dX8_chance_29 rfl rfl ?_
        refine pp_iload_n hF dX8_chance_30 rfl rfl ?_
        obtain ⟨x31, hx31, h⟩ := pp_bd h
        refine pp_callVi hF (c_X4_chanceOf hx31) mV_X4_chanceOf lk_X8_168 obK_9 rfl rfl ⟨by decide, by decide⟩ (Nat.le_of_ble_eq_true rfl) dX8_chance_31 ?_
        obtain ⟨rfl, rfl⟩ := pp_i2 h
        exact pp_ireturn hF hR dX8_chance_34
set_option maxRecDepth 20000 in
theorem c_X8_chance {r' : Int32} {σ' : pp_M} {σ : pp_M} {a1 : Int32} {a2 : Int32} {a3 : Int32} (h : f_X8_chance σ a1 a2 a3 = some (r', σ')) : pp_Ct yX8_chance cX8_chance 4 (some .int) 3 54 dsK [ppR 0 0 0, ppI a1, ppI a2, ppI a3] σ (some (ppI r')) σ' := pp_met pl_X8 rfl okK (Nat.le_of_ble_eq_true rfl) rfl (fun Γ hF hR => (e_X8_chance_0 hF hR h))
set_option maxRecDepth 20000 in
theorem e_X8_isSheet_0 {Γ : pp_G} {r' : Int32} {σ' : pp_M} (hF : pp_Fx Γ dsK cX8_isSheet 1 RX8 2 34) (hR : pp_Rt Γ dsK (some .boolean) (some (ppI r')) σ') {σ : pp_M} {a0 : Int32} (h : f_X8_isSheet σ a0 = some (r', σ')) : pp_E Γ dsK cX8_isSheet 1 0 [(0, ppI a0)] [] σ := by
  unfold f_X8_isSheet at h
  refine pp_iload_n hF dX8_isSheet_0 rfl rfl ?_
  refine pp_iconst hF dX8_isSheet_1 ic_0 ?_
  refine pp_iconst hF dX8_isSheet_2 ic_3 ?_
  obtain ⟨x3, hx3, h⟩ := pp_bd h
  refine pp_callSi hF (c_X8_within hx3) mS_X8_within lk_X8_95 rfl rfl ⟨by decide, by decide⟩ (Nat.le_of_ble_eq_true rfl) dX8_isSheet_3 ?_
  obtain ⟨hb2, h⟩ := pp_ck h
  obtain ⟨rfl, rfl⟩ := pp_i2 h
  exact pp_zreturn hF hR (pp_bn hb2) dX8_isSheet_6
set_option maxRecDepth 20000 in
theorem c_X8_isSheet {r' : Int32} {σ' : pp_M} {σ : pp_M} {a0 : Int32} (h : f_X8_isSheet σ a0 = some (r', σ')) : pp_Ct yX8_isSheet cX8_isSheet 1 (some .boolean) 2 34 dsK [ppI a0] σ (some (ppI r')) σ' := pp_met pl_X8 rfl okK (Nat.le_of_ble_eq_true rfl) rfl (fun Γ hF hR => (e_X8_isSheet_0 hF hR h))
set_option maxRecDepth 20000 in
theorem e_X8_copy_107 {Γ : pp_G} {r' : Int32} {σ' : pp_M} (hF : pp_Fx Γ dsK cX8_copy 6 RX8 3 100) (hR : pp_Rt Γ dsK (some .int) (some (ppI r')) σ') {σ : pp_M}  (h : f_X8_copy_107 σ  = some (r', σ')) : pp_E Γ dsK cX8_copy 6 107 [(0, ppR 0 0 0)] [] σ := by
  unfold f_X8_copy_107 at h
  refine pp_aload_n hF dX8_copy_107 rfl rfl ?_
  refine pp_getR hF fdK_X8_40 dX8_copy_108 ?_
  refine pp_iconst hF dX8_copy_111 ic_2 ?_
  obtain ⟨x112, hx112, h⟩ := pp_bd h
  refine pp_callVi hF (c_X7_found hx112) mV_X7_found lk_X8_145 obK_16 rfl rfl ⟨by decide, by decide⟩ (Nat.le_of_ble_eq_true rfl) dX8_copy_112 ?_
  obtain ⟨rfl, rfl⟩ := pp_i2 h
  exact pp_ireturn hF hR dX8_copy_115
set_option maxRecDepth 20000 in
theorem e_X8_copy_39 {Γ : pp_G} {r' : Int32} {σ' : pp_M} (hF : pp_Fx Γ dsK cX8_copy 6 RX8 3 100) (hR : pp_Rt Γ dsK (some .int) (some (ppI r')) σ') {σ : pp_M}  (h : f_X8_copy_39 σ  = some (r', σ')) : pp_E Γ dsK cX8_copy 6 39 [(0, ppR 0 0 0)] [] σ := by
  unfold f_X8_copy_39 at h
  refine pp_aload_n hF dX8_copy_39 rfl rfl ?_
  refine pp_getR hF fdK_X8_40 dX8_copy_40 ?_
  refine pp_iconst hF dX8_copy_43 ic_1 ?_
  obtain ⟨x44, hx44, h⟩ := pp_bd h
  refine pp_callVi hF (c_X7_found hx44) mV_X7_found lk_X8_145 obK_16 rfl rfl ⟨by decide, by decide⟩ (Nat.le_of_ble_eq_true rfl) dX8_copy_44 ?_
  obtain ⟨rfl, rfl⟩ := pp_i2 h
  exact pp_ireturn hF hR dX8_copy_47
set_option maxRecDepth 20000 in
theorem e_X8_copy_0 {Γ : pp_G} {r' : Int32} {σ' : pp_M} (hF : pp_Fx Γ dsK cX8_copy 6 RX8 3 100) (hR : pp_Rt Γ dsK (some .int) (some (ppI r')) σ') {σ : pp_M} {a1 : Int32} {a2 : Int32} {a3 : Int32} {a4 : Int32} {a5 : Int32} (h : f_X8_copy σ a1 a2 a3 a4 a5 = some (r', σ')) : pp_E Γ dsK cX8_copy 6 0 [(0, ppR 0 0 0), (1, ppI a1), (2, ppI a2), (3, ppI a3), (4, ppI a4), (5, ppI a5)] [] σ := by
  unfold f_X8_copy at h
  refine pp_iload_n hF dX8_copy_0 rfl rfl ?_
  obtain ⟨x1, hx1, h⟩ := pp_bd h
  refine pp_callSi hF (c_X8_isSheet hx1) mS_X8_isSheet lk_X8_136 rfl rfl ⟨by decide, by decide⟩ (Nat.le_of_ble_eq_true rfl) dX8_copy_1 ?_
  refine pp_if_eq (tgt := 14) hF dX8_copy_4 rfl (fun c2 => ?_) (fun c2 => ?_)
  · replace h := (if_pos c2).symm.trans h
    refine pp_bipush hF dX8_copy_14 bc_n2 ?_
    obtain ⟨rfl, rfl⟩ := pp_i2 h
    exact pp_ireturn hF hR dX8_copy_16
  · replace h := (if_neg c2).symm.trans h
    refine pp_iload_n hF dX8_copy_7 rfl rfl ?_
    obtain ⟨x8, hx8, h⟩ := pp_bd h
    refine pp_callSi hF (c_X8_isSheet hx8) mS_X8_isSheet lk_X8_136 rfl rfl ⟨by decide, by decide⟩ (Nat.le_of_ble_eq_true rfl) dX8_copy_8 ?_
    refine pp_if_ne (tgt := 17) hF dX8_copy_11 rfl (fun c4 => ?_) (fun c4 => ?_)
    · replace h := (if_pos c4).symm.trans h
      refine pp_bipush hF dX8_copy_14 bc_n2 ?_
      obtain ⟨rfl, rfl⟩ := pp_i2 h
      exact pp_ireturn hF hR dX8_copy_16
    · replace h := (if_neg c4).symm.trans h
      refine pp_aload_n hF dX8_copy_17 rfl rfl ?_
      refine pp_getR hF fdK_X8_40 dX8_copy_18 ?_
      refine pp_iload_n hF dX8_copy_21 rfl rfl ?_
      obtain ⟨x22, hx22, h⟩ := pp_bd h
      refine pp_callVi hF (c_X7_isLost hx22) mV_X7_isLost lk_X8_142 obK_16 rfl rfl ⟨by decide, by decide⟩ (Nat.le_of_ble_eq_true rfl) dX8_copy_22 ?_
      refine pp_if_ne (tgt := 39) hF dX8_copy_25 rfl (fun c6 => ?_) (fun c6 => ?_)
      · replace h := (if_pos c6).symm.trans h
        refine pp_aload_n hF dX8_copy_28 rfl rfl ?_
        refine pp_getR hF fdK_X8_40 dX8_copy_29 ?_
        refine pp_iload_n hF dX8_copy_32 rfl rfl ?_
        obtain ⟨x33, hx33, h⟩ := pp_bd h
        refine pp_callVi hF (c_X7_isLost hx33) mV_X7_isLost lk_X8_142 obK_16 rfl rfl ⟨by decide, by decide⟩ (Nat.le_of_ble_eq_true rfl) dX8_copy_33 ?_
        refine pp_if_eq (tgt := 48) hF dX8_copy_36 rfl (fun c8 => ?_) (fun c8 => ?_)
        · replace h := (if_pos c8).symm.trans h
          refine pp_aload_n hF dX8_copy_48 rfl rfl ?_
          refine pp_getR hF fdK_X8_40 dX8_copy_49 ?_
          refine pp_getR hF fdK_X8_317 dX8_copy_52 ?_
          refine pp_iload_n hF dX8_copy_55 rfl rfl ?_
          obtain ⟨hi9, h⟩ := pp_ck h
          refine pp_ialoadJ hF vK_19 hi9 (Nat.zero_add _) dX8_copy_56 ?_
          refine pp_aload_n hF dX8_copy_57 rfl rfl ?_
          refine pp_getR hF fdK_X8_40 dX8_copy_58 ?_
          refine pp_getR hF fdK_X8_317 dX8_copy_61 ?_
          refine pp_iload_n hF dX8_copy_64 rfl rfl ?_
          obtain ⟨hi10, h⟩ := pp_ck h
          refine pp_ialoadJ hF vK_19 hi10 (Nat.zero_add _) dX8_copy_65 ?_
          refine pp_icmp_eq (tgt := 78) hF dX8_copy_66 rfl (fun c11 => ?_) (fun c11 => ?_)
          · replace h := (if_pos c11).symm.trans h
            refine pp_aload_n hF dX8_copy_78 rfl rfl ?_
            refine pp_getR hF fdK_X8_40 dX8_copy_79 ?_
            refine pp_iload_n hF dX8_copy_82 rfl rfl ?_
            refine pp_iload_n hF dX8_copy_83 rfl rfl ?_
            refine pp_iload hF dX8_copy_84 rfl ?_
            obtain ⟨x86, hx86, h⟩ := pp_bd h
            refine pp_callVi hF (c_X7_hasItems hx86) mV_X7_hasItems lk_X8_320 obK_16 rfl rfl ⟨by decide, by decide⟩ (Nat.le_of_ble_eq_true rfl) dX8_copy_86 ?_
            refine pp_if_eq (tgt := 107) hF dX8_copy_89 rfl (fun c13 => ?_) (fun c13 => ?_)
            · replace h := (if_pos c13).symm.trans h
              refine pp_few [0] (lv' := [(0, ppR 0 0 0)]) rfl ?_
              exact e_X8_copy_107 hF hR h
            · replace h := (if_neg c13).symm.trans h
              refine pp_aload_n hF dX8_copy_92 rfl rfl ?_
              refine pp_getR hF fdK_X8_40 dX8_copy_93 ?_
              refine pp_iload_n hF dX8_copy_96 rfl rfl ?_
              refine pp_iload hF dX8_copy_97 rfl ?_
              refine pp_iload hF dX8_copy_99 rfl ?_
              obtain ⟨x101, hx101, h⟩ := pp_bd h
              refine pp_callVi hF (c_X7_hasItems hx101) mV_X7_hasItems lk_X8_320 obK_16 rfl rfl ⟨by decide, by decide⟩ (Nat.le_of_ble_eq_true rfl) dX8_copy_101 ?_
              refine pp_if_ne (tgt := 116) hF dX8_copy_104 rfl (fun c15 => ?_) (fun c15 => ?_)
              · replace h := (if_pos c15).symm.trans h
                refine pp_few [0] (lv' := [(0, ppR 0 0 0)]) rfl ?_
                exact e_X8_copy_107 hF hR h
              · replace h := (if_neg c15).symm.trans h
                refine pp_aload_n hF dX8_copy_116 rfl rfl ?_
                refine pp_getR hF fdK_X8_40 dX8_copy_117 ?_
                refine pp_getR hF fdK_X8_158 dX8_copy_120 ?_
                refine pp_iload_n hF dX8_copy_123 rfl rfl ?_
                refine pp_aaloadI hF vK_17 hi9 dX8_copy_124 ?_
                refine pp_iload_n hF dX8_copy_125 rfl rfl ?_
                refine pp_aload_n hF dX8_copy_126 rfl rfl ?_
                refine pp_getR hF fdK_X8_40 dX8_copy_127 ?_
                refine pp_getR hF fdK_X8_158 dX8_copy_130 ?_
                refine pp_iload_n hF dX8_copy_133 rfl rfl ?_
                refine pp_aaloadI hF vK_17 hi10 dX8_copy_134 ?_
                refine pp_iload hF dX8_copy_135 rfl ?_
                refine pp_iload hF dX8_copy_137 rfl ?_
                obtain ⟨hc16, h⟩ := pp_ck h
                refine pp_acopy hF (vK_18 _ (vp_lt hi9)) (vK_18 _ (vp_lt hi10)) hc16 wm_799 wm_801 wm_800 wm_69 ⟨by decide, by decide⟩ (Nat.le_of_ble_eq_true rfl) dX8_copy_139 ?_
                refine pp_iconst hF dX8_copy_142 ic_1 ?_
                obtain ⟨rfl, rfl⟩ := pp_i2 h
                exact pp_ireturn hF hR dX8_copy_143
          · replace h := (if_neg c11).symm.trans h
            refine pp_aload_n hF dX8_copy_69 rfl rfl ?_
            refine pp_getR hF fdK_X8_40 dX8_copy_70 ?_
            refine pp_iconst hF dX8_copy_73 ic_4 ?_
            obtain ⟨x74, hx74, h⟩ := pp_bd h
            refine pp_callVi hF (c_X7_found hx74) mV_X7_found lk_X8_145 obK_16 rfl rfl ⟨by decide, by decide⟩ (Nat.le_of_ble_eq_true rfl) dX8_copy_74 ?_
            obtain ⟨rfl, rfl⟩ := pp_i2 h
            exact pp_ireturn hF hR dX8_copy_77
        · replace h := (if_neg c8).symm.trans h
          refine pp_few [0] (lv' := [(0, ppR 0 0 0)]) rfl ?_
          exact e_X8_copy_39 hF hR h
      · replace h := (if_neg c6).symm.trans h
        refine pp_few [0] (lv' := [(0, ppR 0 0 0)]) rfl ?_
        exact e_X8_copy_39 hF hR h
set_option maxRecDepth 20000 in
theorem c_X8_copy {r' : Int32} {σ' : pp_M} {σ : pp_M} {a1 : Int32} {a2 : Int32} {a3 : Int32} {a4 : Int32} {a5 : Int32} (h : f_X8_copy σ a1 a2 a3 a4 a5 = some (r', σ')) : pp_Ct yX8_copy cX8_copy 6 (some .int) 3 100 dsK [ppR 0 0 0, ppI a1, ppI a2, ppI a3, ppI a4, ppI a5] σ (some (ppI r')) σ' := pp_met pl_X8 rfl okK (Nat.le_of_ble_eq_true rfl) rfl (fun Γ hF hR => (e_X8_copy_0 hF hR h))
set_option maxRecDepth 20000 in
theorem e_X8_count_0 {Γ : pp_G} {r' : Int32} {σ' : pp_M} (hF : pp_Fx Γ dsK cX8_count 2 RX8 3 60) (hR : pp_Rt Γ dsK (some .int) (some (ppI r')) σ') {σ : pp_M} {a1 : Int32} (h : f_X8_count σ a1 = some (r', σ')) : pp_E Γ dsK cX8_count 2 0 [(0, ppR 0 0 0), (1, ppI a1)] [] σ := by
  unfold f_X8_count at h
  refine pp_iload_n hF dX8_count_0 rfl rfl ?_
  refine pp_tsw9 hF dX8_count_1 rfl rfl rfl rfl rfl rfl rfl rfl rfl rfl (fun c1 => ?_) (fun c1 => ?_) (fun c1 => ?_) (fun c1 => ?_) (fun c1 => ?_) (fun c1 => ?_) (fun c1 => ?_) (fun c1 => ?_) (fun c1 => ?_) (fun n0 n1 n2 n3 n4 n5 n6 n7 n8 => ?_)
  · subst c1
    replace h := (if_pos rfl).symm.trans h
    refine pp_aload_n hF dX8_count_52 rfl rfl ?_
    refine pp_getI hF fdK_X8_78 dX8_count_53 ?_
    obtain ⟨rfl, rfl⟩ := pp_i2 h
    exact pp_ireturn hF hR dX8_count_56
  · subst c1
    replace h := (if_neg (by decide)).symm.trans h
    replace h := (if_pos rfl).symm.trans h
    refine pp_aload_n hF dX8_count_57 rfl rfl ?_
    refine pp_getR hF fdK_X8_12 dX8_count_58 ?_
    refine pp_aload_n hF dX8_count_61 rfl rfl ?_
    refine pp_getR hF fdK_X8_66 dX8_count_62 ?_
    obtain ⟨x65, hx65, h⟩ := pp_bd h
    refine pp_callVi hF (c_X1_weightOf vK_35 hx65) mV_X1_weightOf lk_X8_179 obK_1 rfl rfl ⟨by decide, by decide⟩ (Nat.le_of_ble_eq_true rfl) dX8_count_65 ?_
    obtain ⟨rfl, rfl⟩ := pp_i2 h
    exact pp_ireturn hF hR dX8_count_68
  · subst c1
    replace h := (if_neg (by decide)).symm.trans h
    replace h := (if_neg (by decide)).symm.trans h
    replace h := (if_pos rfl).symm.trans h
    refine pp_aload_n hF dX8_count_69 rfl rfl ?_
    refine pp_getR hF fdK_X8_19 dX8_count_70 ?_
    obtain ⟨x73, hx73, h⟩ := pp_bd h
    refine pp_callVi hF (c_X2_countRoads hx73) mV_X2_countRoads lk_X8_329 obK_4 rfl rfl ⟨by decide, by decide⟩ (Nat.le_of_ble_eq_true rfl) dX8_count_73 ?_
    obtain ⟨rfl, rfl⟩ := pp_i2 h
    exact pp_ireturn hF hR dX8_count_76
  · subst c1
    replace h := (if_neg (by decide)).symm.trans h
    replace h := (if_neg (by decide)).symm.trans h
    replace h := (if_neg (by decide)).symm.trans h
    replace h := (if_pos rfl).symm.trans h
    refine pp_aload_n hF dX8_count_77 rfl rfl ?_
    refine pp_getR hF fdK_X8_26 dX8_count_78 ?_
    obtain ⟨x81, hx81, h⟩ := pp_bd h
    refine pp_callVi hF (c_X4_countChances hx81) mV_X4_countChances lk_X8_332 obK_9 rfl rfl ⟨by decide, by decide⟩ (Nat.le_of_ble_eq_true rfl) dX8_count_81 ?_
    obtain ⟨rfl, rfl⟩ := pp_i2 h
    exact pp_ireturn hF hR dX8_count_84
  · subst c1
    replace h := (if_neg (by decide)).symm.trans h
    replace h := (if_neg (by decide)).symm.trans h
    replace h := (if_neg (by decide)).symm.trans h
    replace h := (if_neg (by decide)).symm.trans h
    replace h := (if_pos rfl).symm.trans h
    refine pp_aload_n hF dX8_count_85 rfl rfl ?_
    refine pp_getR hF fdK_X8_33 dX8_count_86 ?_
    refine pp_getI hF fdK_X8_125 dX8_count_89 ?_
    obtain ⟨rfl, rfl⟩ := pp_i2 h
    exact pp_ireturn hF hR dX8_count_92
  · subst c1
    replace h := (if_neg (by decide)).symm.trans h
    replace h := (if_neg (by decide)).symm.trans h
    replace h := (if_neg (by decide)).symm.trans h
    replace h := (if_neg (by decide)).symm.trans h
    replace h := (if_neg (by decide)).symm.trans h
    replace h := (if_pos rfl).symm.trans h
    refine pp_aload_n hF dX8_count_93 rfl rfl ?_
    refine pp_getI hF fdK_X8_82 dX8_count_94 ?_
    obtain ⟨rfl, rfl⟩ := pp_i2 h
    exact pp_ireturn hF hR dX8_count_97
  · subst c1
    replace h := (if_neg (by decide)).symm.trans h
    replace h := (if_neg (by decide)).symm.trans h
    replace h := (if_neg (by decide)).symm.trans h
    replace h := (if_neg (by decide)).symm.trans h
    replace h := (if_neg (by decide)).symm.trans h
    replace h := (if_neg (by decide)).symm.trans h
    replace h := (if_pos rfl).symm.trans h
    refine pp_aload_n hF dX8_count_98 rfl rfl ?_
    refine pp_getI hF fdK_X8_85 dX8_count_99 ?_
    obtain ⟨rfl, rfl⟩ := pp_i2 h
    exact pp_ireturn hF hR dX8_count_102
  · subst c1
    replace h := (if_neg (by decide)).symm.trans h
    replace h := (if_neg (by decide)).symm.trans h
    replace h := (if_neg (by decide)).symm.trans h
    replace h := (if_neg (by decide)).symm.trans h
    replace h := (if_neg (by decide)).symm.trans h
    replace h := (if_neg (by decide)).symm.trans h
    replace h := (if_neg (by decide)).symm.trans h
    replace h := (if_pos rfl).symm.trans h
    refine pp_aload_n hF dX8_count_103 rfl rfl ?_
    refine pp_getI hF fdK_X8_88 dX8_count_104 ?_
    obtain ⟨rfl, rfl⟩ := pp_i2 h
    exact pp_ireturn hF hR dX8_count_107
  · subst c1
    replace h := (if_neg (by decide)).symm.trans h
    replace h := (if_neg (by decide)).symm.trans h
    replace h := (if_neg (by decide)).symm.trans h
    replace h := (if_neg (by decide)).symm.trans h
    replace h := (if_neg (by decide)).symm.trans h
    replace h := (if_neg (by decide)).symm.trans h
    replace h := (if_neg (by decide)).symm.trans h
    replace h := (if_neg (by decide)).symm.trans h
    replace h := (if_pos rfl).symm.trans h
    refine pp_aload_n hF dX8_count_108 rfl rfl ?_
    refine pp_getR hF fdK_X8_40 dX8_count_109 ?_
    refine pp_getI hF fdK_X8_335 dX8_count_112 ?_
    obtain ⟨rfl, rfl⟩ := pp_i2 h
    exact pp_ireturn hF hR dX8_count_115
  · replace h := (if_neg n0).symm.trans h
    replace h := (if_neg n1).symm.trans h
    replace h := (if_neg n2).symm.trans h
    replace h := (if_neg n3).symm.trans h
    replace h := (if_neg n4).symm.trans h
    replace h := (if_neg n5).symm.trans h
    replace h := (if_neg n6).symm.trans h
    replace h := (if_neg n7).symm.trans h
    replace h := (if_neg n8).symm.trans h
    refine pp_bipush hF dX8_count_116 bc_n2 ?_
    obtain ⟨rfl, rfl⟩ := pp_i2 h
    exact pp_ireturn hF hR dX8_count_118
set_option maxRecDepth 20000 in
theorem c_X8_count {r' : Int32} {σ' : pp_M} {σ : pp_M} {a1 : Int32} (h : f_X8_count σ a1 = some (r', σ')) : pp_Ct yX8_count cX8_count 2 (some .int) 3 60 dsK [ppR 0 0 0, ppI a1] σ (some (ppI r')) σ' := pp_met pl_X8 rfl okK (Nat.le_of_ble_eq_true rfl) rfl (fun Γ hF hR => (e_X8_count_0 hF hR h))
set_option maxRecDepth 20000 in
theorem e_X8_fault_0 {Γ : pp_G} {r' : Int32} {σ' : pp_M} (hF : pp_Fx Γ dsK cX8_fault 1 RX8 6 125) (hR : pp_Rt Γ dsK (some .int) (some (ppI r')) σ') {σ : pp_M}  (h : f_X8_fault σ  = some (r', σ')) : pp_E Γ dsK cX8_fault 1 0 [(0, ppR 0 0 0)] [] σ := by
  unfold f_X8_fault at h
  refine pp_aload_n hF dX8_fault_0 rfl rfl ?_
  refine pp_getR hF fdK_X8_33 dX8_fault_1 ?_
  obtain ⟨x4, hx4, h⟩ := pp_bd h
  refine pp_callVi hF (c_X3_findFault hx4) mV_X3_findFault lk_X8_128 obK_13 rfl rfl ⟨by decide, by decide⟩ (Nat.le_of_ble_eq_true rfl) dX8_fault_4 ?_
  obtain ⟨rfl, rfl⟩ := pp_i2 h
  exact pp_ireturn hF hR dX8_fault_7
set_option maxRecDepth 20000 in
theorem c_X8_fault {r' : Int32} {σ' : pp_M} {σ : pp_M}  (h : f_X8_fault σ  = some (r', σ')) : pp_Ct yX8_fault cX8_fault 1 (some .int) 6 125 dsK [ppR 0 0 0] σ (some (ppI r')) σ' := pp_met pl_X8 rfl okK (Nat.le_of_ble_eq_true rfl) rfl (fun Γ hF hR => (e_X8_fault_0 hF hR h))
set_option maxRecDepth 20000 in
theorem e_X8_hours_0 {Γ : pp_G} {r' : Int32} {σ' : pp_M} (hF : pp_Fx Γ dsK cX8_hours 1 RX8 2 37) (hR : pp_Rt Γ dsK (some .int) (some (ppI r')) σ') {σ : pp_M}  (h : f_X8_hours σ  = some (r', σ')) : pp_E Γ dsK cX8_hours 1 0 [(0, ppR 0 0 0)] [] σ := by
  unfold f_X8_hours at h
  refine pp_aload_n hF dX8_hours_0 rfl rfl ?_
  refine pp_getR hF fdK_X8_19 dX8_hours_1 ?_
  refine pp_aload_n hF dX8_hours_4 rfl rfl ?_
  refine pp_getR hF fdK_X8_62 dX8_hours_5 ?_
  refine pp_aload_n hF dX8_hours_8 rfl rfl ?_
  refine pp_getI hF fdK_X8_78 dX8_hours_9 ?_
  obtain ⟨x12, hx12, h⟩ := pp_bd h
  refine pp_callVi hF (c_X2_hoursOf vK_34 hx12) mV_X2_hoursOf lk_X8_186 obK_4 rfl rfl ⟨by decide, by decide⟩ (Nat.le_of_ble_eq_true rfl) dX8_hours_12 ?_
  obtain ⟨rfl, rfl⟩ := pp_i2 h
  exact pp_ireturn hF hR dX8_hours_15
set_option maxRecDepth 20000 in
theorem c_X8_hours {r' : Int32} {σ' : pp_M} {σ : pp_M}  (h : f_X8_hours σ  = some (r', σ')) : pp_Ct yX8_hours cX8_hours 1 (some .int) 2 37 dsK [ppR 0 0 0] σ (some (ppI r')) σ' := pp_met pl_X8 rfl okK (Nat.le_of_ble_eq_true rfl) rfl (fun Γ hF hR => (e_X8_hours_0 hF hR h))
set_option maxRecDepth 20000 in
theorem e_X8_judged_0 {Γ : pp_G} {r' : Int32} {σ' : pp_M} (hF : pp_Fx Γ dsK cX8_judged 1 RX8 3 57) (hR : pp_Rt Γ dsK (some .int) (some (ppI r')) σ') {σ : pp_M}  (h : f_X8_judged σ  = some (r', σ')) : pp_E Γ dsK cX8_judged 1 0 [(0, ppR 0 0 0)] [] σ := by
  unfold f_X8_judged at h
  refine pp_aload_n hF dX8_judged_0 rfl rfl ?_
  refine pp_getR hF fdK_X8_12 dX8_judged_1 ?_
  refine pp_aload_n hF dX8_judged_4 rfl rfl ?_
  refine pp_getR hF fdK_X8_66 dX8_judged_5 ?_
  obtain ⟨x8, hx8, h⟩ := pp_bd h
  refine pp_callVi hF (c_X1_weightOf vK_35 hx8) mV_X1_weightOf lk_X8_179 obK_1 rfl rfl ⟨by decide, by decide⟩ (Nat.le_of_ble_eq_true rfl) dX8_judged_8 ?_
  refine pp_aload_n hF dX8_judged_11 rfl rfl ?_
  refine pp_getI hF fdK_X8_85 dX8_judged_12 ?_
  refine pp_icmp_le (tgt := 20) hF dX8_judged_15 rfl (fun c2 => ?_) (fun c2 => ?_)
  · replace h := (if_pos c2).symm.trans h
    refine pp_iconst hF dX8_judged_18 ic_1 ?_
    obtain ⟨rfl, rfl⟩ := pp_i2 h
    exact pp_ireturn hF hR dX8_judged_19
  · replace h := (if_neg c2).symm.trans h
    refine pp_aload_n hF dX8_judged_20 rfl rfl ?_
    obtain ⟨x21, hx21, h⟩ := pp_bd h
    refine pp_callVi hF (c_X8_hours hx21) mV_X8_hours lk_X8_183 obK_0 rfl rfl ⟨by decide, by decide⟩ (Nat.le_of_ble_eq_true rfl) dX8_judged_21 ?_
    refine pp_aload_n hF dX8_judged_24 rfl rfl ?_
    refine pp_getI hF fdK_X8_82 dX8_judged_25 ?_
    refine pp_icmp_le (tgt := 35) hF dX8_judged_28 rfl (fun c4 => ?_) (fun c4 => ?_)
    · replace h := (if_pos c4).symm.trans h
      refine pp_iconst hF dX8_judged_31 ic_2 ?_
      refine pp_goto (tgt := 36) hF dX8_judged_32 rfl ?_
      obtain ⟨rfl, rfl⟩ := pp_i2 h
      exact pp_ireturn hF hR dX8_judged_36
    · replace h := (if_neg c4).symm.trans h
      refine pp_iconst hF dX8_judged_35 ic_0 ?_
      obtain ⟨rfl, rfl⟩ := pp_i2 h
      exact pp_ireturn hF hR dX8_judged_36
set_option maxRecDepth 20000 in
theorem c_X8_judged {r' : Int32} {σ' : pp_M} {σ : pp_M}  (h : f_X8_judged σ  = some (r', σ')) : pp_Ct yX8_judged cX8_judged 1 (some .int) 3 57 dsK [ppR 0 0 0] σ (some (ppI r')) σ' := pp_met pl_X8 rfl okK (Nat.le_of_ble_eq_true rfl) rfl (fun Γ hF hR => (e_X8_judged_0 hF hR h))
set_option maxRecDepth 20000 in
theorem e_X8_loadTerm_0 {Γ : pp_G} {r' : Int64} {σ' : pp_M} (hF : pp_Fx Γ dsK cX8_loadTerm 3 RX8 4 152) (hR : pp_Rt Γ dsK (some .long) (some (ppL r')) σ') {σ : pp_M} {a1 : Int32} {a2 : Int32} (h : f_X8_loadTerm σ a1 a2 = some (r', σ')) : pp_E Γ dsK cX8_loadTerm 3 0 [(0, ppR 0 0 0), (1, ppI a1), (2, ppI a2)] [] σ := by
  unfold f_X8_loadTerm at h
  refine pp_iload_n hF dX8_loadTerm_0 rfl rfl ?_
  refine pp_if_ne (tgt := 24) hF dX8_loadTerm_1 rfl (fun c1 => ?_) (fun c1 => ?_)
  · replace h := (if_pos c1).symm.trans h
    refine pp_aload_n hF dX8_loadTerm_4 rfl rfl ?_
    refine pp_getR hF fdK_X8_58 dX8_loadTerm_5 ?_
    refine pp_aload_n hF dX8_loadTerm_8 rfl rfl ?_
    refine pp_getI hF fdK_X8_85 dX8_loadTerm_9 ?_
    refine pp_iconst hF dX8_loadTerm_12 ic_n1 ?_
    obtain ⟨x13, hx13, h⟩ := pp_bd h
    refine pp_callVl hF (c_X5_mostGain hx13) mV_X5_mostGain lk_X8_298 obK_25 rfl rfl ⟨by decide, by decide⟩ (Nat.le_of_ble_eq_true rfl) dX8_loadTerm_13 ?_
    refine pp_ldc2 hF wm_526 dX8_loadTerm_16 ?_
    refine pp_iload_n hF dX8_loadTerm_19 rfl rfl ?_
    obtain ⟨x20, hx20, h⟩ := pp_bd h
    refine pp_callSl hF (c_X8_term hx20) mS_X8_term lk_X8_214 rfl rfl ⟨by decide, by decide⟩ (Nat.le_of_ble_eq_true rfl) dX8_loadTerm_20 ?_
    obtain ⟨rfl, rfl⟩ := pp_i2 h
    exact pp_lreturn hF hR dX8_loadTerm_23
  · replace h := (if_neg c1).symm.trans h
    refine pp_iload_n hF dX8_loadTerm_24 rfl rfl ?_
    refine pp_iconst hF dX8_loadTerm_25 ic_1 ?_
    refine pp_icmp_ne (tgt := 62) hF dX8_loadTerm_26 rfl (fun c4 => ?_) (fun c4 => ?_)
    · replace h := (if_pos c4).symm.trans h
      refine pp_aload_n hF dX8_loadTerm_29 rfl rfl ?_
      refine pp_getR hF fdK_X8_58 dX8_loadTerm_30 ?_
      refine pp_aload_n hF dX8_loadTerm_33 rfl rfl ?_
      refine pp_getI hF fdK_X8_85 dX8_loadTerm_34 ?_
      obtain ⟨x37, hx37, h⟩ := pp_bd h
      refine pp_callVv hF (c_X5_chooseLoaded hx37) mV_X5_chooseLoaded lk_X8_251 obK_25 rfl rfl ⟨by decide, by decide⟩ (Nat.le_of_ble_eq_true rfl) dX8_loadTerm_37 ?_
      refine pp_aload_n hF dX8_loadTerm_40 rfl rfl ?_
      refine pp_getR hF fdK_X8_58 dX8_loadTerm_41 ?_
      refine pp_aload_n hF dX8_loadTerm_44 rfl rfl ?_
      refine pp_getR hF fdK_X8_58 dX8_loadTerm_45 ?_
      refine pp_getR hF fdK_X8_254 dX8_loadTerm_48 ?_
      obtain ⟨x51, hx51, h⟩ := pp_bd h
      refine pp_callVl hF (c_X5_gainOf vK_33 hx51) mV_X5_gainOf lk_X8_233 obK_25 rfl rfl ⟨by decide, by decide⟩ (Nat.le_of_ble_eq_true rfl) dX8_loadTerm_51 ?_
      refine pp_ldc2 hF wm_526 dX8_loadTerm_54 ?_
      refine pp_iload_n hF dX8_loadTerm_57 rfl rfl ?_
      obtain ⟨x58, hx58, h⟩ := pp_bd h
      refine pp_callSl hF (c_X8_term hx58) mS_X8_term lk_X8_214 rfl rfl ⟨by decide, by decide⟩ (Nat.le_of_ble_eq_true rfl) dX8_loadTerm_58 ?_
      obtain ⟨rfl, rfl⟩ := pp_i2 h
      exact pp_lreturn hF hR dX8_loadTerm_61
    · replace h := (if_neg c4).symm.trans h
      refine pp_aload_n hF dX8_loadTerm_62 rfl rfl ?_
      refine pp_getR hF fdK_X8_58 dX8_loadTerm_63 ?_
      refine pp_aload_n hF dX8_loadTerm_66 rfl rfl ?_
      refine pp_getI hF fdK_X8_85 dX8_loadTerm_67 ?_
      obtain ⟨x70, hx70, h⟩ := pp_bd h
      refine pp_callVv hF (c_X5_findBound hx70) mV_X5_findBound lk_X8_370 obK_25 rfl rfl ⟨by decide, by decide⟩ (Nat.le_of_ble_eq_true rfl) dX8_loadTerm_70 ?_
      refine pp_aload_n hF dX8_loadTerm_73 rfl rfl ?_
      refine pp_getR hF fdK_X8_58 dX8_loadTerm_74 ?_
      refine pp_getL hF fdK_X8_373 dX8_loadTerm_77 ?_
      refine pp_aload_n hF dX8_loadTerm_80 rfl rfl ?_
      refine pp_getR hF fdK_X8_58 dX8_loadTerm_81 ?_
      refine pp_getL hF fdK_X8_376 dX8_loadTerm_84 ?_
      refine pp_iload_n hF dX8_loadTerm_87 rfl rfl ?_
      obtain ⟨x88, hx88, h⟩ := pp_bd h
      refine pp_callSl hF (c_X8_term hx88) mS_X8_term lk_X8_214 rfl rfl ⟨by decide, by decide⟩ (Nat.le_of_ble_eq_true rfl) dX8_loadTerm_88 ?_
      obtain ⟨rfl, rfl⟩ := pp_i2 h
      exact pp_lreturn hF hR dX8_loadTerm_91
set_option maxRecDepth 20000 in
theorem c_X8_loadTerm {r' : Int64} {σ' : pp_M} {σ : pp_M} {a1 : Int32} {a2 : Int32} (h : f_X8_loadTerm σ a1 a2 = some (r', σ')) : pp_Ct yX8_loadTerm cX8_loadTerm 3 (some .long) 4 152 dsK [ppR 0 0 0, ppI a1, ppI a2] σ (some (ppL r')) σ' := pp_met pl_X8 rfl okK (Nat.le_of_ble_eq_true rfl) rfl (fun Γ hF hR => (e_X8_loadTerm_0 hF hR h))
set_option maxRecDepth 20000 in
theorem e_X8_digest_229 {Γ : pp_G} {r' : Int64} {σ' : pp_M} (hF : pp_Fx Γ dsK cX8_digest 5 RX8 7 183) (hR : pp_Rt Γ dsK (some .long) (some (ppL r')) σ') {σ : pp_M} {a1 : Int64} {a3 : Int32} {k229 : pp_M → Int64 → Int32 → Option (Int64 × pp_M)} (hk229 : ∀ {σ : pp_M} {a1 : Int64} {a3 : Int32}, k229 σ a1 a3 = some (r', σ') → pp_E Γ dsK cX8_digest 5 229 [(0, ppR 0 0 0), (1, ppL a1), (3, ppI a3)] [] σ) (h : f_X8_digest_229_B k229 σ a1 a3 = some (r', σ')) : pp_E Γ dsK cX8_digest 5 229 [(0, ppR 0 0 0), (1, ppL a1), (3, ppI a3)] [] σ := by
  unfold f_X8_digest_229_B at h
  refine pp_iload_n hF dX8_digest_229 rfl rfl ?_
  refine pp_iconst hF dX8_digest_230 ic_3 ?_
  refine pp_icmp_ge (tgt := 266) hF dX8_digest_231 rfl (fun c1 => ?_) (fun c1 => ?_)
  · replace h := (if_pos c1).symm.trans h
    refine pp_ldc2 hF wm_824 dX8_digest_234 ?_
    refine pp_lload_n hF dX8_digest_237 rfl rfl ?_
    refine pp_lmul hF dX8_digest_238 ?_
    refine pp_aload_n hF dX8_digest_239 rfl rfl ?_
    refine pp_iload_n hF dX8_digest_240 rfl rfl ?_
    refine pp_iconst hF dX8_digest_241 ic_0 ?_
    obtain ⟨x242, hx242, h⟩ := pp_bd h
    refine pp_callVl hF (c_X8_loadTerm hx242) mV_X8_loadTerm lk_X8_247 obK_0 rfl rfl ⟨by decide, by decide⟩ (Nat.le_of_ble_eq_true rfl) dX8_digest_242 ?_
    refine pp_ladd hF dX8_digest_245 ?_
    refine pp_lstore_n hF dX8_digest_246 rfl (by decide) (lv' := [(0, ppR 0 0 0), (1, ppL (((31 : Int64) * a1) + x242.1)), (3, ppI a3)]) rfl ?_
    refine pp_ldc2 hF wm_824 dX8_digest_247 ?_
    refine pp_lload_n hF dX8_digest_250 rfl rfl ?_
    refine pp_lmul hF dX8_digest_251 ?_
    refine pp_aload_n hF dX8_digest_252 rfl rfl ?_
    refine pp_iload_n hF dX8_digest_253 rfl rfl ?_
    refine pp_iconst hF dX8_digest_254 ic_1 ?_
    obtain ⟨x255, hx255, h⟩ := pp_bd h
    refine pp_callVl hF (c_X8_loadTerm hx255) mV_X8_loadTerm lk_X8_247 obK_0 rfl rfl ⟨by decide, by decide⟩ (Nat.le_of_ble_eq_true rfl) dX8_digest_255 ?_
    refine pp_ladd hF dX8_digest_258 ?_
    refine pp_lstore_n hF dX8_digest_259 rfl (by decide) (lv' := [(0, ppR 0 0 0), (1, ppL (((31 : Int64) * (((31 : Int64) * a1) + x242.1)) + x255.1)), (3, ppI a3)]) rfl ?_
    refine pp_iinc hF dX8_digest_260 rfl (congrArg (HAdd.hAdd _) ic_1) (by decide) (lv' := [(0, ppR 0 0 0), (1, ppL (((31 : Int64) * (((31 : Int64) * a1) + x242.1)) + x255.1)), (3, ppI (a3 + (1 : Int32)))]) rfl ?_
    refine pp_goto (tgt := 229) hF dX8_digest_263 rfl ?_
    exact hk229 h
  · replace h := (if_neg c1).symm.trans h
    refine pp_ldc2 hF wm_824 dX8_digest_266 ?_
    refine pp_lload_n hF dX8_digest_269 rfl rfl ?_
    refine pp_lmul hF dX8_digest_270 ?_
    refine pp_aload_n hF dX8_digest_271 rfl rfl ?_
    refine pp_getR hF fdK_X8_58 dX8_digest_272 ?_
    refine pp_aload_n hF dX8_digest_275 rfl rfl ?_
    refine pp_getI hF fdK_X8_85 dX8_digest_276 ?_
    obtain ⟨x279, hx279, h⟩ := pp_bd h
    refine pp_callVi hF (c_X5_leastBringing hx279) mV_X5_leastBringing lk_X8_301 obK_25 rfl rfl ⟨by decide, by decide⟩ (Nat.le_of_ble_eq_true rfl) dX8_digest_279 ?_
    refine pp_i2l hF dX8_digest_282 ?_
    refine pp_ladd hF dX8_digest_283 ?_
    obtain ⟨rfl, rfl⟩ := pp_i2 h
    exact pp_lreturn hF hR dX8_digest_284
set_option maxRecDepth 20000 in
theorem e_X8_digest_229_L {Γ : pp_G} {r' : Int64} {σ' : pp_M} (hF : pp_Fx Γ dsK cX8_digest 5 RX8 7 183) (hR : pp_Rt Γ dsK (some .long) (some (ppL r')) σ') : ∀ {n : Nat} {σ : pp_M} {a1 : Int64} {a3 : Int32}, f_X8_digest_229 n σ a1 a3 = some (r', σ') → pp_E Γ dsK cX8_digest 5 229 [(0, ppR 0 0 0), (1, ppL a1), (3, ppI a3)] [] σ
  | 0, _, _, _ => fun h => by cases h
  | n + 1, _, _, _ => fun h => e_X8_digest_229 hF hR (fun h => e_X8_digest_229_L hF hR (n := n) h) h
set_option maxRecDepth 20000 in
theorem e_X8_digest_80 {Γ : pp_G} {r' : Int64} {σ' : pp_M} (hF : pp_Fx Γ dsK cX8_digest 5 RX8 7 183) (hR : pp_Rt Γ dsK (some .long) (some (ppL r')) σ') {σ : pp_M} {a1 : Int64} {a3 : Int32} {a4 : Int32} {k71 : pp_M → Int64 → Int32 → Option (Int64 × pp_M)} (hk71 : ∀ {σ : pp_M} {a1 : Int64} {a3 : Int32}, k71 σ a1 a3 = some (r', σ') → pp_E Γ dsK cX8_digest 5 71 [(0, ppR 0 0 0), (1, ppL a1), (3, ppI a3)] [] σ) {k80 : pp_M → Int64 → Int32 → Int32 → Option (Int64 × pp_M)} (hk80 : ∀ {σ : pp_M} {a1 : Int64} {a3 : Int32} {a4 : Int32}, k80 σ a1 a3 a4 = some (r', σ') → pp_E Γ dsK cX8_digest 5 80 [(0, ppR 0 0 0), (1, ppL a1), (3, ppI a3), (4, ppI a4)] [] σ) (h : f_X8_digest_80_B k71 k80 σ a1 a3 a4 = some (r', σ')) : pp_E Γ dsK cX8_digest 5 80 [(0, ppR 0 0 0), (1, ppL a1), (3, ppI a3), (4, ppI a4)] [] σ := by
  unfold f_X8_digest_80_B at h
  refine pp_iload hF dX8_digest_80 rfl ?_
  refine pp_bipush hF dX8_digest_82 bc_6 ?_
  refine pp_icmp_ge (tgt := 113) hF dX8_digest_84 rfl (fun c1 => ?_) (fun c1 => ?_)
  · replace h := (if_pos c1).symm.trans h
    refine pp_ldc2 hF wm_824 dX8_digest_87 ?_
    refine pp_lload_n hF dX8_digest_90 rfl rfl ?_
    refine pp_lmul hF dX8_digest_91 ?_
    refine pp_aload_n hF dX8_digest_92 rfl rfl ?_
    refine pp_getR hF fdK_X8_12 dX8_digest_93 ?_
    refine pp_getR hF fdK_X8_102 dX8_digest_96 ?_
    refine pp_iload_n hF dX8_digest_99 rfl rfl ?_
    obtain ⟨hi2, h⟩ := pp_ck h
    refine pp_aaloadI hF vK_2 hi2 dX8_digest_100 ?_
    refine pp_iload hF dX8_digest_101 rfl ?_
    obtain ⟨hi3, h⟩ := pp_ck h
    refine pp_ialoadJ hF (vK_3 _ (vp_lt hi2)) hi3 rfl dX8_digest_103 ?_
    refine pp_i2l hF dX8_digest_104 ?_
    refine pp_ladd hF dX8_digest_105 ?_
    refine pp_lstore_n hF dX8_digest_106 rfl (by decide) (lv' := [(0, ppR 0 0 0), (1, ppL (((31 : Int64) * a1) + (((σ.1 3 ((a3.toNatClampNeg * 6) + a4.toNatClampNeg))).toInt64))), (3, ppI a3), (4, ppI a4)]) rfl ?_
    refine pp_iinc hF dX8_digest_107 rfl (congrArg (HAdd.hAdd _) ic_1) (by decide) (lv' := [(0, ppR 0 0 0), (1, ppL (((31 : Int64) * a1) + (((σ.1 3 ((a3.toNatClampNeg * 6) + a4.toNatClampNeg))).toInt64))), (3, ppI a3), (4, ppI (a4 + (1 : Int32)))]) rfl ?_
    refine pp_goto (tgt := 80) hF dX8_digest_110 rfl ?_
    exact hk80 h
  · replace h := (if_neg c1).symm.trans h
    refine pp_ldc2 hF wm_824 dX8_digest_113 ?_
    refine pp_lload_n hF dX8_digest_116 rfl rfl ?_
    refine pp_lmul hF dX8_digest_117 ?_
    refine pp_aload_n hF dX8_digest_118 rfl rfl ?_
    refine pp_getR hF fdK_X8_58 dX8_digest_119 ?_
    refine pp_getR hF fdK_X8_241 dX8_digest_122 ?_
    refine pp_iload_n hF dX8_digest_125 rfl rfl ?_
    obtain ⟨hi4, h⟩ := pp_ck h
    refine pp_ialoadJ hF vK_32 hi4 (Nat.zero_add _) dX8_digest_126 ?_
    refine pp_i2l hF dX8_digest_127 ?_
    refine pp_ladd hF dX8_digest_128 ?_
    refine pp_lstore_n hF dX8_digest_129 rfl (by decide) (lv' := [(0, ppR 0 0 0), (1, ppL (((31 : Int64) * a1) + (((σ.1 32 a3.toNatClampNeg)).toInt64))), (3, ppI a3), (4, ppI a4)]) rfl ?_
    refine pp_ldc2 hF wm_824 dX8_digest_130 ?_
    refine pp_lload_n hF dX8_digest_133 rfl rfl ?_
    refine pp_lmul hF dX8_digest_134 ?_
    refine pp_aload_n hF dX8_digest_135 rfl rfl ?_
    refine pp_getR hF fdK_X8_58 dX8_digest_136 ?_
    refine pp_getR hF fdK_X8_254 dX8_digest_139 ?_
    refine pp_iload_n hF dX8_digest_142 rfl rfl ?_
    refine pp_ialoadJ hF vK_33 hi4 (Nat.zero_add _) dX8_digest_143 ?_
    refine pp_i2l hF dX8_digest_144 ?_
    refine pp_ladd hF dX8_digest_145 ?_
    refine pp_lstore_n hF dX8_digest_146 rfl (by decide) (lv' := [(0, ppR 0 0 0), (1, ppL (((31 : Int64) * (((31 : Int64) * a1) + (((σ.1 32 a3.toNatClampNeg)).toInt64))) + (((σ.1 33 a3.toNatClampNeg)).toInt64))), (3, ppI a3), (4, ppI a4)]) rfl ?_
    refine pp_iinc hF dX8_digest_147 rfl (congrArg (HAdd.hAdd _) ic_1) (by decide) (lv' := [(0, ppR 0 0 0), (1, ppL (((31 : Int64) * (((31 : Int64) * a1) + (((σ.1 32 a3.toNatClampNeg)).toInt64))) + (((σ.1 33 a3.toNatClampNeg)).toInt64))), (3, ppI (a3 + (1 : Int32))), (4, ppI a4)]) rfl ?_
    refine pp_goto (tgt := 71) hF dX8_digest_150 rfl ?_
    refine pp_few [0, 1, 2] (lv' := [(0, ppR 0 0 0), (1, ppL (((31 : Int64) * (((31 : Int64) * a1) + (((σ.1 32 a3.toNatClampNeg)).toInt64))) + (((σ.1 33 a3.toNatClampNeg)).toInt64))), (3, ppI (a3 + (1 : Int32)))]) rfl ?_
    exact hk71 h
set_option maxRecDepth 20000 in
theorem e_X8_digest_80_L {Γ : pp_G} {r' : Int64} {σ' : pp_M} (hF : pp_Fx Γ dsK cX8_digest 5 RX8 7 183) (hR : pp_Rt Γ dsK (some .long) (some (ppL r')) σ') {k71 : pp_M → Int64 → Int32 → Option (Int64 × pp_M)} (hk71 : ∀ {σ : pp_M} {a1 : Int64} {a3 : Int32}, k71 σ a1 a3 = some (r', σ') → pp_E Γ dsK cX8_digest 5 71 [(0, ppR 0 0 0), (1, ppL a1), (3, ppI a3)] [] σ) : ∀ {n : Nat} {σ : pp_M} {a1 : Int64} {a3 : Int32} {a4 : Int32}, f_X8_digest_80 k71 n σ a1 a3 a4 = some (r', σ') → pp_E Γ dsK cX8_digest 5 80 [(0, ppR 0 0 0), (1, ppL a1), (3, ppI a3), (4, ppI a4)] [] σ
  | 0, _, _, _, _ => fun h => by cases h
  | n + 1, _, _, _, _ => fun h => e_X8_digest_80 hF hR hk71 (fun h => e_X8_digest_80_L hF hR hk71 (n := n) h) h
set_option maxRecDepth 20000 in
theorem e_X8_digest_71 {Γ : pp_G} {r' : Int64} {σ' : pp_M} (hF : pp_Fx Γ dsK cX8_digest 5 RX8 7 183) (hR : pp_Rt Γ dsK (some .long) (some (ppL r')) σ') {σ : pp_M} {a1 : Int64} {a3 : Int32} {k71 : pp_M → Int64 → Int32 → Option (Int64 × pp_M)} (hk71 : ∀ {σ : pp_M} {a1 : Int64} {a3 : Int32}, k71 σ a1 a3 = some (r', σ') → pp_E Γ dsK cX8_digest 5 71 [(0, ppR 0 0 0), (1, ppL a1), (3, ppI a3)] [] σ) (h : f_X8_digest_71_B k71 σ a1 a3 = some (r', σ')) : pp_E Γ dsK cX8_digest 5 71 [(0, ppR 0 0 0), (1, ppL a1), (3, ppI a3)] [] σ := by
  unfold f_X8_digest_71_B at h
  refine pp_iload_n hF dX8_digest_71 rfl rfl ?_
  refine pp_bipush hF dX8_digest_72 bc_6 ?_
  refine pp_icmp_ge (tgt := 153) hF dX8_digest_74 rfl (fun c1 => ?_) (fun c1 => ?_)
  · replace h := (if_pos c1).symm.trans h
    refine pp_iconst hF dX8_digest_77 ic_0 ?_
    refine pp_istore hF dX8_digest_78 (by decide) (lv' := [(0, ppR 0 0 0), (1, ppL a1), (3, ppI a3), (4, ppI (0 : Int32))]) rfl ?_
    exact e_X8_digest_80_L hF hR hk71 h
  · replace h := (if_neg c1).symm.trans h
    refine pp_ldc2 hF wm_824 dX8_digest_153 ?_
    refine pp_lload_n hF dX8_digest_156 rfl rfl ?_
    refine pp_lmul hF dX8_digest_157 ?_
    refine pp_aload_n hF dX8_digest_158 rfl rfl ?_
    obtain ⟨x159, hx159, h⟩ := pp_bd h
    refine pp_callVi hF (c_X8_hours hx159) mV_X8_hours lk_X8_183 obK_0 rfl rfl ⟨by decide, by decide⟩ (Nat.le_of_ble_eq_true rfl) dX8_digest_159 ?_
    refine pp_i2l hF dX8_digest_162 ?_
    refine pp_ladd hF dX8_digest_163 ?_
    refine pp_lstore_n hF dX8_digest_164 rfl (by decide) (lv' := [(0, ppR 0 0 0), (1, ppL (((31 : Int64) * a1) + (x159.1.toInt64))), (3, ppI a3)]) rfl ?_
    refine pp_ldc2 hF wm_824 dX8_digest_165 ?_
    refine pp_lload_n hF dX8_digest_168 rfl rfl ?_
    refine pp_lmul hF dX8_digest_169 ?_
    refine pp_aload_n hF dX8_digest_170 rfl rfl ?_
    obtain ⟨x171, hx171, h⟩ := pp_bd h
    refine pp_callVi hF (c_X8_judged hx171) mV_X8_judged lk_X8_348 obK_0 rfl rfl ⟨by decide, by decide⟩ (Nat.le_of_ble_eq_true rfl) dX8_digest_171 ?_
    refine pp_i2l hF dX8_digest_174 ?_
    refine pp_ladd hF dX8_digest_175 ?_
    refine pp_lstore_n hF dX8_digest_176 rfl (by decide) (lv' := [(0, ppR 0 0 0), (1, ppL (((31 : Int64) * (((31 : Int64) * a1) + (x159.1.toInt64))) + (x171.1.toInt64))), (3, ppI a3)]) rfl ?_
    refine pp_ldc2 hF wm_824 dX8_digest_177 ?_
    refine pp_lload_n hF dX8_digest_180 rfl rfl ?_
    refine pp_lmul hF dX8_digest_181 ?_
    refine pp_aload_n hF dX8_digest_182 rfl rfl ?_
    refine pp_getR hF fdK_X8_58 dX8_digest_183 ?_
    refine pp_aload_n hF dX8_digest_186 rfl rfl ?_
    refine pp_getR hF fdK_X8_66 dX8_digest_187 ?_
    obtain ⟨x190, hx190, h⟩ := pp_bd h
    refine pp_callVl hF (c_X5_gainOf vK_35 hx190) mV_X5_gainOf lk_X8_233 obK_25 rfl rfl ⟨by decide, by decide⟩ (Nat.le_of_ble_eq_true rfl) dX8_digest_190 ?_
    refine pp_ldc2 hF wm_526 dX8_digest_193 ?_
    refine pp_iconst hF dX8_digest_196 ic_0 ?_
    obtain ⟨x197, hx197, h⟩ := pp_bd h
    refine pp_callSl hF (c_X8_term hx197) mS_X8_term lk_X8_214 rfl rfl ⟨by decide, by decide⟩ (Nat.le_of_ble_eq_true rfl) dX8_digest_197 ?_
    refine pp_ladd hF dX8_digest_200 ?_
    refine pp_lstore_n hF dX8_digest_201 rfl (by decide) (lv' := [(0, ppR 0 0 0), (1, ppL (((31 : Int64) * (((31 : Int64) * (((31 : Int64) * a1) + (x159.1.toInt64))) + (x171.1.toInt64))) + x197.1)), (3, ppI a3)]) rfl ?_
    refine pp_ldc2 hF wm_824 dX8_digest_202 ?_
    refine pp_lload_n hF dX8_digest_205 rfl rfl ?_
    refine pp_lmul hF dX8_digest_206 ?_
    refine pp_aload_n hF dX8_digest_207 rfl rfl ?_
    refine pp_getR hF fdK_X8_58 dX8_digest_208 ?_
    refine pp_aload_n hF dX8_digest_211 rfl rfl ?_
    refine pp_getR hF fdK_X8_66 dX8_digest_212 ?_
    obtain ⟨x215, hx215, h⟩ := pp_bd h
    refine pp_callVl hF (c_X5_gainOf vK_35 hx215) mV_X5_gainOf lk_X8_233 obK_25 rfl rfl ⟨by decide, by decide⟩ (Nat.le_of_ble_eq_true rfl) dX8_digest_215 ?_
    refine pp_ldc2 hF wm_526 dX8_digest_218 ?_
    refine pp_iconst hF dX8_digest_221 ic_1 ?_
    obtain ⟨x222, hx222, h⟩ := pp_bd h
    refine pp_callSl hF (c_X8_term hx222) mS_X8_term lk_X8_214 rfl rfl ⟨by decide, by decide⟩ (Nat.le_of_ble_eq_true rfl) dX8_digest_222 ?_
    refine pp_ladd hF dX8_digest_225 ?_
    refine pp_lstore_n hF dX8_digest_226 rfl (by decide) (lv' := [(0, ppR 0 0 0), (1, ppL (((31 : Int64) * (((31 : Int64) * (((31 : Int64) * (((31 : Int64) * a1) + (x159.1.toInt64))) + (x171.1.toInt64))) + x197.1)) + x222.1)), (3, ppI a3)]) rfl ?_
    refine pp_iconst hF dX8_digest_227 ic_0 ?_
    refine pp_istore_n hF dX8_digest_228 rfl (by decide) (lv' := [(0, ppR 0 0 0), (1, ppL (((31 : Int64) * (((31 : Int64) * (((31 : Int64) * (((31 : Int64) * a1) + (x159.1.toInt64))) + (x171.1.toInt64))) + x197.1)) + x222.1)), (3, ppI (0 : Int32))]) rfl ?_
    exact e_X8_digest_229_L hF hR h
set_option maxRecDepth 20000 in
theorem e_X8_digest_71_L {Γ : pp_G} {r' : Int64} {σ' : pp_M} (hF : pp_Fx Γ dsK cX8_digest 5 RX8 7 183) (hR : pp_Rt Γ dsK (some .long) (some (ppL r')) σ') : ∀ {n : Nat} {σ : pp_M} {a1 : Int64} {a3 : Int32}, f_X8_digest_71 n σ a1 a3 = some (r', σ') → pp_E Γ dsK cX8_digest 5 71 [(0, ppR 0 0 0), (1, ppL a1), (3, ppI a3)] [] σ
  | 0, _, _, _ => fun h => by cases h
  | n + 1, _, _, _ => fun h => e_X8_digest_71 hF hR (fun h => e_X8_digest_71_L hF hR (n := n) h) h
set_option maxRecDepth 20000 in
theorem e_X8_digest_32 {Γ : pp_G} {r' : Int64} {σ' : pp_M} (hF : pp_Fx Γ dsK cX8_digest 5 RX8 7 183) (hR : pp_Rt Γ dsK (some .long) (some (ppL r')) σ') {σ : pp_M} {a1 : Int64} {a3 : Int32} {k32 : pp_M → Int64 → Int32 → Option (Int64 × pp_M)} (hk32 : ∀ {σ : pp_M} {a1 : Int64} {a3 : Int32}, k32 σ a1 a3 = some (r', σ') → pp_E Γ dsK cX8_digest 5 32 [(0, ppR 0 0 0), (1, ppL a1), (3, ppI a3)] [] σ) (h : f_X8_digest_32_B k32 σ a1 a3 = some (r', σ')) : pp_E Γ dsK cX8_digest 5 32 [(0, ppR 0 0 0), (1, ppL a1), (3, ppI a3)] [] σ := by
  unfold f_X8_digest_32_B at h
  refine pp_iload_n hF dX8_digest_32 rfl rfl ?_
  refine pp_bipush hF dX8_digest_33 bc_8 ?_
  refine pp_icmp_ge (tgt := 57) hF dX8_digest_35 rfl (fun c1 => ?_) (fun c1 => ?_)
  · replace h := (if_pos c1).symm.trans h
    refine pp_ldc2 hF wm_824 dX8_digest_38 ?_
    refine pp_lload_n hF dX8_digest_41 rfl rfl ?_
    refine pp_lmul hF dX8_digest_42 ?_
    refine pp_aload_n hF dX8_digest_43 rfl rfl ?_
    refine pp_iload_n hF dX8_digest_44 rfl rfl ?_
    obtain ⟨x45, hx45, h⟩ := pp_bd h
    refine pp_callVi hF (c_X8_count hx45) mV_X8_count lk_X8_342 obK_0 rfl rfl ⟨by decide, by decide⟩ (Nat.le_of_ble_eq_true rfl) dX8_digest_45 ?_
    refine pp_i2l hF dX8_digest_48 ?_
    refine pp_ladd hF dX8_digest_49 ?_
    refine pp_lstore_n hF dX8_digest_50 rfl (by decide) (lv' := [(0, ppR 0 0 0), (1, ppL (((31 : Int64) * a1) + (x45.1.toInt64))), (3, ppI a3)]) rfl ?_
    refine pp_iinc hF dX8_digest_51 rfl (congrArg (HAdd.hAdd _) ic_1) (by decide) (lv' := [(0, ppR 0 0 0), (1, ppL (((31 : Int64) * a1) + (x45.1.toInt64))), (3, ppI (a3 + (1 : Int32)))]) rfl ?_
    refine pp_goto (tgt := 32) hF dX8_digest_54 rfl ?_
    exact hk32 h
  · replace h := (if_neg c1).symm.trans h
    refine pp_ldc2 hF wm_824 dX8_digest_57 ?_
    refine pp_lload_n hF dX8_digest_60 rfl rfl ?_
    refine pp_lmul hF dX8_digest_61 ?_
    refine pp_aload_n hF dX8_digest_62 rfl rfl ?_
    obtain ⟨x63, hx63, h⟩ := pp_bd h
    refine pp_callVi hF (c_X8_fault hx63) mV_X8_fault lk_X8_345 obK_0 rfl rfl ⟨by decide, by decide⟩ (Nat.le_of_ble_eq_true rfl) dX8_digest_63 ?_
    refine pp_i2l hF dX8_digest_66 ?_
    refine pp_ladd hF dX8_digest_67 ?_
    refine pp_lstore_n hF dX8_digest_68 rfl (by decide) (lv' := [(0, ppR 0 0 0), (1, ppL (((31 : Int64) * a1) + (x63.1.toInt64))), (3, ppI a3)]) rfl ?_
    refine pp_iconst hF dX8_digest_69 ic_0 ?_
    refine pp_istore_n hF dX8_digest_70 rfl (by decide) (lv' := [(0, ppR 0 0 0), (1, ppL (((31 : Int64) * a1) + (x63.1.toInt64))), (3, ppI (0 : Int32))]) rfl ?_
    exact e_X8_digest_71_L hF hR h
set_option maxRecDepth 20000 in
theorem e_X8_digest_32_L {Γ : pp_G} {r' : Int64} {σ' : pp_M} (hF : pp_Fx Γ dsK cX8_digest 5 RX8 7 183) (hR : pp_Rt Γ dsK (some .long) (some (ppL r')) σ') : ∀ {n : Nat} {σ : pp_M} {a1 : Int64} {a3 : Int32}, f_X8_digest_32 n σ a1 a3 = some (r', σ') → pp_E Γ dsK cX8_digest 5 32 [(0, ppR 0 0 0), (1, ppL a1), (3, ppI a3)] [] σ
  | 0, _, _, _ => fun h => by cases h
  | n + 1, _, _, _ => fun h => e_X8_digest_32 hF hR (fun h => e_X8_digest_32_L hF hR (n := n) h) h
set_option maxRecDepth 20000 in
theorem e_X8_digest_0 {Γ : pp_G} {r' : Int64} {σ' : pp_M} (hF : pp_Fx Γ dsK cX8_digest 5 RX8 7 183) (hR : pp_Rt Γ dsK (some .long) (some (ppL r')) σ') {σ : pp_M}  (h : f_X8_digest σ  = some (r', σ')) : pp_E Γ dsK cX8_digest 5 0 [(0, ppR 0 0 0)] [] σ := by
  unfold f_X8_digest at h
  refine pp_aload_n hF dX8_digest_0 rfl rfl ?_
  obtain ⟨x1, hx1, h⟩ := pp_bd h
  refine pp_callVv hF (c_X8_weighUp hx1) mV_X8_weighUp lk_X8_230 obK_0 rfl rfl ⟨by decide, by decide⟩ (Nat.le_of_ble_eq_true rfl) dX8_digest_1 ?_
  refine pp_aload_n hF dX8_digest_4 rfl rfl ?_
  refine pp_getR hF fdK_X8_58 dX8_digest_5 ?_
  refine pp_aload_n hF dX8_digest_8 rfl rfl ?_
  refine pp_getI hF fdK_X8_85 dX8_digest_9 ?_
  obtain ⟨x12, hx12, h⟩ := pp_bd h
  refine pp_callVv hF (c_X5_chooseBest hx12) mV_X5_chooseBest lk_X8_237 obK_25 rfl rfl ⟨by decide, by decide⟩ (Nat.le_of_ble_eq_true rfl) dX8_digest_12 ?_
  refine pp_aload_n hF dX8_digest_15 rfl rfl ?_
  refine pp_getR hF fdK_X8_58 dX8_digest_16 ?_
  refine pp_aload_n hF dX8_digest_19 rfl rfl ?_
  refine pp_getI hF fdK_X8_85 dX8_digest_20 ?_
  obtain ⟨x23, hx23, h⟩ := pp_bd h
  refine pp_callVv hF (c_X5_chooseLoaded hx23) mV_X5_chooseLoaded lk_X8_251 obK_25 rfl rfl ⟨by decide, by decide⟩ (Nat.le_of_ble_eq_true rfl) dX8_digest_23 ?_
  refine pp_ldc2 hF wm_823 dX8_digest_26 ?_
  refine pp_lstore_n hF dX8_digest_29 rfl (by decide) (lv' := [(0, ppR 0 0 0), (1, ppL (17 : Int64))]) rfl ?_
  refine pp_iconst hF dX8_digest_30 ic_0 ?_
  refine pp_istore_n hF dX8_digest_31 rfl (by decide) (lv' := [(0, ppR 0 0 0), (1, ppL (17 : Int64)), (3, ppI (0 : Int32))]) rfl ?_
  exact e_X8_digest_32_L hF hR h
set_option maxRecDepth 20000 in
theorem c_X8_digest {r' : Int64} {σ' : pp_M} {σ : pp_M}  (h : f_X8_digest σ  = some (r', σ')) : pp_Ct yX8_digest cX8_digest 5 (some .long) 7 183 dsK [ppR 0 0 0] σ (some (ppL r')) σ' := pp_met pl_X8 rfl okK (Nat.le_of_ble_eq_true rfl) rfl (fun Γ hF hR => (e_X8_digest_0 hF hR h))
set_option maxRecDepth 20000 in
theorem e_X8_farmOf_0 {Γ : pp_G} {r' : Int32} {σ' : pp_M} (hF : pp_Fx Γ dsK cX8_farmOf 2 RX8 1 12) (hR : pp_Rt Γ dsK (some .int) (some (ppI r')) σ') {σ : pp_M} {a0 : Int32} {a1 : Int32} (h : f_X8_farmOf σ a0 a1 = some (r', σ')) : pp_E Γ dsK cX8_farmOf 2 0 [(0, ppI a0), (1, ppI a1)] [] σ := by
  unfold f_X8_farmOf at h
  refine pp_iload_n hF dX8_farmOf_0 rfl rfl ?_
  refine pp_iconst hF dX8_farmOf_1 ic_3 ?_
  refine pp_iload_n hF dX8_farmOf_2 rfl rfl ?_
  refine pp_imul hF dX8_farmOf_3 ?_
  refine pp_ishr hF dX8_farmOf_4 ?_
  refine pp_bipush hF dX8_farmOf_5 bc_7 ?_
  refine pp_iand hF dX8_farmOf_7 ?_
  obtain ⟨rfl, rfl⟩ := pp_i2 h
  exact pp_ireturn hF hR dX8_farmOf_8
set_option maxRecDepth 20000 in
theorem c_X8_farmOf {r' : Int32} {σ' : pp_M} {σ : pp_M} {a0 : Int32} {a1 : Int32} (h : f_X8_farmOf σ a0 a1 = some (r', σ')) : pp_Ct yX8_farmOf cX8_farmOf 2 (some .int) 1 12 dsK [ppI a0, ppI a1] σ (some (ppI r')) σ' := pp_met pl_X8 rfl okK (Nat.le_of_ble_eq_true rfl) rfl (fun Γ hF hR => (e_X8_farmOf_0 hF hR h))
set_option maxRecDepth 20000 in
theorem e_X8_farmsOf_2 {Γ : pp_G} {r' : Int32} {σ' : pp_M} (hF : pp_Fx Γ dsK cX8_farmsOf 2 RX8 1 12) (hR : pp_Rt Γ dsK (some .int) (some (ppI r')) σ') {σ : pp_M} {a0 : Int32} {a1 : Int32} {k2 : pp_M → Int32 → Int32 → Option (Int32 × pp_M)} (hk2 : ∀ {σ : pp_M} {a0 : Int32} {a1 : Int32}, k2 σ a0 a1 = some (r', σ') → pp_E Γ dsK cX8_farmsOf 2 2 [(0, ppI a0), (1, ppI a1)] [] σ) (h : f_X8_farmsOf_2_B k2 σ a0 a1 = some (r', σ')) : pp_E Γ dsK cX8_farmsOf 2 2 [(0, ppI a0), (1, ppI a1)] [] σ := by
  unfold f_X8_farmsOf_2_B at h
  refine pp_iload_n hF dX8_farmsOf_2 rfl rfl ?_
  refine pp_iconst hF dX8_farmsOf_3 ic_5 ?_
  refine pp_icmp_ge (tgt := 21) hF dX8_farmsOf_4 rfl (fun c1 => ?_) (fun c1 => ?_)
  · replace h := (if_pos c1).symm.trans h
    refine pp_iload_n hF dX8_farmsOf_7 rfl rfl ?_
    refine pp_iconst hF dX8_farmsOf_8 ic_3 ?_
    refine pp_iload_n hF dX8_farmsOf_9 rfl rfl ?_
    refine pp_imul hF dX8_farmsOf_10 ?_
    refine pp_ishr hF dX8_farmsOf_11 ?_
    refine pp_if_le (tgt := 21) hF dX8_farmsOf_12 rfl (fun c2 => ?_) (fun c2 => ?_)
    · replace h := (if_pos c2).symm.trans h
      refine pp_iinc hF dX8_farmsOf_15 rfl (congrArg (HAdd.hAdd _) ic_1) (by decide) (lv' := [(0, ppI a0), (1, ppI (a1 + (1 : Int32)))]) rfl ?_
      refine pp_goto (tgt := 2) hF dX8_farmsOf_18 rfl ?_
      exact hk2 h
    · replace h := (if_neg c2).symm.trans h
      refine pp_iload_n hF dX8_farmsOf_21 rfl rfl ?_
      obtain ⟨rfl, rfl⟩ := pp_i2 h
      exact pp_ireturn hF hR dX8_farmsOf_22
  · replace h := (if_neg c1).symm.trans h
    refine pp_iload_n hF dX8_farmsOf_21 rfl rfl ?_
    obtain ⟨rfl, rfl⟩ := pp_i2 h
    exact pp_ireturn hF hR dX8_farmsOf_22
set_option maxRecDepth 20000 in
theorem e_X8_farmsOf_2_L {Γ : pp_G} {r' : Int32} {σ' : pp_M} (hF : pp_Fx Γ dsK cX8_farmsOf 2 RX8 1 12) (hR : pp_Rt Γ dsK (some .int) (some (ppI r')) σ') : ∀ {n : Nat} {σ : pp_M} {a0 : Int32} {a1 : Int32}, f_X8_farmsOf_2 n σ a0 a1 = some (r', σ') → pp_E Γ dsK cX8_farmsOf 2 2 [(0, ppI a0), (1, ppI a1)] [] σ
  | 0, _, _, _ => fun h => by cases h
  | n + 1, _, _, _ => fun h => e_X8_farmsOf_2 hF hR (fun h => e_X8_farmsOf_2_L hF hR (n := n) h) h
set_option maxRecDepth 20000 in
theorem e_X8_farmsOf_0 {Γ : pp_G} {r' : Int32} {σ' : pp_M} (hF : pp_Fx Γ dsK cX8_farmsOf 2 RX8 1 12) (hR : pp_Rt Γ dsK (some .int) (some (ppI r')) σ') {σ : pp_M} {a0 : Int32} (h : f_X8_farmsOf σ a0 = some (r', σ')) : pp_E Γ dsK cX8_farmsOf 2 0 [(0, ppI a0)] [] σ := by
  unfold f_X8_farmsOf at h
  refine pp_iconst hF dX8_farmsOf_0 ic_0 ?_
  refine pp_istore_n hF dX8_farmsOf_1 rfl (by decide) (lv' := [(0, ppI a0), (1, ppI (0 : Int32))]) rfl ?_
  exact e_X8_farmsOf_2_L hF hR h
set_option maxRecDepth 20000 in
theorem c_X8_farmsOf {r' : Int32} {σ' : pp_M} {σ : pp_M} {a0 : Int32} (h : f_X8_farmsOf σ a0 = some (r', σ')) : pp_Ct yX8_farmsOf cX8_farmsOf 2 (some .int) 1 12 dsK [ppI a0] σ (some (ppI r')) σ' := pp_met pl_X8 rfl okK (Nat.le_of_ble_eq_true rfl) rfl (fun Γ hF hR => (e_X8_farmsOf_0 hF hR h))
set_option maxRecDepth 20000 in
theorem e_X8_gain_0 {Γ : pp_G} {r' : Int64} {σ' : pp_M} (hF : pp_Fx Γ dsK cX8_gain 2 RX8 7 164) (hR : pp_Rt Γ dsK (some .long) (some (ppL r')) σ') {σ : pp_M} {a1 : Int32} (h : f_X8_gain σ a1 = some (r', σ')) : pp_E Γ dsK cX8_gain 2 0 [(0, ppR 0 0 0), (1, ppI a1)] [] σ := by
  unfold f_X8_gain at h
  refine pp_iload_n hF dX8_gain_0 rfl rfl ?_
  obtain ⟨x1, hx1, h⟩ := pp_bd h
  refine pp_callSi hF (c_X8_isTerm hx1) mS_X8_isTerm lk_X8_193 rfl rfl ⟨by decide, by decide⟩ (Nat.le_of_ble_eq_true rfl) dX8_gain_1 ?_
  refine pp_if_ne (tgt := 13) hF dX8_gain_4 rfl (fun c2 => ?_) (fun c2 => ?_)
  · replace h := (if_pos c2).symm.trans h
    refine pp_bipush hF dX8_gain_7 bc_n2 ?_
    obtain ⟨x9, hx9, h⟩ := pp_bd h
    refine pp_callSl hF (c_X8_refusal hx9) mS_X8_refusal lk_X8_196 rfl rfl ⟨by decide, by decide⟩ (Nat.le_of_ble_eq_true rfl) dX8_gain_9 ?_
    obtain ⟨rfl, rfl⟩ := pp_i2 h
    exact pp_lreturn hF hR dX8_gain_12
  · replace h := (if_neg c2).symm.trans h
    refine pp_aload_n hF dX8_gain_13 rfl rfl ?_
    obtain ⟨x14, hx14, h⟩ := pp_bd h
    refine pp_callVv hF (c_X8_weighUp hx14) mV_X8_weighUp lk_X8_230 obK_0 rfl rfl ⟨by decide, by decide⟩ (Nat.le_of_ble_eq_true rfl) dX8_gain_14 ?_
    refine pp_aload_n hF dX8_gain_17 rfl rfl ?_
    refine pp_getR hF fdK_X8_58 dX8_gain_18 ?_
    refine pp_aload_n hF dX8_gain_21 rfl rfl ?_
    refine pp_getR hF fdK_X8_66 dX8_gain_22 ?_
    obtain ⟨x25, hx25, h⟩ := pp_bd h
    refine pp_callVl hF (c_X5_gainOf vK_35 hx25) mV_X5_gainOf lk_X8_233 obK_25 rfl rfl ⟨by decide, by decide⟩ (Nat.le_of_ble_eq_true rfl) dX8_gain_25 ?_
    refine pp_ldc2 hF wm_526 dX8_gain_28 ?_
    refine pp_iload_n hF dX8_gain_31 rfl rfl ?_
    obtain ⟨x32, hx32, h⟩ := pp_bd h
    refine pp_callSl hF (c_X8_term hx32) mS_X8_term lk_X8_214 rfl rfl ⟨by decide, by decide⟩ (Nat.le_of_ble_eq_true rfl) dX8_gain_32 ?_
    obtain ⟨rfl, rfl⟩ := pp_i2 h
    exact pp_lreturn hF hR dX8_gain_35
set_option maxRecDepth 20000 in
theorem c_X8_gain {r' : Int64} {σ' : pp_M} {σ : pp_M} {a1 : Int32} (h : f_X8_gain σ a1 = some (r', σ')) : pp_Ct yX8_gain cX8_gain 2 (some .long) 7 164 dsK [ppR 0 0 0, ppI a1] σ (some (ppL r')) σ' := pp_met pl_X8 rfl okK (Nat.le_of_ble_eq_true rfl) rfl (fun Γ hF hR => (e_X8_gain_0 hF hR h))
set_option maxRecDepth 20000 in
theorem e_X8_isForm_0 {Γ : pp_G} {r' : Int32} {σ' : pp_M} (hF : pp_Fx Γ dsK cX8_isForm 1 RX8 2 34) (hR : pp_Rt Γ dsK (some .boolean) (some (ppI r')) σ') {σ : pp_M} {a0 : Int32} (h : f_X8_isForm σ a0 = some (r', σ')) : pp_E Γ dsK cX8_isForm 1 0 [(0, ppI a0)] [] σ := by
  unfold f_X8_isForm at h
  refine pp_iload_n hF dX8_isForm_0 rfl rfl ?_
  refine pp_iconst hF dX8_isForm_1 ic_0 ?_
  refine pp_iconst hF dX8_isForm_2 ic_2 ?_
  obtain ⟨x3, hx3, h⟩ := pp_bd h
  refine pp_callSi hF (c_X8_within hx3) mS_X8_within lk_X8_95 rfl rfl ⟨by decide, by decide⟩ (Nat.le_of_ble_eq_true rfl) dX8_isForm_3 ?_
  obtain ⟨hb2, h⟩ := pp_ck h
  obtain ⟨rfl, rfl⟩ := pp_i2 h
  exact pp_zreturn hF hR (pp_bn hb2) dX8_isForm_6
set_option maxRecDepth 20000 in
theorem c_X8_isForm {r' : Int32} {σ' : pp_M} {σ : pp_M} {a0 : Int32} (h : f_X8_isForm σ a0 = some (r', σ')) : pp_Ct yX8_isForm cX8_isForm 1 (some .boolean) 2 34 dsK [ppI a0] σ (some (ppI r')) σ' := pp_met pl_X8 rfl okK (Nat.le_of_ble_eq_true rfl) rfl (fun Γ hF hR => (e_X8_isForm_0 hF hR h))
set_option maxRecDepth 20000 in
theorem e_X8_get_0 {Γ : pp_G} {r' : Int32} {σ' : pp_M} (hF : pp_Fx Γ dsK cX8_get 5 RX8 3 57) (hR : pp_Rt Γ dsK (some .int) (some (ppI r')) σ') {σ : pp_M} {a1 : Int32} {a2 : Int32} {a3 : Int32} (h : f_X8_get σ a1 a2 a3 = some (r', σ')) : pp_E Γ dsK cX8_get 5 0 [(0, ppR 0 0 0), (1, ppI a1), (2, ppI a2), (3, ppI a3)] [] σ := by
  unfold f_X8_get at h
  refine pp_iload_n hF dX8_get_0 rfl rfl ?_
  obtain ⟨x1, hx1, h⟩ := pp_bd h
  refine pp_callSi hF (c_X8_isSheet hx1) mS_X8_isSheet lk_X8_136 rfl rfl ⟨by decide, by decide⟩ (Nat.le_of_ble_eq_true rfl) dX8_get_1 ?_
  refine pp_if_eq (tgt := 14) hF dX8_get_4 rfl (fun c2 => ?_) (fun c2 => ?_)
  · replace h := (if_pos c2).symm.trans h
    refine pp_ldcw hF wm_790 dX8_get_14 ?_
    obtain ⟨rfl, rfl⟩ := pp_i2 h
    exact pp_ireturn hF hR dX8_get_17
  · replace h := (if_neg c2).symm.trans h
    refine pp_iload_n hF dX8_get_7 rfl rfl ?_
    obtain ⟨x8, hx8, h⟩ := pp_bd h
    refine pp_callSi hF (c_X8_isForm hx8) mS_X8_isForm lk_X8_304 rfl rfl ⟨by decide, by decide⟩ (Nat.le_of_ble_eq_true rfl) dX8_get_8 ?_
    refine pp_if_ne (tgt := 18) hF dX8_get_11 rfl (fun c4 => ?_) (fun c4 => ?_)
    · replace h := (if_pos c4).symm.trans h
      refine pp_ldcw hF wm_790 dX8_get_14 ?_
      obtain ⟨rfl, rfl⟩ := pp_i2 h
      exact pp_ireturn hF hR dX8_get_17
    · replace h := (if_neg c4).symm.trans h
      refine pp_aload_n hF dX8_get_18 rfl rfl ?_
      refine pp_getR hF fdK_X8_40 dX8_get_19 ?_
      refine pp_iload_n hF dX8_get_22 rfl rfl ?_
      refine pp_iload_n hF dX8_get_23 rfl rfl ?_
      refine pp_iload_n hF dX8_get_24 rfl rfl ?_
      obtain ⟨x25, hx25, h⟩ := pp_bd h
      refine pp_callVi hF (c_X7_findingAt hx25) mV_X7_findingAt lk_X8_310 obK_16 rfl rfl ⟨by decide, by decide⟩ (Nat.le_of_ble_eq_true rfl) dX8_get_25 ?_
      refine pp_istore hF dX8_get_28 (by decide) (lv' := [(0, ppR 0 0 0), (1, ppI a1), (2, ppI a2), (3, ppI a3), (4, ppI x25.1)]) rfl ?_
      refine pp_iload hF dX8_get_30 rfl ?_
      refine pp_if_eq (tgt := 49) hF dX8_get_32 rfl (fun c6 => ?_) (fun c6 => ?_)
      · replace h := (if_pos c6).symm.trans h
        refine pp_aload_n hF dX8_get_49 rfl rfl ?_
        refine pp_getR hF fdK_X8_40 dX8_get_50 ?_
        refine pp_getR hF fdK_X8_158 dX8_get_53 ?_
        refine pp_iload_n hF dX8_get_56 rfl rfl ?_
        obtain ⟨hi7, h⟩ := pp_ck h
        refine pp_aaloadI hF vK_17 hi7 dX8_get_57 ?_
        refine pp_iload_n hF dX8_get_58 rfl rfl ?_
        obtain ⟨hi8, h⟩ := pp_ck h
        refine pp_ialoadJ hF (vK_18 _ (vp_lt hi7)) hi8 rfl dX8_get_59 ?_
        obtain ⟨rfl, rfl⟩ := pp_i2 h
        exact pp_ireturn hF hR dX8_get_60
      · replace h := (if_neg c6).symm.trans h
        refine pp_aload_n hF dX8_get_35 rfl rfl ?_
        refine pp_getR hF fdK_X8_40 dX8_get_36 ?_
        refine pp_iload hF dX8_get_39 rfl ?_
        obtain ⟨x41, hx41, h⟩ := pp_bd h
        refine pp_callVi hF (c_X7_found hx41) mV_X7_found lk_X8_145 obK_16 rfl rfl ⟨by decide, by decide⟩ (Nat.le_of_ble_eq_true rfl) dX8_get_41 ?_
        refine pp_popI hF dX8_get_44 ?_
        refine pp_ldcw hF wm_790 dX8_get_45 ?_
        obtain ⟨rfl, rfl⟩ := pp_i2 h
        exact pp_ireturn hF hR dX8_get_48
set_option maxRecDepth 20000 in
theorem c_X8_get {r' : Int32} {σ' : pp_M} {σ : pp_M} {a1 : Int32} {a2 : Int32} {a3 : Int32} (h : f_X8_get σ a1 a2 a3 = some (r', σ')) : pp_Ct yX8_get cX8_get 5 (some .int) 3 57 dsK [ppR 0 0 0, ppI a1, ppI a2, ppI a3] σ (some (ppI r')) σ' := pp_met pl_X8 rfl okK (Nat.le_of_ble_eq_true rfl) rfl (fun Γ hF hR => (e_X8_get_0 hF hR h))
set_option maxRecDepth 20000 in
theorem e_X8_isNumber_0 {Γ : pp_G} {r' : Int32} {σ' : pp_M} (hF : pp_Fx Γ dsK cX8_isNumber 1 RX8 2 34) (hR : pp_Rt Γ dsK (some .boolean) (some (ppI r')) σ') {σ : pp_M} {a0 : Int32} (h : f_X8_isNumber σ a0 = some (r', σ')) : pp_E Γ dsK cX8_isNumber 1 0 [(0, ppI a0)] [] σ := by
  unfold f_X8_isNumber at h
  refine pp_iload_n hF dX8_isNumber_0 rfl rfl ?_
  refine pp_iconst hF dX8_isNumber_1 ic_0 ?_
  refine pp_iconst hF dX8_isNumber_2 ic_4 ?_
  obtain ⟨x3, hx3, h⟩ := pp_bd h
  refine pp_callSi hF (c_X8_within hx3) mS_X8_within lk_X8_95 rfl rfl ⟨by decide, by decide⟩ (Nat.le_of_ble_eq_true rfl) dX8_isNumber_3 ?_
  obtain ⟨hb2, h⟩ := pp_ck h
  obtain ⟨rfl, rfl⟩ := pp_i2 h
  exact pp_zreturn hF hR (pp_bn hb2) dX8_isNumber_6
set_option maxRecDepth 20000 in
theorem c_X8_isNumber {r' : Int32} {σ' : pp_M} {σ : pp_M} {a0 : Int32} (h : f_X8_isNumber σ a0 = some (r', σ')) : pp_Ct yX8_isNumber cX8_isNumber 1 (some .boolean) 2 34 dsK [ppI a0] σ (some (ppI r')) σ' := pp_met pl_X8 rfl okK (Nat.le_of_ble_eq_true rfl) rfl (fun Γ hF hR => (e_X8_isNumber_0 hF hR h))
set_option maxRecDepth 20000 in
theorem e_X8_isPlace_0 {Γ : pp_G} {r' : Int32} {σ' : pp_M} (hF : pp_Fx Γ dsK cX8_isPlace 1 RX8 2 34) (hR : pp_Rt Γ dsK (some .boolean) (some (ppI r')) σ') {σ : pp_M} {a0 : Int32} (h : f_X8_isPlace σ a0 = some (r', σ')) : pp_E Γ dsK cX8_isPlace 1 0 [(0, ppI a0)] [] σ := by
  unfold f_X8_isPlace at h
  refine pp_iload_n hF dX8_isPlace_0 rfl rfl ?_
  refine pp_iconst hF dX8_isPlace_1 ic_0 ?_
  refine pp_bipush hF dX8_isPlace_2 bc_7 ?_
  obtain ⟨x4, hx4, h⟩ := pp_bd h
  refine pp_callSi hF (c_X8_within hx4) mS_X8_within lk_X8_95 rfl rfl ⟨by decide, by decide⟩ (Nat.le_of_ble_eq_true rfl) dX8_isPlace_4 ?_
  obtain ⟨hb2, h⟩ := pp_ck h
  obtain ⟨rfl, rfl⟩ := pp_i2 h
  exact pp_zreturn hF hR (pp_bn hb2) dX8_isPlace_7
set_option maxRecDepth 20000 in
theorem c_X8_isPlace {r' : Int32} {σ' : pp_M} {σ : pp_M} {a0 : Int32} (h : f_X8_isPlace σ a0 = some (r', σ')) : pp_Ct yX8_isPlace cX8_isPlace 1 (some .boolean) 2 34 dsK [ppI a0] σ (some (ppI r')) σ' := pp_met pl_X8 rfl okK (Nat.le_of_ble_eq_true rfl) rfl (fun Γ hF hR => (e_X8_isPlace_0 hF hR h))
set_option maxRecDepth 20000 in
theorem e_X8_load_16 {Γ : pp_G} {r' : Int64} {σ' : pp_M} (hF : pp_Fx Γ dsK cX8_load 3 RX8 7 174) (hR : pp_Rt Γ dsK (some .long) (some (ppL r')) σ') {σ : pp_M}  (h : f_X8_load_16 σ  = some (r', σ')) : pp_E Γ dsK cX8_load 3 16 [] [] σ := by
  unfold f_X8_load_16 at h
  refine pp_bipush hF dX8_load_16 bc_n2 ?_
  obtain ⟨x18, hx18, h⟩ := pp_bd h
  refine pp_callSl hF (c_X8_refusal hx18) mS_X8_refusal lk_X8_196 rfl rfl ⟨by decide, by decide⟩ (Nat.le_of_ble_eq_true rfl) dX8_load_18 ?_
  obtain ⟨rfl, rfl⟩ := pp_i2 h
  exact pp_lreturn hF hR dX8_load_21
set_option maxRecDepth 20000 in
theorem e_X8_load_0 {Γ : pp_G} {r' : Int64} {σ' : pp_M} (hF : pp_Fx Γ dsK cX8_load 3 RX8 7 174) (hR : pp_Rt Γ dsK (some .long) (some (ppL r')) σ') {σ : pp_M} {a1 : Int32} {a2 : Int32} (h : f_X8_load σ a1 a2 = some (r', σ')) : pp_E Γ dsK cX8_load 3 0 [(0, ppR 0 0 0), (1, ppI a1), (2, ppI a2)] [] σ := by
  unfold f_X8_load at h
  refine pp_iload_n hF dX8_load_0 rfl rfl ?_
  refine pp_iconst hF dX8_load_1 ic_0 ?_
  refine pp_iconst hF dX8_load_2 ic_2 ?_
  obtain ⟨x3, hx3, h⟩ := pp_bd h
  refine pp_callSi hF (c_X8_within hx3) mS_X8_within lk_X8_95 rfl rfl ⟨by decide, by decide⟩ (Nat.le_of_ble_eq_true rfl) dX8_load_3 ?_
  refine pp_if_eq (tgt := 16) hF dX8_load_6 rfl (fun c2 => ?_) (fun c2 => ?_)
  · replace h := (if_pos c2).symm.trans h
    refine pp_few [] (lv' := []) rfl ?_
    exact e_X8_load_16 hF hR h
  · replace h := (if_neg c2).symm.trans h
    refine pp_iload_n hF dX8_load_9 rfl rfl ?_
    obtain ⟨x10, hx10, h⟩ := pp_bd h
    refine pp_callSi hF (c_X8_isTerm hx10) mS_X8_isTerm lk_X8_193 rfl rfl ⟨by decide, by decide⟩ (Nat.le_of_ble_eq_true rfl) dX8_load_10 ?_
    refine pp_if_ne (tgt := 22) hF dX8_load_13 rfl (fun c4 => ?_) (fun c4 => ?_)
    · replace h := (if_pos c4).symm.trans h
      refine pp_few [] (lv' := []) rfl ?_
      exact e_X8_load_16 hF hR h
    · replace h := (if_neg c4).symm.trans h
      refine pp_aload_n hF dX8_load_22 rfl rfl ?_
      obtain ⟨x23, hx23, h⟩ := pp_bd h
      refine pp_callVv hF (c_X8_weighUp hx23) mV_X8_weighUp lk_X8_230 obK_0 rfl rfl ⟨by decide, by decide⟩ (Nat.le_of_ble_eq_true rfl) dX8_load_23 ?_
      refine pp_aload_n hF dX8_load_26 rfl rfl ?_
      refine pp_iload_n hF dX8_load_27 rfl rfl ?_
      refine pp_iload_n hF dX8_load_28 rfl rfl ?_
      obtain ⟨x29, hx29, h⟩ := pp_bd h
      refine pp_callVl hF (c_X8_loadTerm hx29) mV_X8_loadTerm lk_X8_247 obK_0 rfl rfl ⟨by decide, by decide⟩ (Nat.le_of_ble_eq_true rfl) dX8_load_29 ?_
      obtain ⟨rfl, rfl⟩ := pp_i2 h
      exact pp_lreturn hF hR dX8_load_32
set_option maxRecDepth 20000 in
theorem c_X8_load {r' : Int64} {σ' : pp_M} {σ : pp_M} {a1 : Int32} {a2 : Int32} (h : f_X8_load σ a1 a2 = some (r', σ')) : pp_Ct yX8_load cX8_load 3 (some .long) 7 174 dsK [ppR 0 0 0, ppI a1, ppI a2] σ (some (ppL r')) σ' := pp_met pl_X8 rfl okK (Nat.le_of_ble_eq_true rfl) rfl (fun Γ hF hR => (e_X8_load_0 hF hR h))
set_option maxRecDepth 20000 in
theorem e_X8_loaded_0 {Γ : pp_G} {r' : Int32} {σ' : pp_M} (hF : pp_Fx Γ dsK cX8_loaded 2 RX8 7 164) (hR : pp_Rt Γ dsK (some .int) (some (ppI r')) σ') {σ : pp_M} {a1 : Int32} (h : f_X8_loaded σ a1 = some (r', σ')) : pp_E Γ dsK cX8_loaded 2 0 [(0, ppR 0 0 0), (1, ppI a1)] [] σ := by
  unfold f_X8_loaded at h
  refine pp_iload_n hF dX8_loaded_0 rfl rfl ?_
  refine pp_iconst hF dX8_loaded_1 ic_n1 ?_
  refine pp_iconst hF dX8_loaded_2 ic_5 ?_
  obtain ⟨x3, hx3, h⟩ := pp_bd h
  refine pp_callSi hF (c_X8_within hx3) mS_X8_within lk_X8_95 rfl rfl ⟨by decide, by decide⟩ (Nat.le_of_ble_eq_true rfl) dX8_loaded_3 ?_
  refine pp_if_ne (tgt := 12) hF dX8_loaded_6 rfl (fun c2 => ?_) (fun c2 => ?_)
  · replace h := (if_pos c2).symm.trans h
    refine pp_bipush hF dX8_loaded_9 bc_n2 ?_
    obtain ⟨rfl, rfl⟩ := pp_i2 h
    exact pp_ireturn hF hR dX8_loaded_11
  · replace h := (if_neg c2).symm.trans h
    refine pp_aload_n hF dX8_loaded_12 rfl rfl ?_
    obtain ⟨x13, hx13, h⟩ := pp_bd h
    refine pp_callVv hF (c_X8_weighUp hx13) mV_X8_weighUp lk_X8_230 obK_0 rfl rfl ⟨by decide, by decide⟩ (Nat.le_of_ble_eq_true rfl) dX8_loaded_13 ?_
    refine pp_aload_n hF dX8_loaded_16 rfl rfl ?_
    refine pp_getR hF fdK_X8_58 dX8_loaded_17 ?_
    refine pp_aload_n hF dX8_loaded_20 rfl rfl ?_
    refine pp_getI hF fdK_X8_85 dX8_loaded_21 ?_
    obtain ⟨x24, hx24, h⟩ := pp_bd h
    refine pp_callVv hF (c_X5_chooseLoaded hx24) mV_X5_chooseLoaded lk_X8_251 obK_25 rfl rfl ⟨by decide, by decide⟩ (Nat.le_of_ble_eq_true rfl) dX8_loaded_24 ?_
    refine pp_aload_n hF dX8_loaded_27 rfl rfl ?_
    refine pp_aload_n hF dX8_loaded_28 rfl rfl ?_
    refine pp_getR hF fdK_X8_58 dX8_loaded_29 ?_
    refine pp_getR hF fdK_X8_254 dX8_loaded_32 ?_
    refine pp_iload_n hF dX8_loaded_35 rfl rfl ?_
    obtain ⟨x36, hx36, h⟩ := pp_bd h
    refine pp_callVi hF (c_X8_numberOrWeight vK_33 hx36) mV_X8_numberOrWeight lk_X8_244 obK_0 rfl rfl ⟨by decide, by decide⟩ (Nat.le_of_ble_eq_true rfl) dX8_loaded_36 ?_
    obtain ⟨rfl, rfl⟩ := pp_i2 h
    exact pp_ireturn hF hR dX8_loaded_39
set_option maxRecDepth 20000 in
theorem c_X8_loaded {r' : Int32} {σ' : pp_M} {σ : pp_M} {a1 : Int32} (h : f_X8_loaded σ a1 = some (r', σ')) : pp_Ct yX8_loaded cX8_loaded 2 (some .int) 7 164 dsK [ppR 0 0 0, ppI a1] σ (some (ppI r')) σ' := pp_met pl_X8 rfl okK (Nat.le_of_ble_eq_true rfl) rfl (fun Γ hF hR => (e_X8_loaded_0 hF hR h))
set_option maxRecDepth 20000 in
theorem e_X8_lose_0 {Γ : pp_G} {r' : Int32} {σ' : pp_M} (hF : pp_Fx Γ dsK cX8_lose 3 RX8 3 54) (hR : pp_Rt Γ dsK (some .int) (some (ppI r')) σ') {σ : pp_M} {a1 : Int32} (h : f_X8_lose σ a1 = some (r', σ')) : pp_E Γ dsK cX8_lose 3 0 [(0, ppR 0 0 0), (1, ppI a1)] [] σ := by
  unfold f_X8_lose at h
  refine pp_iload_n hF dX8_lose_0 rfl rfl ?_
  obtain ⟨x1, hx1, h⟩ := pp_bd h
  refine pp_callSi hF (c_X8_isSheet hx1) mS_X8_isSheet lk_X8_136 rfl rfl ⟨by decide, by decide⟩ (Nat.le_of_ble_eq_true rfl) dX8_lose_1 ?_
  refine pp_if_ne (tgt := 10) hF dX8_lose_4 rfl (fun c2 => ?_) (fun c2 => ?_)
  · replace h := (if_pos c2).symm.trans h
    refine pp_bipush hF dX8_lose_7 bc_n2 ?_
    obtain ⟨rfl, rfl⟩ := pp_i2 h
    exact pp_ireturn hF hR dX8_lose_9
  · replace h := (if_neg c2).symm.trans h
    refine pp_aload_n hF dX8_lose_10 rfl rfl ?_
    refine pp_getR hF fdK_X8_40 dX8_lose_11 ?_
    refine pp_iload_n hF dX8_lose_14 rfl rfl ?_
    obtain ⟨x15, hx15, h⟩ := pp_bd h
    refine pp_callVi hF (c_X7_isLost hx15) mV_X7_isLost lk_X8_142 obK_16 rfl rfl ⟨by decide, by decide⟩ (Nat.le_of_ble_eq_true rfl) dX8_lose_15 ?_
    refine pp_if_eq (tgt := 30) hF dX8_lose_18 rfl (fun c4 => ?_) (fun c4 => ?_)
    · replace h := (if_pos c4).symm.trans h
      refine pp_aload_n hF dX8_lose_30 rfl rfl ?_
      refine pp_getR hF fdK_X8_40 dX8_lose_31 ?_
      refine pp_getR hF fdK_X8_149 dX8_lose_34 ?_
      refine pp_iload_n hF dX8_lose_37 rfl rfl ?_
      obtain ⟨hi5, h⟩ := pp_ck h
      refine pp_ialoadJ hF vK_20 hi5 (Nat.zero_add _) dX8_lose_38 ?_
      refine pp_istore_n hF dX8_lose_39 rfl (by decide) (lv' := [(0, ppR 0 0 0), (1, ppI a1), (2, ppI (x15.2.1 20 a1.toNatClampNeg))]) rfl ?_
      refine pp_aload_n hF dX8_lose_40 rfl rfl ?_
      refine pp_getR hF fdK_X8_40 dX8_lose_41 ?_
      refine pp_getR hF fdK_X8_149 dX8_lose_44 ?_
      refine pp_iload_n hF dX8_lose_47 rfl rfl ?_
      refine pp_iconst hF dX8_lose_48 ic_n1 ?_
      refine pp_iastoreJ hF vK_20 hi5 (Nat.zero_add _) dX8_lose_49 ?_
      refine pp_iload_n hF dX8_lose_50 rfl rfl ?_
      obtain ⟨rfl, rfl⟩ := pp_i2 h
      exact pp_ireturn hF hR dX8_lose_51
    · replace h := (if_neg c4).symm.trans h
      refine pp_aload_n hF dX8_lose_21 rfl rfl ?_
      refine pp_getR hF fdK_X8_40 dX8_lose_22 ?_
      refine pp_iconst hF dX8_lose_25 ic_1 ?_
      obtain ⟨x26, hx26, h⟩ := pp_bd h
      refine pp_callVi hF (c_X7_found hx26) mV_X7_found lk_X8_145 obK_16 rfl rfl ⟨by decide, by decide⟩ (Nat.le_of_ble_eq_true rfl) dX8_lose_26 ?_
      obtain ⟨rfl, rfl⟩ := pp_i2 h
      exact pp_ireturn hF hR dX8_lose_29
set_option maxRecDepth 20000 in
theorem c_X8_lose {r' : Int32} {σ' : pp_M} {σ : pp_M} {a1 : Int32} (h : f_X8_lose σ a1 = some (r', σ')) : pp_Ct yX8_lose cX8_lose 3 (some .int) 3 54 dsK [ppR 0 0 0, ppI a1] σ (some (ppI r')) σ' := pp_met pl_X8 rfl okK (Nat.le_of_ble_eq_true rfl) rfl (fun Γ hF hR => (e_X8_lose_0 hF hR h))
set_option maxRecDepth 20000 in
theorem e_X8_onward_0 {Γ : pp_G} {r' : Int32} {σ' : pp_M} (hF : pp_Fx Γ dsK cX8_onward 5 RX8 42 1476) (hR : pp_Rt Γ dsK (some .int) (some (ppI r')) σ') {σ : pp_M} {a1 : Int32} {a2 : Int32} (h : f_X8_onward σ a1 a2 = some (r', σ')) : pp_E Γ dsK cX8_onward 5 0 [(0, ppR 0 0 0), (1, ppI a1), (2, ppI a2)] [] σ := by
  unfold f_X8_onward at h
  refine pp_iload_n hF dX8_onward_0 rfl rfl ?_
  obtain ⟨x1, hx1, h⟩ := pp_bd h
  refine pp_callSi hF (c_X8_isPlace hx1) mS_X8_isPlace lk_X8_109 rfl rfl ⟨by decide, by decide⟩ (Nat.le_of_ble_eq_true rfl) dX8_onward_1 ?_
  refine pp_if_eq (tgt := 18) hF dX8_onward_4 rfl (fun c2 => ?_) (fun c2 => ?_)
  · replace h := (if_pos c2).symm.trans h
    refine pp_bipush hF dX8_onward_18 bc_n2 ?_
    obtain ⟨rfl, rfl⟩ := pp_i2 h
    exact pp_ireturn hF hR dX8_onward_20
  · replace h := (if_neg c2).symm.trans h
    refine pp_iload_n hF dX8_onward_7 rfl rfl ?_
    refine pp_iconst hF dX8_onward_8 ic_0 ?_
    refine pp_sipush hF dX8_onward_9 sc_200 ?_
    obtain ⟨x12, hx12, h⟩ := pp_bd h
    refine pp_callSi hF (c_X8_within hx12) mS_X8_within lk_X8_95 rfl rfl ⟨by decide, by decide⟩ (Nat.le_of_ble_eq_true rfl) dX8_onward_12 ?_
    refine pp_if_ne (tgt := 21) hF dX8_onward_15 rfl (fun c4 => ?_) (fun c4 => ?_)
    · replace h := (if_pos c4).symm.trans h
      refine pp_bipush hF dX8_onward_18 bc_n2 ?_
      obtain ⟨rfl, rfl⟩ := pp_i2 h
      exact pp_ireturn hF hR dX8_onward_20
    · replace h := (if_neg c4).symm.trans h
      refine pp_aload_n hF dX8_onward_21 rfl rfl ?_
      obtain ⟨x22, hx22, h⟩ := pp_bd h
      refine pp_callVi hF (c_X8_tooManyOpen hx22) mV_X8_tooManyOpen lk_X8_257 obK_0 rfl rfl ⟨by decide, by decide⟩ (Nat.le_of_ble_eq_true rfl) dX8_onward_22 ?_
      refine pp_if_eq (tgt := 31) hF dX8_onward_25 rfl (fun c6 => ?_) (fun c6 => ?_)
      · replace h := (if_pos c6).symm.trans h
        refine pp_aload_n hF dX8_onward_31 rfl rfl ?_
        refine pp_getR hF fdK_X8_74 dX8_onward_32 ?_
        refine pp_aload_n hF dX8_onward_35 rfl rfl ?_
        refine pp_getI hF fdK_X8_88 dX8_onward_36 ?_
        refine pp_aload_n hF dX8_onward_39 rfl rfl ?_
        refine pp_getI hF fdK_X8_82 dX8_onward_40 ?_
        refine pp_iload_n hF dX8_onward_43 rfl rfl ?_
        refine pp_iload_n hF dX8_onward_44 rfl rfl ?_
        obtain ⟨x45, hx45, h⟩ := pp_bd h
        refine pp_callVv hF (c_X6_findOnward hx45) mV_X6_findOnward lk_X8_279 obK_36 rfl rfl ⟨by decide, by decide⟩ (Nat.le_of_ble_eq_true rfl) dX8_onward_45 ?_
        refine pp_aload_n hF dX8_onward_48 rfl rfl ?_
        refine pp_getR hF fdK_X8_74 dX8_onward_49 ?_
        obtain ⟨x52, hx52, h⟩ := pp_bd h
        refine pp_callVi hF (c_X6_bestSet hx52) mV_X6_bestSet lk_X8_267 obK_36 rfl rfl ⟨by decide, by decide⟩ (Nat.le_of_ble_eq_true rfl) dX8_onward_52 ?_
        refine pp_istore_n hF dX8_onward_55 rfl (by decide) (lv' := [(0, ppR 0 0 0), (1, ppI a1), (2, ppI a2), (3, ppI x52.1)]) rfl ?_
        refine pp_aload_n hF dX8_onward_56 rfl rfl ?_
        refine pp_getR hF fdK_X8_74 dX8_onward_57 ?_
        refine pp_getR hF fdK_X8_264 dX8_onward_60 ?_
        refine pp_iload_n hF dX8_onward_63 rfl rfl ?_
        obtain ⟨hi9, h⟩ := pp_ck h
        refine pp_ialoadJ hF vK_38 hi9 (Nat.zero_add _) dX8_onward_64 ?_
        obtain ⟨x65, hx65, h⟩ := pp_bd h
        refine pp_callSi hF (c_X8_farmsOf hx65) mS_X8_farmsOf lk_X8_270 rfl rfl ⟨by decide, by decide⟩ (Nat.le_of_ble_eq_true rfl) dX8_onward_65 ?_
        refine pp_istore hF dX8_onward_68 (by decide) (lv' := [(0, ppR 0 0 0), (1, ppI a1), (2, ppI a2), (3, ppI x52.1), (4, ppI x65.1)]) rfl ?_
        refine pp_iload hF dX8_onward_70 rfl ?_
        refine pp_if_le (tgt := 94) hF dX8_onward_72 rfl (fun c11 => ?_) (fun c11 => ?_)
        · replace h := (if_pos c11).symm.trans h
          refine pp_aload_n hF dX8_onward_75 rfl rfl ?_
          refine pp_getR hF fdK_X8_74 dX8_onward_76 ?_
          refine pp_getR hF fdK_X8_264 dX8_onward_79 ?_
          refine pp_iload_n hF dX8_onward_82 rfl rfl ?_
          refine pp_ialoadJ hF vK_38 hi9 (Nat.zero_add _) dX8_onward_83 ?_
          refine pp_iload hF dX8_onward_84 rfl ?_
          refine pp_iconst hF dX8_onward_86 ic_1 ?_
          refine pp_isub hF dX8_onward_87 ?_
          obtain ⟨x88, hx88, h⟩ := pp_bd h
          refine pp_callSi hF (c_X8_farmOf hx88) mS_X8_farmOf lk_X8_273 rfl rfl ⟨by decide, by decide⟩ (Nat.le_of_ble_eq_true rfl) dX8_onward_88 ?_
          refine pp_goto (tgt := 95) hF dX8_onward_91 rfl ?_
          obtain ⟨rfl, rfl⟩ := pp_i2 h
          exact pp_ireturn hF hR dX8_onward_95
        · replace h := (if_neg c11).symm.trans h
          refine pp_iconst hF dX8_onward_94 ic_n1 ?_
          obtain ⟨rfl, rfl⟩ := pp_i2 h
          exact pp_ireturn hF hR dX8_onward_95
      · replace h := (if_neg c6).symm.trans h
        refine pp_bipush hF dX8_onward_28 bc_n4 ?_
        obtain ⟨rfl, rfl⟩ := pp_i2 h
        exact pp_ireturn hF hR dX8_onward_30
set_option maxRecDepth 20000 in
theorem c_X8_onward {r' : Int32} {σ' : pp_M} {σ : pp_M} {a1 : Int32} {a2 : Int32} (h : f_X8_onward σ a1 a2 = some (r', σ')) : pp_Ct yX8_onward cX8_onward 5 (some .int) 42 1476 dsK [ppR 0 0 0, ppI a1, ppI a2] σ (some (ppI r')) σ' := pp_met pl_X8 rfl okK (Nat.le_of_ble_eq_true rfl) rfl (fun Γ hF hR => (e_X8_onward_0 hF hR h))
set_option maxRecDepth 20000 in
theorem e_X8_pack_93 {Γ : pp_G} {r' : Int32} {σ' : pp_M} (hF : pp_Fx Γ dsK cX8_pack 4 RX8 3 54) (hR : pp_Rt Γ dsK (some .int) (some (ppI r')) σ') {σ : pp_M} {a2o : Nat} {a3 : Int32} {k93 : pp_M → Nat → Int32 → Option (Int32 × pp_M)} (hk93 : ∀ {σ : pp_M} {a2o : Nat} {a3 : Int32}, pp_ai dsK 18 a2o 40 → k93 σ a2o a3 = some (r', σ') → pp_E Γ dsK cX8_pack 4 93 [(0, ppR 0 0 0), (2, ppR 18 a2o 40), (3, ppI a3)] [] σ) (hv2 : pp_ai dsK 18 a2o 40) (h : f_X8_pack_93_B k93 σ a2o a3 = some (r', σ')) : pp_E Γ dsK cX8_pack 4 93 [(0, ppR 0 0 0), (2, ppR 18 a2o 40), (3, ppI a3)] [] σ := by
  unfold f_X8_pack_93_B at h
  refine pp_iload_n hF dX8_pack_93 rfl rfl ?_
  refine pp_bipush hF dX8_pack_94 bc_6 ?_
  refine pp_icmp_ge (tgt := 114) hF dX8_pack_96 rfl (fun c1 => ?_) (fun c1 => ?_)
  · replace h := (if_pos c1).symm.trans h
    refine pp_aload_n hF dX8_pack_99 rfl rfl ?_
    refine pp_getR hF fdK_X8_66 dX8_pack_100 ?_
    refine pp_iload_n hF dX8_pack_103 rfl rfl ?_
    refine pp_aload_n hF dX8_pack_104 rfl rfl ?_
    refine pp_iload_n hF dX8_pack_105 rfl rfl ?_
    obtain ⟨hi2, h⟩ := pp_ck h
    refine pp_ialoadJ hF hv2 hi2 rfl dX8_pack_106 ?_
    obtain ⟨hi3, h⟩ := pp_ck h
    refine pp_iastoreJ hF vK_35 hi3 (Nat.zero_add _) dX8_pack_107 ?_
    refine pp_iinc hF dX8_pack_108 rfl (congrArg (HAdd.hAdd _) ic_1) (by decide) (lv' := [(0, ppR 0 0 0), (2, ppR 18 a2o 40), (3, ppI (a3 + (1 : Int32)))]) rfl ?_
    refine pp_goto (tgt := 93) hF dX8_pack_111 rfl ?_
    exact hk93 hv2 h
  · replace h := (if_neg c1).symm.trans h
    refine pp_aload_n hF dX8_pack_114 rfl rfl ?_
    refine pp_getR hF fdK_X8_12 dX8_pack_115 ?_
    refine pp_aload_n hF dX8_pack_118 rfl rfl ?_
    refine pp_getR hF fdK_X8_66 dX8_pack_119 ?_
    obtain ⟨x122, hx122, h⟩ := pp_bd h
    refine pp_callVi hF (c_X1_weightOf vK_35 hx122) mV_X1_weightOf lk_X8_179 obK_1 rfl rfl ⟨by decide, by decide⟩ (Nat.le_of_ble_eq_true rfl) dX8_pack_122 ?_
    obtain ⟨rfl, rfl⟩ := pp_i2 h
    exact pp_ireturn hF hR dX8_pack_125
set_option maxRecDepth 20000 in
theorem e_X8_pack_93_L {Γ : pp_G} {r' : Int32} {σ' : pp_M} (hF : pp_Fx Γ dsK cX8_pack 4 RX8 3 54) (hR : pp_Rt Γ dsK (some .int) (some (ppI r')) σ') : ∀ {n : Nat} {σ : pp_M} {a2o : Nat} {a3 : Int32}, pp_ai dsK 18 a2o 40 → f_X8_pack_93 n σ a2o a3 = some (r', σ') → pp_E Γ dsK cX8_pack 4 93 [(0, ppR 0 0 0), (2, ppR 18 a2o 40), (3, ppI a3)] [] σ
  | 0, _, _, _ => fun hv2 h => by cases h
  | n + 1, _, _, _ => fun hv2 h => e_X8_pack_93 hF hR (fun hv2 h => e_X8_pack_93_L hF hR (n := n) hv2 h) hv2 h
set_option maxRecDepth 20000 in
theorem e_X8_pack_65 {Γ : pp_G} {r' : Int32} {σ' : pp_M} (hF : pp_Fx Γ dsK cX8_pack 4 RX8 3 54) (hR : pp_Rt Γ dsK (some .int) (some (ppI r')) σ') {σ : pp_M} {a2o : Nat} {a3 : Int32} {k65 : pp_M → Nat → Int32 → Option (Int32 × pp_M)} (hk65 : ∀ {σ : pp_M} {a2o : Nat} {a3 : Int32}, pp_ai dsK 18 a2o 40 → k65 σ a2o a3 = some (r', σ') → pp_E Γ dsK cX8_pack 4 65 [(0, ppR 0 0 0), (2, ppR 18 a2o 40), (3, ppI a3)] [] σ) (hv2 : pp_ai dsK 18 a2o 40) (h : f_X8_pack_65_B k65 σ a2o a3 = some (r', σ')) : pp_E Γ dsK cX8_pack 4 65 [(0, ppR 0 0 0), (2, ppR 18 a2o 40), (3, ppI a3)] [] σ := by
  unfold f_X8_pack_65_B at h
  refine pp_iload_n hF dX8_pack_65 rfl rfl ?_
  refine pp_bipush hF dX8_pack_66 bc_6 ?_
  refine pp_icmp_ge (tgt := 91) hF dX8_pack_68 rfl (fun c1 => ?_) (fun c1 => ?_)
  · replace h := (if_pos c1).symm.trans h
    refine pp_aload_n hF dX8_pack_71 rfl rfl ?_
    refine pp_iload_n hF dX8_pack_72 rfl rfl ?_
    obtain ⟨hi2, h⟩ := pp_ck h
    refine pp_ialoadJ hF hv2 hi2 rfl dX8_pack_73 ?_
    refine pp_iconst hF dX8_pack_74 ic_0 ?_
    refine pp_iconst hF dX8_pack_75 ic_4 ?_
    obtain ⟨x76, hx76, h⟩ := pp_bd h
    refine pp_callSi hF (c_X8_within hx76) mS_X8_within lk_X8_95 rfl rfl ⟨by decide, by decide⟩ (Nat.le_of_ble_eq_true rfl) dX8_pack_76 ?_
    refine pp_if_ne (tgt := 85) hF dX8_pack_79 rfl (fun c4 => ?_) (fun c4 => ?_)
    · replace h := (if_pos c4).symm.trans h
      refine pp_bipush hF dX8_pack_82 bc_n3 ?_
      obtain ⟨rfl, rfl⟩ := pp_i2 h
      exact pp_ireturn hF hR dX8_pack_84
    · replace h := (if_neg c4).symm.trans h
      refine pp_iinc hF dX8_pack_85 rfl (congrArg (HAdd.hAdd _) ic_1) (by decide) (lv' := [(0, ppR 0 0 0), (2, ppR 18 a2o 40), (3, ppI (a3 + (1 : Int32)))]) rfl ?_
      refine pp_goto (tgt := 65) hF dX8_pack_88 rfl ?_
      exact hk65 hv2 h
  · replace h := (if_neg c1).symm.trans h
    refine pp_iconst hF dX8_pack_91 ic_0 ?_
    refine pp_istore_n hF dX8_pack_92 rfl (by decide) (lv' := [(0, ppR 0 0 0), (2, ppR 18 a2o 40), (3, ppI (0 : Int32))]) rfl ?_
    exact e_X8_pack_93_L hF hR hv2 h
set_option maxRecDepth 20000 in
theorem e_X8_pack_65_L {Γ : pp_G} {r' : Int32} {σ' : pp_M} (hF : pp_Fx Γ dsK cX8_pack 4 RX8 3 54) (hR : pp_Rt Γ dsK (some .int) (some (ppI r')) σ') : ∀ {n : Nat} {σ : pp_M} {a2o : Nat} {a3 : Int32}, pp_ai dsK 18 a2o 40 → f_X8_pack_65 n σ a2o a3 = some (r', σ') → pp_E Γ dsK cX8_pack 4 65 [(0, ppR 0 0 0), (2, ppR 18 a2o 40), (3, ppI a3)] [] σ
  | 0, _, _, _ => fun hv2 h => by cases h
  | n + 1, _, _, _ => fun hv2 h => e_X8_pack_65 hF hR (fun hv2 h => e_X8_pack_65_L hF hR (n := n) hv2 h) hv2 h
set_option maxRecDepth 20000 in
theorem e_X8_pack_0 {Γ : pp_G} {r' : Int32} {σ' : pp_M} (hF : pp_Fx Γ dsK cX8_pack 4 RX8 3 54) (hR : pp_Rt Γ dsK (some .int) (some (ppI r')) σ') {σ : pp_M} {a1 : Int32} (h : f_X8_pack σ a1 = some (r', σ')) : pp_E Γ dsK cX8_pack 4 0 [(0, ppR 0 0 0), (1, ppI a1)] [] σ := by
  unfold f_X8_pack at h
  refine pp_iload_n hF dX8_pack_0 rfl rfl ?_
  obtain ⟨x1, hx1, h⟩ := pp_bd h
  refine pp_callSi hF (c_X8_isSheet hx1) mS_X8_isSheet lk_X8_136 rfl rfl ⟨by decide, by decide⟩ (Nat.le_of_ble_eq_true rfl) dX8_pack_1 ?_
  refine pp_if_ne (tgt := 10) hF dX8_pack_4 rfl (fun c2 => ?_) (fun c2 => ?_)
  · replace h := (if_pos c2).symm.trans h
    refine pp_bipush hF dX8_pack_7 bc_n2 ?_
    obtain ⟨rfl, rfl⟩ := pp_i2 h
    exact pp_ireturn hF hR dX8_pack_9
  · replace h := (if_neg c2).symm.trans h
    refine pp_aload_n hF dX8_pack_10 rfl rfl ?_
    refine pp_getR hF fdK_X8_40 dX8_pack_11 ?_
    refine pp_iload_n hF dX8_pack_14 rfl rfl ?_
    obtain ⟨x15, hx15, h⟩ := pp_bd h
    refine pp_callVi hF (c_X7_isLost hx15) mV_X7_isLost lk_X8_142 obK_16 rfl rfl ⟨by decide, by decide⟩ (Nat.le_of_ble_eq_true rfl) dX8_pack_15 ?_
    refine pp_if_eq (tgt := 30) hF dX8_pack_18 rfl (fun c4 => ?_) (fun c4 => ?_)
    · replace h := (if_pos c4).symm.trans h
      refine pp_aload_n hF dX8_pack_30 rfl rfl ?_
      refine pp_getR hF fdK_X8_40 dX8_pack_31 ?_
      refine pp_getR hF fdK_X8_149 dX8_pack_34 ?_
      refine pp_iload_n hF dX8_pack_37 rfl rfl ?_
      obtain ⟨hi5, h⟩ := pp_ck h
      refine pp_ialoadJ hF vK_20 hi5 (Nat.zero_add _) dX8_pack_38 ?_
      refine pp_bipush hF dX8_pack_39 bc_6 ?_
      refine pp_icmp_ge (tgt := 53) hF dX8_pack_41 rfl (fun c6 => ?_) (fun c6 => ?_)
      · replace h := (if_pos c6).symm.trans h
        refine pp_aload_n hF dX8_pack_44 rfl rfl ?_
        refine pp_getR hF fdK_X8_40 dX8_pack_45 ?_
        refine pp_iconst hF dX8_pack_48 ic_2 ?_
        obtain ⟨x49, hx49, h⟩ := pp_bd h
        refine pp_callVi hF (c_X7_found hx49) mV_X7_found lk_X8_145 obK_16 rfl rfl ⟨by decide, by decide⟩ (Nat.le_of_ble_eq_true rfl) dX8_pack_49 ?_
        obtain ⟨rfl, rfl⟩ := pp_i2 h
        exact pp_ireturn hF hR dX8_pack_52
      · replace h := (if_neg c6).symm.trans h
        refine pp_aload_n hF dX8_pack_53 rfl rfl ?_
        refine pp_getR hF fdK_X8_40 dX8_pack_54 ?_
        refine pp_getR hF fdK_X8_158 dX8_pack_57 ?_
        refine pp_iload_n hF dX8_pack_60 rfl rfl ?_
        refine pp_aaloadI hF vK_17 hi5 dX8_pack_61 ?_
        refine pp_astore_n hF dX8_pack_62 rfl (by decide) (lv' := [(0, ppR 0 0 0), (1, ppI a1), (2, ppR 18 (a1.toNatClampNeg * 40) 40)]) rfl ?_
        refine pp_iconst hF dX8_pack_63 ic_0 ?_
        refine pp_istore_n hF dX8_pack_64 rfl (by decide) (lv' := [(0, ppR 0 0 0), (1, ppI a1), (2, ppR 18 (a1.toNatClampNeg * 40) 40), (3, ppI (0 : Int32))]) rfl ?_
        refine pp_few [0, 2, 3] (lv' := [(0, ppR 0 0 0), (2, ppR 18 (a1.toNatClampNeg * 40) 40), (3, ppI (0 : Int32))]) rfl ?_
        exact e_X8_pack_65_L hF hR (vK_18 _ (vp_lt hi5)) h
    · replace h := (if_neg c4).symm.trans h
      refine pp_aload_n hF dX8_pack_21 rfl rfl ?_
      refine pp_getR hF fdK_X8_40 dX8_pack_22 ?_
      refine pp_iconst hF dX8_pack_25 ic_1 ?_
      obtain ⟨x26, hx26, h⟩ := pp_bd h
      refine pp_callVi hF (c_X7_found hx26) mV_X7_found lk_X8_145 obK_16 rfl rfl ⟨by decide, by decide⟩ (Nat.le_of_ble_eq_true rfl) dX8_pack_26 ?_
      obtain ⟨rfl, rfl⟩ := pp_i2 h
      exact pp_ireturn hF hR dX8_pack_29
set_option maxRecDepth 20000 in
theorem c_X8_pack {r' : Int32} {σ' : pp_M} {σ : pp_M} {a1 : Int32} (h : f_X8_pack σ a1 = some (r', σ')) : pp_Ct yX8_pack cX8_pack 4 (some .int) 3 54 dsK [ppR 0 0 0, ppI a1] σ (some (ppI r')) σ' := pp_met pl_X8 rfl okK (Nat.le_of_ble_eq_true rfl) rfl (fun Γ hF hR => (e_X8_pack_0 hF hR h))
set_option maxRecDepth 20000 in
theorem e_X8_put_0 {Γ : pp_G} {r' : Int32} {σ' : pp_M} (hF : pp_Fx Γ dsK cX8_put 6 RX8 3 57) (hR : pp_Rt Γ dsK (some .int) (some (ppI r')) σ') {σ : pp_M} {a1 : Int32} {a2 : Int32} {a3 : Int32} {a4 : Int32} (h : f_X8_put σ a1 a2 a3 a4 = some (r', σ')) : pp_E Γ dsK cX8_put 6 0 [(0, ppR 0 0 0), (1, ppI a1), (2, ppI a2), (3, ppI a3), (4, ppI a4)] [] σ := by
  unfold f_X8_put at h
  refine pp_iload_n hF dX8_put_0 rfl rfl ?_
  obtain ⟨x1, hx1, h⟩ := pp_bd h
  refine pp_callSi hF (c_X8_isSheet hx1) mS_X8_isSheet lk_X8_136 rfl rfl ⟨by decide, by decide⟩ (Nat.le_of_ble_eq_true rfl) dX8_put_1 ?_
  refine pp_if_eq (tgt := 14) hF dX8_put_4 rfl (fun c2 => ?_) (fun c2 => ?_)
  · replace h := (if_pos c2).symm.trans h
    refine pp_bipush hF dX8_put_14 bc_n2 ?_
    obtain ⟨rfl, rfl⟩ := pp_i2 h
    exact pp_ireturn hF hR dX8_put_16
  · replace h := (if_neg c2).symm.trans h
    refine pp_iload_n hF dX8_put_7 rfl rfl ?_
    obtain ⟨x8, hx8, h⟩ := pp_bd h
    refine pp_callSi hF (c_X8_isForm hx8) mS_X8_isForm lk_X8_304 rfl rfl ⟨by decide, by decide⟩ (Nat.le_of_ble_eq_true rfl) dX8_put_8 ?_
    refine pp_if_ne (tgt := 17) hF dX8_put_11 rfl (fun c4 => ?_) (fun c4 => ?_)
    · replace h := (if_pos c4).symm.trans h
      refine pp_bipush hF dX8_put_14 bc_n2 ?_
      obtain ⟨rfl, rfl⟩ := pp_i2 h
      exact pp_ireturn hF hR dX8_put_16
    · replace h := (if_neg c4).symm.trans h
      refine pp_aload_n hF dX8_put_17 rfl rfl ?_
      refine pp_getR hF fdK_X8_40 dX8_put_18 ?_
      refine pp_iload_n hF dX8_put_21 rfl rfl ?_
      refine pp_iload_n hF dX8_put_22 rfl rfl ?_
      refine pp_iload_n hF dX8_put_23 rfl rfl ?_
      obtain ⟨x24, hx24, h⟩ := pp_bd h
      refine pp_callVi hF (c_X7_findingAt hx24) mV_X7_findingAt lk_X8_310 obK_16 rfl rfl ⟨by decide, by decide⟩ (Nat.le_of_ble_eq_true rfl) dX8_put_24 ?_
      refine pp_istore hF dX8_put_27 (by decide) (lv' := [(0, ppR 0 0 0), (1, ppI a1), (2, ppI a2), (3, ppI a3), (4, ppI a4), (5, ppI x24.1)]) rfl ?_
      refine pp_iload hF dX8_put_29 rfl ?_
      refine pp_if_eq (tgt := 44) hF dX8_put_31 rfl (fun c6 => ?_) (fun c6 => ?_)
      · replace h := (if_pos c6).symm.trans h
        refine pp_aload_n hF dX8_put_44 rfl rfl ?_
        refine pp_getR hF fdK_X8_40 dX8_put_45 ?_
        refine pp_iload_n hF dX8_put_48 rfl rfl ?_
        refine pp_iload_n hF dX8_put_49 rfl rfl ?_
        refine pp_iload hF dX8_put_50 rfl ?_
        obtain ⟨x52, hx52, h⟩ := pp_bd h
        refine pp_callVv hF (c_X7_lay hx52) mV_X7_lay lk_X8_313 obK_16 rfl rfl ⟨by decide, by decide⟩ (Nat.le_of_ble_eq_true rfl) dX8_put_52 ?_
        refine pp_iconst hF dX8_put_55 ic_1 ?_
        obtain ⟨rfl, rfl⟩ := pp_i2 h
        exact pp_ireturn hF hR dX8_put_56
      · replace h := (if_neg c6).symm.trans h
        refine pp_aload_n hF dX8_put_34 rfl rfl ?_
        refine pp_getR hF fdK_X8_40 dX8_put_35 ?_
        refine pp_iload hF dX8_put_38 rfl ?_
        obtain ⟨x40, hx40, h⟩ := pp_bd h
        refine pp_callVi hF (c_X7_found hx40) mV_X7_found lk_X8_145 obK_16 rfl rfl ⟨by decide, by decide⟩ (Nat.le_of_ble_eq_true rfl) dX8_put_40 ?_
        obtain ⟨rfl, rfl⟩ := pp_i2 h
        exact pp_ireturn hF hR dX8_put_43
set_option maxRecDepth 20000 in
theorem c_X8_put {r' : Int32} {σ' : pp_M} {σ : pp_M} {a1 : Int32} {a2 : Int32} {a3 : Int32} {a4 : Int32} (h : f_X8_put σ a1 a2 a3 a4 = some (r', σ')) : pp_Ct yX8_put cX8_put 6 (some .int) 3 57 dsK [ppR 0 0 0, ppI a1, ppI a2, ppI a3, ppI a4] σ (some (ppI r')) σ' := pp_met pl_X8 rfl okK (Nat.le_of_ble_eq_true rfl) rfl (fun Γ hF hR => (e_X8_put_0 hF hR h))
set_option maxRecDepth 20000 in
theorem e_X8_read_97 {Γ : pp_G} {r' : Int32} {σ' : pp_M} (hF : pp_Fx Γ dsK cX8_read 6 RX8 3 100) (hR : pp_Rt Γ dsK (some .int) (some (ppI r')) σ') {σ : pp_M} {a3 : Int32} (h : f_X8_read_97 σ a3 = some (r', σ')) : pp_E Γ dsK cX8_read 6 97 [(0, ppR 0 0 0), (3, ppI a3)] [] σ := by
  unfold f_X8_read_97 at h
  refine pp_aload_n hF dX8_read_97 rfl rfl ?_
  refine pp_getR hF fdK_X8_74 dX8_read_98 ?_
  obtain ⟨x101, hx101, h⟩ := pp_bd h
  refine pp_callVv hF (c_X6_forget hx101) mV_X6_forget lk_X8_106 obK_36 rfl rfl ⟨by decide, by decide⟩ (Nat.le_of_ble_eq_true rfl) dX8_read_101 ?_
  refine pp_iload_n hF dX8_read_104 rfl rfl ?_
  obtain ⟨rfl, rfl⟩ := pp_i2 h
  exact pp_ireturn hF hR dX8_read_105
set_option maxRecDepth 20000 in
theorem e_X8_read_68 {Γ : pp_G} {r' : Int32} {σ' : pp_M} (hF : pp_Fx Γ dsK cX8_read 6 RX8 3 100) (hR : pp_Rt Γ dsK (some .int) (some (ppI r')) σ') {σ : pp_M} {a2 : Int32} {a3 : Int32} {a4 : Int32} {a5o : Nat} {k68 : pp_M → Int32 → Int32 → Int32 → Nat → Option (Int32 × pp_M)} (hk68 : ∀ {σ : pp_M} {a2 : Int32} {a3 : Int32} {a4 : Int32} {a5o : Nat}, pp_ai dsK 18 a5o 40 → k68 σ a2 a3 a4 a5o = some (r', σ') → pp_E Γ dsK cX8_read 6 68 [(0, ppR 0 0 0), (2, ppI a2), (3, ppI a3), (4, ppI a4), (5, ppR 18 a5o 40)] [] σ) (hv5 : pp_ai dsK 18 a5o 40) (h : f_X8_read_68_B k68 σ a2 a3 a4 a5o = some (r', σ')) : pp_E Γ dsK cX8_read 6 68 [(0, ppR 0 0 0), (2, ppI a2), (3, ppI a3), (4, ppI a4), (5, ppR 18 a5o 40)] [] σ := by
  unfold f_X8_read_68_B at h
  refine pp_iload_n hF dX8_read_68 rfl rfl ?_
  refine pp_iload hF dX8_read_69 rfl ?_
  refine pp_icmp_ge (tgt := 97) hF dX8_read_71 rfl (fun c1 => ?_) (fun c1 => ?_)
  · replace h := (if_pos c1).symm.trans h
    refine pp_aload_n hF dX8_read_74 rfl rfl ?_
    refine pp_getR hF fdK_X8_26 dX8_read_75 ?_
    refine pp_iload_n hF dX8_read_78 rfl rfl ?_
    refine pp_iload_n hF dX8_read_79 rfl rfl ?_
    refine pp_aload hF dX8_read_80 rfl ?_
    refine pp_iload_n hF dX8_read_82 rfl rfl ?_
    refine pp_iconst hF dX8_read_83 ic_3 ?_
    refine pp_imul hF dX8_read_84 ?_
    obtain ⟨x85, hx85, h⟩ := pp_bd h
    refine pp_callVi hF (c_X4_take hv5 hx85) mV_X4_take lk_X8_161 obK_9 rfl rfl ⟨by decide, by decide⟩ (Nat.le_of_ble_eq_true rfl) dX8_read_85 ?_
    refine pp_if_eq (tgt := 97) hF dX8_read_88 rfl (fun c3 => ?_) (fun c3 => ?_)
    · replace h := (if_pos c3).symm.trans h
      refine pp_few [0, 2] (lv' := [(0, ppR 0 0 0), (3, ppI a3)]) rfl ?_
      exact e_X8_read_97 hF hR h
    · replace h := (if_neg c3).symm.trans h
      refine pp_iinc hF dX8_read_91 rfl (congrArg (HAdd.hAdd _) ic_1) (by decide) (lv' := [(0, ppR 0 0 0), (2, ppI a2), (3, ppI (a3 + (1 : Int32))), (4, ppI a4), (5, ppR 18 a5o 40)]) rfl ?_
      refine pp_goto (tgt := 68) hF dX8_read_94 rfl ?_
      exact hk68 hv5 h
  · replace h := (if_neg c1).symm.trans h
    refine pp_few [0, 2] (lv' := [(0, ppR 0 0 0), (3, ppI a3)]) rfl ?_
    exact e_X8_read_97 hF hR h
set_option maxRecDepth 20000 in
theorem e_X8_read_68_L {Γ : pp_G} {r' : Int32} {σ' : pp_M} (hF : pp_Fx Γ dsK cX8_read 6 RX8 3 100) (hR : pp_Rt Γ dsK (some .int) (some (ppI r')) σ') : ∀ {n : Nat} {σ : pp_M} {a2 : Int32} {a3 : Int32} {a4 : Int32} {a5o : Nat}, pp_ai dsK 18 a5o 40 → f_X8_read_68 n σ a2 a3 a4 a5o = some (r', σ') → pp_E Γ dsK cX8_read 6 68 [(0, ppR 0 0 0), (2, ppI a2), (3, ppI a3), (4, ppI a4), (5, ppR 18 a5o 40)] [] σ
  | 0, _, _, _, _, _ => fun hv5 h => by cases h
  | n + 1, _, _, _, _, _ => fun hv5 h => e_X8_read_68 hF hR (fun hv5 h => e_X8_read_68_L hF hR (n := n) hv5 h) hv5 h
set_option maxRecDepth 20000 in
theorem e_X8_read_0 {Γ : pp_G} {r' : Int32} {σ' : pp_M} (hF : pp_Fx Γ dsK cX8_read 6 RX8 3 100) (hR : pp_Rt Γ dsK (some .int) (some (ppI r')) σ') {σ : pp_M} {a1 : Int32} {a2 : Int32} (h : f_X8_read σ a1 a2 = some (r', σ')) : pp_E Γ dsK cX8_read 6 0 [(0, ppR 0 0 0), (1, ppI a1), (2, ppI a2)] [] σ := by
  unfold f_X8_read at h
  refine pp_iload_n hF dX8_read_0 rfl rfl ?_
  obtain ⟨x1, hx1, h⟩ := pp_bd h
  refine pp_callSi hF (c_X8_isSheet hx1) mS_X8_isSheet lk_X8_136 rfl rfl ⟨by decide, by decide⟩ (Nat.le_of_ble_eq_true rfl) dX8_read_1 ?_
  refine pp_if_eq (tgt := 14) hF dX8_read_4 rfl (fun c2 => ?_) (fun c2 => ?_)
  · replace h := (if_pos c2).symm.trans h
    refine pp_bipush hF dX8_read_14 bc_n2 ?_
    obtain ⟨rfl, rfl⟩ := pp_i2 h
    exact pp_ireturn hF hR dX8_read_16
  · replace h := (if_neg c2).symm.trans h
    refine pp_iload_n hF dX8_read_7 rfl rfl ?_
    obtain ⟨x8, hx8, h⟩ := pp_bd h
    refine pp_callSi hF (c_X8_isFarm hx8) mS_X8_isFarm lk_X8_139 rfl rfl ⟨by decide, by decide⟩ (Nat.le_of_ble_eq_true rfl) dX8_read_8 ?_
    refine pp_if_ne (tgt := 17) hF dX8_read_11 rfl (fun c4 => ?_) (fun c4 => ?_)
    · replace h := (if_pos c4).symm.trans h
      refine pp_bipush hF dX8_read_14 bc_n2 ?_
      obtain ⟨rfl, rfl⟩ := pp_i2 h
      exact pp_ireturn hF hR dX8_read_16
    · replace h := (if_neg c4).symm.trans h
      refine pp_aload_n hF dX8_read_17 rfl rfl ?_
      refine pp_getR hF fdK_X8_40 dX8_read_18 ?_
      refine pp_iload_n hF dX8_read_21 rfl rfl ?_
      obtain ⟨x22, hx22, h⟩ := pp_bd h
      refine pp_callVi hF (c_X7_isLost hx22) mV_X7_isLost lk_X8_142 obK_16 rfl rfl ⟨by decide, by decide⟩ (Nat.le_of_ble_eq_true rfl) dX8_read_22 ?_
      refine pp_if_eq (tgt := 37) hF dX8_read_25 rfl (fun c6 => ?_) (fun c6 => ?_)
      · replace h := (if_pos c6).symm.trans h
        refine pp_iconst hF dX8_read_37 ic_0 ?_
        refine pp_istore_n hF dX8_read_38 rfl (by decide) (lv' := [(0, ppR 0 0 0), (1, ppI a1), (2, ppI a2), (3, ppI (0 : Int32))]) rfl ?_
        refine pp_aload_n hF dX8_read_39 rfl rfl ?_
        refine pp_getR hF fdK_X8_40 dX8_read_40 ?_
        refine pp_getR hF fdK_X8_149 dX8_read_43 ?_
        refine pp_iload_n hF dX8_read_46 rfl rfl ?_
        obtain ⟨hi7, h⟩ := pp_ck h
        refine pp_ialoadJ hF vK_20 hi7 (Nat.zero_add _) dX8_read_47 ?_
        refine pp_iconst hF dX8_read_48 ic_3 ?_
        refine pp_idiv hF dX8_read_49 (by decide) ?_
        refine pp_bipush hF dX8_read_50 bc_6 ?_
        refine pp_mmin hF wm_456 wm_106 wm_60 wq_min ⟨by decide, by decide⟩ (Nat.le_of_ble_eq_true rfl) dX8_read_52 ?_
        refine pp_istore hF dX8_read_55 (by decide) (lv' := [(0, ppR 0 0 0), (1, ppI a1), (2, ppI a2), (3, ppI (0 : Int32)), (4, ppI (if (6 : Int32) < ((x22.2.1 20 a1.toNatClampNeg) / (3 : Int32)) then (6 : Int32) else ((x22.2.1 20 a1.toNatClampNeg) / (3 : Int32))))]) rfl ?_
        refine pp_aload_n hF dX8_read_57 rfl rfl ?_
        refine pp_getR hF fdK_X8_40 dX8_read_58 ?_
        refine pp_getR hF fdK_X8_158 dX8_read_61 ?_
        refine pp_iload_n hF dX8_read_64 rfl rfl ?_
        refine pp_aaloadI hF vK_17 hi7 dX8_read_65 ?_
        refine pp_astore hF dX8_read_66 (by decide) (lv' := [(0, ppR 0 0 0), (1, ppI a1), (2, ppI a2), (3, ppI (0 : Int32)), (4, ppI (if (6 : Int32) < ((x22.2.1 20 a1.toNatClampNeg) / (3 : Int32)) then (6 : Int32) else ((x22.2.1 20 a1.toNatClampNeg) / (3 : Int32)))), (5, ppR 18 (a1.toNatClampNeg * 40) 40)]) rfl ?_
        refine pp_few [0, 2, 3, 4, 5] (lv' := [(0, ppR 0 0 0), (2, ppI a2), (3, ppI (0 : Int32)), (4, ppI (if (6 : Int32) < ((x22.2.1 20 a1.toNatClampNeg) / (3 : Int32)) then (6 : Int32) else ((x22.2.1 20 a1.toNatClampNeg) / (3 : Int32)))), (5, ppR 18 (a1.toNatClampNeg * 40) 40)]) rfl ?_
        exact e_X8_read_68_L hF hR (vK_18 _ (vp_lt hi7)) h
      · replace h := (if_neg c6).symm.trans h
        refine pp_aload_n hF dX8_read_28 rfl rfl ?_
        refine pp_getR hF fdK_X8_40 dX8_read_29 ?_
        refine pp_iconst hF dX8_read_32 ic_1 ?_
        obtain ⟨x33, hx33, h⟩ := pp_bd h
        refine pp_callVi hF (c_X7_found hx33) mV_X7_found lk_X8_145 obK_16 rfl rfl ⟨by decide, by decide⟩ (Nat.le_of_ble_eq_true rfl) dX8_read_33 ?_
        obtain ⟨rfl, rfl⟩ := pp_i2 h
        exact pp_ireturn hF hR dX8_read_36
set_option maxRecDepth 20000 in
theorem c_X8_read {r' : Int32} {σ' : pp_M} {σ : pp_M} {a1 : Int32} {a2 : Int32} (h : f_X8_read σ a1 a2 = some (r', σ')) : pp_Ct yX8_read cX8_read 6 (some .int) 3 100 dsK [ppR 0 0 0, ppI a1, ppI a2] σ (some (ppI r')) σ' := pp_met pl_X8 rfl okK (Nat.le_of_ble_eq_true rfl) rfl (fun Γ hF hR => (e_X8_read_0 hF hR h))
set_option maxRecDepth 20000 in
theorem e_X8_road_0 {Γ : pp_G} {r' : Int32} {σ' : pp_M} (hF : pp_Fx Γ dsK cX8_road 5 RX8 3 146) (hR : pp_Rt Γ dsK (some .int) (some (ppI r')) σ') {σ : pp_M} {a1 : Int32} {a2 : Int32} {a3 : Int32} (h : f_X8_road σ a1 a2 a3 = some (r', σ')) : pp_E Γ dsK cX8_road 5 0 [(0, ppR 0 0 0), (1, ppI a1), (2, ppI a2), (3, ppI a3)] [] σ := by
  unfold f_X8_road at h
  refine pp_iload_n hF dX8_road_0 rfl rfl ?_
  obtain ⟨x1, hx1, h⟩ := pp_bd h
  refine pp_callSi hF (c_X8_isPlace hx1) mS_X8_isPlace lk_X8_109 rfl rfl ⟨by decide, by decide⟩ (Nat.le_of_ble_eq_true rfl) dX8_road_1 ?_
  refine pp_if_eq (tgt := 29) hF dX8_road_4 rfl (fun c2 => ?_) (fun c2 => ?_)
  · replace h := (if_pos c2).symm.trans h
    refine pp_bipush hF dX8_road_29 bc_n2 ?_
    obtain ⟨rfl, rfl⟩ := pp_i2 h
    exact pp_ireturn hF hR dX8_road_31
  · replace h := (if_neg c2).symm.trans h
    refine pp_iload_n hF dX8_road_7 rfl rfl ?_
    obtain ⟨x8, hx8, h⟩ := pp_bd h
    refine pp_callSi hF (c_X8_isPlace hx8) mS_X8_isPlace lk_X8_109 rfl rfl ⟨by decide, by decide⟩ (Nat.le_of_ble_eq_true rfl) dX8_road_8 ?_
    refine pp_if_eq (tgt := 29) hF dX8_road_11 rfl (fun c4 => ?_) (fun c4 => ?_)
    · replace h := (if_pos c4).symm.trans h
      refine pp_bipush hF dX8_road_29 bc_n2 ?_
      obtain ⟨rfl, rfl⟩ := pp_i2 h
      exact pp_ireturn hF hR dX8_road_31
    · replace h := (if_neg c4).symm.trans h
      refine pp_iload_n hF dX8_road_14 rfl rfl ?_
      refine pp_iload_n hF dX8_road_15 rfl rfl ?_
      refine pp_icmp_eq (tgt := 29) hF dX8_road_16 rfl (fun c5 => ?_) (fun c5 => ?_)
      · replace h := (if_pos c5).symm.trans h
        refine pp_bipush hF dX8_road_29 bc_n2 ?_
        obtain ⟨rfl, rfl⟩ := pp_i2 h
        exact pp_ireturn hF hR dX8_road_31
      · replace h := (if_neg c5).symm.trans h
        refine pp_iload_n hF dX8_road_19 rfl rfl ?_
        refine pp_iconst hF dX8_road_20 ic_0 ?_
        refine pp_bipush hF dX8_road_21 bc_60 ?_
        obtain ⟨x23, hx23, h⟩ := pp_bd h
        refine pp_callSi hF (c_X8_within hx23) mS_X8_within lk_X8_95 rfl rfl ⟨by decide, by decide⟩ (Nat.le_of_ble_eq_true rfl) dX8_road_23 ?_
        refine pp_if_ne (tgt := 32) hF dX8_road_26 rfl (fun c7 => ?_) (fun c7 => ?_)
        · replace h := (if_pos c7).symm.trans h
          refine pp_bipush hF dX8_road_29 bc_n2 ?_
          obtain ⟨rfl, rfl⟩ := pp_i2 h
          exact pp_ireturn hF hR dX8_road_31
        · replace h := (if_neg c7).symm.trans h
          refine pp_aload_n hF dX8_road_32 rfl rfl ?_
          refine pp_getR hF fdK_X8_19 dX8_road_33 ?_
          refine pp_getR hF fdK_X8_112 dX8_road_36 ?_
          refine pp_iload_n hF dX8_road_39 rfl rfl ?_
          obtain ⟨hi8, h⟩ := pp_ck h
          refine pp_aaloadI hF vK_5 hi8 dX8_road_40 ?_
          refine pp_iload_n hF dX8_road_41 rfl rfl ?_
          obtain ⟨hi9, h⟩ := pp_ck h
          refine pp_ialoadJ hF (vK_6 _ (vp_lt hi8)) hi9 rfl dX8_road_42 ?_
          refine pp_istore hF dX8_road_43 (by decide) (lv' := [(0, ppR 0 0 0), (1, ppI a1), (2, ppI a2), (3, ppI a3), (4, ppI (x23.2.1 6 ((a1.toNatClampNeg * 8) + a2.toNatClampNeg)))]) rfl ?_
          refine pp_aload_n hF dX8_road_45 rfl rfl ?_
          refine pp_getR hF fdK_X8_19 dX8_road_46 ?_
          refine pp_iload_n hF dX8_road_49 rfl rfl ?_
          refine pp_iload_n hF dX8_road_50 rfl rfl ?_
          refine pp_iload_n hF dX8_road_51 rfl rfl ?_
          obtain ⟨x52, hx52, h⟩ := pp_bd h
          refine pp_callVv hF (c_X2_build hx52) mV_X2_build lk_X8_115 obK_4 rfl rfl ⟨by decide, by decide⟩ (Nat.le_of_ble_eq_true rfl) dX8_road_52 ?_
          refine pp_aload_n hF dX8_road_55 rfl rfl ?_
          refine pp_getR hF fdK_X8_74 dX8_road_56 ?_
          obtain ⟨x59, hx59, h⟩ := pp_bd h
          refine pp_callVv hF (c_X6_forget hx59) mV_X6_forget lk_X8_106 obK_36 rfl rfl ⟨by decide, by decide⟩ (Nat.le_of_ble_eq_true rfl) dX8_road_59 ?_
          refine pp_iload hF dX8_road_62 rfl ?_
          obtain ⟨rfl, rfl⟩ := pp_i2 h
          exact pp_ireturn hF hR dX8_road_64
set_option maxRecDepth 20000 in
theorem c_X8_road {r' : Int32} {σ' : pp_M} {σ : pp_M} {a1 : Int32} {a2 : Int32} {a3 : Int32} (h : f_X8_road σ a1 a2 a3 = some (r', σ')) : pp_Ct yX8_road cX8_road 5 (some .int) 3 146 dsK [ppR 0 0 0, ppI a1, ppI a2, ppI a3] σ (some (ppI r')) σ' := pp_met pl_X8 rfl okK (Nat.le_of_ble_eq_true rfl) rfl (fun Γ hF hR => (e_X8_road_0 hF hR h))
set_option maxRecDepth 20000 in
theorem e_X8_round_0 {Γ : pp_G} {r' : Int32} {σ' : pp_M} (hF : pp_Fx Γ dsK cX8_round 4 RX8 42 1475) (hR : pp_Rt Γ dsK (some .int) (some (ppI r')) σ') {σ : pp_M} {a1 : Int32} (h : f_X8_round σ a1 = some (r', σ')) : pp_E Γ dsK cX8_round 4 0 [(0, ppR 0 0 0), (1, ppI a1)] [] σ := by
  unfold f_X8_round at h
  refine pp_iload_n hF dX8_round_0 rfl rfl ?_
  refine pp_iconst hF dX8_round_1 ic_n1 ?_
  refine pp_icmp_ge (tgt := 8) hF dX8_round_2 rfl (fun c1 => ?_) (fun c1 => ?_)
  · replace h := (if_pos c1).symm.trans h
    refine pp_bipush hF dX8_round_5 bc_n2 ?_
    obtain ⟨rfl, rfl⟩ := pp_i2 h
    exact pp_ireturn hF hR dX8_round_7
  · replace h := (if_neg c1).symm.trans h
    refine pp_aload_n hF dX8_round_8 rfl rfl ?_
    obtain ⟨x9, hx9, h⟩ := pp_bd h
    refine pp_callVi hF (c_X8_tooManyOpen hx9) mV_X8_tooManyOpen lk_X8_257 obK_0 rfl rfl ⟨by decide, by decide⟩ (Nat.le_of_ble_eq_true rfl) dX8_round_9 ?_
    refine pp_if_eq (tgt := 18) hF dX8_round_12 rfl (fun c3 => ?_) (fun c3 => ?_)
    · replace h := (if_pos c3).symm.trans h
      refine pp_aload_n hF dX8_round_18 rfl rfl ?_
      refine pp_getR hF fdK_X8_74 dX8_round_19 ?_
      refine pp_aload_n hF dX8_round_22 rfl rfl ?_
      refine pp_getI hF fdK_X8_88 dX8_round_23 ?_
      refine pp_aload_n hF dX8_round_26 rfl rfl ?_
      refine pp_getI hF fdK_X8_82 dX8_round_27 ?_
      refine pp_aload_n hF dX8_round_30 rfl rfl ?_
      refine pp_getI hF fdK_X8_85 dX8_round_31 ?_
      obtain ⟨x34, hx34, h⟩ := pp_bd h
      refine pp_callVv hF (c_X6_findRounds hx34) mV_X6_findRounds lk_X8_261 obK_36 rfl rfl ⟨by decide, by decide⟩ (Nat.le_of_ble_eq_true rfl) dX8_round_34 ?_
      refine pp_aload_n hF dX8_round_37 rfl rfl ?_
      refine pp_getR hF fdK_X8_74 dX8_round_38 ?_
      refine pp_getR hF fdK_X8_264 dX8_round_41 ?_
      refine pp_aload_n hF dX8_round_44 rfl rfl ?_
      refine pp_getR hF fdK_X8_74 dX8_round_45 ?_
      obtain ⟨x48, hx48, h⟩ := pp_bd h
      refine pp_callVi hF (c_X6_bestSet hx48) mV_X6_bestSet lk_X8_267 obK_36 rfl rfl ⟨by decide, by decide⟩ (Nat.le_of_ble_eq_true rfl) dX8_round_48 ?_
      obtain ⟨hi6, h⟩ := pp_ck h
      refine pp_ialoadJ hF vK_38 hi6 (Nat.zero_add _) dX8_round_51 ?_
      refine pp_istore_n hF dX8_round_52 rfl (by decide) (lv' := [(0, ppR 0 0 0), (1, ppI a1), (2, ppI (x48.2.1 38 x48.1.toNatClampNeg))]) rfl ?_
      refine pp_iload_n hF dX8_round_53 rfl rfl ?_
      obtain ⟨x54, hx54, h⟩ := pp_bd h
      refine pp_callSi hF (c_X8_farmsOf hx54) mS_X8_farmsOf lk_X8_270 rfl rfl ⟨by decide, by decide⟩ (Nat.le_of_ble_eq_true rfl) dX8_round_54 ?_
      refine pp_istore_n hF dX8_round_57 rfl (by decide) (lv' := [(0, ppR 0 0 0), (1, ppI a1), (2, ppI (x48.2.1 38 x48.1.toNatClampNeg)), (3, ppI x54.1)]) rfl ?_
      refine pp_iload_n hF dX8_round_58 rfl rfl ?_
      refine pp_iconst hF dX8_round_59 ic_n1 ?_
      refine pp_icmp_ne (tgt := 65) hF dX8_round_60 rfl (fun c8 => ?_) (fun c8 => ?_)
      · replace h := (if_pos c8).symm.trans h
        refine pp_iload_n hF dX8_round_63 rfl rfl ?_
        obtain ⟨rfl, rfl⟩ := pp_i2 h
        exact pp_ireturn hF hR dX8_round_64
      · replace h := (if_neg c8).symm.trans h
        refine pp_iload_n hF dX8_round_65 rfl rfl ?_
        refine pp_iload_n hF dX8_round_66 rfl rfl ?_
        refine pp_icmp_ge (tgt := 82) hF dX8_round_67 rfl (fun c9 => ?_) (fun c9 => ?_)
        · replace h := (if_pos c9).symm.trans h
          refine pp_iload_n hF dX8_round_70 rfl rfl ?_
          refine pp_iload_n hF dX8_round_71 rfl rfl ?_
          refine pp_iconst hF dX8_round_72 ic_1 ?_
          refine pp_isub hF dX8_round_73 ?_
          refine pp_iload_n hF dX8_round_74 rfl rfl ?_
          refine pp_isub hF dX8_round_75 ?_
          obtain ⟨x76, hx76, h⟩ := pp_bd h
          refine pp_callSi hF (c_X8_farmOf hx76) mS_X8_farmOf lk_X8_273 rfl rfl ⟨by decide, by decide⟩ (Nat.le_of_ble_eq_true rfl) dX8_round_76 ?_
          refine pp_goto (tgt := 83) hF dX8_round_79 rfl ?_
          obtain ⟨rfl, rfl⟩ := pp_i2 h
          exact pp_ireturn hF hR dX8_round_83
        · replace h := (if_neg c9).symm.trans h
          refine pp_iconst hF dX8_round_82 ic_n1 ?_
          obtain ⟨rfl, rfl⟩ := pp_i2 h
          exact pp_ireturn hF hR dX8_round_83
    · replace h := (if_neg c3).symm.trans h
      refine pp_bipush hF dX8_round_15 bc_n4 ?_
      obtain ⟨rfl, rfl⟩ := pp_i2 h
      exact pp_ireturn hF hR dX8_round_17
set_option maxRecDepth 20000 in
theorem c_X8_round {r' : Int32} {σ' : pp_M} {σ : pp_M} {a1 : Int32} (h : f_X8_round σ a1 = some (r', σ')) : pp_Ct yX8_round cX8_round 4 (some .int) 42 1475 dsK [ppR 0 0 0, ppI a1] σ (some (ppI r')) σ' := pp_met pl_X8 rfl okK (Nat.le_of_ble_eq_true rfl) rfl (fun Γ hF hR => (e_X8_round_0 hF hR h))
set_option maxRecDepth 20000 in
theorem e_X8_rounds_0 {Γ : pp_G} {r' : Int64} {σ' : pp_M} (hF : pp_Fx Γ dsK cX8_rounds 2 RX8 42 1475) (hR : pp_Rt Γ dsK (some .long) (some (ppL r')) σ') {σ : pp_M} {a1 : Int32} (h : f_X8_rounds σ a1 = some (r', σ')) : pp_E Γ dsK cX8_rounds 2 0 [(0, ppR 0 0 0), (1, ppI a1)] [] σ := by
  unfold f_X8_rounds at h
  refine pp_iload_n hF dX8_rounds_0 rfl rfl ?_
  obtain ⟨x1, hx1, h⟩ := pp_bd h
  refine pp_callSi hF (c_X8_isTerm hx1) mS_X8_isTerm lk_X8_193 rfl rfl ⟨by decide, by decide⟩ (Nat.le_of_ble_eq_true rfl) dX8_rounds_1 ?_
  refine pp_if_ne (tgt := 13) hF dX8_rounds_4 rfl (fun c2 => ?_) (fun c2 => ?_)
  · replace h := (if_pos c2).symm.trans h
    refine pp_bipush hF dX8_rounds_7 bc_n2 ?_
    obtain ⟨x9, hx9, h⟩ := pp_bd h
    refine pp_callSl hF (c_X8_refusal hx9) mS_X8_refusal lk_X8_196 rfl rfl ⟨by decide, by decide⟩ (Nat.le_of_ble_eq_true rfl) dX8_rounds_9 ?_
    obtain ⟨rfl, rfl⟩ := pp_i2 h
    exact pp_lreturn hF hR dX8_rounds_12
  · replace h := (if_neg c2).symm.trans h
    refine pp_aload_n hF dX8_rounds_13 rfl rfl ?_
    obtain ⟨x14, hx14, h⟩ := pp_bd h
    refine pp_callVi hF (c_X8_tooManyOpen hx14) mV_X8_tooManyOpen lk_X8_257 obK_0 rfl rfl ⟨by decide, by decide⟩ (Nat.le_of_ble_eq_true rfl) dX8_rounds_14 ?_
    refine pp_if_eq (tgt := 26) hF dX8_rounds_17 rfl (fun c5 => ?_) (fun c5 => ?_)
    · replace h := (if_pos c5).symm.trans h
      refine pp_aload_n hF dX8_rounds_26 rfl rfl ?_
      refine pp_getR hF fdK_X8_74 dX8_rounds_27 ?_
      refine pp_aload_n hF dX8_rounds_30 rfl rfl ?_
      refine pp_getI hF fdK_X8_88 dX8_rounds_31 ?_
      refine pp_aload_n hF dX8_rounds_34 rfl rfl ?_
      refine pp_getI hF fdK_X8_82 dX8_rounds_35 ?_
      refine pp_aload_n hF dX8_rounds_38 rfl rfl ?_
      refine pp_getI hF fdK_X8_85 dX8_rounds_39 ?_
      obtain ⟨x42, hx42, h⟩ := pp_bd h
      refine pp_callVv hF (c_X6_findRounds hx42) mV_X6_findRounds lk_X8_261 obK_36 rfl rfl ⟨by decide, by decide⟩ (Nat.le_of_ble_eq_true rfl) dX8_rounds_42 ?_
      refine pp_aload_n hF dX8_rounds_45 rfl rfl ?_
      refine pp_getR hF fdK_X8_74 dX8_rounds_46 ?_
      refine pp_getR hF fdK_X8_276 dX8_rounds_49 ?_
      refine pp_aload_n hF dX8_rounds_52 rfl rfl ?_
      refine pp_getR hF fdK_X8_74 dX8_rounds_53 ?_
      obtain ⟨x56, hx56, h⟩ := pp_bd h
      refine pp_callVi hF (c_X6_bestSet hx56) mV_X6_bestSet lk_X8_267 obK_36 rfl rfl ⟨by decide, by decide⟩ (Nat.le_of_ble_eq_true rfl) dX8_rounds_56 ?_
      obtain ⟨hi8, h⟩ := pp_ck h
      refine pp_laloadJ hF vK_37 hi8 (Nat.zero_add _) dX8_rounds_59 ?_
      refine pp_ldc2 hF wm_526 dX8_rounds_60 ?_
      refine pp_iload_n hF dX8_rounds_63 rfl rfl ?_
      obtain ⟨x64, hx64, h⟩ := pp_bd h
      refine pp_callSl hF (c_X8_term hx64) mS_X8_term lk_X8_214 rfl rfl ⟨by decide, by decide⟩ (Nat.le_of_ble_eq_true rfl) dX8_rounds_64 ?_
      obtain ⟨rfl, rfl⟩ := pp_i2 h
      exact pp_lreturn hF hR dX8_rounds_67
    · replace h := (if_neg c5).symm.trans h
      refine pp_bipush hF dX8_rounds_20 bc_n4 ?_
      obtain ⟨x22, hx22, h⟩ := pp_bd h
      refine pp_callSl hF (c_X8_refusal hx22) mS_X8_refusal lk_X8_196 rfl rfl ⟨by decide, by decide⟩ (Nat.le_of_ble_eq_true rfl) dX8_rounds_22 ?_
      obtain ⟨rfl, rfl⟩ := pp_i2 h
      exact pp_lreturn hF hR dX8_rounds_25
set_option maxRecDepth 20000 in
theorem c_X8_rounds {r' : Int64} {σ' : pp_M} {σ : pp_M} {a1 : Int32} (h : f_X8_rounds σ a1 = some (r', σ')) : pp_Ct yX8_rounds cX8_rounds 2 (some .long) 42 1475 dsK [ppR 0 0 0, ppI a1] σ (some (ppL r')) σ' := pp_met pl_X8 rfl okK (Nat.le_of_ble_eq_true rfl) rfl (fun Γ hF hR => (e_X8_rounds_0 hF hR h))
set_option maxRecDepth 20000 in
theorem e_X8_row_61 {Γ : pp_G} {r' : Int32} {σ' : pp_M} (hF : pp_Fx Γ dsK cX8_row 4 RX8 4 77) (hR : pp_Rt Γ dsK (some .int) (some (ppI r')) σ') {σ : pp_M} {a1 : Int32} {a2 : Int32} {a3 : Int32} {k61 : pp_M → Int32 → Int32 → Int32 → Option (Int32 × pp_M)} (hk61 : ∀ {σ : pp_M} {a1 : Int32} {a2 : Int32} {a3 : Int32}, k61 σ a1 a2 a3 = some (r', σ') → pp_E Γ dsK cX8_row 4 61 [(0, ppR 0 0 0), (1, ppI a1), (2, ppI a2), (3, ppI a3)] [] σ) (h : f_X8_row_61_B k61 σ a1 a2 a3 = some (r', σ')) : pp_E Γ dsK cX8_row 4 61 [(0, ppR 0 0 0), (1, ppI a1), (2, ppI a2), (3, ppI a3)] [] σ := by
  unfold f_X8_row_61_B at h
  refine pp_iload_n hF dX8_row_61 rfl rfl ?_
  refine pp_iload_n hF dX8_row_62 rfl rfl ?_
  refine pp_icmp_ge (tgt := 89) hF dX8_row_63 rfl (fun c1 => ?_) (fun c1 => ?_)
  · replace h := (if_pos c1).symm.trans h
    refine pp_aload_n hF dX8_row_66 rfl rfl ?_
    refine pp_getR hF fdK_X8_62 dX8_row_67 ?_
    refine pp_iload_n hF dX8_row_70 rfl rfl ?_
    refine pp_aload_n hF dX8_row_71 rfl rfl ?_
    refine pp_getR hF fdK_X8_40 dX8_row_72 ?_
    refine pp_getR hF fdK_X8_158 dX8_row_75 ?_
    refine pp_iload_n hF dX8_row_78 rfl rfl ?_
    obtain ⟨hi2, h⟩ := pp_ck h
    refine pp_aaloadI hF vK_17 hi2 dX8_row_79 ?_
    refine pp_iload_n hF dX8_row_80 rfl rfl ?_
    obtain ⟨hi3, h⟩ := pp_ck h
    refine pp_ialoadJ hF (vK_18 _ (vp_lt hi2)) hi3 rfl dX8_row_81 ?_
    obtain ⟨hi4, h⟩ := pp_ck h
    refine pp_iastoreJ hF vK_34 hi4 (Nat.zero_add _) dX8_row_82 ?_
    refine pp_iinc hF dX8_row_83 rfl (congrArg (HAdd.hAdd _) ic_1) (by decide) (lv' := [(0, ppR 0 0 0), (1, ppI a1), (2, ppI a2), (3, ppI (a3 + (1 : Int32)))]) rfl ?_
    refine pp_goto (tgt := 61) hF dX8_row_86 rfl ?_
    exact hk61 h
  · replace h := (if_neg c1).symm.trans h
    refine pp_aload_n hF dX8_row_89 rfl rfl ?_
    refine pp_iload_n hF dX8_row_90 rfl rfl ?_
    refine pp_putI hF fwK_X8_78 dX8_row_91 ?_
    refine pp_iload_n hF dX8_row_94 rfl rfl ?_
    obtain ⟨rfl, rfl⟩ := pp_i2 h
    exact pp_ireturn hF hR dX8_row_95
set_option maxRecDepth 20000 in
theorem e_X8_row_61_L {Γ : pp_G} {r' : Int32} {σ' : pp_M} (hF : pp_Fx Γ dsK cX8_row 4 RX8 4 77) (hR : pp_Rt Γ dsK (some .int) (some (ppI r')) σ') : ∀ {n : Nat} {σ : pp_M} {a1 : Int32} {a2 : Int32} {a3 : Int32}, f_X8_row_61 n σ a1 a2 a3 = some (r', σ') → pp_E Γ dsK cX8_row 4 61 [(0, ppR 0 0 0), (1, ppI a1), (2, ppI a2), (3, ppI a3)] [] σ
  | 0, _, _, _, _ => fun h => by cases h
  | n + 1, _, _, _, _ => fun h => e_X8_row_61 hF hR (fun h => e_X8_row_61_L hF hR (n := n) h) h
set_option maxRecDepth 20000 in
theorem e_X8_row_0 {Γ : pp_G} {r' : Int32} {σ' : pp_M} (hF : pp_Fx Γ dsK cX8_row 4 RX8 4 77) (hR : pp_Rt Γ dsK (some .int) (some (ppI r')) σ') {σ : pp_M} {a1 : Int32} (h : f_X8_row σ a1 = some (r', σ')) : pp_E Γ dsK cX8_row 4 0 [(0, ppR 0 0 0), (1, ppI a1)] [] σ := by
  unfold f_X8_row at h
  refine pp_iload_n hF dX8_row_0 rfl rfl ?_
  obtain ⟨x1, hx1, h⟩ := pp_bd h
  refine pp_callSi hF (c_X8_isSheet hx1) mS_X8_isSheet lk_X8_136 rfl rfl ⟨by decide, by decide⟩ (Nat.le_of_ble_eq_true rfl) dX8_row_1 ?_
  refine pp_if_ne (tgt := 10) hF dX8_row_4 rfl (fun c2 => ?_) (fun c2 => ?_)
  · replace h := (if_pos c2).symm.trans h
    refine pp_bipush hF dX8_row_7 bc_n2 ?_
    obtain ⟨rfl, rfl⟩ := pp_i2 h
    exact pp_ireturn hF hR dX8_row_9
  · replace h := (if_neg c2).symm.trans h
    refine pp_aload_n hF dX8_row_10 rfl rfl ?_
    refine pp_getR hF fdK_X8_40 dX8_row_11 ?_
    refine pp_iload_n hF dX8_row_14 rfl rfl ?_
    obtain ⟨x15, hx15, h⟩ := pp_bd h
    refine pp_callVi hF (c_X7_isLost hx15) mV_X7_isLost lk_X8_142 obK_16 rfl rfl ⟨by decide, by decide⟩ (Nat.le_of_ble_eq_true rfl) dX8_row_15 ?_
    refine pp_if_eq (tgt := 30) hF dX8_row_18 rfl (fun c4 => ?_) (fun c4 => ?_)
    · replace h := (if_pos c4).symm.trans h
      refine pp_aload_n hF dX8_row_30 rfl rfl ?_
      refine pp_getR hF fdK_X8_40 dX8_row_31 ?_
      refine pp_getR hF fdK_X8_149 dX8_row_34 ?_
      refine pp_iload_n hF dX8_row_37 rfl rfl ?_
      obtain ⟨hi5, h⟩ := pp_ck h
      refine pp_ialoadJ hF vK_20 hi5 (Nat.zero_add _) dX8_row_38 ?_
      refine pp_istore_n hF dX8_row_39 rfl (by decide) (lv' := [(0, ppR 0 0 0), (1, ppI a1), (2, ppI (x15.2.1 20 a1.toNatClampNeg))]) rfl ?_
      refine pp_aload_n hF dX8_row_40 rfl rfl ?_
      refine pp_getR hF fdK_X8_40 dX8_row_41 ?_
      refine pp_getR hF fdK_X8_158 dX8_row_44 ?_
      refine pp_iload_n hF dX8_row_47 rfl rfl ?_
      refine pp_aaloadI hF vK_17 hi5 dX8_row_48 ?_
      refine pp_iload_n hF dX8_row_49 rfl rfl ?_
      obtain ⟨x50, hx50, h⟩ := pp_bd h
      refine pp_callSi hF (c_X8_areFarms (vK_18 _ (vp_lt hi5)) hx50) mS_X8_areFarms lk_X8_175 rfl rfl ⟨by decide, by decide⟩ (Nat.le_of_ble_eq_true rfl) dX8_row_50 ?_
      refine pp_if_ne (tgt := 59) hF dX8_row_53 rfl (fun c7 => ?_) (fun c7 => ?_)
      · replace h := (if_pos c7).symm.trans h
        refine pp_bipush hF dX8_row_56 bc_n3 ?_
        obtain ⟨rfl, rfl⟩ := pp_i2 h
        exact pp_ireturn hF hR dX8_row_58
      · replace h := (if_neg c7).symm.trans h
        refine pp_iconst hF dX8_row_59 ic_0 ?_
        refine pp_istore_n hF dX8_row_60 rfl (by decide) (lv' := [(0, ppR 0 0 0), (1, ppI a1), (2, ppI (x15.2.1 20 a1.toNatClampNeg)), (3, ppI (0 : Int32))]) rfl ?_
        exact e_X8_row_61_L hF hR h
    · replace h := (if_neg c4).symm.trans h
      refine pp_aload_n hF dX8_row_21 rfl rfl ?_
      refine pp_getR hF fdK_X8_40 dX8_row_22 ?_
      refine pp_iconst hF dX8_row_25 ic_1 ?_
      obtain ⟨x26, hx26, h⟩ := pp_bd h
      refine pp_callVi hF (c_X7_found hx26) mV_X7_found lk_X8_145 obK_16 rfl rfl ⟨by decide, by decide⟩ (Nat.le_of_ble_eq_true rfl) dX8_row_26 ?_
      obtain ⟨rfl, rfl⟩ := pp_i2 h
      exact pp_ireturn hF hR dX8_row_29
set_option maxRecDepth 20000 in
theorem c_X8_row {r' : Int32} {σ' : pp_M} {σ : pp_M} {a1 : Int32} (h : f_X8_row σ a1 = some (r', σ')) : pp_Ct yX8_row cX8_row 4 (some .int) 4 77 dsK [ppR 0 0 0, ppI a1] σ (some (ppI r')) σ' := pp_met pl_X8 rfl okK (Nat.le_of_ble_eq_true rfl) rfl (fun Γ hF hR => (e_X8_row_0 hF hR h))
set_option maxRecDepth 20000 in
theorem e_X8_set_84 {Γ : pp_G} {r' : Int32} {σ' : pp_M} (hF : pp_Fx Γ dsK cX8_set 4 RX8 2 34) (hR : pp_Rt Γ dsK (some .int) (some (ppI r')) σ') {σ : pp_M} {a3 : Int32} (h : f_X8_set_84 σ a3 = some (r', σ')) : pp_E Γ dsK cX8_set 4 84 [(0, ppR 0 0 0), (3, ppI a3)] [] σ := by
  unfold f_X8_set_84 at h
  refine pp_aload_n hF dX8_set_84 rfl rfl ?_
  refine pp_getR hF fdK_X8_74 dX8_set_85 ?_
  obtain ⟨x88, hx88, h⟩ := pp_bd h
  refine pp_callVv hF (c_X6_forget hx88) mV_X6_forget lk_X8_106 obK_36 rfl rfl ⟨by decide, by decide⟩ (Nat.le_of_ble_eq_true rfl) dX8_set_88 ?_
  refine pp_iload_n hF dX8_set_91 rfl rfl ?_
  obtain ⟨rfl, rfl⟩ := pp_i2 h
  exact pp_ireturn hF hR dX8_set_92
set_option maxRecDepth 20000 in
theorem e_X8_set_59 {Γ : pp_G} {r' : Int32} {σ' : pp_M} (hF : pp_Fx Γ dsK cX8_set 4 RX8 2 34) (hR : pp_Rt Γ dsK (some .int) (some (ppI r')) σ') {σ : pp_M} {a1 : Int32} {a2 : Int32} {a3 : Int32} (h : f_X8_set_59 σ a1 a2 a3 = some (r', σ')) : pp_E Γ dsK cX8_set 4 59 [(0, ppR 0 0 0), (1, ppI a1), (2, ppI a2), (3, ppI a3)] [] σ := by
  unfold f_X8_set_59 at h
  refine pp_iload_n hF dX8_set_59 rfl rfl ?_
  refine pp_iconst hF dX8_set_60 ic_2 ?_
  refine pp_icmp_ne (tgt := 84) hF dX8_set_61 rfl (fun c1 => ?_) (fun c1 => ?_)
  · replace h := (if_pos c1).symm.trans h
    refine pp_iload_n hF dX8_set_64 rfl rfl ?_
    refine pp_iconst hF dX8_set_65 ic_0 ?_
    refine pp_bipush hF dX8_set_66 bc_127 ?_
    obtain ⟨x68, hx68, h⟩ := pp_bd h
    refine pp_callSi hF (c_X8_within hx68) mS_X8_within lk_X8_95 rfl rfl ⟨by decide, by decide⟩ (Nat.le_of_ble_eq_true rfl) dX8_set_68 ?_
    refine pp_if_eq (tgt := 84) hF dX8_set_71 rfl (fun c3 => ?_) (fun c3 => ?_)
    · replace h := (if_pos c3).symm.trans h
      refine pp_few [0, 3] (lv' := [(0, ppR 0 0 0), (3, ppI a3)]) rfl ?_
      exact e_X8_set_84 hF hR h
    · replace h := (if_neg c3).symm.trans h
      refine pp_aload_n hF dX8_set_74 rfl rfl ?_
      refine pp_getI hF fdK_X8_88 dX8_set_75 ?_
      refine pp_istore_n hF dX8_set_78 rfl (by decide) (lv' := [(0, ppR 0 0 0), (1, ppI a1), (2, ppI a2), (3, ppI (x68.2.1 0 13))]) rfl ?_
      refine pp_aload_n hF dX8_set_79 rfl rfl ?_
      refine pp_iload_n hF dX8_set_80 rfl rfl ?_
      refine pp_putI hF fwK_X8_88 dX8_set_81 ?_
      refine pp_few [0, 3] (lv' := [(0, ppR 0 0 0), (3, ppI (x68.2.1 0 13))]) rfl ?_
      exact e_X8_set_84 hF hR h
  · replace h := (if_neg c1).symm.trans h
    refine pp_few [0, 3] (lv' := [(0, ppR 0 0 0), (3, ppI a3)]) rfl ?_
    exact e_X8_set_84 hF hR h
set_option maxRecDepth 20000 in
theorem e_X8_set_31 {Γ : pp_G} {r' : Int32} {σ' : pp_M} (hF : pp_Fx Γ dsK cX8_set 4 RX8 2 34) (hR : pp_Rt Γ dsK (some .int) (some (ppI r')) σ') {σ : pp_M} {a1 : Int32} {a2 : Int32} {a3 : Int32} (h : f_X8_set_31 σ a1 a2 a3 = some (r', σ')) : pp_E Γ dsK cX8_set 4 31 [(0, ppR 0 0 0), (1, ppI a1), (2, ppI a2), (3, ppI a3)] [] σ := by
  unfold f_X8_set_31 at h
  refine pp_iload_n hF dX8_set_31 rfl rfl ?_
  refine pp_iconst hF dX8_set_32 ic_1 ?_
  refine pp_icmp_ne (tgt := 59) hF dX8_set_33 rfl (fun c1 => ?_) (fun c1 => ?_)
  · replace h := (if_pos c1).symm.trans h
    refine pp_iload_n hF dX8_set_36 rfl rfl ?_
    refine pp_iconst hF dX8_set_37 ic_1 ?_
    refine pp_bipush hF dX8_set_38 bc_100 ?_
    obtain ⟨x40, hx40, h⟩ := pp_bd h
    refine pp_callSi hF (c_X8_within hx40) mS_X8_within lk_X8_95 rfl rfl ⟨by decide, by decide⟩ (Nat.le_of_ble_eq_true rfl) dX8_set_40 ?_
    refine pp_if_eq (tgt := 59) hF dX8_set_43 rfl (fun c3 => ?_) (fun c3 => ?_)
    · replace h := (if_pos c3).symm.trans h
      exact e_X8_set_59 hF hR h
    · replace h := (if_neg c3).symm.trans h
      refine pp_aload_n hF dX8_set_46 rfl rfl ?_
      refine pp_getI hF fdK_X8_85 dX8_set_47 ?_
      refine pp_istore_n hF dX8_set_50 rfl (by decide) (lv' := [(0, ppR 0 0 0), (1, ppI a1), (2, ppI a2), (3, ppI (x40.2.1 0 12))]) rfl ?_
      refine pp_aload_n hF dX8_set_51 rfl rfl ?_
      refine pp_iload_n hF dX8_set_52 rfl rfl ?_
      refine pp_putI hF fwK_X8_85 dX8_set_53 ?_
      refine pp_goto (tgt := 84) hF dX8_set_56 rfl ?_
      refine pp_few [0, 3] (lv' := [(0, ppR 0 0 0), (3, ppI (x40.2.1 0 12))]) rfl ?_
      exact e_X8_set_84 hF hR h
  · replace h := (if_neg c1).symm.trans h
    exact e_X8_set_59 hF hR h
set_option maxRecDepth 20000 in
theorem e_X8_set_0 {Γ : pp_G} {r' : Int32} {σ' : pp_M} (hF : pp_Fx Γ dsK cX8_set 4 RX8 2 34) (hR : pp_Rt Γ dsK (some .int) (some (ppI r')) σ') {σ : pp_M} {a1 : Int32} {a2 : Int32} (h : f_X8_set σ a1 a2 = some (r', σ')) : pp_E Γ dsK cX8_set 4 0 [(0, ppR 0 0 0), (1, ppI a1), (2, ppI a2)] [] σ := by
  unfold f_X8_set at h
  refine pp_bipush hF dX8_set_0 bc_n2 ?_
  refine pp_istore_n hF dX8_set_2 rfl (by decide) (lv' := [(0, ppR 0 0 0), (1, ppI a1), (2, ppI a2), (3, ppI (-2 : Int32))]) rfl ?_
  refine pp_iload_n hF dX8_set_3 rfl rfl ?_
  refine pp_if_ne (tgt := 31) hF dX8_set_4 rfl (fun c1 => ?_) (fun c1 => ?_)
  · replace h := (if_pos c1).symm.trans h
    refine pp_iload_n hF dX8_set_7 rfl rfl ?_
    refine pp_iconst hF dX8_set_8 ic_1 ?_
    refine pp_sipush hF dX8_set_9 sc_200 ?_
    obtain ⟨x12, hx12, h⟩ := pp_bd h
    refine pp_callSi hF (c_X8_within hx12) mS_X8_within lk_X8_95 rfl rfl ⟨by decide, by decide⟩ (Nat.le_of_ble_eq_true rfl) dX8_set_12 ?_
    refine pp_if_eq (tgt := 31) hF dX8_set_15 rfl (fun c3 => ?_) (fun c3 => ?_)
    · replace h := (if_pos c3).symm.trans h
      exact e_X8_set_31 hF hR h
    · replace h := (if_neg c3).symm.trans h
      refine pp_aload_n hF dX8_set_18 rfl rfl ?_
      refine pp_getI hF fdK_X8_82 dX8_set_19 ?_
      refine pp_istore_n hF dX8_set_22 rfl (by decide) (lv' := [(0, ppR 0 0 0), (1, ppI a1), (2, ppI a2), (3, ppI (x12.2.1 0 11))]) rfl ?_
      refine pp_aload_n hF dX8_set_23 rfl rfl ?_
      refine pp_iload_n hF dX8_set_24 rfl rfl ?_
      refine pp_putI hF fwK_X8_82 dX8_set_25 ?_
      refine pp_goto (tgt := 84) hF dX8_set_28 rfl ?_
      refine pp_few [0, 3] (lv' := [(0, ppR 0 0 0), (3, ppI (x12.2.1 0 11))]) rfl ?_
      exact e_X8_set_84 hF hR h
  · replace h := (if_neg c1).symm.trans h
    exact e_X8_set_31 hF hR h
set_option maxRecDepth 20000 in
theorem c_X8_set {r' : Int32} {σ' : pp_M} {σ : pp_M} {a1 : Int32} {a2 : Int32} (h : f_X8_set σ a1 a2 = some (r', σ')) : pp_Ct yX8_set cX8_set 4 (some .int) 2 34 dsK [ppR 0 0 0, ppI a1, ppI a2] σ (some (ppI r')) σ' := pp_met pl_X8 rfl okK (Nat.le_of_ble_eq_true rfl) rfl (fun Γ hF hR => (e_X8_set_0 hF hR h))
set_option maxRecDepth 20000 in
theorem e_X8_sheet_0 {Γ : pp_G} {r' : Int32} {σ' : pp_M} (hF : pp_Fx Γ dsK cX8_sheet 4 RX8 3 54) (hR : pp_Rt Γ dsK (some .int) (some (ppI r')) σ') {σ : pp_M} {a1 : Int32} {a2 : Int32} {a3 : Int32} (h : f_X8_sheet σ a1 a2 a3 = some (r', σ')) : pp_E Γ dsK cX8_sheet 4 0 [(0, ppR 0 0 0), (1, ppI a1), (2, ppI a2), (3, ppI a3)] [] σ := by
  unfold f_X8_sheet at h
  refine pp_iload_n hF dX8_sheet_0 rfl rfl ?_
  obtain ⟨x1, hx1, h⟩ := pp_bd h
  refine pp_callSi hF (c_X8_isSheet hx1) mS_X8_isSheet lk_X8_136 rfl rfl ⟨by decide, by decide⟩ (Nat.le_of_ble_eq_true rfl) dX8_sheet_1 ?_
  refine pp_if_eq (tgt := 20) hF dX8_sheet_4 rfl (fun c2 => ?_) (fun c2 => ?_)
  · replace h := (if_pos c2).symm.trans h
    refine pp_bipush hF dX8_sheet_20 bc_n2 ?_
    obtain ⟨rfl, rfl⟩ := pp_i2 h
    exact pp_ireturn hF hR dX8_sheet_22
  · replace h := (if_neg c2).symm.trans h
    refine pp_iload_n hF dX8_sheet_7 rfl rfl ?_
    obtain ⟨x8, hx8, h⟩ := pp_bd h
    refine pp_callSi hF (c_X8_isForm hx8) mS_X8_isForm lk_X8_304 rfl rfl ⟨by decide, by decide⟩ (Nat.le_of_ble_eq_true rfl) dX8_sheet_8 ?_
    refine pp_if_eq (tgt := 20) hF dX8_sheet_11 rfl (fun c4 => ?_) (fun c4 => ?_)
    · replace h := (if_pos c4).symm.trans h
      refine pp_bipush hF dX8_sheet_20 bc_n2 ?_
      obtain ⟨rfl, rfl⟩ := pp_i2 h
      exact pp_ireturn hF hR dX8_sheet_22
    · replace h := (if_neg c4).symm.trans h
      refine pp_iload_n hF dX8_sheet_14 rfl rfl ?_
      refine pp_bipush hF dX8_sheet_15 bc_40 ?_
      refine pp_icmp_le (tgt := 23) hF dX8_sheet_17 rfl (fun c5 => ?_) (fun c5 => ?_)
      · replace h := (if_pos c5).symm.trans h
        refine pp_bipush hF dX8_sheet_20 bc_n2 ?_
        obtain ⟨rfl, rfl⟩ := pp_i2 h
        exact pp_ireturn hF hR dX8_sheet_22
      · replace h := (if_neg c5).symm.trans h
        refine pp_iload_n hF dX8_sheet_23 rfl rfl ?_
        refine pp_if_ge (tgt := 36) hF dX8_sheet_24 rfl (fun c6 => ?_) (fun c6 => ?_)
        · replace h := (if_pos c6).symm.trans h
          refine pp_aload_n hF dX8_sheet_27 rfl rfl ?_
          refine pp_getR hF fdK_X8_40 dX8_sheet_28 ?_
          refine pp_iconst hF dX8_sheet_31 ic_5 ?_
          obtain ⟨x32, hx32, h⟩ := pp_bd h
          refine pp_callVi hF (c_X7_found hx32) mV_X7_found lk_X8_145 obK_16 rfl rfl ⟨by decide, by decide⟩ (Nat.le_of_ble_eq_true rfl) dX8_sheet_32 ?_
          obtain ⟨rfl, rfl⟩ := pp_i2 h
          exact pp_ireturn hF hR dX8_sheet_35
        · replace h := (if_neg c6).symm.trans h
          refine pp_aload_n hF dX8_sheet_36 rfl rfl ?_
          refine pp_getR hF fdK_X8_40 dX8_sheet_37 ?_
          refine pp_iload_n hF dX8_sheet_40 rfl rfl ?_
          refine pp_iload_n hF dX8_sheet_41 rfl rfl ?_
          refine pp_iload_n hF dX8_sheet_42 rfl rfl ?_
          obtain ⟨x43, hx43, h⟩ := pp_bd h
          refine pp_callVv hF (c_X7_renew hx43) mV_X7_renew lk_X8_307 obK_16 rfl rfl ⟨by decide, by decide⟩ (Nat.le_of_ble_eq_true rfl) dX8_sheet_43 ?_
          refine pp_iload_n hF dX8_sheet_46 rfl rfl ?_
          obtain ⟨rfl, rfl⟩ := pp_i2 h
          exact pp_ireturn hF hR dX8_sheet_47
set_option maxRecDepth 20000 in
theorem c_X8_sheet {r' : Int32} {σ' : pp_M} {σ : pp_M} {a1 : Int32} {a2 : Int32} {a3 : Int32} (h : f_X8_sheet σ a1 a2 a3 = some (r', σ')) : pp_Ct yX8_sheet cX8_sheet 4 (some .int) 3 54 dsK [ppR 0 0 0, ppI a1, ppI a2, ppI a3] σ (some (ppI r')) σ' := pp_met pl_X8 rfl okK (Nat.le_of_ble_eq_true rfl) rfl (fun Γ hF hR => (e_X8_sheet_0 hF hR h))
set_option maxRecDepth 20000 in
theorem e_X8_shop_0 {Γ : pp_G} {r' : Int32} {σ' : pp_M} (hF : pp_Fx Γ dsK cX8_shop 4 RX8 3 54) (hR : pp_Rt Γ dsK (some .int) (some (ppI r')) σ') {σ : pp_M} {a1 : Int32} {a2 : Int32} (h : f_X8_shop σ a1 a2 = some (r', σ')) : pp_E Γ dsK cX8_shop 4 0 [(0, ppR 0 0 0), (1, ppI a1), (2, ppI a2)] [] σ := by
  unfold f_X8_shop at h
  refine pp_iload_n hF dX8_shop_0 rfl rfl ?_
  obtain ⟨x1, hx1, h⟩ := pp_bd h
  refine pp_callSi hF (c_X8_isThing hx1) mS_X8_isThing lk_X8_91 rfl rfl ⟨by decide, by decide⟩ (Nat.le_of_ble_eq_true rfl) dX8_shop_1 ?_
  refine pp_if_eq (tgt := 17) hF dX8_shop_4 rfl (fun c2 => ?_) (fun c2 => ?_)
  · replace h := (if_pos c2).symm.trans h
    refine pp_bipush hF dX8_shop_17 bc_n2 ?_
    obtain ⟨rfl, rfl⟩ := pp_i2 h
    exact pp_ireturn hF hR dX8_shop_19
  · replace h := (if_neg c2).symm.trans h
    refine pp_iload_n hF dX8_shop_7 rfl rfl ?_
    refine pp_iconst hF dX8_shop_8 ic_0 ?_
    refine pp_bipush hF dX8_shop_9 bc_16 ?_
    obtain ⟨x11, hx11, h⟩ := pp_bd h
    refine pp_callSi hF (c_X8_within hx11) mS_X8_within lk_X8_95 rfl rfl ⟨by decide, by decide⟩ (Nat.le_of_ble_eq_true rfl) dX8_shop_11 ?_
    refine pp_if_ne (tgt := 20) hF dX8_shop_14 rfl (fun c4 => ?_) (fun c4 => ?_)
    · replace h := (if_pos c4).symm.trans h
      refine pp_bipush hF dX8_shop_17 bc_n2 ?_
      obtain ⟨rfl, rfl⟩ := pp_i2 h
      exact pp_ireturn hF hR dX8_shop_19
    · replace h := (if_neg c4).symm.trans h
      refine pp_aload_n hF dX8_shop_20 rfl rfl ?_
      refine pp_getR hF fdK_X8_26 dX8_shop_21 ?_
      refine pp_getR hF fdK_X8_172 dX8_shop_24 ?_
      refine pp_iload_n hF dX8_shop_27 rfl rfl ?_
      obtain ⟨hi5, h⟩ := pp_ck h
      refine pp_ialoadJ hF vK_12 hi5 (Nat.zero_add _) dX8_shop_28 ?_
      refine pp_istore_n hF dX8_shop_29 rfl (by decide) (lv' := [(0, ppR 0 0 0), (1, ppI a1), (2, ppI a2), (3, ppI (x11.2.1 12 a1.toNatClampNeg))]) rfl ?_
      refine pp_aload_n hF dX8_shop_30 rfl rfl ?_
      refine pp_getR hF fdK_X8_26 dX8_shop_31 ?_
      refine pp_getR hF fdK_X8_172 dX8_shop_34 ?_
      refine pp_iload_n hF dX8_shop_37 rfl rfl ?_
      refine pp_iload_n hF dX8_shop_38 rfl rfl ?_
      refine pp_iastoreJ hF vK_12 hi5 (Nat.zero_add _) dX8_shop_39 ?_
      refine pp_aload_n hF dX8_shop_40 rfl rfl ?_
      refine pp_getR hF fdK_X8_74 dX8_shop_41 ?_
      obtain ⟨x44, hx44, h⟩ := pp_bd h
      refine pp_callVv hF (c_X6_forget hx44) mV_X6_forget lk_X8_106 obK_36 rfl rfl ⟨by decide, by decide⟩ (Nat.le_of_ble_eq_true rfl) dX8_shop_44 ?_
      refine pp_iload_n hF dX8_shop_47 rfl rfl ?_
      obtain ⟨rfl, rfl⟩ := pp_i2 h
      exact pp_ireturn hF hR dX8_shop_48
set_option maxRecDepth 20000 in
theorem c_X8_shop {r' : Int32} {σ' : pp_M} {σ : pp_M} {a1 : Int32} {a2 : Int32} (h : f_X8_shop σ a1 a2 = some (r', σ')) : pp_Ct yX8_shop cX8_shop 4 (some .int) 3 54 dsK [ppR 0 0 0, ppI a1, ppI a2] σ (some (ppI r')) σ' := pp_met pl_X8 rfl okK (Nat.le_of_ble_eq_true rfl) rfl (fun Γ hF hR => (e_X8_shop_0 hF hR h))
set_option maxRecDepth 20000 in
theorem e_X8_sold_89 {Γ : pp_G} {r' : Int64} {σ' : pp_M} (hF : pp_Fx Γ dsK cX8_sold 6 RX8 3 126) (hR : pp_Rt Γ dsK (some .long) (some (ppL r')) σ') {σ : pp_M} {a5 : Int32} {b0 : Int64} (h : f_X8_sold_89 σ a5 b0 = some (r', σ')) : pp_E Γ dsK cX8_sold 6 89 [(5, ppI a5)] [ppL b0] σ := by
  unfold f_X8_sold_89 at h
  refine pp_ldc2 hF wm_526 dX8_sold_89 ?_
  refine pp_iload hF dX8_sold_92 rfl ?_
  obtain ⟨x94, hx94, h⟩ := pp_bd h
  refine pp_callSl hF (c_X8_term hx94) mS_X8_term lk_X8_214 rfl rfl ⟨by decide, by decide⟩ (Nat.le_of_ble_eq_true rfl) dX8_sold_94 ?_
  obtain ⟨rfl, rfl⟩ := pp_i2 h
  exact pp_lreturn hF hR dX8_sold_97
set_option maxRecDepth 20000 in
theorem e_X8_sold_39 {Γ : pp_G} {r' : Int64} {σ' : pp_M} (hF : pp_Fx Γ dsK cX8_sold 6 RX8 3 126) (hR : pp_Rt Γ dsK (some .long) (some (ppL r')) σ') {σ : pp_M}  (h : f_X8_sold_39 σ  = some (r', σ')) : pp_E Γ dsK cX8_sold 6 39 [] [] σ := by
  unfold f_X8_sold_39 at h
  refine pp_bipush hF dX8_sold_39 bc_n2 ?_
  obtain ⟨x41, hx41, h⟩ := pp_bd h
  refine pp_callSl hF (c_X8_refusal hx41) mS_X8_refusal lk_X8_196 rfl rfl ⟨by decide, by decide⟩ (Nat.le_of_ble_eq_true rfl) dX8_sold_41 ?_
  obtain ⟨rfl, rfl⟩ := pp_i2 h
  exact pp_lreturn hF hR dX8_sold_44
set_option maxRecDepth 20000 in
theorem e_X8_sold_0 {Γ : pp_G} {r' : Int64} {σ' : pp_M} (hF : pp_Fx Γ dsK cX8_sold 6 RX8 3 126) (hR : pp_Rt Γ dsK (some .long) (some (ppL r')) σ') {σ : pp_M} {a1 : Int32} {a2 : Int32} {a3 : Int32} {a4 : Int32} {a5 : Int32} (h : f_X8_sold σ a1 a2 a3 a4 a5 = some (r', σ')) : pp_E Γ dsK cX8_sold 6 0 [(0, ppR 0 0 0), (1, ppI a1), (2, ppI a2), (3, ppI a3), (4, ppI a4), (5, ppI a5)] [] σ := by
  unfold f_X8_sold at h
  refine pp_iload_n hF dX8_sold_0 rfl rfl ?_
  obtain ⟨x1, hx1, h⟩ := pp_bd h
  refine pp_callSi hF (c_X8_isThing hx1) mS_X8_isThing lk_X8_91 rfl rfl ⟨by decide, by decide⟩ (Nat.le_of_ble_eq_true rfl) dX8_sold_1 ?_
  refine pp_if_eq (tgt := 39) hF dX8_sold_4 rfl (fun c2 => ?_) (fun c2 => ?_)
  · replace h := (if_pos c2).symm.trans h
    refine pp_few [] (lv' := []) rfl ?_
    exact e_X8_sold_39 hF hR h
  · replace h := (if_neg c2).symm.trans h
    refine pp_iload_n hF dX8_sold_7 rfl rfl ?_
    obtain ⟨x8, hx8, h⟩ := pp_bd h
    refine pp_callSi hF (c_X8_isNumber hx8) mS_X8_isNumber lk_X8_190 rfl rfl ⟨by decide, by decide⟩ (Nat.le_of_ble_eq_true rfl) dX8_sold_8 ?_
    refine pp_if_eq (tgt := 39) hF dX8_sold_11 rfl (fun c4 => ?_) (fun c4 => ?_)
    · replace h := (if_pos c4).symm.trans h
      refine pp_few [] (lv' := []) rfl ?_
      exact e_X8_sold_39 hF hR h
    · replace h := (if_neg c4).symm.trans h
      refine pp_iload_n hF dX8_sold_14 rfl rfl ?_
      obtain ⟨x15, hx15, h⟩ := pp_bd h
      refine pp_callSi hF (c_X8_isLevel hx15) mS_X8_isLevel lk_X8_165 rfl rfl ⟨by decide, by decide⟩ (Nat.le_of_ble_eq_true rfl) dX8_sold_15 ?_
      refine pp_if_eq (tgt := 39) hF dX8_sold_18 rfl (fun c6 => ?_) (fun c6 => ?_)
      · replace h := (if_pos c6).symm.trans h
        refine pp_few [] (lv' := []) rfl ?_
        exact e_X8_sold_39 hF hR h
      · replace h := (if_neg c6).symm.trans h
        refine pp_iload hF dX8_sold_21 rfl ?_
        refine pp_iconst hF dX8_sold_23 ic_n1 ?_
        refine pp_iconst hF dX8_sold_24 ic_4 ?_
        obtain ⟨x25, hx25, h⟩ := pp_bd h
        refine pp_callSi hF (c_X8_within hx25) mS_X8_within lk_X8_95 rfl rfl ⟨by decide, by decide⟩ (Nat.le_of_ble_eq_true rfl) dX8_sold_25 ?_
        refine pp_if_eq (tgt := 39) hF dX8_sold_28 rfl (fun c8 => ?_) (fun c8 => ?_)
        · replace h := (if_pos c8).symm.trans h
          refine pp_few [] (lv' := []) rfl ?_
          exact e_X8_sold_39 hF hR h
        · replace h := (if_neg c8).symm.trans h
          refine pp_iload hF dX8_sold_31 rfl ?_
          obtain ⟨x33, hx33, h⟩ := pp_bd h
          refine pp_callSi hF (c_X8_isTerm hx33) mS_X8_isTerm lk_X8_193 rfl rfl ⟨by decide, by decide⟩ (Nat.le_of_ble_eq_true rfl) dX8_sold_33 ?_
          refine pp_if_ne (tgt := 45) hF dX8_sold_36 rfl (fun c10 => ?_) (fun c10 => ?_)
          · replace h := (if_pos c10).symm.trans h
            refine pp_few [] (lv' := []) rfl ?_
            exact e_X8_sold_39 hF hR h
          · replace h := (if_neg c10).symm.trans h
            refine pp_aload_n hF dX8_sold_45 rfl rfl ?_
            refine pp_getR hF fdK_X8_49 dX8_sold_46 ?_
            refine pp_iload_n hF dX8_sold_49 rfl rfl ?_
            refine pp_iload_n hF dX8_sold_50 rfl rfl ?_
            refine pp_iload_n hF dX8_sold_51 rfl rfl ?_
            refine pp_aload_n hF dX8_sold_52 rfl rfl ?_
            refine pp_getR hF fdK_X8_62 dX8_sold_53 ?_
            refine pp_aload_n hF dX8_sold_56 rfl rfl ?_
            refine pp_getI hF fdK_X8_78 dX8_sold_57 ?_
            obtain ⟨x60, hx60, h⟩ := pp_bd h
            refine pp_callVv hF (c_X0_sell vK_34 hx60) mV_X0_sell lk_X8_200 obK_21 rfl rfl ⟨by decide, by decide⟩ (Nat.le_of_ble_eq_true rfl) dX8_sold_60 ?_
            refine pp_iload hF dX8_sold_63 rfl ?_
            refine pp_iconst hF dX8_sold_65 ic_n1 ?_
            refine pp_icmp_ne (tgt := 79) hF dX8_sold_66 rfl (fun c12 => ?_) (fun c12 => ?_)
            · replace h := (if_pos c12).symm.trans h
              refine pp_aload_n hF dX8_sold_69 rfl rfl ?_
              refine pp_getR hF fdK_X8_49 dX8_sold_70 ?_
              obtain ⟨x73, hx73, h⟩ := pp_bd h
              refine pp_callVl hF (c_X0_meanSold hx73) mV_X0_meanSold lk_X8_204 obK_21 rfl rfl ⟨by decide, by decide⟩ (Nat.le_of_ble_eq_true rfl) dX8_sold_73 ?_
              refine pp_goto (tgt := 89) hF dX8_sold_76 rfl ?_
              refine pp_few [5] (lv' := [(5, ppI a5)]) rfl ?_
              exact e_X8_sold_89 hF hR h
            · replace h := (if_neg c12).symm.trans h
              refine pp_aload_n hF dX8_sold_79 rfl rfl ?_
              refine pp_getR hF fdK_X8_49 dX8_sold_80 ?_
              refine pp_getR hF fdK_X8_208 dX8_sold_83 ?_
              refine pp_iload hF dX8_sold_86 rfl ?_
              obtain ⟨hi14, h⟩ := pp_ck h
              refine pp_laloadJ hF vK_24 hi14 (Nat.zero_add _) dX8_sold_88 ?_
              refine pp_few [5] (lv' := [(5, ppI a5)]) rfl ?_
              exact e_X8_sold_89 hF hR h
set_option maxRecDepth 20000 in
theorem c_X8_sold {r' : Int64} {σ' : pp_M} {σ : pp_M} {a1 : Int32} {a2 : Int32} {a3 : Int32} {a4 : Int32} {a5 : Int32} (h : f_X8_sold σ a1 a2 a3 a4 a5 = some (r', σ')) : pp_Ct yX8_sold cX8_sold 6 (some .long) 3 126 dsK [ppR 0 0 0, ppI a1, ppI a2, ppI a3, ppI a4, ppI a5] σ (some (ppL r')) σ' := pp_met pl_X8 rfl okK (Nat.le_of_ble_eq_true rfl) rfl (fun Γ hF hR => (e_X8_sold_0 hF hR h))
set_option maxRecDepth 20000 in
theorem e_X8_straps_0 {Γ : pp_G} {r' : Int32} {σ' : pp_M} (hF : pp_Fx Γ dsK cX8_straps 1 RX8 7 183) (hR : pp_Rt Γ dsK (some .int) (some (ppI r')) σ') {σ : pp_M}  (h : f_X8_straps σ  = some (r', σ')) : pp_E Γ dsK cX8_straps 1 0 [(0, ppR 0 0 0)] [] σ := by
  unfold f_X8_straps at h
  refine pp_aload_n hF dX8_straps_0 rfl rfl ?_
  obtain ⟨x1, hx1, h⟩ := pp_bd h
  refine pp_callVv hF (c_X8_weighUp hx1) mV_X8_weighUp lk_X8_230 obK_0 rfl rfl ⟨by decide, by decide⟩ (Nat.le_of_ble_eq_true rfl) dX8_straps_1 ?_
  refine pp_aload_n hF dX8_straps_4 rfl rfl ?_
  refine pp_getR hF fdK_X8_58 dX8_straps_5 ?_
  refine pp_aload_n hF dX8_straps_8 rfl rfl ?_
  refine pp_getI hF fdK_X8_85 dX8_straps_9 ?_
  obtain ⟨x12, hx12, h⟩ := pp_bd h
  refine pp_callVv hF (c_X5_chooseBest hx12) mV_X5_chooseBest lk_X8_237 obK_25 rfl rfl ⟨by decide, by decide⟩ (Nat.le_of_ble_eq_true rfl) dX8_straps_12 ?_
  refine pp_aload_n hF dX8_straps_15 rfl rfl ?_
  refine pp_getR hF fdK_X8_58 dX8_straps_16 ?_
  refine pp_aload_n hF dX8_straps_19 rfl rfl ?_
  refine pp_getI hF fdK_X8_85 dX8_straps_20 ?_
  obtain ⟨x23, hx23, h⟩ := pp_bd h
  refine pp_callVi hF (c_X5_leastBringing hx23) mV_X5_leastBringing lk_X8_301 obK_25 rfl rfl ⟨by decide, by decide⟩ (Nat.le_of_ble_eq_true rfl) dX8_straps_23 ?_
  obtain ⟨rfl, rfl⟩ := pp_i2 h
  exact pp_ireturn hF hR dX8_straps_26
set_option maxRecDepth 20000 in
theorem c_X8_straps {r' : Int32} {σ' : pp_M} {σ : pp_M}  (h : f_X8_straps σ  = some (r', σ')) : pp_Ct yX8_straps cX8_straps 1 (some .int) 7 183 dsK [ppR 0 0 0] σ (some (ppI r')) σ' := pp_met pl_X8 rfl okK (Nat.le_of_ble_eq_true rfl) rfl (fun Γ hF hR => (e_X8_straps_0 hF hR h))
set_option maxRecDepth 20000 in
theorem e_X8_thing_0 {Γ : pp_G} {r' : Int32} {σ' : pp_M} (hF : pp_Fx Γ dsK cX8_thing 5 RX8 3 59) (hR : pp_Rt Γ dsK (some .int) (some (ppI r')) σ') {σ : pp_M} {a1 : Int32} {a2 : Int32} {a3 : Int32} (h : f_X8_thing σ a1 a2 a3 = some (r', σ')) : pp_E Γ dsK cX8_thing 5 0 [(0, ppR 0 0 0), (1, ppI a1), (2, ppI a2), (3, ppI a3)] [] σ := by
  unfold f_X8_thing at h
  refine pp_iload_n hF dX8_thing_0 rfl rfl ?_
  obtain ⟨x1, hx1, h⟩ := pp_bd h
  refine pp_callSi hF (c_X8_isThing hx1) mS_X8_isThing lk_X8_91 rfl rfl ⟨by decide, by decide⟩ (Nat.le_of_ble_eq_true rfl) dX8_thing_1 ?_
  refine pp_if_eq (tgt := 29) hF dX8_thing_4 rfl (fun c2 => ?_) (fun c2 => ?_)
  · replace h := (if_pos c2).symm.trans h
    refine pp_bipush hF dX8_thing_29 bc_n2 ?_
    obtain ⟨rfl, rfl⟩ := pp_i2 h
    exact pp_ireturn hF hR dX8_thing_31
  · replace h := (if_neg c2).symm.trans h
    refine pp_iload_n hF dX8_thing_7 rfl rfl ?_
    refine pp_iconst hF dX8_thing_8 ic_0 ?_
    refine pp_iconst hF dX8_thing_9 ic_5 ?_
    obtain ⟨x10, hx10, h⟩ := pp_bd h
    refine pp_callSi hF (c_X8_within hx10) mS_X8_within lk_X8_95 rfl rfl ⟨by decide, by decide⟩ (Nat.le_of_ble_eq_true rfl) dX8_thing_10 ?_
    refine pp_if_eq (tgt := 29) hF dX8_thing_13 rfl (fun c4 => ?_) (fun c4 => ?_)
    · replace h := (if_pos c4).symm.trans h
      refine pp_bipush hF dX8_thing_29 bc_n2 ?_
      obtain ⟨rfl, rfl⟩ := pp_i2 h
      exact pp_ireturn hF hR dX8_thing_31
    · replace h := (if_neg c4).symm.trans h
      refine pp_aload_n hF dX8_thing_16 rfl rfl ?_
      refine pp_getR hF fdK_X8_12 dX8_thing_17 ?_
      refine pp_iload_n hF dX8_thing_20 rfl rfl ?_
      refine pp_iload_n hF dX8_thing_21 rfl rfl ?_
      refine pp_iload_n hF dX8_thing_22 rfl rfl ?_
      obtain ⟨x23, hx23, h⟩ := pp_bd h
      refine pp_callVi hF (c_X1_mayBe hx23) mV_X1_mayBe lk_X8_99 obK_1 rfl rfl ⟨by decide, by decide⟩ (Nat.le_of_ble_eq_true rfl) dX8_thing_23 ?_
      refine pp_if_ne (tgt := 32) hF dX8_thing_26 rfl (fun c6 => ?_) (fun c6 => ?_)
      · replace h := (if_pos c6).symm.trans h
        refine pp_bipush hF dX8_thing_29 bc_n2 ?_
        obtain ⟨rfl, rfl⟩ := pp_i2 h
        exact pp_ireturn hF hR dX8_thing_31
      · replace h := (if_neg c6).symm.trans h
        refine pp_aload_n hF dX8_thing_32 rfl rfl ?_
        refine pp_getR hF fdK_X8_12 dX8_thing_33 ?_
        refine pp_getR hF fdK_X8_102 dX8_thing_36 ?_
        refine pp_iload_n hF dX8_thing_39 rfl rfl ?_
        obtain ⟨hi7, h⟩ := pp_ck h
        refine pp_aaloadI hF vK_2 hi7 dX8_thing_40 ?_
        refine pp_iload_n hF dX8_thing_41 rfl rfl ?_
        obtain ⟨hi8, h⟩ := pp_ck h
        refine pp_ialoadJ hF (vK_3 _ (vp_lt hi7)) hi8 rfl dX8_thing_42 ?_
        refine pp_istore hF dX8_thing_43 (by decide) (lv' := [(0, ppR 0 0 0), (1, ppI a1), (2, ppI a2), (3, ppI a3), (4, ppI (x23.2.1 3 ((a1.toNatClampNeg * 6) + a2.toNatClampNeg)))]) rfl ?_
        refine pp_aload_n hF dX8_thing_45 rfl rfl ?_
        refine pp_getR hF fdK_X8_12 dX8_thing_46 ?_
        refine pp_getR hF fdK_X8_102 dX8_thing_49 ?_
        refine pp_iload_n hF dX8_thing_52 rfl rfl ?_
        refine pp_aaloadI hF vK_2 hi7 dX8_thing_53 ?_
        refine pp_iload_n hF dX8_thing_54 rfl rfl ?_
        refine pp_iload_n hF dX8_thing_55 rfl rfl ?_
        refine pp_iastoreJ hF (vK_3 _ (vp_lt hi7)) hi8 rfl dX8_thing_56 ?_
        refine pp_aload_n hF dX8_thing_57 rfl rfl ?_
        refine pp_getR hF fdK_X8_74 dX8_thing_58 ?_
        obtain ⟨x61, hx61, h⟩ := pp_bd h
        refine pp_callVv hF (c_X6_forget hx61) mV_X6_forget lk_X8_106 obK_36 rfl rfl ⟨by decide, by decide⟩ (Nat.le_of_ble_eq_true rfl) dX8_thing_61 ?_
        refine pp_iload hF dX8_thing_64 rfl ?_
        obtain ⟨rfl, rfl⟩ := pp_i2 h
        exact pp_ireturn hF hR dX8_thing_66
set_option maxRecDepth 20000 in
theorem c_X8_thing {r' : Int32} {σ' : pp_M} {σ : pp_M} {a1 : Int32} {a2 : Int32} {a3 : Int32} (h : f_X8_thing σ a1 a2 a3 = some (r', σ')) : pp_Ct yX8_thing cX8_thing 5 (some .int) 3 59 dsK [ppR 0 0 0, ppI a1, ppI a2, ppI a3] σ (some (ppI r')) σ' := pp_met pl_X8 rfl okK (Nat.le_of_ble_eq_true rfl) rfl (fun Γ hF hR => (e_X8_thing_0 hF hR h))
set_option maxRecDepth 20000 in
theorem e_X8_trust_0 {Γ : pp_G} {r' : Int32} {σ' : pp_M} (hF : pp_Fx Γ dsK cX8_trust 10 RX8 6 144) (hR : pp_Rt Γ dsK (some .int) (some (ppI r')) σ') {σ : pp_M} {a1 : Int32} {a2 : Int32} {a3 : Int32} {a4 : Int32} {a5 : Int32} (h : f_X8_trust σ a1 a2 a3 a4 a5 = some (r', σ')) : pp_E Γ dsK cX8_trust 10 0 [(0, ppR 0 0 0), (1, ppI a1), (2, ppI a2), (3, ppI a3), (4, ppI a4), (5, ppI a5)] [] σ := by
  unfold f_X8_trust at h
  refine pp_iload_n hF dX8_trust_0 rfl rfl ?_
  obtain ⟨x1, hx1, h⟩ := pp_bd h
  refine pp_callSi hF (c_X8_isThing hx1) mS_X8_isThing lk_X8_91 rfl rfl ⟨by decide, by decide⟩ (Nat.le_of_ble_eq_true rfl) dX8_trust_1 ?_
  refine pp_if_eq (tgt := 49) hF dX8_trust_4 rfl (fun c2 => ?_) (fun c2 => ?_)
  · replace h := (if_pos c2).symm.trans h
    refine pp_bipush hF dX8_trust_49 bc_n2 ?_
    obtain ⟨rfl, rfl⟩ := pp_i2 h
    exact pp_ireturn hF hR dX8_trust_51
  · replace h := (if_neg c2).symm.trans h
    refine pp_iload_n hF dX8_trust_7 rfl rfl ?_
    refine pp_iconst hF dX8_trust_8 ic_0 ?_
    refine pp_aload_n hF dX8_trust_9 rfl rfl ?_
    refine pp_getI hF fdK_X8_78 dX8_trust_10 ?_
    refine pp_iconst hF dX8_trust_13 ic_1 ?_
    refine pp_isub hF dX8_trust_14 ?_
    obtain ⟨x15, hx15, h⟩ := pp_bd h
    refine pp_callSi hF (c_X8_within hx15) mS_X8_within lk_X8_95 rfl rfl ⟨by decide, by decide⟩ (Nat.le_of_ble_eq_true rfl) dX8_trust_15 ?_
    refine pp_if_eq (tgt := 49) hF dX8_trust_18 rfl (fun c4 => ?_) (fun c4 => ?_)
    · replace h := (if_pos c4).symm.trans h
      refine pp_bipush hF dX8_trust_49 bc_n2 ?_
      obtain ⟨rfl, rfl⟩ := pp_i2 h
      exact pp_ireturn hF hR dX8_trust_51
    · replace h := (if_neg c4).symm.trans h
      refine pp_iload_n hF dX8_trust_21 rfl rfl ?_
      refine pp_iconst hF dX8_trust_22 ic_1 ?_
      refine pp_iconst hF dX8_trust_23 ic_4 ?_
      obtain ⟨x24, hx24, h⟩ := pp_bd h
      refine pp_callSi hF (c_X8_within hx24) mS_X8_within lk_X8_95 rfl rfl ⟨by decide, by decide⟩ (Nat.le_of_ble_eq_true rfl) dX8_trust_24 ?_
      refine pp_if_eq (tgt := 49) hF dX8_trust_27 rfl (fun c6 => ?_) (fun c6 => ?_)
      · replace h := (if_pos c6).symm.trans h
        refine pp_bipush hF dX8_trust_49 bc_n2 ?_
        obtain ⟨rfl, rfl⟩ := pp_i2 h
        exact pp_ireturn hF hR dX8_trust_51
      · replace h := (if_neg c6).symm.trans h
        refine pp_iload hF dX8_trust_30 rfl ?_
        obtain ⟨x32, hx32, h⟩ := pp_bd h
        refine pp_callSi hF (c_X8_isLevel hx32) mS_X8_isLevel lk_X8_165 rfl rfl ⟨by decide, by decide⟩ (Nat.le_of_ble_eq_true rfl) dX8_trust_32 ?_
        refine pp_if_eq (tgt := 49) hF dX8_trust_35 rfl (fun c8 => ?_) (fun c8 => ?_)
        · replace h := (if_pos c8).symm.trans h
          refine pp_bipush hF dX8_trust_49 bc_n2 ?_
          obtain ⟨rfl, rfl⟩ := pp_i2 h
          exact pp_ireturn hF hR dX8_trust_51
        · replace h := (if_neg c8).symm.trans h
          refine pp_iload hF dX8_trust_38 rfl ?_
          refine pp_iconst hF dX8_trust_40 ic_0 ?_
          refine pp_bipush hF dX8_trust_41 bc_16 ?_
          obtain ⟨x43, hx43, h⟩ := pp_bd h
          refine pp_callSi hF (c_X8_within hx43) mS_X8_within lk_X8_95 rfl rfl ⟨by decide, by decide⟩ (Nat.le_of_ble_eq_true rfl) dX8_trust_43 ?_
          refine pp_if_ne (tgt := 52) hF dX8_trust_46 rfl (fun c10 => ?_) (fun c10 => ?_)
          · replace h := (if_pos c10).symm.trans h
            refine pp_bipush hF dX8_trust_49 bc_n2 ?_
            obtain ⟨rfl, rfl⟩ := pp_i2 h
            exact pp_ireturn hF hR dX8_trust_51
          · replace h := (if_neg c10).symm.trans h
            refine pp_aload_n hF dX8_trust_52 rfl rfl ?_
            refine pp_getR hF fdK_X8_49 dX8_trust_53 ?_
            refine pp_aload_n hF dX8_trust_56 rfl rfl ?_
            refine pp_getR hF fdK_X8_62 dX8_trust_57 ?_
            refine pp_aload_n hF dX8_trust_60 rfl rfl ?_
            refine pp_getI hF fdK_X8_78 dX8_trust_61 ?_
            obtain ⟨x64, hx64, h⟩ := pp_bd h
            refine pp_callVv hF (c_X0_goAlong vK_34 hx64) mV_X0_goAlong lk_X8_218 obK_21 rfl rfl ⟨by decide, by decide⟩ (Nat.le_of_ble_eq_true rfl) dX8_trust_64 ?_
            refine pp_aload_n hF dX8_trust_67 rfl rfl ?_
            refine pp_getI hF fdK_X8_78 dX8_trust_68 ?_
            refine pp_iload_n hF dX8_trust_71 rfl rfl ?_
            refine pp_isub hF dX8_trust_72 ?_
            refine pp_istore hF dX8_trust_73 (by decide) (lv' := [(0, ppR 0 0 0), (1, ppI a1), (2, ppI a2), (3, ppI a3), (4, ppI a4), (5, ppI a5), (6, ppI ((x64.1 0 10) - a2))]) rfl ?_
            refine pp_iload_n hF dX8_trust_75 rfl rfl ?_
            refine pp_iconst hF dX8_trust_76 ic_5 ?_
            refine pp_imul hF dX8_trust_77 ?_
            refine pp_iload_n hF dX8_trust_78 rfl rfl ?_
            refine pp_iadd hF dX8_trust_79 ?_
            refine pp_istore hF dX8_trust_80 (by decide) (lv' := [(0, ppR 0 0 0), (1, ppI a1), (2, ppI a2), (3, ppI a3), (4, ppI a4), (5, ppI a5), (6, ppI ((x64.1 0 10) - a2)), (7, ppI ((a1 * (5 : Int32)) + a3))]) rfl ?_
            refine pp_iload hF dX8_trust_82 rfl ?_
            refine pp_aload_n hF dX8_trust_84 rfl rfl ?_
            refine pp_getR hF fdK_X8_12 dX8_trust_85 ?_
            refine pp_getR hF fdK_X8_102 dX8_trust_88 ?_
            refine pp_iload_n hF dX8_trust_91 rfl rfl ?_
            obtain ⟨hi12, h⟩ := pp_ck h
            refine pp_aaloadI hF vK_2 hi12 dX8_trust_92 ?_
            refine pp_iconst hF dX8_trust_93 ic_3 ?_
            refine pp_iload hF dX8_trust_94 rfl ?_
            refine pp_iadd hF dX8_trust_96 ?_
            obtain ⟨hi13, h⟩ := pp_ck h
            refine pp_ialoadJ hF (vK_3 _ (vp_lt hi12)) hi13 rfl dX8_trust_97 ?_
            refine pp_imul hF dX8_trust_98 ?_
            refine pp_i2l hF dX8_trust_99 ?_
            refine pp_ldc2 hF wm_728 dX8_trust_100 ?_
            refine pp_lmul hF dX8_trust_103 ?_
            refine pp_lstore hF dX8_trust_104 (by decide) (lv' := [(0, ppR 0 0 0), (1, ppI a1), (2, ppI a2), (3, ppI a3), (4, ppI a4), (5, ppI a5), (6, ppI ((x64.1 0 10) - a2)), (7, ppI ((a1 * (5 : Int32)) + a3)), (8, ppL ((((a5 * (x64.1 3 ((a1.toNatClampNeg * 6) + ((3 : Int32) + a4).toNatClampNeg)))).toInt64) * (16777216 : Int64)))]) rfl ?_
            refine pp_lload hF dX8_trust_106 rfl ?_
            refine pp_aload_n hF dX8_trust_108 rfl rfl ?_
            refine pp_getR hF fdK_X8_49 dX8_trust_109 ?_
            refine pp_getR hF fdK_X8_226 dX8_trust_112 ?_
            refine pp_iload hF dX8_trust_115 rfl ?_
            refine pp_iconst hF dX8_trust_117 ic_1 ?_
            refine pp_isub hF dX8_trust_118 ?_
            obtain ⟨hi14, h⟩ := pp_ck h
            refine pp_aaloadL hF vK_22 hi14 dX8_trust_119 ?_
            refine pp_iload hF dX8_trust_120 rfl ?_
            refine pp_iconst hF dX8_trust_122 ic_1 ?_
            refine pp_isub hF dX8_trust_123 ?_
            obtain ⟨hi15, h⟩ := pp_ck h
            refine pp_laloadJ hF (vK_23 _ (vp_lt hi14)) hi15 rfl dX8_trust_124 ?_
            refine pp_ladd hF dX8_trust_125 ?_
            refine pp_aload_n hF dX8_trust_126 rfl rfl ?_
            refine pp_getR hF fdK_X8_49 dX8_trust_127 ?_
            refine pp_getR hF fdK_X8_226 dX8_trust_130 ?_
            refine pp_iload hF dX8_trust_133 rfl ?_
            obtain ⟨hi16, h⟩ := pp_ck h
            refine pp_aaloadL hF vK_22 hi16 dX8_trust_135 ?_
            refine pp_iload hF dX8_trust_136 rfl ?_
            obtain ⟨hi17, h⟩ := pp_ck h
            refine pp_laloadJ hF (vK_23 _ (vp_lt hi16)) hi17 rfl dX8_trust_138 ?_
            refine pp_lcmp_le (tgt := 147) hF dX8_trust_139 dX8_trust_140 rfl (fun c18 => ?_) (fun c18 => ?_)
            · replace h := (if_pos c18).symm.trans h
              refine pp_iconst hF dX8_trust_143 ic_1 ?_
              refine pp_goto (tgt := 148) hF dX8_trust_144 rfl ?_
              obtain ⟨rfl, rfl⟩ := pp_i2 h
              exact pp_ireturn hF hR dX8_trust_148
            · replace h := (if_neg c18).symm.trans h
              refine pp_iconst hF dX8_trust_147 ic_0 ?_
              obtain ⟨rfl, rfl⟩ := pp_i2 h
              exact pp_ireturn hF hR dX8_trust_148
set_option maxRecDepth 20000 in
theorem c_X8_trust {r' : Int32} {σ' : pp_M} {σ : pp_M} {a1 : Int32} {a2 : Int32} {a3 : Int32} {a4 : Int32} {a5 : Int32} (h : f_X8_trust σ a1 a2 a3 a4 a5 = some (r', σ')) : pp_Ct yX8_trust cX8_trust 10 (some .int) 6 144 dsK [ppR 0 0 0, ppI a1, ppI a2, ppI a3, ppI a4, ppI a5] σ (some (ppI r')) σ' := pp_met pl_X8 rfl okK (Nat.le_of_ble_eq_true rfl) rfl (fun Γ hF hR => (e_X8_trust_0 hF hR h))
set_option maxRecDepth 20000 in
theorem e_X8_two_0 {Γ : pp_G} {r' : Int32} {σ' : pp_M} (hF : pp_Fx Γ dsK cX8_two 2 RX8 42 1475) (hR : pp_Rt Γ dsK (some .int) (some (ppI r')) σ') {σ : pp_M} {a1 : Int32} (h : f_X8_two σ a1 = some (r', σ')) : pp_E Γ dsK cX8_two 2 0 [(0, ppR 0 0 0), (1, ppI a1)] [] σ := by
  unfold f_X8_two at h
  refine pp_iload_n hF dX8_two_0 rfl rfl ?_
  refine pp_iconst hF dX8_two_1 ic_0 ?_
  refine pp_iconst hF dX8_two_2 ic_1 ?_
  obtain ⟨x3, hx3, h⟩ := pp_bd h
  refine pp_callSi hF (c_X8_within hx3) mS_X8_within lk_X8_95 rfl rfl ⟨by decide, by decide⟩ (Nat.le_of_ble_eq_true rfl) dX8_two_3 ?_
  refine pp_if_ne (tgt := 12) hF dX8_two_6 rfl (fun c2 => ?_) (fun c2 => ?_)
  · replace h := (if_pos c2).symm.trans h
    refine pp_bipush hF dX8_two_9 bc_n2 ?_
    obtain ⟨rfl, rfl⟩ := pp_i2 h
    exact pp_ireturn hF hR dX8_two_11
  · replace h := (if_neg c2).symm.trans h
    refine pp_aload_n hF dX8_two_12 rfl rfl ?_
    obtain ⟨x13, hx13, h⟩ := pp_bd h
    refine pp_callVi hF (c_X8_tooManyOpen hx13) mV_X8_tooManyOpen lk_X8_257 obK_0 rfl rfl ⟨by decide, by decide⟩ (Nat.le_of_ble_eq_true rfl) dX8_two_13 ?_
    refine pp_if_eq (tgt := 22) hF dX8_two_16 rfl (fun c4 => ?_) (fun c4 => ?_)
    · replace h := (if_pos c4).symm.trans h
      refine pp_aload_n hF dX8_two_22 rfl rfl ?_
      refine pp_getR hF fdK_X8_74 dX8_two_23 ?_
      refine pp_aload_n hF dX8_two_26 rfl rfl ?_
      refine pp_getI hF fdK_X8_88 dX8_two_27 ?_
      refine pp_aload_n hF dX8_two_30 rfl rfl ?_
      refine pp_getI hF fdK_X8_82 dX8_two_31 ?_
      refine pp_aload_n hF dX8_two_34 rfl rfl ?_
      refine pp_getI hF fdK_X8_85 dX8_two_35 ?_
      obtain ⟨x38, hx38, h⟩ := pp_bd h
      refine pp_callVv hF (c_X6_findRounds hx38) mV_X6_findRounds lk_X8_261 obK_36 rfl rfl ⟨by decide, by decide⟩ (Nat.le_of_ble_eq_true rfl) dX8_two_38 ?_
      refine pp_aload_n hF dX8_two_41 rfl rfl ?_
      refine pp_getR hF fdK_X8_74 dX8_two_42 ?_
      refine pp_aload_n hF dX8_two_45 rfl rfl ?_
      refine pp_getI hF fdK_X8_88 dX8_two_46 ?_
      obtain ⟨x49, hx49, h⟩ := pp_bd h
      refine pp_callVv hF (c_X6_part hx49) mV_X6_part lk_X8_285 obK_36 rfl rfl ⟨by decide, by decide⟩ (Nat.le_of_ble_eq_true rfl) dX8_two_49 ?_
      refine pp_iload_n hF dX8_two_52 rfl rfl ?_
      refine pp_if_ne (tgt := 66) hF dX8_two_53 rfl (fun c7 => ?_) (fun c7 => ?_)
      · replace h := (if_pos c7).symm.trans h
        refine pp_aload_n hF dX8_two_56 rfl rfl ?_
        refine pp_getR hF fdK_X8_74 dX8_two_57 ?_
        refine pp_getI hF fdK_X8_288 dX8_two_60 ?_
        refine pp_goto (tgt := 73) hF dX8_two_63 rfl ?_
        obtain ⟨rfl, rfl⟩ := pp_i2 h
        exact pp_ireturn hF hR dX8_two_73
      · replace h := (if_neg c7).symm.trans h
        refine pp_aload_n hF dX8_two_66 rfl rfl ?_
        refine pp_getR hF fdK_X8_74 dX8_two_67 ?_
        refine pp_getI hF fdK_X8_291 dX8_two_70 ?_
        obtain ⟨rfl, rfl⟩ := pp_i2 h
        exact pp_ireturn hF hR dX8_two_73
    · replace h := (if_neg c4).symm.trans h
      refine pp_bipush hF dX8_two_19 bc_n4 ?_
      obtain ⟨rfl, rfl⟩ := pp_i2 h
      exact pp_ireturn hF hR dX8_two_21
set_option maxRecDepth 20000 in
theorem c_X8_two {r' : Int32} {σ' : pp_M} {σ : pp_M} {a1 : Int32} (h : f_X8_two σ a1 = some (r', σ')) : pp_Ct yX8_two cX8_two 2 (some .int) 42 1475 dsK [ppR 0 0 0, ppI a1] σ (some (ppI r')) σ' := pp_met pl_X8 rfl okK (Nat.le_of_ble_eq_true rfl) rfl (fun Γ hF hR => (e_X8_two_0 hF hR h))
set_option maxRecDepth 20000 in
theorem e_X8_type_0 {Γ : pp_G} {r' : Int32} {σ' : pp_M} (hF : pp_Fx Γ dsK cX8_type 2 RX8 2 34) (hR : pp_Rt Γ dsK (some .int) (some (ppI r')) σ') {σ : pp_M} {a1 : Int32} (h : f_X8_type σ a1 = some (r', σ')) : pp_E Γ dsK cX8_type 2 0 [(0, ppR 0 0 0), (1, ppI a1)] [] σ := by
  unfold f_X8_type at h
  refine pp_iload_n hF dX8_type_0 rfl rfl ?_
  refine pp_iconst hF dX8_type_1 ic_0 ?_
  refine pp_sipush hF dX8_type_2 sc_255 ?_
  obtain ⟨x5, hx5, h⟩ := pp_bd h
  refine pp_callSi hF (c_X8_within hx5) mS_X8_within lk_X8_95 rfl rfl ⟨by decide, by decide⟩ (Nat.le_of_ble_eq_true rfl) dX8_type_5 ?_
  refine pp_if_ne (tgt := 14) hF dX8_type_8 rfl (fun c2 => ?_) (fun c2 => ?_)
  · replace h := (if_pos c2).symm.trans h
    refine pp_bipush hF dX8_type_11 bc_n2 ?_
    obtain ⟨rfl, rfl⟩ := pp_i2 h
    exact pp_ireturn hF hR dX8_type_13
  · replace h := (if_neg c2).symm.trans h
    refine pp_aload_n hF dX8_type_14 rfl rfl ?_
    refine pp_getR hF fdK_X8_33 dX8_type_15 ?_
    refine pp_iload_n hF dX8_type_18 rfl rfl ?_
    obtain ⟨x19, hx19, h⟩ := pp_bd h
    refine pp_callVi hF (c_X3_append hx19) mV_X3_append lk_X8_122 obK_13 rfl rfl ⟨by decide, by decide⟩ (Nat.le_of_ble_eq_true rfl) dX8_type_19 ?_
    refine pp_if_eq (tgt := 35) hF dX8_type_22 rfl (fun c4 => ?_) (fun c4 => ?_)
    · replace h := (if_pos c4).symm.trans h
      refine pp_bipush hF dX8_type_35 bc_n4 ?_
      obtain ⟨rfl, rfl⟩ := pp_i2 h
      exact pp_ireturn hF hR dX8_type_37
    · replace h := (if_neg c4).symm.trans h
      refine pp_aload_n hF dX8_type_25 rfl rfl ?_
      refine pp_getR hF fdK_X8_33 dX8_type_26 ?_
      refine pp_getI hF fdK_X8_125 dX8_type_29 ?_
      refine pp_goto (tgt := 37) hF dX8_type_32 rfl ?_
      obtain ⟨rfl, rfl⟩ := pp_i2 h
      exact pp_ireturn hF hR dX8_type_37
set_option maxRecDepth 20000 in
theorem c_X8_type {r' : Int32} {σ' : pp_M} {σ : pp_M} {a1 : Int32} (h : f_X8_type σ a1 = some (r', σ')) : pp_Ct yX8_type cX8_type 2 (some .int) 2 34 dsK [ppR 0 0 0, ppI a1] σ (some (ppI r')) σ' := pp_met pl_X8 rfl okK (Nat.le_of_ble_eq_true rfl) rfl (fun Γ hF hR => (e_X8_type_0 hF hR h))
set_option maxRecDepth 20000 in
theorem e_X8_value_34 {Γ : pp_G} {r' : Int64} {σ' : pp_M} (hF : pp_Fx Γ dsK cX8_value 5 RX8 6 144) (hR : pp_Rt Γ dsK (some .long) (some (ppL r')) σ') {σ : pp_M}  (h : f_X8_value_34 σ  = some (r', σ')) : pp_E Γ dsK cX8_value 5 34 [] [] σ := by
  unfold f_X8_value_34 at h
  refine pp_bipush hF dX8_value_34 bc_n2 ?_
  obtain ⟨x36, hx36, h⟩ := pp_bd h
  refine pp_callSl hF (c_X8_refusal hx36) mS_X8_refusal lk_X8_196 rfl rfl ⟨by decide, by decide⟩ (Nat.le_of_ble_eq_true rfl) dX8_value_36 ?_
  obtain ⟨rfl, rfl⟩ := pp_i2 h
  exact pp_lreturn hF hR dX8_value_39
set_option maxRecDepth 20000 in
theorem e_X8_value_0 {Γ : pp_G} {r' : Int64} {σ' : pp_M} (hF : pp_Fx Γ dsK cX8_value 5 RX8 6 144) (hR : pp_Rt Γ dsK (some .long) (some (ppL r')) σ') {σ : pp_M} {a1 : Int32} {a2 : Int32} {a3 : Int32} {a4 : Int32} (h : f_X8_value σ a1 a2 a3 a4 = some (r', σ')) : pp_E Γ dsK cX8_value 5 0 [(0, ppR 0 0 0), (1, ppI a1), (2, ppI a2), (3, ppI a3), (4, ppI a4)] [] σ := by
  unfold f_X8_value at h
  refine pp_iload_n hF dX8_value_0 rfl rfl ?_
  obtain ⟨x1, hx1, h⟩ := pp_bd h
  refine pp_callSi hF (c_X8_isThing hx1) mS_X8_isThing lk_X8_91 rfl rfl ⟨by decide, by decide⟩ (Nat.le_of_ble_eq_true rfl) dX8_value_1 ?_
  refine pp_if_eq (tgt := 34) hF dX8_value_4 rfl (fun c2 => ?_) (fun c2 => ?_)
  · replace h := (if_pos c2).symm.trans h
    refine pp_few [] (lv' := []) rfl ?_
    exact e_X8_value_34 hF hR h
  · replace h := (if_neg c2).symm.trans h
    refine pp_iload_n hF dX8_value_7 rfl rfl ?_
    refine pp_iconst hF dX8_value_8 ic_0 ?_
    refine pp_aload_n hF dX8_value_9 rfl rfl ?_
    refine pp_getI hF fdK_X8_78 dX8_value_10 ?_
    obtain ⟨x13, hx13, h⟩ := pp_bd h
    refine pp_callSi hF (c_X8_within hx13) mS_X8_within lk_X8_95 rfl rfl ⟨by decide, by decide⟩ (Nat.le_of_ble_eq_true rfl) dX8_value_13 ?_
    refine pp_if_eq (tgt := 34) hF dX8_value_16 rfl (fun c4 => ?_) (fun c4 => ?_)
    · replace h := (if_pos c4).symm.trans h
      refine pp_few [] (lv' := []) rfl ?_
      exact e_X8_value_34 hF hR h
    · replace h := (if_neg c4).symm.trans h
      refine pp_iload_n hF dX8_value_19 rfl rfl ?_
      obtain ⟨x20, hx20, h⟩ := pp_bd h
      refine pp_callSi hF (c_X8_isNumber hx20) mS_X8_isNumber lk_X8_190 rfl rfl ⟨by decide, by decide⟩ (Nat.le_of_ble_eq_true rfl) dX8_value_20 ?_
      refine pp_if_eq (tgt := 34) hF dX8_value_23 rfl (fun c6 => ?_) (fun c6 => ?_)
      · replace h := (if_pos c6).symm.trans h
        refine pp_few [] (lv' := []) rfl ?_
        exact e_X8_value_34 hF hR h
      · replace h := (if_neg c6).symm.trans h
        refine pp_iload hF dX8_value_26 rfl ?_
        obtain ⟨x28, hx28, h⟩ := pp_bd h
        refine pp_callSi hF (c_X8_isTerm hx28) mS_X8_isTerm lk_X8_193 rfl rfl ⟨by decide, by decide⟩ (Nat.le_of_ble_eq_true rfl) dX8_value_28 ?_
        refine pp_if_ne (tgt := 40) hF dX8_value_31 rfl (fun c8 => ?_) (fun c8 => ?_)
        · replace h := (if_pos c8).symm.trans h
          refine pp_few [] (lv' := []) rfl ?_
          exact e_X8_value_34 hF hR h
        · replace h := (if_neg c8).symm.trans h
          refine pp_aload_n hF dX8_value_40 rfl rfl ?_
          refine pp_getR hF fdK_X8_49 dX8_value_41 ?_
          refine pp_aload_n hF dX8_value_44 rfl rfl ?_
          refine pp_getR hF fdK_X8_62 dX8_value_45 ?_
          refine pp_aload_n hF dX8_value_48 rfl rfl ?_
          refine pp_getI hF fdK_X8_78 dX8_value_49 ?_
          obtain ⟨x52, hx52, h⟩ := pp_bd h
          refine pp_callVv hF (c_X0_goAlong vK_34 hx52) mV_X0_goAlong lk_X8_218 obK_21 rfl rfl ⟨by decide, by decide⟩ (Nat.le_of_ble_eq_true rfl) dX8_value_52 ?_
          refine pp_aload_n hF dX8_value_55 rfl rfl ?_
          refine pp_getR hF fdK_X8_49 dX8_value_56 ?_
          refine pp_getR hF fdK_X8_226 dX8_value_59 ?_
          refine pp_aload_n hF dX8_value_62 rfl rfl ?_
          refine pp_getI hF fdK_X8_78 dX8_value_63 ?_
          refine pp_iload_n hF dX8_value_66 rfl rfl ?_
          refine pp_isub hF dX8_value_67 ?_
          obtain ⟨hi10, h⟩ := pp_ck h
          refine pp_aaloadL hF vK_22 hi10 dX8_value_68 ?_
          refine pp_iload_n hF dX8_value_69 rfl rfl ?_
          refine pp_iconst hF dX8_value_70 ic_5 ?_
          refine pp_imul hF dX8_value_71 ?_
          refine pp_iload_n hF dX8_value_72 rfl rfl ?_
          refine pp_iadd hF dX8_value_73 ?_
          obtain ⟨hi11, h⟩ := pp_ck h
          refine pp_laloadJ hF (vK_23 _ (vp_lt hi10)) hi11 rfl dX8_value_74 ?_
          refine pp_ldc2 hF wm_526 dX8_value_75 ?_
          refine pp_iload hF dX8_value_78 rfl ?_
          obtain ⟨x80, hx80, h⟩ := pp_bd h
          refine pp_callSl hF (c_X8_term hx80) mS_X8_term lk_X8_214 rfl rfl ⟨by decide, by decide⟩ (Nat.le_of_ble_eq_true rfl) dX8_value_80 ?_
          obtain ⟨rfl, rfl⟩ := pp_i2 h
          exact pp_lreturn hF hR dX8_value_83
set_option maxRecDepth 20000 in
theorem c_X8_value {r' : Int64} {σ' : pp_M} {σ : pp_M} {a1 : Int32} {a2 : Int32} {a3 : Int32} {a4 : Int32} (h : f_X8_value σ a1 a2 a3 a4 = some (r', σ')) : pp_Ct yX8_value cX8_value 5 (some .long) 6 144 dsK [ppR 0 0 0, ppI a1, ppI a2, ppI a3, ppI a4] σ (some (ppL r')) σ' := pp_met pl_X8 rfl okK (Nat.le_of_ble_eq_true rfl) rfl (fun Γ hF hR => (e_X8_value_0 hF hR h))
set_option maxRecDepth 20000 in
theorem e_X8_wants_0 {Γ : pp_G} {r' : Int32} {σ' : pp_M} (hF : pp_Fx Γ dsK cX8_wants 2 RX8 6 125) (hR : pp_Rt Γ dsK (some .int) (some (ppI r')) σ') {σ : pp_M}  (h : f_X8_wants σ  = some (r', σ')) : pp_E Γ dsK cX8_wants 2 0 [(0, ppR 0 0 0)] [] σ := by
  unfold f_X8_wants at h
  refine pp_aload_n hF dX8_wants_0 rfl rfl ?_
  refine pp_getR hF fdK_X8_33 dX8_wants_1 ?_
  obtain ⟨x4, hx4, h⟩ := pp_bd h
  refine pp_callVi hF (c_X3_findFault hx4) mV_X3_findFault lk_X8_128 obK_13 rfl rfl ⟨by decide, by decide⟩ (Nat.le_of_ble_eq_true rfl) dX8_wants_4 ?_
  refine pp_iconst hF dX8_wants_7 ic_n1 ?_
  refine pp_icmp_eq (tgt := 14) hF dX8_wants_8 rfl (fun c2 => ?_) (fun c2 => ?_)
  · replace h := (if_pos c2).symm.trans h
    refine pp_aload_n hF dX8_wants_14 rfl rfl ?_
    refine pp_getR hF fdK_X8_33 dX8_wants_15 ?_
    refine pp_aload_n hF dX8_wants_18 rfl rfl ?_
    refine pp_getR hF fdK_X8_26 dX8_wants_19 ?_
    obtain ⟨x22, hx22, h⟩ := pp_bd h
    refine pp_callVi hF (c_X3_tellTo hx22) mV_X3_tellTo lk_X8_132 obK_13 rfl rfl ⟨by decide, by decide⟩ (Nat.le_of_ble_eq_true rfl) dX8_wants_22 ?_
    refine pp_istore_n hF dX8_wants_25 rfl (by decide) (lv' := [(0, ppR 0 0 0), (1, ppI x22.1)]) rfl ?_
    refine pp_aload_n hF dX8_wants_26 rfl rfl ?_
    refine pp_getR hF fdK_X8_33 dX8_wants_27 ?_
    refine pp_iconst hF dX8_wants_30 ic_0 ?_
    refine pp_putI hF fwK_X8_125 dX8_wants_31 ?_
    refine pp_aload_n hF dX8_wants_34 rfl rfl ?_
    refine pp_getR hF fdK_X8_74 dX8_wants_35 ?_
    obtain ⟨x38, hx38, h⟩ := pp_bd h
    refine pp_callVv hF (c_X6_forget hx38) mV_X6_forget lk_X8_106 obK_36 rfl rfl ⟨by decide, by decide⟩ (Nat.le_of_ble_eq_true rfl) dX8_wants_38 ?_
    refine pp_iload_n hF dX8_wants_41 rfl rfl ?_
    obtain ⟨rfl, rfl⟩ := pp_i2 h
    exact pp_ireturn hF hR dX8_wants_42
  · replace h := (if_neg c2).symm.trans h
    refine pp_bipush hF dX8_wants_11 bc_n3 ?_
    obtain ⟨rfl, rfl⟩ := pp_i2 h
    exact pp_ireturn hF hR dX8_wants_13
set_option maxRecDepth 20000 in
theorem c_X8_wants {r' : Int32} {σ' : pp_M} {σ : pp_M}  (h : f_X8_wants σ  = some (r', σ')) : pp_Ct yX8_wants cX8_wants 2 (some .int) 6 125 dsK [ppR 0 0 0] σ (some (ppI r')) σ' := pp_met pl_X8 rfl okK (Nat.le_of_ble_eq_true rfl) rfl (fun Γ hF hR => (e_X8_wants_0 hF hR h))
set_option maxRecDepth 20000 in
theorem e_X8_way_0 {Γ : pp_G} {r' : Int32} {σ' : pp_M} (hF : pp_Fx Γ dsK cX8_way 3 RX8 3 54) (hR : pp_Rt Γ dsK (some .int) (some (ppI r')) σ') {σ : pp_M} {a1 : Int32} {a2 : Int32} (h : f_X8_way σ a1 a2 = some (r', σ')) : pp_E Γ dsK cX8_way 3 0 [(0, ppR 0 0 0), (1, ppI a1), (2, ppI a2)] [] σ := by
  unfold f_X8_way at h
  refine pp_iload_n hF dX8_way_0 rfl rfl ?_
  obtain ⟨x1, hx1, h⟩ := pp_bd h
  refine pp_callSi hF (c_X8_isPlace hx1) mS_X8_isPlace lk_X8_109 rfl rfl ⟨by decide, by decide⟩ (Nat.le_of_ble_eq_true rfl) dX8_way_1 ?_
  refine pp_if_eq (tgt := 28) hF dX8_way_4 rfl (fun c2 => ?_) (fun c2 => ?_)
  · replace h := (if_pos c2).symm.trans h
    refine pp_bipush hF dX8_way_28 bc_n2 ?_
    obtain ⟨rfl, rfl⟩ := pp_i2 h
    exact pp_ireturn hF hR dX8_way_30
  · replace h := (if_neg c2).symm.trans h
    refine pp_iload_n hF dX8_way_7 rfl rfl ?_
    obtain ⟨x8, hx8, h⟩ := pp_bd h
    refine pp_callSi hF (c_X8_isPlace hx8) mS_X8_isPlace lk_X8_109 rfl rfl ⟨by decide, by decide⟩ (Nat.le_of_ble_eq_true rfl) dX8_way_8 ?_
    refine pp_if_eq (tgt := 28) hF dX8_way_11 rfl (fun c4 => ?_) (fun c4 => ?_)
    · replace h := (if_pos c4).symm.trans h
      refine pp_bipush hF dX8_way_28 bc_n2 ?_
      obtain ⟨rfl, rfl⟩ := pp_i2 h
      exact pp_ireturn hF hR dX8_way_30
    · replace h := (if_neg c4).symm.trans h
      refine pp_aload_n hF dX8_way_14 rfl rfl ?_
      refine pp_getR hF fdK_X8_19 dX8_way_15 ?_
      refine pp_getR hF fdK_X8_119 dX8_way_18 ?_
      refine pp_iload_n hF dX8_way_21 rfl rfl ?_
      obtain ⟨hi5, h⟩ := pp_ck h
      refine pp_aaloadI hF vK_7 hi5 dX8_way_22 ?_
      refine pp_iload_n hF dX8_way_23 rfl rfl ?_
      obtain ⟨hi6, h⟩ := pp_ck h
      refine pp_ialoadJ hF (vK_8 _ (vp_lt hi5)) hi6 rfl dX8_way_24 ?_
      refine pp_goto (tgt := 30) hF dX8_way_25 rfl ?_
      obtain ⟨rfl, rfl⟩ := pp_i2 h
      exact pp_ireturn hF hR dX8_way_30
set_option maxRecDepth 20000 in
theorem c_X8_way {r' : Int32} {σ' : pp_M} {σ : pp_M} {a1 : Int32} {a2 : Int32} (h : f_X8_way σ a1 a2 = some (r', σ')) : pp_Ct yX8_way cX8_way 3 (some .int) 3 54 dsK [ppR 0 0 0, ppI a1, ppI a2] σ (some (ppI r')) σ' := pp_met pl_X8 rfl okK (Nat.le_of_ble_eq_true rfl) rfl (fun Γ hF hR => (e_X8_way_0 hF hR h))
set_option maxRecDepth 20000 in
theorem e_X8_wipe_0 {Γ : pp_G} {r' : Int32} {σ' : pp_M} (hF : pp_Fx Γ dsK cX8_wipe 2 RX8 1 12) (hR : pp_Rt Γ dsK (some .int) (some (ppI r')) σ') {σ : pp_M}  (h : f_X8_wipe σ  = some (r', σ')) : pp_E Γ dsK cX8_wipe 2 0 [(0, ppR 0 0 0)] [] σ := by
  unfold f_X8_wipe at h
  refine pp_aload_n hF dX8_wipe_0 rfl rfl ?_
  refine pp_getR hF fdK_X8_33 dX8_wipe_1 ?_
  refine pp_getI hF fdK_X8_125 dX8_wipe_4 ?_
  refine pp_istore_n hF dX8_wipe_7 rfl (by decide) (lv' := [(0, ppR 0 0 0), (1, ppI (σ.1 13 5))]) rfl ?_
  refine pp_aload_n hF dX8_wipe_8 rfl rfl ?_
  refine pp_getR hF fdK_X8_33 dX8_wipe_9 ?_
  refine pp_iconst hF dX8_wipe_12 ic_0 ?_
  refine pp_putI hF fwK_X8_125 dX8_wipe_13 ?_
  refine pp_iload_n hF dX8_wipe_16 rfl rfl ?_
  obtain ⟨rfl, rfl⟩ := pp_i2 h
  exact pp_ireturn hF hR dX8_wipe_17
set_option maxRecDepth 20000 in
theorem c_X8_wipe {r' : Int32} {σ' : pp_M} {σ : pp_M}  (h : f_X8_wipe σ  = some (r', σ')) : pp_Ct yX8_wipe cX8_wipe 2 (some .int) 1 12 dsK [ppR 0 0 0] σ (some (ppI r')) σ' := pp_met pl_X8 rfl okK (Nat.le_of_ble_eq_true rfl) rfl (fun Γ hF hR => (e_X8_wipe_0 hF hR h))
set_option maxRecDepth 20000 in
theorem e_X8_write_62 {Γ : pp_G} {r' : Int32} {σ' : pp_M} (hF : pp_Fx Γ dsK cX8_write 4 RX8 7 177) (hR : pp_Rt Γ dsK (some .int) (some (ppI r')) σ') {σ : pp_M} {a1 : Int32} {a2 : Int32} {a3 : Int32} {k62 : pp_M → Int32 → Int32 → Int32 → Option (Int32 × pp_M)} (hk62 : ∀ {σ : pp_M} {a1 : Int32} {a2 : Int32} {a3 : Int32}, k62 σ a1 a2 a3 = some (r', σ') → pp_E Γ dsK cX8_write 4 62 [(0, ppR 0 0 0), (1, ppI a1), (2, ppI a2), (3, ppI a3)] [] σ) (h : f_X8_write_62_B k62 σ a1 a2 a3 = some (r', σ')) : pp_E Γ dsK cX8_write 4 62 [(0, ppR 0 0 0), (1, ppI a1), (2, ppI a2), (3, ppI a3)] [] σ := by
  unfold f_X8_write_62_B at h
  refine pp_iload_n hF dX8_write_62 rfl rfl ?_
  refine pp_iload_n hF dX8_write_63 rfl rfl ?_
  refine pp_icmp_ge (tgt := 91) hF dX8_write_64 rfl (fun c1 => ?_) (fun c1 => ?_)
  · replace h := (if_pos c1).symm.trans h
    refine pp_aload_n hF dX8_write_67 rfl rfl ?_
    refine pp_getR hF fdK_X8_40 dX8_write_68 ?_
    refine pp_iload_n hF dX8_write_71 rfl rfl ?_
    refine pp_iload_n hF dX8_write_72 rfl rfl ?_
    refine pp_aload_n hF dX8_write_73 rfl rfl ?_
    refine pp_getR hF fdK_X8_58 dX8_write_74 ?_
    refine pp_getR hF fdK_X8_241 dX8_write_77 ?_
    refine pp_iload_n hF dX8_write_80 rfl rfl ?_
    obtain ⟨hi2, h⟩ := pp_ck h
    refine pp_ialoadJ hF vK_32 hi2 (Nat.zero_add _) dX8_write_81 ?_
    obtain ⟨x82, hx82, h⟩ := pp_bd h
    refine pp_callVv hF (c_X7_lay hx82) mV_X7_lay lk_X8_313 obK_16 rfl rfl ⟨by decide, by decide⟩ (Nat.le_of_ble_eq_true rfl) dX8_write_82 ?_
    refine pp_iinc hF dX8_write_85 rfl (congrArg (HAdd.hAdd _) ic_1) (by decide) (lv' := [(0, ppR 0 0 0), (1, ppI a1), (2, ppI a2), (3, ppI (a3 + (1 : Int32)))]) rfl ?_
    refine pp_goto (tgt := 62) hF dX8_write_88 rfl ?_
    exact hk62 h
  · replace h := (if_neg c1).symm.trans h
    refine pp_iload_n hF dX8_write_91 rfl rfl ?_
    obtain ⟨rfl, rfl⟩ := pp_i2 h
    exact pp_ireturn hF hR dX8_write_92
set_option maxRecDepth 20000 in
theorem e_X8_write_62_L {Γ : pp_G} {r' : Int32} {σ' : pp_M} (hF : pp_Fx Γ dsK cX8_write 4 RX8 7 177) (hR : pp_Rt Γ dsK (some .int) (some (ppI r')) σ') : ∀ {n : Nat} {σ : pp_M} {a1 : Int32} {a2 : Int32} {a3 : Int32}, f_X8_write_62 n σ a1 a2 a3 = some (r', σ') → pp_E Γ dsK cX8_write 4 62 [(0, ppR 0 0 0), (1, ppI a1), (2, ppI a2), (3, ppI a3)] [] σ
  | 0, _, _, _, _ => fun h => by cases h
  | n + 1, _, _, _, _ => fun h => e_X8_write_62 hF hR (fun h => e_X8_write_62_L hF hR (n := n) h) h
set_option maxRecDepth 20000 in
theorem e_X8_write_0 {Γ : pp_G} {r' : Int32} {σ' : pp_M} (hF : pp_Fx Γ dsK cX8_write 4 RX8 7 177) (hR : pp_Rt Γ dsK (some .int) (some (ppI r')) σ') {σ : pp_M} {a1 : Int32} (h : f_X8_write σ a1 = some (r', σ')) : pp_E Γ dsK cX8_write 4 0 [(0, ppR 0 0 0), (1, ppI a1)] [] σ := by
  unfold f_X8_write at h
  refine pp_iload_n hF dX8_write_0 rfl rfl ?_
  obtain ⟨x1, hx1, h⟩ := pp_bd h
  refine pp_callSi hF (c_X8_isSheet hx1) mS_X8_isSheet lk_X8_136 rfl rfl ⟨by decide, by decide⟩ (Nat.le_of_ble_eq_true rfl) dX8_write_1 ?_
  refine pp_if_ne (tgt := 10) hF dX8_write_4 rfl (fun c2 => ?_) (fun c2 => ?_)
  · replace h := (if_pos c2).symm.trans h
    refine pp_bipush hF dX8_write_7 bc_n2 ?_
    obtain ⟨rfl, rfl⟩ := pp_i2 h
    exact pp_ireturn hF hR dX8_write_9
  · replace h := (if_neg c2).symm.trans h
    refine pp_aload_n hF dX8_write_10 rfl rfl ?_
    refine pp_getR hF fdK_X8_40 dX8_write_11 ?_
    refine pp_iload_n hF dX8_write_14 rfl rfl ?_
    obtain ⟨x15, hx15, h⟩ := pp_bd h
    refine pp_callVi hF (c_X7_isLost hx15) mV_X7_isLost lk_X8_142 obK_16 rfl rfl ⟨by decide, by decide⟩ (Nat.le_of_ble_eq_true rfl) dX8_write_15 ?_
    refine pp_if_eq (tgt := 30) hF dX8_write_18 rfl (fun c4 => ?_) (fun c4 => ?_)
    · replace h := (if_pos c4).symm.trans h
      refine pp_aload_n hF dX8_write_30 rfl rfl ?_
      obtain ⟨x31, hx31, h⟩ := pp_bd h
      refine pp_callVv hF (c_X8_weighUp hx31) mV_X8_weighUp lk_X8_230 obK_0 rfl rfl ⟨by decide, by decide⟩ (Nat.le_of_ble_eq_true rfl) dX8_write_31 ?_
      refine pp_aload_n hF dX8_write_34 rfl rfl ?_
      refine pp_getR hF fdK_X8_58 dX8_write_35 ?_
      refine pp_aload_n hF dX8_write_38 rfl rfl ?_
      refine pp_getI hF fdK_X8_85 dX8_write_39 ?_
      obtain ⟨x42, hx42, h⟩ := pp_bd h
      refine pp_callVv hF (c_X5_chooseBest hx42) mV_X5_chooseBest lk_X8_237 obK_25 rfl rfl ⟨by decide, by decide⟩ (Nat.le_of_ble_eq_true rfl) dX8_write_42 ?_
      refine pp_aload_n hF dX8_write_45 rfl rfl ?_
      refine pp_getR hF fdK_X8_40 dX8_write_46 ?_
      refine pp_getR hF fdK_X8_149 dX8_write_49 ?_
      refine pp_iload_n hF dX8_write_52 rfl rfl ?_
      obtain ⟨hi7, h⟩ := pp_ck h
      refine pp_ialoadJ hF vK_20 hi7 (Nat.zero_add _) dX8_write_53 ?_
      refine pp_bipush hF dX8_write_54 bc_6 ?_
      refine pp_mmin hF wm_456 wm_106 wm_60 wq_min ⟨by decide, by decide⟩ (Nat.le_of_ble_eq_true rfl) dX8_write_56 ?_
      refine pp_istore_n hF dX8_write_59 rfl (by decide) (lv' := [(0, ppR 0 0 0), (1, ppI a1), (2, ppI (if (6 : Int32) < (x42.1 20 a1.toNatClampNeg) then (6 : Int32) else (x42.1 20 a1.toNatClampNeg)))]) rfl ?_
      refine pp_iconst hF dX8_write_60 ic_0 ?_
      refine pp_istore_n hF dX8_write_61 rfl (by decide) (lv' := [(0, ppR 0 0 0), (1, ppI a1), (2, ppI (if (6 : Int32) < (x42.1 20 a1.toNatClampNeg) then (6 : Int32) else (x42.1 20 a1.toNatClampNeg))), (3, ppI (0 : Int32))]) rfl ?_
      exact e_X8_write_62_L hF hR h
    · replace h := (if_neg c4).symm.trans h
      refine pp_aload_n hF dX8_write_21 rfl rfl ?_
      refine pp_getR hF fdK_X8_40 dX8_write_22 ?_
      refine pp_iconst hF dX8_write_25 ic_1 ?_
      obtain ⟨x26, hx26, h⟩ := pp_bd h
      refine pp_callVi hF (c_X7_found hx26) mV_X7_found lk_X8_145 obK_16 rfl rfl ⟨by decide, by decide⟩ (Nat.le_of_ble_eq_true rfl) dX8_write_26 ?_
      obtain ⟨rfl, rfl⟩ := pp_i2 h
      exact pp_ireturn hF hR dX8_write_29
set_option maxRecDepth 20000 in
theorem c_X8_write {r' : Int32} {σ' : pp_M} {σ : pp_M} {a1 : Int32} (h : f_X8_write σ a1 = some (r', σ')) : pp_Ct yX8_write cX8_write 4 (some .int) 7 177 dsK [ppR 0 0 0, ppI a1] σ (some (ppI r')) σ' := pp_met pl_X8 rfl okK (Nat.le_of_ble_eq_true rfl) rfl (fun Γ hF hR => (e_X8_write_0 hF hR h))
set_option maxRecDepth 20000 in
theorem e_X9_in_0 {Γ : pp_G} {r' : Int32} {σ' : pp_M} (hF : pp_Fx Γ dsM cX9_in 3 RX9 1 12) (hR : pp_Rt Γ dsM (some .boolean) (some (ppI r')) σ') {σ : pp_M} {a0 : Int32} {a1 : Int32} {a2 : Int32} (h : f_X9_in σ a0 a1 a2 = some (r', σ')) : pp_E Γ dsM cX9_in 3 0 [(0, ppI a0), (1, ppI a1), (2, ppI a2)] [] σ := by
  unfold f_X9_in at h
  refine pp_iload_n hF dX9_in_0 rfl rfl ?_
  refine pp_iload_n hF dX9_in_1 rfl rfl ?_
  refine pp_icmp_lt (tgt := 14) hF dX9_in_2 rfl (fun c1 => ?_) (fun c1 => ?_)
  · replace h := (if_pos c1).symm.trans h
    refine pp_iconst hF dX9_in_14 ic_0 ?_
    obtain ⟨rfl, rfl⟩ := pp_i2 h
    exact pp_zreturn hF hR rfl dX9_in_15
  · replace h := (if_neg c1).symm.trans h
    refine pp_iload_n hF dX9_in_5 rfl rfl ?_
    refine pp_iload_n hF dX9_in_6 rfl rfl ?_
    refine pp_icmp_gt (tgt := 14) hF dX9_in_7 rfl (fun c2 => ?_) (fun c2 => ?_)
    · replace h := (if_pos c2).symm.trans h
      refine pp_iconst hF dX9_in_14 ic_0 ?_
      obtain ⟨rfl, rfl⟩ := pp_i2 h
      exact pp_zreturn hF hR rfl dX9_in_15
    · replace h := (if_neg c2).symm.trans h
      refine pp_iconst hF dX9_in_10 ic_1 ?_
      refine pp_goto (tgt := 15) hF dX9_in_11 rfl ?_
      obtain ⟨rfl, rfl⟩ := pp_i2 h
      exact pp_zreturn hF hR rfl dX9_in_15
set_option maxRecDepth 20000 in
theorem c_X9_in {r' : Int32} {σ' : pp_M} {σ : pp_M} {a0 : Int32} {a1 : Int32} {a2 : Int32} (h : f_X9_in σ a0 a1 a2 = some (r', σ')) : pp_Ct yX9_in cX9_in 3 (some .boolean) 1 12 dsM [ppI a0, ppI a1, ppI a2] σ (some (ppI r')) σ' := pp_met pl_X9 rfl okM (Nat.le_of_ble_eq_true rfl) rfl (fun Γ hF hR => (e_X9_in_0 hF hR h))
set_option maxRecDepth 20000 in
theorem e_X9_isThing_0 {Γ : pp_G} {r' : Int32} {σ' : pp_M} (hF : pp_Fx Γ dsM cX9_isThing 1 RX9 2 34) (hR : pp_Rt Γ dsM (some .boolean) (some (ppI r')) σ') {σ : pp_M} {a0 : Int32} (h : f_X9_isThing σ a0 = some (r', σ')) : pp_E Γ dsM cX9_isThing 1 0 [(0, ppI a0)] [] σ := by
  unfold f_X9_isThing at h
  refine pp_iload_n hF dX9_isThing_0 rfl rfl ?_
  refine pp_iconst hF dX9_isThing_1 ic_0 ?_
  refine pp_iconst hF dX9_isThing_2 ic_5 ?_
  obtain ⟨x3, hx3, h⟩ := pp_bd h
  refine pp_callSi hF (c_X9_in hx3) mS_X9_in lk_X9_114 rfl rfl ⟨by decide, by decide⟩ (Nat.le_of_ble_eq_true rfl) dX9_isThing_3 ?_
  obtain ⟨hb2, h⟩ := pp_ck h
  obtain ⟨rfl, rfl⟩ := pp_i2 h
  exact pp_zreturn hF hR (pp_bn hb2) dX9_isThing_6
set_option maxRecDepth 20000 in
theorem c_X9_isThing {r' : Int32} {σ' : pp_M} {σ : pp_M} {a0 : Int32} (h : f_X9_isThing σ a0 = some (r', σ')) : pp_Ct yX9_isThing cX9_isThing 1 (some .boolean) 2 34 dsM [ppI a0] σ (some (ppI r')) σ' := pp_met pl_X9 rfl okM (Nat.le_of_ble_eq_true rfl) rfl (fun Γ hF hR => (e_X9_isThing_0 hF hR h))
set_option maxRecDepth 20000 in
theorem e_X9_place_0 {Γ : pp_G} {r' : Int32} {σ' : pp_M} (hF : pp_Fx Γ dsM cX9_place 2 RX9 1 12) (hR : pp_Rt Γ dsM (some .int) (some (ppI r')) σ') {σ : pp_M} {a0 : Int32} {a1 : Int32} (h : f_X9_place σ a0 a1 = some (r', σ')) : pp_E Γ dsM cX9_place 2 0 [(0, ppI a0), (1, ppI a1)] [] σ := by
  unfold f_X9_place at h
  refine pp_iconst hF dX9_place_0 ic_3 ?_
  refine pp_bipush hF dX9_place_1 bc_6 ?_
  refine pp_iload_n hF dX9_place_3 rfl rfl ?_
  refine pp_imul hF dX9_place_4 ?_
  refine pp_iload_n hF dX9_place_5 rfl rfl ?_
  refine pp_iadd hF dX9_place_6 ?_
  refine pp_imul hF dX9_place_7 ?_
  obtain ⟨rfl, rfl⟩ := pp_i2 h
  exact pp_ireturn hF hR dX9_place_8
set_option maxRecDepth 20000 in
theorem c_X9_place {r' : Int32} {σ' : pp_M} {σ : pp_M} {a0 : Int32} {a1 : Int32} (h : f_X9_place σ a0 a1 = some (r', σ')) : pp_Ct yX9_place cX9_place 2 (some .int) 1 12 dsM [ppI a0, ppI a1] σ (some (ppI r')) σ' := pp_met pl_X9 rfl okM (Nat.le_of_ble_eq_true rfl) rfl (fun Γ hF hR => (e_X9_place_0 hF hR h))
set_option maxRecDepth 20000 in
theorem e_X9_chanceNow_0 {Γ : pp_G} {r' : Int32} {σ' : pp_M} (hF : pp_Fx Γ dsM cX9_chanceNow 5 RX9 2 33) (hR : pp_Rt Γ dsM (some .int) (some (ppI r')) σ') {σ : pp_M} {a1 : Int32} {a2 : Int32} {a3 : Int32} (h : f_X9_chanceNow σ a1 a2 a3 = some (r', σ')) : pp_E Γ dsM cX9_chanceNow 5 0 [(0, ppR 40 0 0), (1, ppI a1), (2, ppI a2), (3, ppI a3)] [] σ := by
  unfold f_X9_chanceNow at h
  refine pp_aload_n hF dX9_chanceNow_0 rfl rfl ?_
  refine pp_getR hF fdM_X9_38 dX9_chanceNow_1 ?_
  refine pp_iload_n hF dX9_chanceNow_4 rfl rfl ?_
  refine pp_iload_n hF dX9_chanceNow_5 rfl rfl ?_
  obtain ⟨x6, hx6, h⟩ := pp_bd h
  refine pp_callSi hF (c_X9_place hx6) mS_X9_place lk_X9_162 rfl rfl ⟨by decide, by decide⟩ (Nat.le_of_ble_eq_true rfl) dX9_chanceNow_6 ?_
  refine pp_iload_n hF dX9_chanceNow_9 rfl rfl ?_
  refine pp_iadd hF dX9_chanceNow_10 ?_
  obtain ⟨hi2, h⟩ := pp_ck h
  refine pp_ialoadJ hF vM_47 hi2 (Nat.zero_add _) dX9_chanceNow_11 ?_
  refine pp_aload_n hF dX9_chanceNow_12 rfl rfl ?_
  refine pp_getR hF fdM_X9_41 dX9_chanceNow_13 ?_
  refine pp_iload_n hF dX9_chanceNow_16 rfl rfl ?_
  obtain ⟨hi3, h⟩ := pp_ck h
  refine pp_ialoadJ hF vM_48 hi3 (Nat.zero_add _) dX9_chanceNow_17 ?_
  refine pp_isub hF dX9_chanceNow_18 ?_
  refine pp_istore hF dX9_chanceNow_19 (by decide) (lv' := [(0, ppR 40 0 0), (1, ppI a1), (2, ppI a2), (3, ppI a3), (4, ppI ((x6.2.1 47 (x6.1 + a3).toNatClampNeg) - (x6.2.1 48 a2.toNatClampNeg)))]) rfl ?_
  refine pp_iload hF dX9_chanceNow_21 rfl ?_
  refine pp_if_ge (tgt := 30) hF dX9_chanceNow_23 rfl (fun c4 => ?_) (fun c4 => ?_)
  · replace h := (if_pos c4).symm.trans h
    refine pp_iconst hF dX9_chanceNow_26 ic_0 ?_
    refine pp_goto (tgt := 32) hF dX9_chanceNow_27 rfl ?_
    obtain ⟨rfl, rfl⟩ := pp_i2 h
    exact pp_ireturn hF hR dX9_chanceNow_32
  · replace h := (if_neg c4).symm.trans h
    refine pp_iload hF dX9_chanceNow_30 rfl ?_
    obtain ⟨rfl, rfl⟩ := pp_i2 h
    exact pp_ireturn hF hR dX9_chanceNow_32
set_option maxRecDepth 20000 in
theorem c_X9_chanceNow {r' : Int32} {σ' : pp_M} {σ : pp_M} {a1 : Int32} {a2 : Int32} {a3 : Int32} (h : f_X9_chanceNow σ a1 a2 a3 = some (r', σ')) : pp_Ct yX9_chanceNow cX9_chanceNow 5 (some .int) 2 33 dsM [ppR 40 0 0, ppI a1, ppI a2, ppI a3] σ (some (ppI r')) σ' := pp_met pl_X9 rfl okM (Nat.le_of_ble_eq_true rfl) rfl (fun Γ hF hR => (e_X9_chanceNow_0 hF hR h))
set_option maxRecDepth 20000 in
theorem e_X9_sixteen_0 {Γ : pp_G} {r' : Int64} {σ' : pp_M} (hF : pp_Fx Γ dsM cX9_sixteen 1 RX9 1 12) (hR : pp_Rt Γ dsM (some .long) (some (ppL r')) σ') {σ : pp_M} {a0 : Int32} (h : f_X9_sixteen σ a0 = some (r', σ')) : pp_E Γ dsM cX9_sixteen 1 0 [(0, ppI a0)] [] σ := by
  unfold f_X9_sixteen at h
  refine pp_lconst hF dX9_sixteen_0 lc_1 ?_
  refine pp_iconst hF dX9_sixteen_1 ic_4 ?_
  refine pp_iload_n hF dX9_sixteen_2 rfl rfl ?_
  refine pp_imul hF dX9_sixteen_3 ?_
  refine pp_lshl hF dX9_sixteen_4 ?_
  obtain ⟨rfl, rfl⟩ := pp_i2 h
  exact pp_lreturn hF hR dX9_sixteen_5
set_option maxRecDepth 20000 in
theorem c_X9_sixteen {r' : Int64} {σ' : pp_M} {σ : pp_M} {a0 : Int32} (h : f_X9_sixteen σ a0 = some (r', σ')) : pp_Ct yX9_sixteen cX9_sixteen 1 (some .long) 1 12 dsM [ppI a0] σ (some (ppL r')) σ' := pp_met pl_X9 rfl okM (Nat.le_of_ble_eq_true rfl) rfl (fun Γ hF hR => (e_X9_sixteen_0 hF hR h))
set_option maxRecDepth 20000 in
theorem e_X9_spot_0 {Γ : pp_G} {r' : Int32} {σ' : pp_M} (hF : pp_Fx Γ dsM cX9_spot 3 RX9 1 12) (hR : pp_Rt Γ dsM (some .int) (some (ppI r')) σ') {σ : pp_M} {a0 : Int32} {a1 : Int32} {a2 : Int32} (h : f_X9_spot σ a0 a1 a2 = some (r', σ')) : pp_E Γ dsM cX9_spot 3 0 [(0, ppI a0), (1, ppI a1), (2, ppI a2)] [] σ := by
  unfold f_X9_spot at h
  refine pp_iconst hF dX9_spot_0 ic_5 ?_
  refine pp_bipush hF dX9_spot_1 bc_8 ?_
  refine pp_iload_n hF dX9_spot_3 rfl rfl ?_
  refine pp_imul hF dX9_spot_4 ?_
  refine pp_iload_n hF dX9_spot_5 rfl rfl ?_
  refine pp_iadd hF dX9_spot_6 ?_
  refine pp_imul hF dX9_spot_7 ?_
  refine pp_iload_n hF dX9_spot_8 rfl rfl ?_
  refine pp_iadd hF dX9_spot_9 ?_
  obtain ⟨rfl, rfl⟩ := pp_i2 h
  exact pp_ireturn hF hR dX9_spot_10
set_option maxRecDepth 20000 in
theorem c_X9_spot {r' : Int32} {σ' : pp_M} {σ : pp_M} {a0 : Int32} {a1 : Int32} {a2 : Int32} (h : f_X9_spot σ a0 a1 a2 = some (r', σ')) : pp_Ct yX9_spot cX9_spot 3 (some .int) 1 12 dsM [ppI a0, ppI a1, ppI a2] σ (some (ppI r')) σ' := pp_met pl_X9 rfl okM (Nat.le_of_ble_eq_true rfl) rfl (fun Γ hF hR => (e_X9_spot_0 hF hR h))
set_option maxRecDepth 20000 in
theorem e_X9_laysWorth_212 {Γ : pp_G} {σ' : pp_M} (hF : pp_Fx Γ dsM cX9_laysWorth 18 RX9 3 57) (hR : pp_Rt Γ dsM none none σ') {σ : pp_M} {a1 : Int32} {a2 : Int32} {a3 : Int64} {a5 : Int32} {a6 : Int64} {a8 : Int64} {a10 : Int64} {a12 : Int32} {a13 : Int32} {k2 : pp_M → Int32 → Option (pp_M)} (hk2 : ∀ {σ : pp_M} {a1 : Int32}, k2 σ a1 = some σ' → pp_E Γ dsM cX9_laysWorth 18 2 [(0, ppR 40 0 0), (1, ppI a1)] [] σ) {k58 : pp_M → Int32 → Int32 → Option (pp_M)} (hk58 : ∀ {σ : pp_M} {a1 : Int32} {a2 : Int32}, k58 σ a1 a2 = some σ' → pp_E Γ dsM cX9_laysWorth 18 58 [(0, ppR 40 0 0), (1, ppI a1), (2, ppI a2)] [] σ) {k89 : pp_M → Int32 → Int32 → Int64 → Int32 → Option (pp_M)} (hk89 : ∀ {σ : pp_M} {a1 : Int32} {a2 : Int32} {a3 : Int64} {a5 : Int32}, k89 σ a1 a2 a3 a5 = some σ' → pp_E Γ dsM cX9_laysWorth 18 89 [(0, ppR 40 0 0), (1, ppI a1), (2, ppI a2), (3, ppL a3), (5, ppI a5)] [] σ) {k143 : pp_M → Int32 → Int32 → Int64 → Int32 → Int64 → Int64 → Int64 → Int32 → Int32 → Option (pp_M)} (hk143 : ∀ {σ : pp_M} {a1 : Int32} {a2 : Int32} {a3 : Int64} {a5 : Int32} {a6 : Int64} {a8 : Int64} {a10 : Int64} {a12 : Int32} {a13 : Int32}, k143 σ a1 a2 a3 a5 a6 a8 a10 a12 a13 = some σ' → pp_E Γ dsM cX9_laysWorth 18 143 [(0, ppR 40 0 0), (1, ppI a1), (2, ppI a2), (3, ppL a3), (5, ppI a5), (6, ppL a6), (8, ppL a8), (10, ppL a10), (12, ppI a12), (13, ppI a13)] [] σ) (h : f_X9_laysWorth_212 k2 k58 k89 k143 σ a1 a2 a3 a5 a6 a8 a10 a12 a13 = some σ') : pp_E Γ dsM cX9_laysWorth 18 212 [(0, ppR 40 0 0), (1, ppI a1), (2, ppI a2), (3, ppL a3), (5, ppI a5), (6, ppL a6), (8, ppL a8), (10, ppL a10), (12, ppI a12), (13, ppI a13)] [] σ := by
  unfold f_X9_laysWorth_212 at h
  refine pp_iinc hF dX9_laysWorth_212 rfl (congrArg (HAdd.hAdd _) ic_n1) (by decide) (lv' := [(0, ppR 40 0 0), (1, ppI a1), (2, ppI a2), (3, ppL a3), (5, ppI a5), (6, ppL a6), (8, ppL a8), (10, ppL a10), (12, ppI a12), (13, ppI (a13 + (-1 : Int32)))]) rfl ?_
  refine pp_goto (tgt := 143) hF dX9_laysWorth_215 rfl ?_
  exact hk143 h
set_option maxRecDepth 20000 in
theorem e_X9_laysWorth_143 {Γ : pp_G} {σ' : pp_M} (hF : pp_Fx Γ dsM cX9_laysWorth 18 RX9 3 57) (hR : pp_Rt Γ dsM none none σ') {σ : pp_M} {a1 : Int32} {a2 : Int32} {a3 : Int64} {a5 : Int32} {a6 : Int64} {a8 : Int64} {a10 : Int64} {a12 : Int32} {a13 : Int32} {k2 : pp_M → Int32 → Option (pp_M)} (hk2 : ∀ {σ : pp_M} {a1 : Int32}, k2 σ a1 = some σ' → pp_E Γ dsM cX9_laysWorth 18 2 [(0, ppR 40 0 0), (1, ppI a1)] [] σ) {k58 : pp_M → Int32 → Int32 → Option (pp_M)} (hk58 : ∀ {σ : pp_M} {a1 : Int32} {a2 : Int32}, k58 σ a1 a2 = some σ' → pp_E Γ dsM cX9_laysWorth 18 58 [(0, ppR 40 0 0), (1, ppI a1), (2, ppI a2)] [] σ) {k89 : pp_M → Int32 → Int32 → Int64 → Int32 → Option (pp_M)} (hk89 : ∀ {σ : pp_M} {a1 : Int32} {a2 : Int32} {a3 : Int64} {a5 : Int32}, k89 σ a1 a2 a3 a5 = some σ' → pp_E Γ dsM cX9_laysWorth 18 89 [(0, ppR 40 0 0), (1, ppI a1), (2, ppI a2), (3, ppL a3), (5, ppI a5)] [] σ) {k143 : pp_M → Int32 → Int32 → Int64 → Int32 → Int64 → Int64 → Int64 → Int32 → Int32 → Option (pp_M)} (hk143 : ∀ {σ : pp_M} {a1 : Int32} {a2 : Int32} {a3 : Int64} {a5 : Int32} {a6 : Int64} {a8 : Int64} {a10 : Int64} {a12 : Int32} {a13 : Int32}, k143 σ a1 a2 a3 a5 a6 a8 a10 a12 a13 = some σ' → pp_E Γ dsM cX9_laysWorth 18 143 [(0, ppR 40 0 0), (1, ppI a1), (2, ppI a2), (3, ppL a3), (5, ppI a5), (6, ppL a6), (8, ppL a8), (10, ppL a10), (12, ppI a12), (13, ppI a13)] [] σ) (h : f_X9_laysWorth_143_B k2 k58 k89 k143 σ a1 a2 a3 a5 a6 a8 a10 a12 a13 = some σ') : pp_E Γ dsM cX9_laysWorth 18 143 [(0, ppR 40 0 0), (1, ppI a1), (2, ppI a2), (3, ppL a3), (5, ppI a5), (6, ppL a6), (8, ppL a8), (10, ppL a10), (12, ppI a12), (13, ppI a13)] [] σ := by
  unfold f_X9_laysWorth_143_B at h
  refine pp_iload hF dX9_laysWorth_143 rfl ?_
  refine pp_if_lt (tgt := 218) hF dX9_laysWorth_145 rfl (fun c1 => ?_) (fun c1 => ?_)
  · replace h := (if_pos c1).symm.trans h
    refine pp_aload_n hF dX9_laysWorth_218 rfl rfl ?_
    refine pp_getR hF fdM_X9_65 dX9_laysWorth_219 ?_
    refine pp_iload_n hF dX9_laysWorth_222 rfl rfl ?_
    refine pp_iload_n hF dX9_laysWorth_223 rfl rfl ?_
    refine pp_iload hF dX9_laysWorth_224 rfl ?_
    obtain ⟨x226, hx226, h⟩ := pp_bd h
    refine pp_callSi hF (c_X9_spot hx226) mS_X9_spot lk_X9_190 rfl rfl ⟨by decide, by decide⟩ (Nat.le_of_ble_eq_true rfl) dX9_laysWorth_226 ?_
    refine pp_lload hF dX9_laysWorth_229 rfl ?_
    obtain ⟨hi3, h⟩ := pp_ck h
    refine pp_lastoreJ hF vM_56 hi3 (Nat.zero_add _) dX9_laysWorth_231 ?_
    refine pp_aload_n hF dX9_laysWorth_232 rfl rfl ?_
    refine pp_getR hF fdM_X9_69 dX9_laysWorth_233 ?_
    refine pp_iload_n hF dX9_laysWorth_236 rfl rfl ?_
    refine pp_iload_n hF dX9_laysWorth_237 rfl rfl ?_
    refine pp_iload hF dX9_laysWorth_238 rfl ?_
    obtain ⟨x240, hx240, h⟩ := pp_bd h
    refine pp_callSi hF (c_X9_spot hx240) mS_X9_spot lk_X9_190 rfl rfl ⟨by decide, by decide⟩ (Nat.le_of_ble_eq_true rfl) dX9_laysWorth_240 ?_
    refine pp_iload hF dX9_laysWorth_243 rfl ?_
    obtain ⟨hi5, h⟩ := pp_ck h
    refine pp_iastoreJ hF vM_57 hi5 (Nat.zero_add _) dX9_laysWorth_245 ?_
    refine pp_iinc hF dX9_laysWorth_246 rfl (congrArg (HAdd.hAdd _) ic_1) (by decide) (lv' := [(0, ppR 40 0 0), (1, ppI a1), (2, ppI a2), (3, ppL a3), (5, ppI (a5 + (1 : Int32))), (6, ppL a6), (8, ppL a8), (10, ppL a10), (12, ppI a12), (13, ppI a13)]) rfl ?_
    refine pp_goto (tgt := 89) hF dX9_laysWorth_249 rfl ?_
    refine pp_few [0, 1, 2, 3, 4] (lv' := [(0, ppR 40 0 0), (1, ppI a1), (2, ppI a2), (3, ppL a3), (5, ppI (a5 + (1 : Int32)))]) rfl ?_
    exact hk89 h
  · replace h := (if_neg c1).symm.trans h
    refine pp_aload_n hF dX9_laysWorth_148 rfl rfl ?_
    refine pp_aload_n hF dX9_laysWorth_149 rfl rfl ?_
    refine pp_getR hF fdM_X9_62 dX9_laysWorth_150 ?_
    refine pp_iload_n hF dX9_laysWorth_153 rfl rfl ?_
    obtain ⟨hi6, h⟩ := pp_ck h
    refine pp_ialoadJ hF vM_55 hi6 (Nat.zero_add _) dX9_laysWorth_154 ?_
    refine pp_iload_n hF dX9_laysWorth_155 rfl rfl ?_
    refine pp_iload hF dX9_laysWorth_156 rfl ?_
    obtain ⟨x158, hx158, h⟩ := pp_bd h
    refine pp_callVi hF (c_X9_chanceNow hx158) mV_X9_chanceNow lk_X9_175 obM_40 rfl rfl ⟨by decide, by decide⟩ (Nat.le_of_ble_eq_true rfl) dX9_laysWorth_158 ?_
    refine pp_i2l hF dX9_laysWorth_161 ?_
    refine pp_lstore hF dX9_laysWorth_162 (by decide) (lv' := [(0, ppR 40 0 0), (1, ppI a1), (2, ppI a2), (3, ppL a3), (5, ppI a5), (6, ppL a6), (8, ppL a8), (10, ppL a10), (12, ppI a12), (13, ppI a13), (14, ppL (x158.1.toInt64))]) rfl ?_
    refine pp_lload hF dX9_laysWorth_164 rfl ?_
    refine pp_aload_n hF dX9_laysWorth_166 rfl rfl ?_
    refine pp_getR hF fdM_X9_19 dX9_laysWorth_167 ?_
    refine pp_iconst hF dX9_laysWorth_170 ic_3 ?_
    refine pp_iload_n hF dX9_laysWorth_171 rfl rfl ?_
    refine pp_imul hF dX9_laysWorth_172 ?_
    refine pp_iload hF dX9_laysWorth_173 rfl ?_
    refine pp_iadd hF dX9_laysWorth_175 ?_
    obtain ⟨hi8, h⟩ := pp_ck h
    refine pp_ialoadJ hF vM_44 hi8 (Nat.zero_add _) dX9_laysWorth_176 ?_
    refine pp_i2l hF dX9_laysWorth_177 ?_
    refine pp_lload_n hF dX9_laysWorth_178 rfl rfl ?_
    refine pp_lmul hF dX9_laysWorth_179 ?_
    refine pp_lload hF dX9_laysWorth_180 rfl ?_
    refine pp_ladd hF dX9_laysWorth_182 ?_
    refine pp_lmul hF dX9_laysWorth_183 ?_
    refine pp_ldc2 hF wm_1111 dX9_laysWorth_184 ?_
    refine pp_lload hF dX9_laysWorth_187 rfl ?_
    refine pp_lsub hF dX9_laysWorth_189 ?_
    refine pp_lload hF dX9_laysWorth_190 rfl ?_
    refine pp_lmul hF dX9_laysWorth_192 ?_
    refine pp_ladd hF dX9_laysWorth_193 ?_
    refine pp_lstore hF dX9_laysWorth_194 (by decide) (lv' := [(0, ppR 40 0 0), (1, ppI a1), (2, ppI a2), (3, ppL a3), (5, ppI a5), (6, ppL a6), (8, ppL a8), (10, ppL a10), (12, ppI a12), (13, ppI a13), (14, ppL (x158.1.toInt64)), (16, ppL (((x158.1.toInt64) * (((((x158.2.1 44 (((3 : Int32) * a1) + a13).toNatClampNeg)).toInt64) * a3) + a8)) + (((16 : Int64) - (x158.1.toInt64)) * a6)))]) rfl ?_
    refine pp_lload hF dX9_laysWorth_196 rfl ?_
    refine pp_lload hF dX9_laysWorth_198 rfl ?_
    refine pp_lcmp_lt (tgt := 212) hF dX9_laysWorth_200 dX9_laysWorth_201 rfl (fun c9 => ?_) (fun c9 => ?_)
    · replace h := (if_pos c9).symm.trans h
      refine pp_few [0, 1, 2, 3, 4, 5, 6, 7, 8, 9] (lv' := [(0, ppR 40 0 0), (1, ppI a1), (2, ppI a2), (3, ppL a3), (5, ppI a5), (6, ppL a6), (8, ppL a8), (10, ppL a10), (12, ppI a12), (13, ppI a13)]) rfl ?_
      exact e_X9_laysWorth_212 hF hR hk2 hk58 hk89 hk143 h
    · replace h := (if_neg c9).symm.trans h
      refine pp_lload hF dX9_laysWorth_204 rfl ?_
      refine pp_lstore hF dX9_laysWorth_206 (by decide) (lv' := [(0, ppR 40 0 0), (1, ppI a1), (2, ppI a2), (3, ppL a3), (5, ppI a5), (6, ppL a6), (8, ppL a8), (10, ppL (((x158.1.toInt64) * (((((x158.2.1 44 (((3 : Int32) * a1) + a13).toNatClampNeg)).toInt64) * a3) + a8)) + (((16 : Int64) - (x158.1.toInt64)) * a6))), (12, ppI a12), (13, ppI a13), (14, ppL (x158.1.toInt64)), (16, ppL (((x158.1.toInt64) * (((((x158.2.1 44 (((3 : Int32) * a1) + a13).toNatClampNeg)).toInt64) * a3) + a8)) + (((16 : Int64) - (x158.1.toInt64)) * a6)))]) rfl ?_
      refine pp_iload hF dX9_laysWorth_208 rfl ?_
      refine pp_istore hF dX9_laysWorth_210 (by decide) (lv' := [(0, ppR 40 0 0), (1, ppI a1), (2, ppI a2), (3, ppL a3), (5, ppI a5), (6, ppL a6), (8, ppL a8), (10, ppL (((x158.1.toInt64) * (((((x158.2.1 44 (((3 : Int32) * a1) + a13).toNatClampNeg)).toInt64) * a3) + a8)) + (((16 : Int64) - (x158.1.toInt64)) * a6))), (12, ppI a13), (13, ppI a13), (14, ppL (x158.1.toInt64)), (16, ppL (((x158.1.toInt64) * (((((x158.2.1 44 (((3 : Int32) * a1) + a13).toNatClampNeg)).toInt64) * a3) + a8)) + (((16 : Int64) - (x158.1.toInt64)) * a6)))]) rfl ?_
      refine pp_few [0, 1, 2, 3, 4, 5, 6, 7, 8, 9] (lv' := [(0, ppR 40 0 0), (1, ppI a1), (2, ppI a2), (3, ppL a3), (5, ppI a5), (6, ppL a6), (8, ppL a8), (10, ppL (((x158.1.toInt64) * (((((x158.2.1 44 (((3 : Int32) * a1) + a13).toNatClampNeg)).toInt64) * a3) + a8)) + (((16 : Int64) - (x158.1.toInt64)) * a6))), (12, ppI a13), (13, ppI a13)]) rfl ?_
      exact e_X9_laysWorth_212 hF hR hk2 hk58 hk89 hk143 h
set_option maxRecDepth 20000 in
theorem e_X9_laysWorth_143_L {Γ : pp_G} {σ' : pp_M} (hF : pp_Fx Γ dsM cX9_laysWorth 18 RX9 3 57) (hR : pp_Rt Γ dsM none none σ') {k2 : pp_M → Int32 → Option (pp_M)} (hk2 : ∀ {σ : pp_M} {a1 : Int32}, k2 σ a1 = some σ' → pp_E Γ dsM cX9_laysWorth 18 2 [(0, ppR 40 0 0), (1, ppI a1)] [] σ) {k58 : pp_M → Int32 → Int32 → Option (pp_M)} (hk58 : ∀ {σ : pp_M} {a1 : Int32} {a2 : Int32}, k58 σ a1 a2 = some σ' → pp_E Γ dsM cX9_laysWorth 18 58 [(0, ppR 40 0 0), (1, ppI a1), (2, ppI a2)] [] σ) {k89 : pp_M → Int32 → Int32 → Int64 → Int32 → Option (pp_M)} (hk89 : ∀ {σ : pp_M} {a1 : Int32} {a2 : Int32} {a3 : Int64} {a5 : Int32}, k89 σ a1 a2 a3 a5 = some σ' → pp_E Γ dsM cX9_laysWorth 18 89 [(0, ppR 40 0 0), (1, ppI a1), (2, ppI a2), (3, ppL a3), (5, ppI a5)] [] σ) : ∀ {n : Nat} {σ : pp_M} {a1 : Int32} {a2 : Int32} {a3 : Int64} {a5 : Int32} {a6 : Int64} {a8 : Int64} {a10 : Int64} {a12 : Int32} {a13 : Int32}, f_X9_laysWorth_143 k2 k58 k89 n σ a1 a2 a3 a5 a6 a8 a10 a12 a13 = some σ' → pp_E Γ dsM cX9_laysWorth 18 143 [(0, ppR 40 0 0), (1, ppI a1), (2, ppI a2), (3, ppL a3), (5, ppI a5), (6, ppL a6), (8, ppL a8), (10, ppL a10), (12, ppI a12), (13, ppI a13)] [] σ
  | 0, _, _, _, _, _, _, _, _, _, _ => fun h => by cases h
  | n + 1, _, _, _, _, _, _, _, _, _, _ => fun h => e_X9_laysWorth_143 hF hR hk2 hk58 hk89 (fun h => e_X9_laysWorth_143_L hF hR hk2 hk58 hk89 (n := n) h) h
set_option maxRecDepth 20000 in
theorem e_X9_laysWorth_89 {Γ : pp_G} {σ' : pp_M} (hF : pp_Fx Γ dsM cX9_laysWorth 18 RX9 3 57) (hR : pp_Rt Γ dsM none none σ') {σ : pp_M} {a1 : Int32} {a2 : Int32} {a3 : Int64} {a5 : Int32} {k2 : pp_M → Int32 → Option (pp_M)} (hk2 : ∀ {σ : pp_M} {a1 : Int32}, k2 σ a1 = some σ' → pp_E Γ dsM cX9_laysWorth 18 2 [(0, ppR 40 0 0), (1, ppI a1)] [] σ) {k58 : pp_M → Int32 → Int32 → Option (pp_M)} (hk58 : ∀ {σ : pp_M} {a1 : Int32} {a2 : Int32}, k58 σ a1 a2 = some σ' → pp_E Γ dsM cX9_laysWorth 18 58 [(0, ppR 40 0 0), (1, ppI a1), (2, ppI a2)] [] σ) {k89 : pp_M → Int32 → Int32 → Int64 → Int32 → Option (pp_M)} (hk89 : ∀ {σ : pp_M} {a1 : Int32} {a2 : Int32} {a3 : Int64} {a5 : Int32}, k89 σ a1 a2 a3 a5 = some σ' → pp_E Γ dsM cX9_laysWorth 18 89 [(0, ppR 40 0 0), (1, ppI a1), (2, ppI a2), (3, ppL a3), (5, ppI a5)] [] σ) (h : f_X9_laysWorth_89_B k2 k58 k89 σ a1 a2 a3 a5 = some σ') : pp_E Γ dsM cX9_laysWorth 18 89 [(0, ppR 40 0 0), (1, ppI a1), (2, ppI a2), (3, ppL a3), (5, ppI a5)] [] σ := by
  unfold f_X9_laysWorth_89_B at h
  refine pp_iload hF dX9_laysWorth_89 rfl ?_
  refine pp_iconst hF dX9_laysWorth_91 ic_5 ?_
  refine pp_icmp_ge (tgt := 252) hF dX9_laysWorth_92 rfl (fun c1 => ?_) (fun c1 => ?_)
  · replace h := (if_pos c1).symm.trans h
    refine pp_aload_n hF dX9_laysWorth_95 rfl rfl ?_
    refine pp_getR hF fdM_X9_65 dX9_laysWorth_96 ?_
    refine pp_iload_n hF dX9_laysWorth_99 rfl rfl ?_
    refine pp_iload_n hF dX9_laysWorth_100 rfl rfl ?_
    refine pp_iconst hF dX9_laysWorth_101 ic_1 ?_
    refine pp_iadd hF dX9_laysWorth_102 ?_
    refine pp_iload hF dX9_laysWorth_103 rfl ?_
    obtain ⟨x105, hx105, h⟩ := pp_bd h
    refine pp_callSi hF (c_X9_spot hx105) mS_X9_spot lk_X9_190 rfl rfl ⟨by decide, by decide⟩ (Nat.le_of_ble_eq_true rfl) dX9_laysWorth_105 ?_
    obtain ⟨hi3, h⟩ := pp_ck h
    refine pp_laloadJ hF vM_56 hi3 (Nat.zero_add _) dX9_laysWorth_108 ?_
    refine pp_lstore hF dX9_laysWorth_109 (by decide) (lv' := [(0, ppR 40 0 0), (1, ppI a1), (2, ppI a2), (3, ppL a3), (5, ppI a5), (6, ppL (x105.2.2 56 x105.1.toNatClampNeg))]) rfl ?_
    refine pp_aload_n hF dX9_laysWorth_111 rfl rfl ?_
    refine pp_getR hF fdM_X9_65 dX9_laysWorth_112 ?_
    refine pp_iload_n hF dX9_laysWorth_115 rfl rfl ?_
    refine pp_iload_n hF dX9_laysWorth_116 rfl rfl ?_
    refine pp_iconst hF dX9_laysWorth_117 ic_1 ?_
    refine pp_iadd hF dX9_laysWorth_118 ?_
    refine pp_iload hF dX9_laysWorth_119 rfl ?_
    refine pp_iconst hF dX9_laysWorth_121 ic_1 ?_
    refine pp_isub hF dX9_laysWorth_122 ?_
    obtain ⟨x123, hx123, h⟩ := pp_bd h
    refine pp_callSi hF (c_X9_spot hx123) mS_X9_spot lk_X9_190 rfl rfl ⟨by decide, by decide⟩ (Nat.le_of_ble_eq_true rfl) dX9_laysWorth_123 ?_
    obtain ⟨hi5, h⟩ := pp_ck h
    refine pp_laloadJ hF vM_56 hi5 (Nat.zero_add _) dX9_laysWorth_126 ?_
    refine pp_lstore hF dX9_laysWorth_127 (by decide) (lv' := [(0, ppR 40 0 0), (1, ppI a1), (2, ppI a2), (3, ppL a3), (5, ppI a5), (6, ppL (x105.2.2 56 x105.1.toNatClampNeg)), (8, ppL (x123.2.2 56 x123.1.toNatClampNeg))]) rfl ?_
    refine pp_ldc2 hF wm_1111 dX9_laysWorth_129 ?_
    refine pp_lload hF dX9_laysWorth_132 rfl ?_
    refine pp_lmul hF dX9_laysWorth_134 ?_
    refine pp_lstore hF dX9_laysWorth_135 (by decide) (lv' := [(0, ppR 40 0 0), (1, ppI a1), (2, ppI a2), (3, ppL a3), (5, ppI a5), (6, ppL (x105.2.2 56 x105.1.toNatClampNeg)), (8, ppL (x123.2.2 56 x123.1.toNatClampNeg)), (10, ppL ((16 : Int64) * (x105.2.2 56 x105.1.toNatClampNeg)))]) rfl ?_
    refine pp_iconst hF dX9_laysWorth_137 ic_3 ?_
    refine pp_istore hF dX9_laysWorth_138 (by decide) (lv' := [(0, ppR 40 0 0), (1, ppI a1), (2, ppI a2), (3, ppL a3), (5, ppI a5), (6, ppL (x105.2.2 56 x105.1.toNatClampNeg)), (8, ppL (x123.2.2 56 x123.1.toNatClampNeg)), (10, ppL ((16 : Int64) * (x105.2.2 56 x105.1.toNatClampNeg))), (12, ppI (3 : Int32))]) rfl ?_
    refine pp_iconst hF dX9_laysWorth_140 ic_2 ?_
    refine pp_istore hF dX9_laysWorth_141 (by decide) (lv' := [(0, ppR 40 0 0), (1, ppI a1), (2, ppI a2), (3, ppL a3), (5, ppI a5), (6, ppL (x105.2.2 56 x105.1.toNatClampNeg)), (8, ppL (x123.2.2 56 x123.1.toNatClampNeg)), (10, ppL ((16 : Int64) * (x105.2.2 56 x105.1.toNatClampNeg))), (12, ppI (3 : Int32)), (13, ppI (2 : Int32))]) rfl ?_
    exact e_X9_laysWorth_143_L hF hR hk2 hk58 hk89 h
  · replace h := (if_neg c1).symm.trans h
    refine pp_iinc hF dX9_laysWorth_252 rfl (congrArg (HAdd.hAdd _) ic_n1) (by decide) (lv' := [(0, ppR 40 0 0), (1, ppI a1), (2, ppI (a2 + (-1 : Int32))), (3, ppL a3), (5, ppI a5)]) rfl ?_
    refine pp_goto (tgt := 58) hF dX9_laysWorth_255 rfl ?_
    refine pp_few [0, 1, 2] (lv' := [(0, ppR 40 0 0), (1, ppI a1), (2, ppI (a2 + (-1 : Int32)))]) rfl ?_
    exact hk58 h
set_option maxRecDepth 20000 in
theorem e_X9_laysWorth_89_L {Γ : pp_G} {σ' : pp_M} (hF : pp_Fx Γ dsM cX9_laysWorth 18 RX9 3 57) (hR : pp_Rt Γ dsM none none σ') {k2 : pp_M → Int32 → Option (pp_M)} (hk2 : ∀ {σ : pp_M} {a1 : Int32}, k2 σ a1 = some σ' → pp_E Γ dsM cX9_laysWorth 18 2 [(0, ppR 40 0 0), (1, ppI a1)] [] σ) {k58 : pp_M → Int32 → Int32 → Option (pp_M)} (hk58 : ∀ {σ : pp_M} {a1 : Int32} {a2 : Int32}, k58 σ a1 a2 = some σ' → pp_E Γ dsM cX9_laysWorth 18 58 [(0, ppR 40 0 0), (1, ppI a1), (2, ppI a2)] [] σ) : ∀ {n : Nat} {σ : pp_M} {a1 : Int32} {a2 : Int32} {a3 : Int64} {a5 : Int32}, f_X9_laysWorth_89 k2 k58 n σ a1 a2 a3 a5 = some σ' → pp_E Γ dsM cX9_laysWorth 18 89 [(0, ppR 40 0 0), (1, ppI a1), (2, ppI a2), (3, ppL a3), (5, ppI a5)] [] σ
  | 0, _, _, _, _, _ => fun h => by cases h
  | n + 1, _, _, _, _, _ => fun h => e_X9_laysWorth_89 hF hR hk2 hk58 (fun h => e_X9_laysWorth_89_L hF hR hk2 hk58 (n := n) h) h
set_option maxRecDepth 20000 in
theorem e_X9_laysWorth_58 {Γ : pp_G} {σ' : pp_M} (hF : pp_Fx Γ dsM cX9_laysWorth 18 RX9 3 57) (hR : pp_Rt Γ dsM none none σ') {σ : pp_M} {a1 : Int32} {a2 : Int32} {k2 : pp_M → Int32 → Option (pp_M)} (hk2 : ∀ {σ : pp_M} {a1 : Int32}, k2 σ a1 = some σ' → pp_E Γ dsM cX9_laysWorth 18 2 [(0, ppR 40 0 0), (1, ppI a1)] [] σ) {k58 : pp_M → Int32 → Int32 → Option (pp_M)} (hk58 : ∀ {σ : pp_M} {a1 : Int32} {a2 : Int32}, k58 σ a1 a2 = some σ' → pp_E Γ dsM cX9_laysWorth 18 58 [(0, ppR 40 0 0), (1, ppI a1), (2, ppI a2)] [] σ) (h : f_X9_laysWorth_58_B k2 k58 σ a1 a2 = some σ') : pp_E Γ dsM cX9_laysWorth 18 58 [(0, ppR 40 0 0), (1, ppI a1), (2, ppI a2)] [] σ := by
  unfold f_X9_laysWorth_58_B at h
  refine pp_iload_n hF dX9_laysWorth_58 rfl rfl ?_
  refine pp_if_lt (tgt := 258) hF dX9_laysWorth_59 rfl (fun c1 => ?_) (fun c1 => ?_)
  · replace h := (if_pos c1).symm.trans h
    refine pp_iinc hF dX9_laysWorth_258 rfl (congrArg (HAdd.hAdd _) ic_1) (by decide) (lv' := [(0, ppR 40 0 0), (1, ppI (a1 + (1 : Int32))), (2, ppI a2)]) rfl ?_
    refine pp_goto (tgt := 2) hF dX9_laysWorth_261 rfl ?_
    refine pp_few [0, 1] (lv' := [(0, ppR 40 0 0), (1, ppI (a1 + (1 : Int32)))]) rfl ?_
    exact hk2 h
  · replace h := (if_neg c1).symm.trans h
    refine pp_aload_n hF dX9_laysWorth_62 rfl rfl ?_
    refine pp_getI hF fdM_X9_184 dX9_laysWorth_63 ?_
    refine pp_iconst hF dX9_laysWorth_66 ic_1 ?_
    refine pp_isub hF dX9_laysWorth_67 ?_
    refine pp_iload_n hF dX9_laysWorth_68 rfl rfl ?_
    refine pp_isub hF dX9_laysWorth_69 ?_
    obtain ⟨x70, hx70, h⟩ := pp_bd h
    refine pp_callSl hF (c_X9_sixteen hx70) mS_X9_sixteen lk_X9_193 rfl rfl ⟨by decide, by decide⟩ (Nat.le_of_ble_eq_true rfl) dX9_laysWorth_70 ?_
    refine pp_lstore_n hF dX9_laysWorth_73 rfl (by decide) (lv' := [(0, ppR 40 0 0), (1, ppI a1), (2, ppI a2), (3, ppL x70.1)]) rfl ?_
    refine pp_aload_n hF dX9_laysWorth_74 rfl rfl ?_
    refine pp_getR hF fdM_X9_65 dX9_laysWorth_75 ?_
    refine pp_iload_n hF dX9_laysWorth_78 rfl rfl ?_
    refine pp_iload_n hF dX9_laysWorth_79 rfl rfl ?_
    refine pp_iconst hF dX9_laysWorth_80 ic_0 ?_
    obtain ⟨x81, hx81, h⟩ := pp_bd h
    refine pp_callSi hF (c_X9_spot hx81) mS_X9_spot lk_X9_190 rfl rfl ⟨by decide, by decide⟩ (Nat.le_of_ble_eq_true rfl) dX9_laysWorth_81 ?_
    refine pp_lconst hF dX9_laysWorth_84 lc_0 ?_
    obtain ⟨hi4, h⟩ := pp_ck h
    refine pp_lastoreJ hF vM_56 hi4 (Nat.zero_add _) dX9_laysWorth_85 ?_
    refine pp_iconst hF dX9_laysWorth_86 ic_1 ?_
    refine pp_istore hF dX9_laysWorth_87 (by decide) (lv' := [(0, ppR 40 0 0), (1, ppI a1), (2, ppI a2), (3, ppL x70.1), (5, ppI (1 : Int32))]) rfl ?_
    exact e_X9_laysWorth_89_L hF hR hk2 hk58 h
set_option maxRecDepth 20000 in
theorem e_X9_laysWorth_58_L {Γ : pp_G} {σ' : pp_M} (hF : pp_Fx Γ dsM cX9_laysWorth 18 RX9 3 57) (hR : pp_Rt Γ dsM none none σ') {k2 : pp_M → Int32 → Option (pp_M)} (hk2 : ∀ {σ : pp_M} {a1 : Int32}, k2 σ a1 = some σ' → pp_E Γ dsM cX9_laysWorth 18 2 [(0, ppR 40 0 0), (1, ppI a1)] [] σ) : ∀ {n : Nat} {σ : pp_M} {a1 : Int32} {a2 : Int32}, f_X9_laysWorth_58 k2 n σ a1 a2 = some σ' → pp_E Γ dsM cX9_laysWorth 18 58 [(0, ppR 40 0 0), (1, ppI a1), (2, ppI a2)] [] σ
  | 0, _, _, _ => fun h => by cases h
  | n + 1, _, _, _ => fun h => e_X9_laysWorth_58 hF hR hk2 (fun h => e_X9_laysWorth_58_L hF hR hk2 (n := n) h) h
set_option maxRecDepth 20000 in
theorem e_X9_laysWorth_10 {Γ : pp_G} {σ' : pp_M} (hF : pp_Fx Γ dsM cX9_laysWorth 18 RX9 3 57) (hR : pp_Rt Γ dsM none none σ') {σ : pp_M} {a1 : Int32} {a2 : Int32} {k2 : pp_M → Int32 → Option (pp_M)} (hk2 : ∀ {σ : pp_M} {a1 : Int32}, k2 σ a1 = some σ' → pp_E Γ dsM cX9_laysWorth 18 2 [(0, ppR 40 0 0), (1, ppI a1)] [] σ) {k10 : pp_M → Int32 → Int32 → Option (pp_M)} (hk10 : ∀ {σ : pp_M} {a1 : Int32} {a2 : Int32}, k10 σ a1 a2 = some σ' → pp_E Γ dsM cX9_laysWorth 18 10 [(0, ppR 40 0 0), (1, ppI a1), (2, ppI a2)] [] σ) (h : f_X9_laysWorth_10_B k2 k10 σ a1 a2 = some σ') : pp_E Γ dsM cX9_laysWorth 18 10 [(0, ppR 40 0 0), (1, ppI a1), (2, ppI a2)] [] σ := by
  unfold f_X9_laysWorth_10_B at h
  refine pp_iload_n hF dX9_laysWorth_10 rfl rfl ?_
  refine pp_iconst hF dX9_laysWorth_11 ic_5 ?_
  refine pp_icmp_ge (tgt := 51) hF dX9_laysWorth_12 rfl (fun c1 => ?_) (fun c1 => ?_)
  · replace h := (if_pos c1).symm.trans h
    refine pp_aload_n hF dX9_laysWorth_15 rfl rfl ?_
    refine pp_getR hF fdM_X9_65 dX9_laysWorth_16 ?_
    refine pp_iload_n hF dX9_laysWorth_19 rfl rfl ?_
    refine pp_aload_n hF dX9_laysWorth_20 rfl rfl ?_
    refine pp_getI hF fdM_X9_184 dX9_laysWorth_21 ?_
    refine pp_iload_n hF dX9_laysWorth_24 rfl rfl ?_
    obtain ⟨x25, hx25, h⟩ := pp_bd h
    refine pp_callSi hF (c_X9_spot hx25) mS_X9_spot lk_X9_190 rfl rfl ⟨by decide, by decide⟩ (Nat.le_of_ble_eq_true rfl) dX9_laysWorth_25 ?_
    refine pp_iload_n hF dX9_laysWorth_28 rfl rfl ?_
    refine pp_aload_n hF dX9_laysWorth_29 rfl rfl ?_
    refine pp_getR hF fdM_X9_7 dX9_laysWorth_30 ?_
    refine pp_iload_n hF dX9_laysWorth_33 rfl rfl ?_
    obtain ⟨hi3, h⟩ := pp_ck h
    refine pp_ialoadJ hF vM_41 hi3 (Nat.zero_add _) dX9_laysWorth_34 ?_
    refine pp_aload_n hF dX9_laysWorth_35 rfl rfl ?_
    refine pp_getR hF fdM_X9_16 dX9_laysWorth_36 ?_
    refine pp_iload_n hF dX9_laysWorth_39 rfl rfl ?_
    refine pp_ialoadJ hF vM_43 hi3 (Nat.zero_add _) dX9_laysWorth_40 ?_
    refine pp_isub hF dX9_laysWorth_41 ?_
    refine pp_imul hF dX9_laysWorth_42 ?_
    refine pp_i2l hF dX9_laysWorth_43 ?_
    obtain ⟨hi4, h⟩ := pp_ck h
    refine pp_lastoreJ hF vM_56 hi4 (Nat.zero_add _) dX9_laysWorth_44 ?_
    refine pp_iinc hF dX9_laysWorth_45 rfl (congrArg (HAdd.hAdd _) ic_1) (by decide) (lv' := [(0, ppR 40 0 0), (1, ppI a1), (2, ppI (a2 + (1 : Int32)))]) rfl ?_
    refine pp_goto (tgt := 10) hF dX9_laysWorth_48 rfl ?_
    exact hk10 h
  · replace h := (if_neg c1).symm.trans h
    refine pp_aload_n hF dX9_laysWorth_51 rfl rfl ?_
    refine pp_getI hF fdM_X9_184 dX9_laysWorth_52 ?_
    refine pp_iconst hF dX9_laysWorth_55 ic_1 ?_
    refine pp_isub hF dX9_laysWorth_56 ?_
    refine pp_istore_n hF dX9_laysWorth_57 rfl (by decide) (lv' := [(0, ppR 40 0 0), (1, ppI a1), (2, ppI ((σ.1 40 22) - (1 : Int32)))]) rfl ?_
    exact e_X9_laysWorth_58_L hF hR hk2 h
set_option maxRecDepth 20000 in
theorem e_X9_laysWorth_10_L {Γ : pp_G} {σ' : pp_M} (hF : pp_Fx Γ dsM cX9_laysWorth 18 RX9 3 57) (hR : pp_Rt Γ dsM none none σ') {k2 : pp_M → Int32 → Option (pp_M)} (hk2 : ∀ {σ : pp_M} {a1 : Int32}, k2 σ a1 = some σ' → pp_E Γ dsM cX9_laysWorth 18 2 [(0, ppR 40 0 0), (1, ppI a1)] [] σ) : ∀ {n : Nat} {σ : pp_M} {a1 : Int32} {a2 : Int32}, f_X9_laysWorth_10 k2 n σ a1 a2 = some σ' → pp_E Γ dsM cX9_laysWorth 18 10 [(0, ppR 40 0 0), (1, ppI a1), (2, ppI a2)] [] σ
  | 0, _, _, _ => fun h => by cases h
  | n + 1, _, _, _ => fun h => e_X9_laysWorth_10 hF hR hk2 (fun h => e_X9_laysWorth_10_L hF hR hk2 (n := n) h) h
set_option maxRecDepth 20000 in
theorem e_X9_laysWorth_2 {Γ : pp_G} {σ' : pp_M} (hF : pp_Fx Γ dsM cX9_laysWorth 18 RX9 3 57) (hR : pp_Rt Γ dsM none none σ') {σ : pp_M} {a1 : Int32} {k2 : pp_M → Int32 → Option (pp_M)} (hk2 : ∀ {σ : pp_M} {a1 : Int32}, k2 σ a1 = some σ' → pp_E Γ dsM cX9_laysWorth 18 2 [(0, ppR 40 0 0), (1, ppI a1)] [] σ) (h : f_X9_laysWorth_2_B k2 σ a1 = some σ') : pp_E Γ dsM cX9_laysWorth 18 2 [(0, ppR 40 0 0), (1, ppI a1)] [] σ := by
  unfold f_X9_laysWorth_2_B at h
  refine pp_iload_n hF dX9_laysWorth_2 rfl rfl ?_
  refine pp_bipush hF dX9_laysWorth_3 bc_6 ?_
  refine pp_icmp_ge (tgt := 264) hF dX9_laysWorth_5 rfl (fun c1 => ?_) (fun c1 => ?_)
  · replace h := (if_pos c1).symm.trans h
    refine pp_iconst hF dX9_laysWorth_8 ic_0 ?_
    refine pp_istore_n hF dX9_laysWorth_9 rfl (by decide) (lv' := [(0, ppR 40 0 0), (1, ppI a1), (2, ppI (0 : Int32))]) rfl ?_
    exact e_X9_laysWorth_10_L hF hR hk2 h
  · replace h := (if_neg c1).symm.trans h
    obtain rfl := (Option.some.inj h).symm
    exact pp_return hF hR dX9_laysWorth_264
set_option maxRecDepth 20000 in
theorem e_X9_laysWorth_2_L {Γ : pp_G} {σ' : pp_M} (hF : pp_Fx Γ dsM cX9_laysWorth 18 RX9 3 57) (hR : pp_Rt Γ dsM none none σ') : ∀ {n : Nat} {σ : pp_M} {a1 : Int32}, f_X9_laysWorth_2 n σ a1 = some σ' → pp_E Γ dsM cX9_laysWorth 18 2 [(0, ppR 40 0 0), (1, ppI a1)] [] σ
  | 0, _, _ => fun h => by cases h
  | n + 1, _, _ => fun h => e_X9_laysWorth_2 hF hR (fun h => e_X9_laysWorth_2_L hF hR (n := n) h) h
set_option maxRecDepth 20000 in
theorem e_X9_laysWorth_0 {Γ : pp_G} {σ' : pp_M} (hF : pp_Fx Γ dsM cX9_laysWorth 18 RX9 3 57) (hR : pp_Rt Γ dsM none none σ') {σ : pp_M}  (h : f_X9_laysWorth σ  = some σ') : pp_E Γ dsM cX9_laysWorth 18 0 [(0, ppR 40 0 0)] [] σ := by
  unfold f_X9_laysWorth at h
  refine pp_iconst hF dX9_laysWorth_0 ic_0 ?_
  refine pp_istore_n hF dX9_laysWorth_1 rfl (by decide) (lv' := [(0, ppR 40 0 0), (1, ppI (0 : Int32))]) rfl ?_
  exact e_X9_laysWorth_2_L hF hR h
set_option maxRecDepth 20000 in
theorem c_X9_laysWorth {σ' : pp_M} {σ : pp_M}  (h : f_X9_laysWorth σ  = some σ') : pp_Ct yX9_laysWorth cX9_laysWorth 18 none 3 57 dsM [ppR 40 0 0] σ none σ' := pp_met pl_X9 rfl okM (Nat.le_of_ble_eq_true rfl) rfl (fun Γ hF hR => (e_X9_laysWorth_0 hF hR h))
set_option maxRecDepth 20000 in
theorem e_X9_looksAtRow_10 {Γ : pp_G} {σ' : pp_M} (hF : pp_Fx Γ dsM cX9_looksAtRow 2 RX9 4 94) (hR : pp_Rt Γ dsM none none σ') {σ : pp_M} {a1 : Int32} {k10 : pp_M → Int32 → Option (pp_M)} (hk10 : ∀ {σ : pp_M} {a1 : Int32}, k10 σ a1 = some σ' → pp_E Γ dsM cX9_looksAtRow 2 10 [(0, ppR 40 0 0), (1, ppI a1)] [] σ) (h : f_X9_looksAtRow_10_B k10 σ a1 = some σ') : pp_E Γ dsM cX9_looksAtRow 2 10 [(0, ppR 40 0 0), (1, ppI a1)] [] σ := by
  unfold f_X9_looksAtRow_10_B at h
  refine pp_iload_n hF dX9_looksAtRow_10 rfl rfl ?_
  refine pp_aload_n hF dX9_looksAtRow_11 rfl rfl ?_
  refine pp_getI hF fdM_X9_178 dX9_looksAtRow_12 ?_
  refine pp_icmp_ge (tgt := 36) hF dX9_looksAtRow_15 rfl (fun c1 => ?_) (fun c1 => ?_)
  · replace h := (if_pos c1).symm.trans h
    refine pp_aload_n hF dX9_looksAtRow_18 rfl rfl ?_
    refine pp_getR hF fdM_X9_62 dX9_looksAtRow_19 ?_
    refine pp_iload_n hF dX9_looksAtRow_22 rfl rfl ?_
    refine pp_aload_n hF dX9_looksAtRow_23 rfl rfl ?_
    refine pp_getR hF fdM_X9_56 dX9_looksAtRow_24 ?_
    refine pp_iload_n hF dX9_looksAtRow_27 rfl rfl ?_
    obtain ⟨hi2, h⟩ := pp_ck h
    refine pp_ialoadJ hF vM_53 hi2 (Nat.zero_add _) dX9_looksAtRow_28 ?_
    refine pp_iastoreJ hF vM_55 hi2 (Nat.zero_add _) dX9_looksAtRow_29 ?_
    refine pp_iinc hF dX9_looksAtRow_30 rfl (congrArg (HAdd.hAdd _) ic_1) (by decide) (lv' := [(0, ppR 40 0 0), (1, ppI (a1 + (1 : Int32)))]) rfl ?_
    refine pp_goto (tgt := 10) hF dX9_looksAtRow_33 rfl ?_
    exact hk10 h
  · replace h := (if_neg c1).symm.trans h
    refine pp_aload_n hF dX9_looksAtRow_36 rfl rfl ?_
    obtain ⟨x37, hx37, h⟩ := pp_bd h
    refine pp_callVv hF (c_X9_laysWorth hx37) mV_X9_laysWorth lk_X9_187 obM_40 rfl rfl ⟨by decide, by decide⟩ (Nat.le_of_ble_eq_true rfl) dX9_looksAtRow_37 ?_
    obtain rfl := (Option.some.inj h).symm
    exact pp_return hF hR dX9_looksAtRow_40
set_option maxRecDepth 20000 in
theorem e_X9_looksAtRow_10_L {Γ : pp_G} {σ' : pp_M} (hF : pp_Fx Γ dsM cX9_looksAtRow 2 RX9 4 94) (hR : pp_Rt Γ dsM none none σ') : ∀ {n : Nat} {σ : pp_M} {a1 : Int32}, f_X9_looksAtRow_10 n σ a1 = some σ' → pp_E Γ dsM cX9_looksAtRow 2 10 [(0, ppR 40 0 0), (1, ppI a1)] [] σ
  | 0, _, _ => fun h => by cases h
  | n + 1, _, _ => fun h => e_X9_looksAtRow_10 hF hR (fun h => e_X9_looksAtRow_10_L hF hR (n := n) h) h
set_option maxRecDepth 20000 in
theorem e_X9_looksAtRow_0 {Γ : pp_G} {σ' : pp_M} (hF : pp_Fx Γ dsM cX9_looksAtRow 2 RX9 4 94) (hR : pp_Rt Γ dsM none none σ') {σ : pp_M}  (h : f_X9_looksAtRow σ  = some σ') : pp_E Γ dsM cX9_looksAtRow 2 0 [(0, ppR 40 0 0)] [] σ := by
  unfold f_X9_looksAtRow at h
  refine pp_aload_n hF dX9_looksAtRow_0 rfl rfl ?_
  refine pp_aload_n hF dX9_looksAtRow_1 rfl rfl ?_
  refine pp_getI hF fdM_X9_178 dX9_looksAtRow_2 ?_
  refine pp_putI hF fwM_X9_184 dX9_looksAtRow_5 ?_
  refine pp_iconst hF dX9_looksAtRow_8 ic_0 ?_
  refine pp_istore_n hF dX9_looksAtRow_9 rfl (by decide) (lv' := [(0, ppR 40 0 0), (1, ppI (0 : Int32))]) rfl ?_
  exact e_X9_looksAtRow_10_L hF hR h
set_option maxRecDepth 20000 in
theorem c_X9_looksAtRow {σ' : pp_M} {σ : pp_M}  (h : f_X9_looksAtRow σ  = some σ') : pp_Ct yX9_looksAtRow cX9_looksAtRow 2 none 4 94 dsM [ppR 40 0 0] σ none σ' := pp_met pl_X9 rfl okM (Nat.le_of_ble_eq_true rfl) rfl (fun Γ hF hR => (e_X9_looksAtRow_0 hF hR h))
set_option maxRecDepth 20000 in
theorem e_X9_ask_0 {Γ : pp_G} {r' : Int32} {σ' : pp_M} (hF : pp_Fx Γ dsM cX9_ask 4 RX9 5 115) (hR : pp_Rt Γ dsM (some .int) (some (ppI r')) σ') {σ : pp_M} {a1 : Int32} {a2 : Int32} {a3 : Int32} (h : f_X9_ask σ a1 a2 a3 = some (r', σ')) : pp_E Γ dsM cX9_ask 4 0 [(0, ppR 40 0 0), (1, ppI a1), (2, ppI a2), (3, ppI a3)] [] σ := by
  unfold f_X9_ask at h
  refine pp_iload_n hF dX9_ask_0 rfl rfl ?_
  obtain ⟨x1, hx1, h⟩ := pp_bd h
  refine pp_callSi hF (c_X9_isThing hx1) mS_X9_isThing lk_X9_118 rfl rfl ⟨by decide, by decide⟩ (Nat.le_of_ble_eq_true rfl) dX9_ask_1 ?_
  refine pp_if_eq (tgt := 30) hF dX9_ask_4 rfl (fun c2 => ?_) (fun c2 => ?_)
  · replace h := (if_pos c2).symm.trans h
    refine pp_bipush hF dX9_ask_30 bc_n2 ?_
    obtain ⟨rfl, rfl⟩ := pp_i2 h
    exact pp_ireturn hF hR dX9_ask_32
  · replace h := (if_neg c2).symm.trans h
    refine pp_iload_n hF dX9_ask_7 rfl rfl ?_
    refine pp_iconst hF dX9_ask_8 ic_0 ?_
    refine pp_aload_n hF dX9_ask_9 rfl rfl ?_
    refine pp_getI hF fdM_X9_178 dX9_ask_10 ?_
    refine pp_iconst hF dX9_ask_13 ic_1 ?_
    refine pp_isub hF dX9_ask_14 ?_
    obtain ⟨x15, hx15, h⟩ := pp_bd h
    refine pp_callSi hF (c_X9_in hx15) mS_X9_in lk_X9_114 rfl rfl ⟨by decide, by decide⟩ (Nat.le_of_ble_eq_true rfl) dX9_ask_15 ?_
    refine pp_if_eq (tgt := 30) hF dX9_ask_18 rfl (fun c4 => ?_) (fun c4 => ?_)
    · replace h := (if_pos c4).symm.trans h
      refine pp_bipush hF dX9_ask_30 bc_n2 ?_
      obtain ⟨rfl, rfl⟩ := pp_i2 h
      exact pp_ireturn hF hR dX9_ask_32
    · replace h := (if_neg c4).symm.trans h
      refine pp_iload_n hF dX9_ask_21 rfl rfl ?_
      refine pp_iconst hF dX9_ask_22 ic_1 ?_
      refine pp_iconst hF dX9_ask_23 ic_4 ?_
      obtain ⟨x24, hx24, h⟩ := pp_bd h
      refine pp_callSi hF (c_X9_in hx24) mS_X9_in lk_X9_114 rfl rfl ⟨by decide, by decide⟩ (Nat.le_of_ble_eq_true rfl) dX9_ask_24 ?_
      refine pp_if_ne (tgt := 33) hF dX9_ask_27 rfl (fun c6 => ?_) (fun c6 => ?_)
      · replace h := (if_pos c6).symm.trans h
        refine pp_bipush hF dX9_ask_30 bc_n2 ?_
        obtain ⟨rfl, rfl⟩ := pp_i2 h
        exact pp_ireturn hF hR dX9_ask_32
      · replace h := (if_neg c6).symm.trans h
        refine pp_aload_n hF dX9_ask_33 rfl rfl ?_
        obtain ⟨x34, hx34, h⟩ := pp_bd h
        refine pp_callVv hF (c_X9_looksAtRow hx34) mV_X9_looksAtRow lk_X9_199 obM_40 rfl rfl ⟨by decide, by decide⟩ (Nat.le_of_ble_eq_true rfl) dX9_ask_34 ?_
        refine pp_aload_n hF dX9_ask_37 rfl rfl ?_
        refine pp_getR hF fdM_X9_69 dX9_ask_38 ?_
        refine pp_iload_n hF dX9_ask_41 rfl rfl ?_
        refine pp_iload_n hF dX9_ask_42 rfl rfl ?_
        refine pp_iload_n hF dX9_ask_43 rfl rfl ?_
        obtain ⟨x44, hx44, h⟩ := pp_bd h
        refine pp_callSi hF (c_X9_spot hx44) mS_X9_spot lk_X9_190 rfl rfl ⟨by decide, by decide⟩ (Nat.le_of_ble_eq_true rfl) dX9_ask_44 ?_
        obtain ⟨hi9, h⟩ := pp_ck h
        refine pp_ialoadJ hF vM_57 hi9 (Nat.zero_add _) dX9_ask_47 ?_
        obtain ⟨rfl, rfl⟩ := pp_i2 h
        exact pp_ireturn hF hR dX9_ask_48
set_option maxRecDepth 20000 in
theorem c_X9_ask {r' : Int32} {σ' : pp_M} {σ : pp_M} {a1 : Int32} {a2 : Int32} {a3 : Int32} (h : f_X9_ask σ a1 a2 a3 = some (r', σ')) : pp_Ct yX9_ask cX9_ask 4 (some .int) 5 115 dsM [ppR 40 0 0, ppI a1, ppI a2, ppI a3] σ (some (ppI r')) σ' := pp_met pl_X9 rfl okM (Nat.le_of_ble_eq_true rfl) rfl (fun Γ hF hR => (e_X9_ask_0 hF hR h))
set_option maxRecDepth 20000 in
theorem e_X9_gainOf_0 {Γ : pp_G} {r' : Int64} {σ' : pp_M} (hF : pp_Fx Γ dsM cX9_gainOf 3 RX9 2 34) (hR : pp_Rt Γ dsM (some .long) (some (ppL r')) σ') {σ : pp_M} {a1 : Int32} {a2 : Int32} (h : f_X9_gainOf σ a1 a2 = some (r', σ')) : pp_E Γ dsM cX9_gainOf 3 0 [(0, ppR 40 0 0), (1, ppI a1), (2, ppI a2)] [] σ := by
  unfold f_X9_gainOf at h
  refine pp_aload_n hF dX9_gainOf_0 rfl rfl ?_
  refine pp_getR hF fdM_X9_65 dX9_gainOf_1 ?_
  refine pp_iload_n hF dX9_gainOf_4 rfl rfl ?_
  refine pp_iconst hF dX9_gainOf_5 ic_0 ?_
  refine pp_iload_n hF dX9_gainOf_6 rfl rfl ?_
  obtain ⟨x7, hx7, h⟩ := pp_bd h
  refine pp_callSi hF (c_X9_spot hx7) mS_X9_spot lk_X9_190 rfl rfl ⟨by decide, by decide⟩ (Nat.le_of_ble_eq_true rfl) dX9_gainOf_7 ?_
  obtain ⟨hi2, h⟩ := pp_ck h
  refine pp_laloadJ hF vM_56 hi2 (Nat.zero_add _) dX9_gainOf_10 ?_
  refine pp_iload_n hF dX9_gainOf_11 rfl rfl ?_
  refine pp_aload_n hF dX9_gainOf_12 rfl rfl ?_
  refine pp_getR hF fdM_X9_7 dX9_gainOf_13 ?_
  refine pp_iload_n hF dX9_gainOf_16 rfl rfl ?_
  obtain ⟨hi3, h⟩ := pp_ck h
  refine pp_ialoadJ hF vM_41 hi3 (Nat.zero_add _) dX9_gainOf_17 ?_
  refine pp_imul hF dX9_gainOf_18 ?_
  refine pp_i2l hF dX9_gainOf_19 ?_
  refine pp_aload_n hF dX9_gainOf_20 rfl rfl ?_
  refine pp_getI hF fdM_X9_184 dX9_gainOf_21 ?_
  obtain ⟨x24, hx24, h⟩ := pp_bd h
  refine pp_callSl hF (c_X9_sixteen hx24) mS_X9_sixteen lk_X9_193 rfl rfl ⟨by decide, by decide⟩ (Nat.le_of_ble_eq_true rfl) dX9_gainOf_24 ?_
  refine pp_lmul hF dX9_gainOf_27 ?_
  refine pp_lsub hF dX9_gainOf_28 ?_
  obtain ⟨rfl, rfl⟩ := pp_i2 h
  exact pp_lreturn hF hR dX9_gainOf_29
set_option maxRecDepth 20000 in
theorem c_X9_gainOf {r' : Int64} {σ' : pp_M} {σ : pp_M} {a1 : Int32} {a2 : Int32} (h : f_X9_gainOf σ a1 a2 = some (r', σ')) : pp_Ct yX9_gainOf cX9_gainOf 3 (some .long) 2 34 dsM [ppR 40 0 0, ppI a1, ppI a2] σ (some (ppL r')) σ' := pp_met pl_X9 rfl okM (Nat.le_of_ble_eq_true rfl) rfl (fun Γ hF hR => (e_X9_gainOf_0 hF hR h))
set_option maxRecDepth 20000 in
theorem e_X9_packs_178 {Γ : pp_G} {σ' : pp_M} (hF : pp_Fx Γ dsM cX9_packs 10 RX9 3 56) (hR : pp_Rt Γ dsM none none σ') {σ : pp_M} {a1 : Int32} {a2 : Int32} {a3 : Int32} {k11 : pp_M → Int32 → Int32 → Int32 → Option (pp_M)} (hk11 : ∀ {σ : pp_M} {a1 : Int32} {a2 : Int32} {a3 : Int32}, k11 σ a1 a2 a3 = some σ' → pp_E Γ dsM cX9_packs 10 11 [(0, ppR 40 0 0), (1, ppI a1), (2, ppI a2), (3, ppI a3)] [] σ) (h : f_X9_packs_178 k11 σ a1 a2 a3 = some σ') : pp_E Γ dsM cX9_packs 10 178 [(0, ppR 40 0 0), (1, ppI a1), (2, ppI a2), (3, ppI a3)] [] σ := by
  unfold f_X9_packs_178 at h
  refine pp_iinc hF dX9_packs_178 rfl (congrArg (HAdd.hAdd _) ic_1) (by decide) (lv' := [(0, ppR 40 0 0), (1, ppI a1), (2, ppI a2), (3, ppI (a3 + (1 : Int32)))]) rfl ?_
  refine pp_goto (tgt := 11) hF dX9_packs_181 rfl ?_
  exact hk11 h
set_option maxRecDepth 20000 in
theorem e_X9_packs_150 {Γ : pp_G} {σ' : pp_M} (hF : pp_Fx Γ dsM cX9_packs 10 RX9 3 56) (hR : pp_Rt Γ dsM none none σ') {σ : pp_M} {a1 : Int32} {a2 : Int32} {a3 : Int32} {a4 : Int32} {a8 : Int32} {k11 : pp_M → Int32 → Int32 → Int32 → Option (pp_M)} (hk11 : ∀ {σ : pp_M} {a1 : Int32} {a2 : Int32} {a3 : Int32}, k11 σ a1 a2 a3 = some σ' → pp_E Γ dsM cX9_packs 10 11 [(0, ppR 40 0 0), (1, ppI a1), (2, ppI a2), (3, ppI a3)] [] σ) {k150 : pp_M → Int32 → Int32 → Int32 → Int32 → Int32 → Option (pp_M)} (hk150 : ∀ {σ : pp_M} {a1 : Int32} {a2 : Int32} {a3 : Int32} {a4 : Int32} {a8 : Int32}, k150 σ a1 a2 a3 a4 a8 = some σ' → pp_E Γ dsM cX9_packs 10 150 [(0, ppR 40 0 0), (1, ppI a1), (2, ppI a2), (3, ppI a3), (4, ppI a4), (8, ppI a8)] [] σ) (h : f_X9_packs_150_B k11 k150 σ a1 a2 a3 a4 a8 = some σ') : pp_E Γ dsM cX9_packs 10 150 [(0, ppR 40 0 0), (1, ppI a1), (2, ppI a2), (3, ppI a3), (4, ppI a4), (8, ppI a8)] [] σ := by
  unfold f_X9_packs_150_B at h
  refine pp_iload hF dX9_packs_150 rfl ?_
  refine pp_if_lt (tgt := 178) hF dX9_packs_152 rfl (fun c1 => ?_) (fun c1 => ?_)
  · replace h := (if_pos c1).symm.trans h
    refine pp_few [0, 1, 2, 3] (lv' := [(0, ppR 40 0 0), (1, ppI a1), (2, ppI a2), (3, ppI a3)]) rfl ?_
    exact e_X9_packs_178 hF hR hk11 h
  · replace h := (if_neg c1).symm.trans h
    refine pp_aload_n hF dX9_packs_155 rfl rfl ?_
    refine pp_getR hF fdM_X9_75 dX9_packs_156 ?_
    refine pp_iload hF dX9_packs_159 rfl ?_
    refine pp_iload hF dX9_packs_161 rfl ?_
    refine pp_iconst hF dX9_packs_163 ic_5 ?_
    refine pp_irem hF dX9_packs_164 (by decide) ?_
    obtain ⟨hi2, h⟩ := pp_ck h
    refine pp_iastoreJ hF vM_59 hi2 (Nat.zero_add _) dX9_packs_165 ?_
    refine pp_iload hF dX9_packs_166 rfl ?_
    refine pp_iconst hF dX9_packs_168 ic_5 ?_
    refine pp_idiv hF dX9_packs_169 (by decide) ?_
    refine pp_istore hF dX9_packs_170 (by decide) (lv' := [(0, ppR 40 0 0), (1, ppI a1), (2, ppI a2), (3, ppI a3), (4, ppI (a4 / (5 : Int32))), (8, ppI a8)]) rfl ?_
    refine pp_iinc hF dX9_packs_172 rfl (congrArg (HAdd.hAdd _) ic_n1) (by decide) (lv' := [(0, ppR 40 0 0), (1, ppI a1), (2, ppI a2), (3, ppI a3), (4, ppI (a4 / (5 : Int32))), (8, ppI (a8 + (-1 : Int32)))]) rfl ?_
    refine pp_goto (tgt := 150) hF dX9_packs_175 rfl ?_
    exact hk150 h
set_option maxRecDepth 20000 in
theorem e_X9_packs_150_L {Γ : pp_G} {σ' : pp_M} (hF : pp_Fx Γ dsM cX9_packs 10 RX9 3 56) (hR : pp_Rt Γ dsM none none σ') {k11 : pp_M → Int32 → Int32 → Int32 → Option (pp_M)} (hk11 : ∀ {σ : pp_M} {a1 : Int32} {a2 : Int32} {a3 : Int32}, k11 σ a1 a2 a3 = some σ' → pp_E Γ dsM cX9_packs 10 11 [(0, ppR 40 0 0), (1, ppI a1), (2, ppI a2), (3, ppI a3)] [] σ) : ∀ {n : Nat} {σ : pp_M} {a1 : Int32} {a2 : Int32} {a3 : Int32} {a4 : Int32} {a8 : Int32}, f_X9_packs_150 k11 n σ a1 a2 a3 a4 a8 = some σ' → pp_E Γ dsM cX9_packs 10 150 [(0, ppR 40 0 0), (1, ppI a1), (2, ppI a2), (3, ppI a3), (4, ppI a4), (8, ppI a8)] [] σ
  | 0, _, _, _, _, _, _ => fun h => by cases h
  | n + 1, _, _, _, _, _, _ => fun h => e_X9_packs_150 hF hR hk11 (fun h => e_X9_packs_150_L hF hR hk11 (n := n) h) h
set_option maxRecDepth 20000 in
theorem e_X9_packs_135 {Γ : pp_G} {σ' : pp_M} (hF : pp_Fx Γ dsM cX9_packs 10 RX9 3 56) (hR : pp_Rt Γ dsM none none σ') {σ : pp_M} {a1 : Int32} {a3 : Int32} {a5 : Int32} {a6 : Int64} {k11 : pp_M → Int32 → Int32 → Int32 → Option (pp_M)} (hk11 : ∀ {σ : pp_M} {a1 : Int32} {a2 : Int32} {a3 : Int32}, k11 σ a1 a2 a3 = some σ' → pp_E Γ dsM cX9_packs 10 11 [(0, ppR 40 0 0), (1, ppI a1), (2, ppI a2), (3, ppI a3)] [] σ) (h : f_X9_packs_135 k11 σ a1 a3 a5 a6 = some σ') : pp_E Γ dsM cX9_packs 10 135 [(0, ppR 40 0 0), (1, ppI a1), (3, ppI a3), (5, ppI a5), (6, ppL a6)] [] σ := by
  unfold f_X9_packs_135 at h
  refine pp_aload_n hF dX9_packs_135 rfl rfl ?_
  refine pp_lload hF dX9_packs_136 rfl ?_
  refine pp_putL hF fwM_X9_228 dX9_packs_138 ?_
  refine pp_iload hF dX9_packs_141 rfl ?_
  refine pp_istore_n hF dX9_packs_143 rfl (by decide) (lv' := [(0, ppR 40 0 0), (1, ppI a1), (2, ppI a5), (3, ppI a3), (5, ppI a5), (6, ppL a6)]) rfl ?_
  refine pp_iload_n hF dX9_packs_144 rfl rfl ?_
  refine pp_istore hF dX9_packs_145 (by decide) (lv' := [(0, ppR 40 0 0), (1, ppI a1), (2, ppI a5), (3, ppI a3), (4, ppI a3), (5, ppI a5), (6, ppL a6)]) rfl ?_
  refine pp_iconst hF dX9_packs_147 ic_5 ?_
  refine pp_istore hF dX9_packs_148 (by decide) (lv' := [(0, ppR 40 0 0), (1, ppI a1), (2, ppI a5), (3, ppI a3), (4, ppI a3), (5, ppI a5), (6, ppL a6), (8, ppI (5 : Int32))]) rfl ?_
  refine pp_few [0, 1, 2, 3, 4, 7] (lv' := [(0, ppR 40 0 0), (1, ppI a1), (2, ppI a5), (3, ppI a3), (4, ppI a3), (8, ppI (5 : Int32))]) rfl ?_
  exact e_X9_packs_150_L hF hR hk11 h
set_option maxRecDepth 20000 in
theorem e_X9_packs_77 {Γ : pp_G} {σ' : pp_M} (hF : pp_Fx Γ dsM cX9_packs 10 RX9 3 56) (hR : pp_Rt Γ dsM none none σ') {σ : pp_M} {a1 : Int32} {a2 : Int32} {a3 : Int32} {a4 : Int32} {a6 : Int64} {a8 : Int32} {a9 : Int32} {b0 : Int32} {b1 : Int32} {b2 : Int32} {k11 : pp_M → Int32 → Int32 → Int32 → Option (pp_M)} (hk11 : ∀ {σ : pp_M} {a1 : Int32} {a2 : Int32} {a3 : Int32}, k11 σ a1 a2 a3 = some σ' → pp_E Γ dsM cX9_packs 10 11 [(0, ppR 40 0 0), (1, ppI a1), (2, ppI a2), (3, ppI a3)] [] σ) {k30 : pp_M → Int32 → Int32 → Int32 → Int32 → Int32 → Int64 → Int32 → Option (pp_M)} (hk30 : ∀ {σ : pp_M} {a1 : Int32} {a2 : Int32} {a3 : Int32} {a4 : Int32} {a5 : Int32} {a6 : Int64} {a8 : Int32}, k30 σ a1 a2 a3 a4 a5 a6 a8 = some σ' → pp_E Γ dsM cX9_packs 10 30 [(0, ppR 40 0 0), (1, ppI a1), (2, ppI a2), (3, ppI a3), (4, ppI a4), (5, ppI a5), (6, ppL a6), (8, ppI a8)] [] σ) (h : f_X9_packs_77 k11 k30 σ a1 a2 a3 a4 a6 a8 a9 b0 b1 b2 = some σ') : pp_E Γ dsM cX9_packs 10 77 [(0, ppR 40 0 0), (1, ppI a1), (2, ppI a2), (3, ppI a3), (4, ppI a4), (6, ppL a6), (8, ppI a8), (9, ppI a9)] [ppI b2, ppI b1, ppI b0] σ := by
  unfold f_X9_packs_77 at h
  refine pp_iadd hF dX9_packs_77 ?_
  refine pp_iadd hF dX9_packs_78 ?_
  refine pp_istore hF dX9_packs_79 (by decide) (lv' := [(0, ppR 40 0 0), (1, ppI a1), (2, ppI a2), (3, ppI a3), (4, ppI a4), (5, ppI (b0 + (b1 + b2))), (6, ppL a6), (8, ppI a8), (9, ppI a9)]) rfl ?_
  refine pp_lload hF dX9_packs_81 rfl ?_
  refine pp_aload_n hF dX9_packs_83 rfl rfl ?_
  refine pp_iload hF dX9_packs_84 rfl ?_
  refine pp_iload hF dX9_packs_86 rfl ?_
  obtain ⟨x88, hx88, h⟩ := pp_bd h
  refine pp_callVl hF (c_X9_gainOf hx88) mV_X9_gainOf lk_X9_218 obM_40 rfl rfl ⟨by decide, by decide⟩ (Nat.le_of_ble_eq_true rfl) dX9_packs_88 ?_
  refine pp_ladd hF dX9_packs_91 ?_
  refine pp_lstore hF dX9_packs_92 (by decide) (lv' := [(0, ppR 40 0 0), (1, ppI a1), (2, ppI a2), (3, ppI a3), (4, ppI a4), (5, ppI (b0 + (b1 + b2))), (6, ppL (a6 + x88.1)), (8, ppI a8), (9, ppI a9)]) rfl ?_
  refine pp_iinc hF dX9_packs_94 rfl (congrArg (HAdd.hAdd _) ic_n1) (by decide) (lv' := [(0, ppR 40 0 0), (1, ppI a1), (2, ppI a2), (3, ppI a3), (4, ppI a4), (5, ppI (b0 + (b1 + b2))), (6, ppL (a6 + x88.1)), (8, ppI (a8 + (-1 : Int32))), (9, ppI a9)]) rfl ?_
  refine pp_goto (tgt := 30) hF dX9_packs_97 rfl ?_
  refine pp_few [0, 1, 2, 3, 4, 5, 6, 7] (lv' := [(0, ppR 40 0 0), (1, ppI a1), (2, ppI a2), (3, ppI a3), (4, ppI a4), (5, ppI (b0 + (b1 + b2))), (6, ppL (a6 + x88.1)), (8, ppI (a8 + (-1 : Int32)))]) rfl ?_
  exact hk30 h
set_option maxRecDepth 20000 in
theorem e_X9_packs_76 {Γ : pp_G} {σ' : pp_M} (hF : pp_Fx Γ dsM cX9_packs 10 RX9 3 56) (hR : pp_Rt Γ dsM none none σ') {σ : pp_M} {a1 : Int32} {a2 : Int32} {a3 : Int32} {a4 : Int32} {a6 : Int64} {a8 : Int32} {a9 : Int32} {b0 : Int32} {b1 : Int32} {k11 : pp_M → Int32 → Int32 → Int32 → Option (pp_M)} (hk11 : ∀ {σ : pp_M} {a1 : Int32} {a2 : Int32} {a3 : Int32}, k11 σ a1 a2 a3 = some σ' → pp_E Γ dsM cX9_packs 10 11 [(0, ppR 40 0 0), (1, ppI a1), (2, ppI a2), (3, ppI a3)] [] σ) {k30 : pp_M → Int32 → Int32 → Int32 → Int32 → Int32 → Int64 → Int32 → Option (pp_M)} (hk30 : ∀ {σ : pp_M} {a1 : Int32} {a2 : Int32} {a3 : Int32} {a4 : Int32} {a5 : Int32} {a6 : Int64} {a8 : Int32}, k30 σ a1 a2 a3 a4 a5 a6 a8 = some σ' → pp_E Γ dsM cX9_packs 10 30 [(0, ppR 40 0 0), (1, ppI a1), (2, ppI a2), (3, ppI a3), (4, ppI a4), (5, ppI a5), (6, ppL a6), (8, ppI a8)] [] σ) (h : f_X9_packs_76 k11 k30 σ a1 a2 a3 a4 a6 a8 a9 b0 b1 = some σ') : pp_E Γ dsM cX9_packs 10 76 [(0, ppR 40 0 0), (1, ppI a1), (2, ppI a2), (3, ppI a3), (4, ppI a4), (6, ppL a6), (8, ppI a8), (9, ppI a9)] [ppI b1, ppI b0] σ := by
  unfold f_X9_packs_76 at h
  refine pp_iconst hF dX9_packs_76 ic_0 ?_
  exact e_X9_packs_77 hF hR hk11 hk30 h
set_option maxRecDepth 20000 in
theorem e_X9_packs_30 {Γ : pp_G} {σ' : pp_M} (hF : pp_Fx Γ dsM cX9_packs 10 RX9 3 56) (hR : pp_Rt Γ dsM none none σ') {σ : pp_M} {a1 : Int32} {a2 : Int32} {a3 : Int32} {a4 : Int32} {a5 : Int32} {a6 : Int64} {a8 : Int32} {k11 : pp_M → Int32 → Int32 → Int32 → Option (pp_M)} (hk11 : ∀ {σ : pp_M} {a1 : Int32} {a2 : Int32} {a3 : Int32}, k11 σ a1 a2 a3 = some σ' → pp_E Γ dsM cX9_packs 10 11 [(0, ppR 40 0 0), (1, ppI a1), (2, ppI a2), (3, ppI a3)] [] σ) {k30 : pp_M → Int32 → Int32 → Int32 → Int32 → Int32 → Int64 → Int32 → Option (pp_M)} (hk30 : ∀ {σ : pp_M} {a1 : Int32} {a2 : Int32} {a3 : Int32} {a4 : Int32} {a5 : Int32} {a6 : Int64} {a8 : Int32}, k30 σ a1 a2 a3 a4 a5 a6 a8 = some σ' → pp_E Γ dsM cX9_packs 10 30 [(0, ppR 40 0 0), (1, ppI a1), (2, ppI a2), (3, ppI a3), (4, ppI a4), (5, ppI a5), (6, ppL a6), (8, ppI a8)] [] σ) (h : f_X9_packs_30_B k11 k30 σ a1 a2 a3 a4 a5 a6 a8 = some σ') : pp_E Γ dsM cX9_packs 10 30 [(0, ppR 40 0 0), (1, ppI a1), (2, ppI a2), (3, ppI a3), (4, ppI a4), (5, ppI a5), (6, ppL a6), (8, ppI a8)] [] σ := by
  unfold f_X9_packs_30_B at h
  refine pp_iload hF dX9_packs_30 rfl ?_
  refine pp_if_lt (tgt := 100) hF dX9_packs_32 rfl (fun c1 => ?_) (fun c1 => ?_)
  · replace h := (if_pos c1).symm.trans h
    refine pp_iload hF dX9_packs_100 rfl ?_
    refine pp_aload_n hF dX9_packs_102 rfl rfl ?_
    refine pp_getI hF fdM_X9_32 dX9_packs_103 ?_
    refine pp_icmp_gt (tgt := 178) hF dX9_packs_106 rfl (fun c2 => ?_) (fun c2 => ?_)
    · replace h := (if_pos c2).symm.trans h
      refine pp_few [0, 1, 2, 3] (lv' := [(0, ppR 40 0 0), (1, ppI a1), (2, ppI a2), (3, ppI a3)]) rfl ?_
      exact e_X9_packs_178 hF hR hk11 h
    · replace h := (if_neg c2).symm.trans h
      refine pp_lload hF dX9_packs_109 rfl ?_
      refine pp_aload_n hF dX9_packs_111 rfl rfl ?_
      refine pp_getL hF fdM_X9_228 dX9_packs_112 ?_
      refine pp_lcmp_gt (tgt := 135) hF dX9_packs_115 dX9_packs_116 rfl (fun c3 => ?_) (fun c3 => ?_)
      · replace h := (if_pos c3).symm.trans h
        refine pp_few [0, 1, 3, 5, 6] (lv' := [(0, ppR 40 0 0), (1, ppI a1), (3, ppI a3), (5, ppI a5), (6, ppL a6)]) rfl ?_
        exact e_X9_packs_135 hF hR hk11 h
      · replace h := (if_neg c3).symm.trans h
        refine pp_lload hF dX9_packs_119 rfl ?_
        refine pp_aload_n hF dX9_packs_121 rfl rfl ?_
        refine pp_getL hF fdM_X9_228 dX9_packs_122 ?_
        refine pp_lcmp_ne (tgt := 178) hF dX9_packs_125 dX9_packs_126 rfl (fun c4 => ?_) (fun c4 => ?_)
        · replace h := (if_pos c4).symm.trans h
          refine pp_iload hF dX9_packs_129 rfl ?_
          refine pp_iload_n hF dX9_packs_131 rfl rfl ?_
          refine pp_icmp_ge (tgt := 178) hF dX9_packs_132 rfl (fun c5 => ?_) (fun c5 => ?_)
          · replace h := (if_pos c5).symm.trans h
            refine pp_few [0, 1, 3, 5, 6] (lv' := [(0, ppR 40 0 0), (1, ppI a1), (3, ppI a3), (5, ppI a5), (6, ppL a6)]) rfl ?_
            exact e_X9_packs_135 hF hR hk11 h
          · replace h := (if_neg c5).symm.trans h
            refine pp_few [0, 1, 2, 3] (lv' := [(0, ppR 40 0 0), (1, ppI a1), (2, ppI a2), (3, ppI a3)]) rfl ?_
            exact e_X9_packs_178 hF hR hk11 h
        · replace h := (if_neg c4).symm.trans h
          refine pp_few [0, 1, 2, 3] (lv' := [(0, ppR 40 0 0), (1, ppI a1), (2, ppI a2), (3, ppI a3)]) rfl ?_
          exact e_X9_packs_178 hF hR hk11 h
  · replace h := (if_neg c1).symm.trans h
    refine pp_iload hF dX9_packs_35 rfl ?_
    refine pp_iconst hF dX9_packs_37 ic_5 ?_
    refine pp_irem hF dX9_packs_38 (by decide) ?_
    refine pp_istore hF dX9_packs_39 (by decide) (lv' := [(0, ppR 40 0 0), (1, ppI a1), (2, ppI a2), (3, ppI a3), (4, ppI a4), (5, ppI a5), (6, ppL a6), (8, ppI a8), (9, ppI (a4 - a4 / (5 : Int32) * (5 : Int32)))]) rfl ?_
    refine pp_iload hF dX9_packs_41 rfl ?_
    refine pp_iconst hF dX9_packs_43 ic_5 ?_
    refine pp_idiv hF dX9_packs_44 (by decide) ?_
    refine pp_istore hF dX9_packs_45 (by decide) (lv' := [(0, ppR 40 0 0), (1, ppI a1), (2, ppI a2), (3, ppI a3), (4, ppI (a4 / (5 : Int32))), (5, ppI a5), (6, ppL a6), (8, ppI a8), (9, ppI (a4 - a4 / (5 : Int32) * (5 : Int32)))]) rfl ?_
    refine pp_iload hF dX9_packs_47 rfl ?_
    refine pp_iload hF dX9_packs_49 rfl ?_
    refine pp_aload_n hF dX9_packs_51 rfl rfl ?_
    refine pp_getR hF fdM_X9_13 dX9_packs_52 ?_
    refine pp_iload hF dX9_packs_55 rfl ?_
    obtain ⟨hi6, h⟩ := pp_ck h
    refine pp_ialoadJ hF vM_42 hi6 (Nat.zero_add _) dX9_packs_57 ?_
    refine pp_imul hF dX9_packs_58 ?_
    refine pp_iload hF dX9_packs_59 rfl ?_
    refine pp_iload_n hF dX9_packs_61 rfl rfl ?_
    refine pp_icmp_ne (tgt := 76) hF dX9_packs_62 rfl (fun c7 => ?_) (fun c7 => ?_)
    · replace h := (if_pos c7).symm.trans h
      refine pp_iload hF dX9_packs_65 rfl ?_
      refine pp_if_le (tgt := 76) hF dX9_packs_67 rfl (fun c8 => ?_) (fun c8 => ?_)
      · replace h := (if_pos c8).symm.trans h
        refine pp_sipush hF dX9_packs_70 sc_1000 ?_
        refine pp_goto (tgt := 77) hF dX9_packs_73 rfl ?_
        refine pp_few [0, 1, 2, 3, 4, 6, 7, 8] (lv' := [(0, ppR 40 0 0), (1, ppI a1), (2, ppI a2), (3, ppI a3), (4, ppI (a4 / (5 : Int32))), (6, ppL a6), (8, ppI a8), (9, ppI (a4 - a4 / (5 : Int32) * (5 : Int32)))]) rfl ?_
        exact e_X9_packs_77 hF hR hk11 hk30 h
      · replace h := (if_neg c8).symm.trans h
        refine pp_few [0, 1, 2, 3, 4, 6, 7, 8] (lv' := [(0, ppR 40 0 0), (1, ppI a1), (2, ppI a2), (3, ppI a3), (4, ppI (a4 / (5 : Int32))), (6, ppL a6), (8, ppI a8), (9, ppI (a4 - a4 / (5 : Int32) * (5 : Int32)))]) rfl ?_
        exact e_X9_packs_76 hF hR hk11 hk30 h
    · replace h := (if_neg c7).symm.trans h
      refine pp_few [0, 1, 2, 3, 4, 6, 7, 8] (lv' := [(0, ppR 40 0 0), (1, ppI a1), (2, ppI a2), (3, ppI a3), (4, ppI (a4 / (5 : Int32))), (6, ppL a6), (8, ppI a8), (9, ppI (a4 - a4 / (5 : Int32) * (5 : Int32)))]) rfl ?_
      exact e_X9_packs_76 hF hR hk11 hk30 h
set_option maxRecDepth 20000 in
theorem e_X9_packs_30_L {Γ : pp_G} {σ' : pp_M} (hF : pp_Fx Γ dsM cX9_packs 10 RX9 3 56) (hR : pp_Rt Γ dsM none none σ') {k11 : pp_M → Int32 → Int32 → Int32 → Option (pp_M)} (hk11 : ∀ {σ : pp_M} {a1 : Int32} {a2 : Int32} {a3 : Int32}, k11 σ a1 a2 a3 = some σ' → pp_E Γ dsM cX9_packs 10 11 [(0, ppR 40 0 0), (1, ppI a1), (2, ppI a2), (3, ppI a3)] [] σ) : ∀ {n : Nat} {σ : pp_M} {a1 : Int32} {a2 : Int32} {a3 : Int32} {a4 : Int32} {a5 : Int32} {a6 : Int64} {a8 : Int32}, f_X9_packs_30 k11 n σ a1 a2 a3 a4 a5 a6 a8 = some σ' → pp_E Γ dsM cX9_packs 10 30 [(0, ppR 40 0 0), (1, ppI a1), (2, ppI a2), (3, ppI a3), (4, ppI a4), (5, ppI a5), (6, ppL a6), (8, ppI a8)] [] σ
  | 0, _, _, _, _, _, _, _, _ => fun h => by cases h
  | n + 1, _, _, _, _, _, _, _, _ => fun h => e_X9_packs_30 hF hR hk11 (fun h => e_X9_packs_30_L hF hR hk11 (n := n) h) h
set_option maxRecDepth 20000 in
theorem e_X9_packs_11 {Γ : pp_G} {σ' : pp_M} (hF : pp_Fx Γ dsM cX9_packs 10 RX9 3 56) (hR : pp_Rt Γ dsM none none σ') {σ : pp_M} {a1 : Int32} {a2 : Int32} {a3 : Int32} {k11 : pp_M → Int32 → Int32 → Int32 → Option (pp_M)} (hk11 : ∀ {σ : pp_M} {a1 : Int32} {a2 : Int32} {a3 : Int32}, k11 σ a1 a2 a3 = some σ' → pp_E Γ dsM cX9_packs 10 11 [(0, ppR 40 0 0), (1, ppI a1), (2, ppI a2), (3, ppI a3)] [] σ) (h : f_X9_packs_11_B k11 σ a1 a2 a3 = some σ') : pp_E Γ dsM cX9_packs 10 11 [(0, ppR 40 0 0), (1, ppI a1), (2, ppI a2), (3, ppI a3)] [] σ := by
  unfold f_X9_packs_11_B at h
  refine pp_iload_n hF dX9_packs_11 rfl rfl ?_
  refine pp_sipush hF dX9_packs_12 sc_15625 ?_
  refine pp_icmp_ge (tgt := 184) hF dX9_packs_15 rfl (fun c1 => ?_) (fun c1 => ?_)
  · replace h := (if_pos c1).symm.trans h
    refine pp_iload_n hF dX9_packs_18 rfl rfl ?_
    refine pp_istore hF dX9_packs_19 (by decide) (lv' := [(0, ppR 40 0 0), (1, ppI a1), (2, ppI a2), (3, ppI a3), (4, ppI a3)]) rfl ?_
    refine pp_iconst hF dX9_packs_21 ic_0 ?_
    refine pp_istore hF dX9_packs_22 (by decide) (lv' := [(0, ppR 40 0 0), (1, ppI a1), (2, ppI a2), (3, ppI a3), (4, ppI a3), (5, ppI (0 : Int32))]) rfl ?_
    refine pp_lconst hF dX9_packs_24 lc_0 ?_
    refine pp_lstore hF dX9_packs_25 (by decide) (lv' := [(0, ppR 40 0 0), (1, ppI a1), (2, ppI a2), (3, ppI a3), (4, ppI a3), (5, ppI (0 : Int32)), (6, ppL (0 : Int64))]) rfl ?_
    refine pp_iconst hF dX9_packs_27 ic_5 ?_
    refine pp_istore hF dX9_packs_28 (by decide) (lv' := [(0, ppR 40 0 0), (1, ppI a1), (2, ppI a2), (3, ppI a3), (4, ppI a3), (5, ppI (0 : Int32)), (6, ppL (0 : Int64)), (8, ppI (5 : Int32))]) rfl ?_
    exact e_X9_packs_30_L hF hR hk11 h
  · replace h := (if_neg c1).symm.trans h
    obtain rfl := (Option.some.inj h).symm
    exact pp_return hF hR dX9_packs_184
set_option maxRecDepth 20000 in
theorem e_X9_packs_11_L {Γ : pp_G} {σ' : pp_M} (hF : pp_Fx Γ dsM cX9_packs 10 RX9 3 56) (hR : pp_Rt Γ dsM none none σ') : ∀ {n : Nat} {σ : pp_M} {a1 : Int32} {a2 : Int32} {a3 : Int32}, f_X9_packs_11 n σ a1 a2 a3 = some σ' → pp_E Γ dsM cX9_packs 10 11 [(0, ppR 40 0 0), (1, ppI a1), (2, ppI a2), (3, ppI a3)] [] σ
  | 0, _, _, _, _ => fun h => by cases h
  | n + 1, _, _, _, _ => fun h => e_X9_packs_11 hF hR (fun h => e_X9_packs_11_L hF hR (n := n) h) h
set_option maxRecDepth 20000 in
theorem e_X9_packs_0 {Γ : pp_G} {σ' : pp_M} (hF : pp_Fx Γ dsM cX9_packs 10 RX9 3 56) (hR : pp_Rt Γ dsM none none σ') {σ : pp_M} {a1 : Int32} (h : f_X9_packs σ a1 = some σ') : pp_E Γ dsM cX9_packs 10 0 [(0, ppR 40 0 0), (1, ppI a1)] [] σ := by
  unfold f_X9_packs at h
  refine pp_aload_n hF dX9_packs_0 rfl rfl ?_
  refine pp_ldc2 hF wm_1167 dX9_packs_1 ?_
  refine pp_putL hF fwM_X9_228 dX9_packs_4 ?_
  refine pp_iconst hF dX9_packs_7 ic_0 ?_
  refine pp_istore_n hF dX9_packs_8 rfl (by decide) (lv' := [(0, ppR 40 0 0), (1, ppI a1), (2, ppI (0 : Int32))]) rfl ?_
  refine pp_iconst hF dX9_packs_9 ic_0 ?_
  refine pp_istore_n hF dX9_packs_10 rfl (by decide) (lv' := [(0, ppR 40 0 0), (1, ppI a1), (2, ppI (0 : Int32)), (3, ppI (0 : Int32))]) rfl ?_
  exact e_X9_packs_11_L hF hR h
set_option maxRecDepth 20000 in
theorem c_X9_packs {σ' : pp_M} {σ : pp_M} {a1 : Int32} (h : f_X9_packs σ a1 = some σ') : pp_Ct yX9_packs cX9_packs 10 none 3 56 dsM [ppR 40 0 0, ppI a1] σ none σ' := pp_met pl_X9 rfl okM (Nat.le_of_ble_eq_true rfl) rfl (fun Γ hF hR => (e_X9_packs_0 hF hR h))
set_option maxRecDepth 20000 in
theorem e_X9_weightOf_0 {Γ : pp_G} {r' : Int32} {σ' : pp_M} (hF : pp_Fx Γ dsM cX9_weightOf 3 RX9 1 12) (hR : pp_Rt Γ dsM (some .int) (some (ppI r')) σ') {σ : pp_M} {a1 : Int32} {a2 : Int32} (h : f_X9_weightOf σ a1 a2 = some (r', σ')) : pp_E Γ dsM cX9_weightOf 3 0 [(0, ppR 40 0 0), (1, ppI a1), (2, ppI a2)] [] σ := by
  unfold f_X9_weightOf at h
  refine pp_iload_n hF dX9_weightOf_0 rfl rfl ?_
  refine pp_aload_n hF dX9_weightOf_1 rfl rfl ?_
  refine pp_getR hF fdM_X9_13 dX9_weightOf_2 ?_
  refine pp_iload_n hF dX9_weightOf_5 rfl rfl ?_
  obtain ⟨hi1, h⟩ := pp_ck h
  refine pp_ialoadJ hF vM_42 hi1 (Nat.zero_add _) dX9_weightOf_6 ?_
  refine pp_imul hF dX9_weightOf_7 ?_
  obtain ⟨rfl, rfl⟩ := pp_i2 h
  exact pp_ireturn hF hR dX9_weightOf_8
set_option maxRecDepth 20000 in
theorem c_X9_weightOf {r' : Int32} {σ' : pp_M} {σ : pp_M} {a1 : Int32} {a2 : Int32} (h : f_X9_weightOf σ a1 a2 = some (r', σ')) : pp_Ct yX9_weightOf cX9_weightOf 3 (some .int) 1 12 dsM [ppR 40 0 0, ppI a1, ppI a2] σ (some (ppI r')) σ' := pp_met pl_X9 rfl okM (Nat.le_of_ble_eq_true rfl) rfl (fun Γ hF hR => (e_X9_weightOf_0 hF hR h))
set_option maxRecDepth 20000 in
theorem e_X9_bestNow_25 {Γ : pp_G} {r' : Int32} {σ' : pp_M} (hF : pp_Fx Γ dsM cX9_bestNow 4 RX9 5 115) (hR : pp_Rt Γ dsM (some .int) (some (ppI r')) σ') {σ : pp_M} {a2 : Int32} {a3 : Int32} {k25 : pp_M → Int32 → Int32 → Option (Int32 × pp_M)} (hk25 : ∀ {σ : pp_M} {a2 : Int32} {a3 : Int32}, k25 σ a2 a3 = some (r', σ') → pp_E Γ dsM cX9_bestNow 4 25 [(0, ppR 40 0 0), (2, ppI a2), (3, ppI a3)] [] σ) (h : f_X9_bestNow_25_B k25 σ a2 a3 = some (r', σ')) : pp_E Γ dsM cX9_bestNow 4 25 [(0, ppR 40 0 0), (2, ppI a2), (3, ppI a3)] [] σ := by
  unfold f_X9_bestNow_25_B at h
  refine pp_iload_n hF dX9_bestNow_25 rfl rfl ?_
  refine pp_bipush hF dX9_bestNow_26 bc_6 ?_
  refine pp_icmp_ge (tgt := 51) hF dX9_bestNow_28 rfl (fun c1 => ?_) (fun c1 => ?_)
  · replace h := (if_pos c1).symm.trans h
    refine pp_iload_n hF dX9_bestNow_31 rfl rfl ?_
    refine pp_aload_n hF dX9_bestNow_32 rfl rfl ?_
    refine pp_iload_n hF dX9_bestNow_33 rfl rfl ?_
    refine pp_aload_n hF dX9_bestNow_34 rfl rfl ?_
    refine pp_getR hF fdM_X9_75 dX9_bestNow_35 ?_
    refine pp_iload_n hF dX9_bestNow_38 rfl rfl ?_
    obtain ⟨hi2, h⟩ := pp_ck h
    refine pp_ialoadJ hF vM_59 hi2 (Nat.zero_add _) dX9_bestNow_39 ?_
    obtain ⟨x40, hx40, h⟩ := pp_bd h
    refine pp_callVi hF (c_X9_weightOf hx40) mV_X9_weightOf lk_X9_235 obM_40 rfl rfl ⟨by decide, by decide⟩ (Nat.le_of_ble_eq_true rfl) dX9_bestNow_40 ?_
    refine pp_iadd hF dX9_bestNow_43 ?_
    refine pp_istore_n hF dX9_bestNow_44 rfl (by decide) (lv' := [(0, ppR 40 0 0), (2, ppI (a2 + x40.1)), (3, ppI a3)]) rfl ?_
    refine pp_iinc hF dX9_bestNow_45 rfl (congrArg (HAdd.hAdd _) ic_1) (by decide) (lv' := [(0, ppR 40 0 0), (2, ppI (a2 + x40.1)), (3, ppI (a3 + (1 : Int32)))]) rfl ?_
    refine pp_goto (tgt := 25) hF dX9_bestNow_48 rfl ?_
    exact hk25 h
  · replace h := (if_neg c1).symm.trans h
    refine pp_iload_n hF dX9_bestNow_51 rfl rfl ?_
    obtain ⟨rfl, rfl⟩ := pp_i2 h
    exact pp_ireturn hF hR dX9_bestNow_52
set_option maxRecDepth 20000 in
theorem e_X9_bestNow_25_L {Γ : pp_G} {r' : Int32} {σ' : pp_M} (hF : pp_Fx Γ dsM cX9_bestNow 4 RX9 5 115) (hR : pp_Rt Γ dsM (some .int) (some (ppI r')) σ') : ∀ {n : Nat} {σ : pp_M} {a2 : Int32} {a3 : Int32}, f_X9_bestNow_25 n σ a2 a3 = some (r', σ') → pp_E Γ dsM cX9_bestNow 4 25 [(0, ppR 40 0 0), (2, ppI a2), (3, ppI a3)] [] σ
  | 0, _, _, _ => fun h => by cases h
  | n + 1, _, _, _ => fun h => e_X9_bestNow_25 hF hR (fun h => e_X9_bestNow_25_L hF hR (n := n) h) h
set_option maxRecDepth 20000 in
theorem e_X9_bestNow_0 {Γ : pp_G} {r' : Int32} {σ' : pp_M} (hF : pp_Fx Γ dsM cX9_bestNow 4 RX9 5 115) (hR : pp_Rt Γ dsM (some .int) (some (ppI r')) σ') {σ : pp_M} {a1 : Int32} (h : f_X9_bestNow σ a1 = some (r', σ')) : pp_E Γ dsM cX9_bestNow 4 0 [(0, ppR 40 0 0), (1, ppI a1)] [] σ := by
  unfold f_X9_bestNow at h
  refine pp_aload_n hF dX9_bestNow_0 rfl rfl ?_
  obtain ⟨x1, hx1, h⟩ := pp_bd h
  refine pp_callVv hF (c_X9_looksAtRow hx1) mV_X9_looksAtRow lk_X9_199 obM_40 rfl rfl ⟨by decide, by decide⟩ (Nat.le_of_ble_eq_true rfl) dX9_bestNow_1 ?_
  refine pp_aload_n hF dX9_bestNow_4 rfl rfl ?_
  refine pp_iconst hF dX9_bestNow_5 ic_n1 ?_
  obtain ⟨x6, hx6, h⟩ := pp_bd h
  refine pp_callVv hF (c_X9_packs hx6) mV_X9_packs lk_X9_232 obM_40 rfl rfl ⟨by decide, by decide⟩ (Nat.le_of_ble_eq_true rfl) dX9_bestNow_6 ?_
  refine pp_iload_n hF dX9_bestNow_9 rfl rfl ?_
  refine pp_iconst hF dX9_bestNow_10 ic_n1 ?_
  refine pp_icmp_eq (tgt := 21) hF dX9_bestNow_11 rfl (fun c3 => ?_) (fun c3 => ?_)
  · replace h := (if_pos c3).symm.trans h
    refine pp_iconst hF dX9_bestNow_21 ic_0 ?_
    refine pp_istore_n hF dX9_bestNow_22 rfl (by decide) (lv' := [(0, ppR 40 0 0), (1, ppI a1), (2, ppI (0 : Int32))]) rfl ?_
    refine pp_iconst hF dX9_bestNow_23 ic_0 ?_
    refine pp_istore_n hF dX9_bestNow_24 rfl (by decide) (lv' := [(0, ppR 40 0 0), (1, ppI a1), (2, ppI (0 : Int32)), (3, ppI (0 : Int32))]) rfl ?_
    refine pp_few [0, 2, 3] (lv' := [(0, ppR 40 0 0), (2, ppI (0 : Int32)), (3, ppI (0 : Int32))]) rfl ?_
    exact e_X9_bestNow_25_L hF hR h
  · replace h := (if_neg c3).symm.trans h
    refine pp_aload_n hF dX9_bestNow_14 rfl rfl ?_
    refine pp_getR hF fdM_X9_75 dX9_bestNow_15 ?_
    refine pp_iload_n hF dX9_bestNow_18 rfl rfl ?_
    obtain ⟨hi4, h⟩ := pp_ck h
    refine pp_ialoadJ hF vM_59 hi4 (Nat.zero_add _) dX9_bestNow_19 ?_
    obtain ⟨rfl, rfl⟩ := pp_i2 h
    exact pp_ireturn hF hR dX9_bestNow_20
set_option maxRecDepth 20000 in
theorem c_X9_bestNow {r' : Int32} {σ' : pp_M} {σ : pp_M} {a1 : Int32} (h : f_X9_bestNow σ a1 = some (r', σ')) : pp_Ct yX9_bestNow cX9_bestNow 4 (some .int) 5 115 dsM [ppR 40 0 0, ppI a1] σ (some (ppI r')) σ' := pp_met pl_X9 rfl okM (Nat.le_of_ble_eq_true rfl) rfl (fun Γ hF hR => (e_X9_bestNow_0 hF hR h))
set_option maxRecDepth 20000 in
theorem e_X9_best_12 {Γ : pp_G} {r' : Int32} {σ' : pp_M} (hF : pp_Fx Γ dsM cX9_best 2 RX9 6 138) (hR : pp_Rt Γ dsM (some .int) (some (ppI r')) σ') {σ : pp_M} {a1 : Int32} (h : f_X9_best_12 σ a1 = some (r', σ')) : pp_E Γ dsM cX9_best 2 12 [(0, ppR 40 0 0), (1, ppI a1)] [] σ := by
  unfold f_X9_best_12 at h
  refine pp_aload_n hF dX9_best_12 rfl rfl ?_
  refine pp_iload_n hF dX9_best_13 rfl rfl ?_
  obtain ⟨x14, hx14, h⟩ := pp_bd h
  refine pp_callVi hF (c_X9_bestNow hx14) mV_X9_bestNow lk_X9_238 obM_40 rfl rfl ⟨by decide, by decide⟩ (Nat.le_of_ble_eq_true rfl) dX9_best_14 ?_
  refine pp_goto (tgt := 22) hF dX9_best_17 rfl ?_
  obtain ⟨rfl, rfl⟩ := pp_i2 h
  exact pp_ireturn hF hR dX9_best_22
set_option maxRecDepth 20000 in
theorem e_X9_best_0 {Γ : pp_G} {r' : Int32} {σ' : pp_M} (hF : pp_Fx Γ dsM cX9_best 2 RX9 6 138) (hR : pp_Rt Γ dsM (some .int) (some (ppI r')) σ') {σ : pp_M} {a1 : Int32} (h : f_X9_best σ a1 = some (r', σ')) : pp_E Γ dsM cX9_best 2 0 [(0, ppR 40 0 0), (1, ppI a1)] [] σ := by
  unfold f_X9_best at h
  refine pp_iload_n hF dX9_best_0 rfl rfl ?_
  refine pp_iconst hF dX9_best_1 ic_n1 ?_
  refine pp_icmp_eq (tgt := 12) hF dX9_best_2 rfl (fun c1 => ?_) (fun c1 => ?_)
  · replace h := (if_pos c1).symm.trans h
    exact e_X9_best_12 hF hR h
  · replace h := (if_neg c1).symm.trans h
    refine pp_iload_n hF dX9_best_5 rfl rfl ?_
    obtain ⟨x6, hx6, h⟩ := pp_bd h
    refine pp_callSi hF (c_X9_isThing hx6) mS_X9_isThing lk_X9_118 rfl rfl ⟨by decide, by decide⟩ (Nat.le_of_ble_eq_true rfl) dX9_best_6 ?_
    refine pp_if_eq (tgt := 20) hF dX9_best_9 rfl (fun c3 => ?_) (fun c3 => ?_)
    · replace h := (if_pos c3).symm.trans h
      refine pp_bipush hF dX9_best_20 bc_n2 ?_
      obtain ⟨rfl, rfl⟩ := pp_i2 h
      exact pp_ireturn hF hR dX9_best_22
    · replace h := (if_neg c3).symm.trans h
      exact e_X9_best_12 hF hR h
set_option maxRecDepth 20000 in
theorem c_X9_best {r' : Int32} {σ' : pp_M} {σ : pp_M} {a1 : Int32} (h : f_X9_best σ a1 = some (r', σ')) : pp_Ct yX9_best cX9_best 2 (some .int) 6 138 dsM [ppR 40 0 0, ppI a1] σ (some (ppI r')) σ' := pp_met pl_X9 rfl okM (Nat.le_of_ble_eq_true rfl) rfl (fun Γ hF hR => (e_X9_best_0 hF hR h))
set_option maxRecDepth 20000 in
theorem e_X9_gathers_47 {Γ : pp_G} {r' : Int32} {σ' : pp_M} (hF : pp_Fx Γ dsM cX9_gathers 2 RX9 1 12) (hR : pp_Rt Γ dsM (some .boolean) (some (ppI r')) σ') {σ : pp_M} {a1 : Int32} {k7 : pp_M → Int32 → Option (Int32 × pp_M)} (hk7 : ∀ {σ : pp_M} {a1 : Int32}, k7 σ a1 = some (r', σ') → pp_E Γ dsM cX9_gathers 2 7 [(0, ppR 40 0 0), (1, ppI a1)] [] σ) (h : f_X9_gathers_47 k7 σ a1 = some (r', σ')) : pp_E Γ dsM cX9_gathers 2 47 [(0, ppR 40 0 0), (1, ppI a1)] [] σ := by
  unfold f_X9_gathers_47 at h
  refine pp_iinc hF dX9_gathers_47 rfl (congrArg (HAdd.hAdd _) ic_1) (by decide) (lv' := [(0, ppR 40 0 0), (1, ppI (a1 + (1 : Int32)))]) rfl ?_
  refine pp_goto (tgt := 7) hF dX9_gathers_50 rfl ?_
  exact hk7 h
set_option maxRecDepth 20000 in
theorem e_X9_gathers_7 {Γ : pp_G} {r' : Int32} {σ' : pp_M} (hF : pp_Fx Γ dsM cX9_gathers 2 RX9 1 12) (hR : pp_Rt Γ dsM (some .boolean) (some (ppI r')) σ') {σ : pp_M} {a1 : Int32} {k7 : pp_M → Int32 → Option (Int32 × pp_M)} (hk7 : ∀ {σ : pp_M} {a1 : Int32}, k7 σ a1 = some (r', σ') → pp_E Γ dsM cX9_gathers 2 7 [(0, ppR 40 0 0), (1, ppI a1)] [] σ) (h : f_X9_gathers_7_B k7 σ a1 = some (r', σ')) : pp_E Γ dsM cX9_gathers 2 7 [(0, ppR 40 0 0), (1, ppI a1)] [] σ := by
  unfold f_X9_gathers_7_B at h
  refine pp_iload_n hF dX9_gathers_7 rfl rfl ?_
  refine pp_bipush hF dX9_gathers_8 bc_7 ?_
  refine pp_icmp_gt (tgt := 53) hF dX9_gathers_10 rfl (fun c1 => ?_) (fun c1 => ?_)
  · replace h := (if_pos c1).symm.trans h
    refine pp_aload_n hF dX9_gathers_53 rfl rfl ?_
    refine pp_getI hF fdM_X9_256 dX9_gathers_54 ?_
    refine pp_iconst hF dX9_gathers_57 ic_5 ?_
    refine pp_icmp_gt (tgt := 65) hF dX9_gathers_58 rfl (fun c2 => ?_) (fun c2 => ?_)
    · replace h := (if_pos c2).symm.trans h
      refine pp_iconst hF dX9_gathers_65 ic_0 ?_
      obtain ⟨rfl, rfl⟩ := pp_i2 h
      exact pp_zreturn hF hR rfl dX9_gathers_66
    · replace h := (if_neg c2).symm.trans h
      refine pp_iconst hF dX9_gathers_61 ic_1 ?_
      refine pp_goto (tgt := 66) hF dX9_gathers_62 rfl ?_
      obtain ⟨rfl, rfl⟩ := pp_i2 h
      exact pp_zreturn hF hR rfl dX9_gathers_66
  · replace h := (if_neg c1).symm.trans h
    refine pp_aload_n hF dX9_gathers_13 rfl rfl ?_
    refine pp_getI hF fdM_X9_35 dX9_gathers_14 ?_
    refine pp_iload_n hF dX9_gathers_17 rfl rfl ?_
    refine pp_iconst hF dX9_gathers_18 ic_1 ?_
    refine pp_isub hF dX9_gathers_19 ?_
    refine pp_ishr hF dX9_gathers_20 ?_
    refine pp_iconst hF dX9_gathers_21 ic_1 ?_
    refine pp_iand hF dX9_gathers_22 ?_
    refine pp_iconst hF dX9_gathers_23 ic_1 ?_
    refine pp_icmp_ne (tgt := 47) hF dX9_gathers_24 rfl (fun c3 => ?_) (fun c3 => ?_)
    · replace h := (if_pos c3).symm.trans h
      refine pp_aload_n hF dX9_gathers_27 rfl rfl ?_
      refine pp_getR hF fdM_X9_81 dX9_gathers_28 ?_
      refine pp_aload_n hF dX9_gathers_31 rfl rfl ?_
      refine pp_getI hF fdM_X9_256 dX9_gathers_32 ?_
      refine pp_iload_n hF dX9_gathers_35 rfl rfl ?_
      obtain ⟨hi4, h⟩ := pp_ck h
      refine pp_iastoreJ hF vM_61 hi4 (Nat.zero_add _) dX9_gathers_36 ?_
      refine pp_aload_n hF dX9_gathers_37 rfl rfl ?_
      refine pp_dupR hF dX9_gathers_38 ?_
      refine pp_getI hF fdM_X9_256 dX9_gathers_39 ?_
      refine pp_iconst hF dX9_gathers_42 ic_1 ?_
      refine pp_iadd hF dX9_gathers_43 ?_
      refine pp_putI hF fwM_X9_256 dX9_gathers_44 ?_
      exact e_X9_gathers_47 hF hR hk7 h
    · replace h := (if_neg c3).symm.trans h
      exact e_X9_gathers_47 hF hR hk7 h
set_option maxRecDepth 20000 in
theorem e_X9_gathers_7_L {Γ : pp_G} {r' : Int32} {σ' : pp_M} (hF : pp_Fx Γ dsM cX9_gathers 2 RX9 1 12) (hR : pp_Rt Γ dsM (some .boolean) (some (ppI r')) σ') : ∀ {n : Nat} {σ : pp_M} {a1 : Int32}, f_X9_gathers_7 n σ a1 = some (r', σ') → pp_E Γ dsM cX9_gathers 2 7 [(0, ppR 40 0 0), (1, ppI a1)] [] σ
  | 0, _, _ => fun h => by cases h
  | n + 1, _, _ => fun h => e_X9_gathers_7 hF hR (fun h => e_X9_gathers_7_L hF hR (n := n) h) h
set_option maxRecDepth 20000 in
theorem e_X9_gathers_0 {Γ : pp_G} {r' : Int32} {σ' : pp_M} (hF : pp_Fx Γ dsM cX9_gathers 2 RX9 1 12) (hR : pp_Rt Γ dsM (some .boolean) (some (ppI r')) σ') {σ : pp_M}  (h : f_X9_gathers σ  = some (r', σ')) : pp_E Γ dsM cX9_gathers 2 0 [(0, ppR 40 0 0)] [] σ := by
  unfold f_X9_gathers at h
  refine pp_aload_n hF dX9_gathers_0 rfl rfl ?_
  refine pp_iconst hF dX9_gathers_1 ic_0 ?_
  refine pp_putI hF fwM_X9_256 dX9_gathers_2 ?_
  refine pp_iconst hF dX9_gathers_5 ic_1 ?_
  refine pp_istore_n hF dX9_gathers_6 rfl (by decide) (lv' := [(0, ppR 40 0 0), (1, ppI (1 : Int32))]) rfl ?_
  exact e_X9_gathers_7_L hF hR h
set_option maxRecDepth 20000 in
theorem c_X9_gathers {r' : Int32} {σ' : pp_M} {σ : pp_M}  (h : f_X9_gathers σ  = some (r', σ')) : pp_Ct yX9_gathers cX9_gathers 2 (some .boolean) 1 12 dsM [ppR 40 0 0] σ (some (ppI r')) σ' := pp_met pl_X9 rfl okM (Nat.le_of_ble_eq_true rfl) rfl (fun Γ hF hR => (e_X9_gathers_0 hF hR h))
set_option maxRecDepth 20000 in
theorem e_X9_lowest_17 {Γ : pp_G} {r' : Int64} {σ' : pp_M} (hF : pp_Fx Γ dsM cX9_lowest 11 RX9 1 12) (hR : pp_Rt Γ dsM (some .long) (some (ppL r')) σ') {σ : pp_M} {a0 : Int64} {a2 : Int64} {a4 : Int32} {a5 : Int64} {a7 : Int64} {k17 : pp_M → Int64 → Int64 → Int32 → Int64 → Int64 → Option (Int64 × pp_M)} (hk17 : ∀ {σ : pp_M} {a0 : Int64} {a2 : Int64} {a4 : Int32} {a5 : Int64} {a7 : Int64}, k17 σ a0 a2 a4 a5 a7 = some (r', σ') → pp_E Γ dsM cX9_lowest 11 17 [(0, ppL a0), (2, ppL a2), (4, ppI a4), (5, ppL a5), (7, ppL a7)] [] σ) (h : f_X9_lowest_17_B k17 σ a0 a2 a4 a5 a7 = some (r', σ')) : pp_E Γ dsM cX9_lowest 11 17 [(0, ppL a0), (2, ppL a2), (4, ppI a4), (5, ppL a5), (7, ppL a7)] [] σ := by
  unfold f_X9_lowest_17_B at h
  refine pp_lload hF dX9_lowest_17 rfl ?_
  refine pp_lconst hF dX9_lowest_19 lc_0 ?_
  refine pp_lcmp_eq (tgt := 42) hF dX9_lowest_20 dX9_lowest_21 rfl (fun c1 => ?_) (fun c1 => ?_)
  · replace h := (if_pos c1).symm.trans h
    refine pp_iload hF dX9_lowest_42 rfl ?_
    refine pp_if_ne (tgt := 54) hF dX9_lowest_44 rfl (fun c2 => ?_) (fun c2 => ?_)
    · replace h := (if_pos c2).symm.trans h
      refine pp_lload_n hF dX9_lowest_47 rfl rfl ?_
      refine pp_lload hF dX9_lowest_48 rfl ?_
      obtain ⟨hz3, h⟩ := pp_ck h
      refine pp_ldiv hF dX9_lowest_50 hz3 ?_
      refine pp_goto (tgt := 58) hF dX9_lowest_51 rfl ?_
      obtain ⟨rfl, rfl⟩ := pp_i2 h
      exact pp_lreturn hF hR dX9_lowest_58
    · replace h := (if_neg c2).symm.trans h
      refine pp_lload_n hF dX9_lowest_54 rfl rfl ?_
      refine pp_lload hF dX9_lowest_55 rfl ?_
      obtain ⟨hz4, h⟩ := pp_ck h
      refine pp_ldiv hF dX9_lowest_57 hz4 ?_
      obtain ⟨rfl, rfl⟩ := pp_i2 h
      exact pp_lreturn hF hR dX9_lowest_58
  · replace h := (if_neg c1).symm.trans h
    refine pp_lload hF dX9_lowest_24 rfl ?_
    refine pp_lload hF dX9_lowest_26 rfl ?_
    obtain ⟨hz5, h⟩ := pp_ck h
    refine pp_lrem hF dX9_lowest_28 hz5 ?_
    refine pp_lstore hF dX9_lowest_29 (by decide) (lv' := [(0, ppL a0), (2, ppL a2), (4, ppI a4), (5, ppL a5), (7, ppL a7), (9, ppL (a5 - a5 / a7 * a7))]) rfl ?_
    refine pp_lload hF dX9_lowest_31 rfl ?_
    refine pp_lstore hF dX9_lowest_33 (by decide) (lv' := [(0, ppL a0), (2, ppL a2), (4, ppI a4), (5, ppL a7), (7, ppL a7), (9, ppL (a5 - a5 / a7 * a7))]) rfl ?_
    refine pp_lload hF dX9_lowest_35 rfl ?_
    refine pp_lstore hF dX9_lowest_37 (by decide) (lv' := [(0, ppL a0), (2, ppL a2), (4, ppI a4), (5, ppL a7), (7, ppL (a5 - a5 / a7 * a7)), (9, ppL (a5 - a5 / a7 * a7))]) rfl ?_
    refine pp_goto (tgt := 17) hF dX9_lowest_39 rfl ?_
    refine pp_few [0, 1, 2, 3, 4] (lv' := [(0, ppL a0), (2, ppL a2), (4, ppI a4), (5, ppL a7), (7, ppL (a5 - a5 / a7 * a7))]) rfl ?_
    exact hk17 h
set_option maxRecDepth 20000 in
theorem e_X9_lowest_17_L {Γ : pp_G} {r' : Int64} {σ' : pp_M} (hF : pp_Fx Γ dsM cX9_lowest 11 RX9 1 12) (hR : pp_Rt Γ dsM (some .long) (some (ppL r')) σ') : ∀ {n : Nat} {σ : pp_M} {a0 : Int64} {a2 : Int64} {a4 : Int32} {a5 : Int64} {a7 : Int64}, f_X9_lowest_17 n σ a0 a2 a4 a5 a7 = some (r', σ') → pp_E Γ dsM cX9_lowest 11 17 [(0, ppL a0), (2, ppL a2), (4, ppI a4), (5, ppL a5), (7, ppL a7)] [] σ
  | 0, _, _, _, _, _, _ => fun h => by cases h
  | n + 1, _, _, _, _, _, _ => fun h => e_X9_lowest_17 hF hR (fun h => e_X9_lowest_17_L hF hR (n := n) h) h
set_option maxRecDepth 20000 in
theorem e_X9_lowest_12 {Γ : pp_G} {r' : Int64} {σ' : pp_M} (hF : pp_Fx Γ dsM cX9_lowest 11 RX9 1 12) (hR : pp_Rt Γ dsM (some .long) (some (ppL r')) σ') {σ : pp_M} {a0 : Int64} {a2 : Int64} {a4 : Int32} {b0 : Int64} (h : f_X9_lowest_12 σ a0 a2 a4 b0 = some (r', σ')) : pp_E Γ dsM cX9_lowest 11 12 [(0, ppL a0), (2, ppL a2), (4, ppI a4)] [ppL b0] σ := by
  unfold f_X9_lowest_12 at h
  refine pp_lstore hF dX9_lowest_12 (by decide) (lv' := [(0, ppL a0), (2, ppL a2), (4, ppI a4), (5, ppL b0)]) rfl ?_
  refine pp_lload_n hF dX9_lowest_14 rfl rfl ?_
  refine pp_lstore hF dX9_lowest_15 (by decide) (lv' := [(0, ppL a0), (2, ppL a2), (4, ppI a4), (5, ppL b0), (7, ppL a2)]) rfl ?_
  exact e_X9_lowest_17_L hF hR h
set_option maxRecDepth 20000 in
theorem e_X9_lowest_0 {Γ : pp_G} {r' : Int64} {σ' : pp_M} (hF : pp_Fx Γ dsM cX9_lowest 11 RX9 1 12) (hR : pp_Rt Γ dsM (some .long) (some (ppL r')) σ') {σ : pp_M} {a0 : Int64} {a2 : Int64} {a4 : Int32} (h : f_X9_lowest σ a0 a2 a4 = some (r', σ')) : pp_E Γ dsM cX9_lowest 11 0 [(0, ppL a0), (2, ppL a2), (4, ppI a4)] [] σ := by
  unfold f_X9_lowest at h
  refine pp_lload_n hF dX9_lowest_0 rfl rfl ?_
  refine pp_lconst hF dX9_lowest_1 lc_0 ?_
  refine pp_lcmp_ge (tgt := 11) hF dX9_lowest_2 dX9_lowest_3 rfl (fun c1 => ?_) (fun c1 => ?_)
  · replace h := (if_pos c1).symm.trans h
    refine pp_lload_n hF dX9_lowest_6 rfl rfl ?_
    refine pp_lneg hF dX9_lowest_7 ?_
    refine pp_goto (tgt := 12) hF dX9_lowest_8 rfl ?_
    exact e_X9_lowest_12 hF hR h
  · replace h := (if_neg c1).symm.trans h
    refine pp_lload_n hF dX9_lowest_11 rfl rfl ?_
    exact e_X9_lowest_12 hF hR h
set_option maxRecDepth 20000 in
theorem c_X9_lowest {r' : Int64} {σ' : pp_M} {σ : pp_M} {a0 : Int64} {a2 : Int64} {a4 : Int32} (h : f_X9_lowest σ a0 a2 a4 = some (r', σ')) : pp_Ct yX9_lowest cX9_lowest 11 (some .long) 1 12 dsM [ppL a0, ppL a2, ppI a4] σ (some (ppL r')) σ' := pp_met pl_X9 rfl okM (Nat.le_of_ble_eq_true rfl) rfl (fun Γ hF hR => (e_X9_lowest_0 hF hR h))
set_option maxRecDepth 20000 in
theorem e_X9_no_0 {Γ : pp_G} {r' : Int64} {σ' : pp_M} (hF : pp_Fx Γ dsM cX9_no 1 RX9 1 12) (hR : pp_Rt Γ dsM (some .long) (some (ppL r')) σ') {σ : pp_M} {a0 : Int32} (h : f_X9_no σ a0 = some (r', σ')) : pp_E Γ dsM cX9_no 1 0 [(0, ppI a0)] [] σ := by
  unfold f_X9_no at h
  refine pp_ldc2 hF wm_1131 dX9_no_0 ?_
  refine pp_iload_n hF dX9_no_3 rfl rfl ?_
  refine pp_i2l hF dX9_no_4 ?_
  refine pp_lsub hF dX9_no_5 ?_
  obtain ⟨rfl, rfl⟩ := pp_i2 h
  exact pp_lreturn hF hR dX9_no_6
set_option maxRecDepth 20000 in
theorem c_X9_no {r' : Int64} {σ' : pp_M} {σ : pp_M} {a0 : Int32} (h : f_X9_no σ a0 = some (r', σ')) : pp_Ct yX9_no cX9_no 1 (some .long) 1 12 dsM [ppI a0] σ (some (ppL r')) σ' := pp_met pl_X9 rfl okM (Nat.le_of_ble_eq_true rfl) rfl (fun Γ hF hR => (e_X9_no_0 hF hR h))
set_option maxRecDepth 20000 in
theorem e_X9_fives_4 {Γ : pp_G} {r' : Int32} {σ' : pp_M} (hF : pp_Fx Γ dsM cX9_fives 3 RX9 1 12) (hR : pp_Rt Γ dsM (some .int) (some (ppI r')) σ') {σ : pp_M} {a0 : Int32} {a1 : Int32} {a2 : Int32} {k4 : pp_M → Int32 → Int32 → Int32 → Option (Int32 × pp_M)} (hk4 : ∀ {σ : pp_M} {a0 : Int32} {a1 : Int32} {a2 : Int32}, k4 σ a0 a1 a2 = some (r', σ') → pp_E Γ dsM cX9_fives 3 4 [(0, ppI a0), (1, ppI a1), (2, ppI a2)] [] σ) (h : f_X9_fives_4_B k4 σ a0 a1 a2 = some (r', σ')) : pp_E Γ dsM cX9_fives 3 4 [(0, ppI a0), (1, ppI a1), (2, ppI a2)] [] σ := by
  unfold f_X9_fives_4_B at h
  refine pp_iload_n hF dX9_fives_4 rfl rfl ?_
  refine pp_iload_n hF dX9_fives_5 rfl rfl ?_
  refine pp_icmp_ge (tgt := 19) hF dX9_fives_6 rfl (fun c1 => ?_) (fun c1 => ?_)
  · replace h := (if_pos c1).symm.trans h
    refine pp_iload_n hF dX9_fives_9 rfl rfl ?_
    refine pp_iconst hF dX9_fives_10 ic_5 ?_
    refine pp_imul hF dX9_fives_11 ?_
    refine pp_istore_n hF dX9_fives_12 rfl (by decide) (lv' := [(0, ppI a0), (1, ppI (a1 * (5 : Int32))), (2, ppI a2)]) rfl ?_
    refine pp_iinc hF dX9_fives_13 rfl (congrArg (HAdd.hAdd _) ic_1) (by decide) (lv' := [(0, ppI a0), (1, ppI (a1 * (5 : Int32))), (2, ppI (a2 + (1 : Int32)))]) rfl ?_
    refine pp_goto (tgt := 4) hF dX9_fives_16 rfl ?_
    exact hk4 h
  · replace h := (if_neg c1).symm.trans h
    refine pp_iload_n hF dX9_fives_19 rfl rfl ?_
    obtain ⟨rfl, rfl⟩ := pp_i2 h
    exact pp_ireturn hF hR dX9_fives_20
set_option maxRecDepth 20000 in
theorem e_X9_fives_4_L {Γ : pp_G} {r' : Int32} {σ' : pp_M} (hF : pp_Fx Γ dsM cX9_fives 3 RX9 1 12) (hR : pp_Rt Γ dsM (some .int) (some (ppI r')) σ') : ∀ {n : Nat} {σ : pp_M} {a0 : Int32} {a1 : Int32} {a2 : Int32}, f_X9_fives_4 n σ a0 a1 a2 = some (r', σ') → pp_E Γ dsM cX9_fives 3 4 [(0, ppI a0), (1, ppI a1), (2, ppI a2)] [] σ
  | 0, _, _, _, _ => fun h => by cases h
  | n + 1, _, _, _, _ => fun h => e_X9_fives_4 hF hR (fun h => e_X9_fives_4_L hF hR (n := n) h) h
set_option maxRecDepth 20000 in
theorem e_X9_fives_0 {Γ : pp_G} {r' : Int32} {σ' : pp_M} (hF : pp_Fx Γ dsM cX9_fives 3 RX9 1 12) (hR : pp_Rt Γ dsM (some .int) (some (ppI r')) σ') {σ : pp_M} {a0 : Int32} (h : f_X9_fives σ a0 = some (r', σ')) : pp_E Γ dsM cX9_fives 3 0 [(0, ppI a0)] [] σ := by
  unfold f_X9_fives at h
  refine pp_iconst hF dX9_fives_0 ic_1 ?_
  refine pp_istore_n hF dX9_fives_1 rfl (by decide) (lv' := [(0, ppI a0), (1, ppI (1 : Int32))]) rfl ?_
  refine pp_iconst hF dX9_fives_2 ic_0 ?_
  refine pp_istore_n hF dX9_fives_3 rfl (by decide) (lv' := [(0, ppI a0), (1, ppI (1 : Int32)), (2, ppI (0 : Int32))]) rfl ?_
  exact e_X9_fives_4_L hF hR h
set_option maxRecDepth 20000 in
theorem c_X9_fives {r' : Int32} {σ' : pp_M} {σ : pp_M} {a0 : Int32} (h : f_X9_fives σ a0 = some (r', σ')) : pp_Ct yX9_fives cX9_fives 3 (some .int) 1 12 dsM [ppI a0] σ (some (ppI r')) σ' := pp_met pl_X9 rfl okM (Nat.le_of_ble_eq_true rfl) rfl (fun Γ hF hR => (e_X9_fives_0 hF hR h))
set_option maxRecDepth 20000 in
theorem e_X9_hoursFrom_7 {Γ : pp_G} {r' : Int32} {σ' : pp_M} (hF : pp_Fx Γ dsM cX9_hoursFrom 5 RX9 1 12) (hR : pp_Rt Γ dsM (some .int) (some (ppI r')) σ') {σ : pp_M} {a2 : Int32} {a3 : Int32} {a4 : Int32} {k7 : pp_M → Int32 → Int32 → Int32 → Option (Int32 × pp_M)} (hk7 : ∀ {σ : pp_M} {a2 : Int32} {a3 : Int32} {a4 : Int32}, k7 σ a2 a3 a4 = some (r', σ') → pp_E Γ dsM cX9_hoursFrom 5 7 [(0, ppR 40 0 0), (2, ppI a2), (3, ppI a3), (4, ppI a4)] [] σ) (h : f_X9_hoursFrom_7_B k7 σ a2 a3 a4 = some (r', σ')) : pp_E Γ dsM cX9_hoursFrom 5 7 [(0, ppR 40 0 0), (2, ppI a2), (3, ppI a3), (4, ppI a4)] [] σ := by
  unfold f_X9_hoursFrom_7_B at h
  refine pp_iload hF dX9_hoursFrom_7 rfl ?_
  refine pp_aload_n hF dX9_hoursFrom_9 rfl rfl ?_
  refine pp_getI hF fdM_X9_184 dX9_hoursFrom_10 ?_
  refine pp_icmp_ge (tgt := 50) hF dX9_hoursFrom_13 rfl (fun c1 => ?_) (fun c1 => ?_)
  · replace h := (if_pos c1).symm.trans h
    refine pp_iload_n hF dX9_hoursFrom_16 rfl rfl ?_
    refine pp_aload_n hF dX9_hoursFrom_17 rfl rfl ?_
    refine pp_getR hF fdM_X9_25 dX9_hoursFrom_18 ?_
    refine pp_bipush hF dX9_hoursFrom_21 bc_8 ?_
    refine pp_iload_n hF dX9_hoursFrom_23 rfl rfl ?_
    refine pp_imul hF dX9_hoursFrom_24 ?_
    refine pp_aload_n hF dX9_hoursFrom_25 rfl rfl ?_
    refine pp_getR hF fdM_X9_62 dX9_hoursFrom_26 ?_
    refine pp_iload hF dX9_hoursFrom_29 rfl ?_
    obtain ⟨hi2, h⟩ := pp_ck h
    refine pp_ialoadJ hF vM_55 hi2 (Nat.zero_add _) dX9_hoursFrom_31 ?_
    refine pp_iadd hF dX9_hoursFrom_32 ?_
    obtain ⟨hi3, h⟩ := pp_ck h
    refine pp_ialoadJ hF vM_46 hi3 (Nat.zero_add _) dX9_hoursFrom_33 ?_
    refine pp_iadd hF dX9_hoursFrom_34 ?_
    refine pp_istore_n hF dX9_hoursFrom_35 rfl (by decide) (lv' := [(0, ppR 40 0 0), (2, ppI (a2 + (σ.1 46 (((8 : Int32) * a3) + (σ.1 55 a4.toNatClampNeg)).toNatClampNeg))), (3, ppI a3), (4, ppI a4)]) rfl ?_
    refine pp_aload_n hF dX9_hoursFrom_36 rfl rfl ?_
    refine pp_getR hF fdM_X9_62 dX9_hoursFrom_37 ?_
    refine pp_iload hF dX9_hoursFrom_40 rfl ?_
    refine pp_ialoadJ hF vM_55 hi2 (Nat.zero_add _) dX9_hoursFrom_42 ?_
    refine pp_istore_n hF dX9_hoursFrom_43 rfl (by decide) (lv' := [(0, ppR 40 0 0), (2, ppI (a2 + (σ.1 46 (((8 : Int32) * a3) + (σ.1 55 a4.toNatClampNeg)).toNatClampNeg))), (3, ppI (σ.1 55 a4.toNatClampNeg)), (4, ppI a4)]) rfl ?_
    refine pp_iinc hF dX9_hoursFrom_44 rfl (congrArg (HAdd.hAdd _) ic_1) (by decide) (lv' := [(0, ppR 40 0 0), (2, ppI (a2 + (σ.1 46 (((8 : Int32) * a3) + (σ.1 55 a4.toNatClampNeg)).toNatClampNeg))), (3, ppI (σ.1 55 a4.toNatClampNeg)), (4, ppI (a4 + (1 : Int32)))]) rfl ?_
    refine pp_goto (tgt := 7) hF dX9_hoursFrom_47 rfl ?_
    exact hk7 h
  · replace h := (if_neg c1).symm.trans h
    refine pp_iload_n hF dX9_hoursFrom_50 rfl rfl ?_
    refine pp_aload_n hF dX9_hoursFrom_51 rfl rfl ?_
    refine pp_getR hF fdM_X9_25 dX9_hoursFrom_52 ?_
    refine pp_bipush hF dX9_hoursFrom_55 bc_8 ?_
    refine pp_iload_n hF dX9_hoursFrom_57 rfl rfl ?_
    refine pp_imul hF dX9_hoursFrom_58 ?_
    obtain ⟨hi4, h⟩ := pp_ck h
    refine pp_ialoadJ hF vM_46 hi4 (Nat.zero_add _) dX9_hoursFrom_59 ?_
    refine pp_iadd hF dX9_hoursFrom_60 ?_
    obtain ⟨rfl, rfl⟩ := pp_i2 h
    exact pp_ireturn hF hR dX9_hoursFrom_61
set_option maxRecDepth 20000 in
theorem e_X9_hoursFrom_7_L {Γ : pp_G} {r' : Int32} {σ' : pp_M} (hF : pp_Fx Γ dsM cX9_hoursFrom 5 RX9 1 12) (hR : pp_Rt Γ dsM (some .int) (some (ppI r')) σ') : ∀ {n : Nat} {σ : pp_M} {a2 : Int32} {a3 : Int32} {a4 : Int32}, f_X9_hoursFrom_7 n σ a2 a3 a4 = some (r', σ') → pp_E Γ dsM cX9_hoursFrom 5 7 [(0, ppR 40 0 0), (2, ppI a2), (3, ppI a3), (4, ppI a4)] [] σ
  | 0, _, _, _, _ => fun h => by cases h
  | n + 1, _, _, _, _ => fun h => e_X9_hoursFrom_7 hF hR (fun h => e_X9_hoursFrom_7_L hF hR (n := n) h) h
set_option maxRecDepth 20000 in
theorem e_X9_hoursFrom_0 {Γ : pp_G} {r' : Int32} {σ' : pp_M} (hF : pp_Fx Γ dsM cX9_hoursFrom 5 RX9 1 12) (hR : pp_Rt Γ dsM (some .int) (some (ppI r')) σ') {σ : pp_M} {a1 : Int32} (h : f_X9_hoursFrom σ a1 = some (r', σ')) : pp_E Γ dsM cX9_hoursFrom 5 0 [(0, ppR 40 0 0), (1, ppI a1)] [] σ := by
  unfold f_X9_hoursFrom at h
  refine pp_iconst hF dX9_hoursFrom_0 ic_0 ?_
  refine pp_istore_n hF dX9_hoursFrom_1 rfl (by decide) (lv' := [(0, ppR 40 0 0), (1, ppI a1), (2, ppI (0 : Int32))]) rfl ?_
  refine pp_iload_n hF dX9_hoursFrom_2 rfl rfl ?_
  refine pp_istore_n hF dX9_hoursFrom_3 rfl (by decide) (lv' := [(0, ppR 40 0 0), (1, ppI a1), (2, ppI (0 : Int32)), (3, ppI a1)]) rfl ?_
  refine pp_iconst hF dX9_hoursFrom_4 ic_0 ?_
  refine pp_istore hF dX9_hoursFrom_5 (by decide) (lv' := [(0, ppR 40 0 0), (1, ppI a1), (2, ppI (0 : Int32)), (3, ppI a1), (4, ppI (0 : Int32))]) rfl ?_
  refine pp_few [0, 2, 3, 4] (lv' := [(0, ppR 40 0 0), (2, ppI (0 : Int32)), (3, ppI a1), (4, ppI (0 : Int32))]) rfl ?_
  exact e_X9_hoursFrom_7_L hF hR h
set_option maxRecDepth 20000 in
theorem c_X9_hoursFrom {r' : Int32} {σ' : pp_M} {σ : pp_M} {a1 : Int32} (h : f_X9_hoursFrom σ a1 = some (r', σ')) : pp_Ct yX9_hoursFrom cX9_hoursFrom 5 (some .int) 1 12 dsM [ppR 40 0 0, ppI a1] σ (some (ppI r')) σ' := pp_met pl_X9 rfl okM (Nat.le_of_ble_eq_true rfl) rfl (fun Γ hF hR => (e_X9_hoursFrom_0 hF hR h))
set_option maxRecDepth 20000 in
theorem e_X9_laysWays_127 {Γ : pp_G} {σ' : pp_M} (hF : pp_Fx Γ dsM cX9_laysWays 4 RX9 1 12) (hR : pp_Rt Γ dsM none none σ') {σ : pp_M} {a1 : Int32} {a2 : Int32} {b1 : Int32} {b2 : Int32} {k58 : pp_M → Int32 → Option (pp_M)} (hk58 : ∀ {σ : pp_M} {a1 : Int32}, k58 σ a1 = some σ' → pp_E Γ dsM cX9_laysWays 4 58 [(0, ppR 40 0 0), (1, ppI a1)] [] σ) {k66 : pp_M → Int32 → Int32 → Option (pp_M)} (hk66 : ∀ {σ : pp_M} {a1 : Int32} {a2 : Int32}, k66 σ a1 a2 = some σ' → pp_E Γ dsM cX9_laysWays 4 66 [(0, ppR 40 0 0), (1, ppI a1), (2, ppI a2)] [] σ) (h : f_X9_laysWays_127 k58 k66 σ a1 a2 b1 b2 = some σ') : pp_E Γ dsM cX9_laysWays 4 127 [(0, ppR 40 0 0), (1, ppI a1), (2, ppI a2)] [ppI b2, ppI b1, ppR 46 0 64] σ := by
  unfold f_X9_laysWays_127 at h
  obtain ⟨hi1, h⟩ := pp_ck h
  refine pp_iastoreJ hF vM_46 hi1 (Nat.zero_add _) dX9_laysWays_127 ?_
  refine pp_iinc hF dX9_laysWays_128 rfl (congrArg (HAdd.hAdd _) ic_1) (by decide) (lv' := [(0, ppR 40 0 0), (1, ppI a1), (2, ppI (a2 + (1 : Int32)))]) rfl ?_
  refine pp_goto (tgt := 66) hF dX9_laysWays_131 rfl ?_
  exact hk66 h
set_option maxRecDepth 20000 in
theorem e_X9_laysWays_66 {Γ : pp_G} {σ' : pp_M} (hF : pp_Fx Γ dsM cX9_laysWays 4 RX9 1 12) (hR : pp_Rt Γ dsM none none σ') {σ : pp_M} {a1 : Int32} {a2 : Int32} {k58 : pp_M → Int32 → Option (pp_M)} (hk58 : ∀ {σ : pp_M} {a1 : Int32}, k58 σ a1 = some σ' → pp_E Γ dsM cX9_laysWays 4 58 [(0, ppR 40 0 0), (1, ppI a1)] [] σ) {k66 : pp_M → Int32 → Int32 → Option (pp_M)} (hk66 : ∀ {σ : pp_M} {a1 : Int32} {a2 : Int32}, k66 σ a1 a2 = some σ' → pp_E Γ dsM cX9_laysWays 4 66 [(0, ppR 40 0 0), (1, ppI a1), (2, ppI a2)] [] σ) (h : f_X9_laysWays_66_B k58 k66 σ a1 a2 = some σ') : pp_E Γ dsM cX9_laysWays 4 66 [(0, ppR 40 0 0), (1, ppI a1), (2, ppI a2)] [] σ := by
  unfold f_X9_laysWays_66_B at h
  refine pp_iload_n hF dX9_laysWays_66 rfl rfl ?_
  refine pp_bipush hF dX9_laysWays_67 bc_64 ?_
  refine pp_icmp_ge (tgt := 134) hF dX9_laysWays_69 rfl (fun c1 => ?_) (fun c1 => ?_)
  · replace h := (if_pos c1).symm.trans h
    refine pp_aload_n hF dX9_laysWays_72 rfl rfl ?_
    refine pp_getR hF fdM_X9_25 dX9_laysWays_73 ?_
    refine pp_iload_n hF dX9_laysWays_76 rfl rfl ?_
    refine pp_bipush hF dX9_laysWays_77 bc_8 ?_
    refine pp_idiv hF dX9_laysWays_79 (by decide) ?_
    refine pp_bipush hF dX9_laysWays_80 bc_8 ?_
    refine pp_imul hF dX9_laysWays_82 ?_
    refine pp_iload_n hF dX9_laysWays_83 rfl rfl ?_
    refine pp_iadd hF dX9_laysWays_84 ?_
    obtain ⟨hi2, h⟩ := pp_ck h
    refine pp_ialoadJ hF vM_46 hi2 (Nat.zero_add _) dX9_laysWays_85 ?_
    refine pp_aload_n hF dX9_laysWays_86 rfl rfl ?_
    refine pp_getR hF fdM_X9_25 dX9_laysWays_87 ?_
    refine pp_bipush hF dX9_laysWays_90 bc_8 ?_
    refine pp_iload_n hF dX9_laysWays_92 rfl rfl ?_
    refine pp_imul hF dX9_laysWays_93 ?_
    refine pp_iload_n hF dX9_laysWays_94 rfl rfl ?_
    refine pp_bipush hF dX9_laysWays_95 bc_8 ?_
    refine pp_irem hF dX9_laysWays_97 (by decide) ?_
    refine pp_iadd hF dX9_laysWays_98 ?_
    obtain ⟨hi3, h⟩ := pp_ck h
    refine pp_ialoadJ hF vM_46 hi3 (Nat.zero_add _) dX9_laysWays_99 ?_
    refine pp_iadd hF dX9_laysWays_100 ?_
    refine pp_istore_n hF dX9_laysWays_101 rfl (by decide) (lv' := [(0, ppR 40 0 0), (1, ppI a1), (2, ppI a2), (3, ppI ((σ.1 46 (((a2 / (8 : Int32)) * (8 : Int32)) + a1).toNatClampNeg) + (σ.1 46 (((8 : Int32) * a1) + (a2 - a2 / (8 : Int32) * (8 : Int32))).toNatClampNeg)))]) rfl ?_
    refine pp_aload_n hF dX9_laysWays_102 rfl rfl ?_
    refine pp_getR hF fdM_X9_25 dX9_laysWays_103 ?_
    refine pp_iload_n hF dX9_laysWays_106 rfl rfl ?_
    refine pp_iload_n hF dX9_laysWays_107 rfl rfl ?_
    refine pp_aload_n hF dX9_laysWays_108 rfl rfl ?_
    refine pp_getR hF fdM_X9_25 dX9_laysWays_109 ?_
    refine pp_iload_n hF dX9_laysWays_112 rfl rfl ?_
    obtain ⟨hi4, h⟩ := pp_ck h
    refine pp_ialoadJ hF vM_46 hi4 (Nat.zero_add _) dX9_laysWays_113 ?_
    refine pp_icmp_ge (tgt := 121) hF dX9_laysWays_114 rfl (fun c5 => ?_) (fun c5 => ?_)
    · replace h := (if_pos c5).symm.trans h
      refine pp_iload_n hF dX9_laysWays_117 rfl rfl ?_
      refine pp_goto (tgt := 127) hF dX9_laysWays_118 rfl ?_
      refine pp_few [0, 1, 2] (lv' := [(0, ppR 40 0 0), (1, ppI a1), (2, ppI a2)]) rfl ?_
      exact e_X9_laysWays_127 hF hR hk58 hk66 h
    · replace h := (if_neg c5).symm.trans h
      refine pp_aload_n hF dX9_laysWays_121 rfl rfl ?_
      refine pp_getR hF fdM_X9_25 dX9_laysWays_122 ?_
      refine pp_iload_n hF dX9_laysWays_125 rfl rfl ?_
      refine pp_ialoadJ hF vM_46 hi4 (Nat.zero_add _) dX9_laysWays_126 ?_
      refine pp_few [0, 1, 2] (lv' := [(0, ppR 40 0 0), (1, ppI a1), (2, ppI a2)]) rfl ?_
      exact e_X9_laysWays_127 hF hR hk58 hk66 h
  · replace h := (if_neg c1).symm.trans h
    refine pp_iinc hF dX9_laysWays_134 rfl (congrArg (HAdd.hAdd _) ic_1) (by decide) (lv' := [(0, ppR 40 0 0), (1, ppI (a1 + (1 : Int32))), (2, ppI a2)]) rfl ?_
    refine pp_goto (tgt := 58) hF dX9_laysWays_137 rfl ?_
    refine pp_few [0, 1] (lv' := [(0, ppR 40 0 0), (1, ppI (a1 + (1 : Int32)))]) rfl ?_
    exact hk58 h
set_option maxRecDepth 20000 in
theorem e_X9_laysWays_66_L {Γ : pp_G} {σ' : pp_M} (hF : pp_Fx Γ dsM cX9_laysWays 4 RX9 1 12) (hR : pp_Rt Γ dsM none none σ') {k58 : pp_M → Int32 → Option (pp_M)} (hk58 : ∀ {σ : pp_M} {a1 : Int32}, k58 σ a1 = some σ' → pp_E Γ dsM cX9_laysWays 4 58 [(0, ppR 40 0 0), (1, ppI a1)] [] σ) : ∀ {n : Nat} {σ : pp_M} {a1 : Int32} {a2 : Int32}, f_X9_laysWays_66 k58 n σ a1 a2 = some σ' → pp_E Γ dsM cX9_laysWays 4 66 [(0, ppR 40 0 0), (1, ppI a1), (2, ppI a2)] [] σ
  | 0, _, _, _ => fun h => by cases h
  | n + 1, _, _, _ => fun h => e_X9_laysWays_66 hF hR hk58 (fun h => e_X9_laysWays_66_L hF hR hk58 (n := n) h) h
set_option maxRecDepth 20000 in
theorem e_X9_laysWays_58 {Γ : pp_G} {σ' : pp_M} (hF : pp_Fx Γ dsM cX9_laysWays 4 RX9 1 12) (hR : pp_Rt Γ dsM none none σ') {σ : pp_M} {a1 : Int32} {k58 : pp_M → Int32 → Option (pp_M)} (hk58 : ∀ {σ : pp_M} {a1 : Int32}, k58 σ a1 = some σ' → pp_E Γ dsM cX9_laysWays 4 58 [(0, ppR 40 0 0), (1, ppI a1)] [] σ) (h : f_X9_laysWays_58_B k58 σ a1 = some σ') : pp_E Γ dsM cX9_laysWays 4 58 [(0, ppR 40 0 0), (1, ppI a1)] [] σ := by
  unfold f_X9_laysWays_58_B at h
  refine pp_iload_n hF dX9_laysWays_58 rfl rfl ?_
  refine pp_bipush hF dX9_laysWays_59 bc_8 ?_
  refine pp_icmp_ge (tgt := 140) hF dX9_laysWays_61 rfl (fun c1 => ?_) (fun c1 => ?_)
  · replace h := (if_pos c1).symm.trans h
    refine pp_iconst hF dX9_laysWays_64 ic_0 ?_
    refine pp_istore_n hF dX9_laysWays_65 rfl (by decide) (lv' := [(0, ppR 40 0 0), (1, ppI a1), (2, ppI (0 : Int32))]) rfl ?_
    exact e_X9_laysWays_66_L hF hR hk58 h
  · replace h := (if_neg c1).symm.trans h
    obtain rfl := (Option.some.inj h).symm
    exact pp_return hF hR dX9_laysWays_140
set_option maxRecDepth 20000 in
theorem e_X9_laysWays_58_L {Γ : pp_G} {σ' : pp_M} (hF : pp_Fx Γ dsM cX9_laysWays 4 RX9 1 12) (hR : pp_Rt Γ dsM none none σ') : ∀ {n : Nat} {σ : pp_M} {a1 : Int32}, f_X9_laysWays_58 n σ a1 = some σ' → pp_E Γ dsM cX9_laysWays 4 58 [(0, ppR 40 0 0), (1, ppI a1)] [] σ
  | 0, _, _ => fun h => by cases h
  | n + 1, _, _ => fun h => e_X9_laysWays_58 hF hR (fun h => e_X9_laysWays_58_L hF hR (n := n) h) h
set_option maxRecDepth 20000 in
theorem e_X9_laysWays_49 {Γ : pp_G} {σ' : pp_M} (hF : pp_Fx Γ dsM cX9_laysWays 4 RX9 1 12) (hR : pp_Rt Γ dsM none none σ') {σ : pp_M} {a1 : Int32} {b1 : Int32} {b2 : Int32} {k2 : pp_M → Int32 → Option (pp_M)} (hk2 : ∀ {σ : pp_M} {a1 : Int32}, k2 σ a1 = some σ' → pp_E Γ dsM cX9_laysWays 4 2 [(0, ppR 40 0 0), (1, ppI a1)] [] σ) (h : f_X9_laysWays_49 k2 σ a1 b1 b2 = some σ') : pp_E Γ dsM cX9_laysWays 4 49 [(0, ppR 40 0 0), (1, ppI a1)] [ppI b2, ppI b1, ppR 46 0 64] σ := by
  unfold f_X9_laysWays_49 at h
  obtain ⟨hi1, h⟩ := pp_ck h
  refine pp_iastoreJ hF vM_46 hi1 (Nat.zero_add _) dX9_laysWays_49 ?_
  refine pp_iinc hF dX9_laysWays_50 rfl (congrArg (HAdd.hAdd _) ic_1) (by decide) (lv' := [(0, ppR 40 0 0), (1, ppI (a1 + (1 : Int32)))]) rfl ?_
  refine pp_goto (tgt := 2) hF dX9_laysWays_53 rfl ?_
  exact hk2 h
set_option maxRecDepth 20000 in
theorem e_X9_laysWays_2 {Γ : pp_G} {σ' : pp_M} (hF : pp_Fx Γ dsM cX9_laysWays 4 RX9 1 12) (hR : pp_Rt Γ dsM none none σ') {σ : pp_M} {a1 : Int32} {k2 : pp_M → Int32 → Option (pp_M)} (hk2 : ∀ {σ : pp_M} {a1 : Int32}, k2 σ a1 = some σ' → pp_E Γ dsM cX9_laysWays 4 2 [(0, ppR 40 0 0), (1, ppI a1)] [] σ) (h : f_X9_laysWays_2_B k2 σ a1 = some σ') : pp_E Γ dsM cX9_laysWays 4 2 [(0, ppR 40 0 0), (1, ppI a1)] [] σ := by
  unfold f_X9_laysWays_2_B at h
  refine pp_iload_n hF dX9_laysWays_2 rfl rfl ?_
  refine pp_bipush hF dX9_laysWays_3 bc_64 ?_
  refine pp_icmp_ge (tgt := 56) hF dX9_laysWays_5 rfl (fun c1 => ?_) (fun c1 => ?_)
  · replace h := (if_pos c1).symm.trans h
    refine pp_aload_n hF dX9_laysWays_8 rfl rfl ?_
    refine pp_getR hF fdM_X9_25 dX9_laysWays_9 ?_
    refine pp_iload_n hF dX9_laysWays_12 rfl rfl ?_
    refine pp_iload_n hF dX9_laysWays_13 rfl rfl ?_
    refine pp_bipush hF dX9_laysWays_14 bc_8 ?_
    refine pp_idiv hF dX9_laysWays_16 (by decide) ?_
    refine pp_iload_n hF dX9_laysWays_17 rfl rfl ?_
    refine pp_bipush hF dX9_laysWays_18 bc_8 ?_
    refine pp_irem hF dX9_laysWays_20 (by decide) ?_
    refine pp_icmp_ne (tgt := 28) hF dX9_laysWays_21 rfl (fun c2 => ?_) (fun c2 => ?_)
    · replace h := (if_pos c2).symm.trans h
      refine pp_iconst hF dX9_laysWays_24 ic_0 ?_
      refine pp_goto (tgt := 49) hF dX9_laysWays_25 rfl ?_
      exact e_X9_laysWays_49 hF hR hk2 h
    · replace h := (if_neg c2).symm.trans h
      refine pp_aload_n hF dX9_laysWays_28 rfl rfl ?_
      refine pp_getR hF fdM_X9_22 dX9_laysWays_29 ?_
      refine pp_iload_n hF dX9_laysWays_32 rfl rfl ?_
      obtain ⟨hi3, h⟩ := pp_ck h
      refine pp_ialoadJ hF vM_45 hi3 (Nat.zero_add _) dX9_laysWays_33 ?_
      refine pp_if_le (tgt := 46) hF dX9_laysWays_34 rfl (fun c4 => ?_) (fun c4 => ?_)
      · replace h := (if_pos c4).symm.trans h
        refine pp_aload_n hF dX9_laysWays_37 rfl rfl ?_
        refine pp_getR hF fdM_X9_22 dX9_laysWays_38 ?_
        refine pp_iload_n hF dX9_laysWays_41 rfl rfl ?_
        refine pp_ialoadJ hF vM_45 hi3 (Nat.zero_add _) dX9_laysWays_42 ?_
        refine pp_goto (tgt := 49) hF dX9_laysWays_43 rfl ?_
        exact e_X9_laysWays_49 hF hR hk2 h
      · replace h := (if_neg c4).symm.trans h
        refine pp_sipush hF dX9_laysWays_46 sc_1000 ?_
        exact e_X9_laysWays_49 hF hR hk2 h
  · replace h := (if_neg c1).symm.trans h
    refine pp_iconst hF dX9_laysWays_56 ic_0 ?_
    refine pp_istore_n hF dX9_laysWays_57 rfl (by decide) (lv' := [(0, ppR 40 0 0), (1, ppI (0 : Int32))]) rfl ?_
    exact e_X9_laysWays_58_L hF hR h
set_option maxRecDepth 20000 in
theorem e_X9_laysWays_2_L {Γ : pp_G} {σ' : pp_M} (hF : pp_Fx Γ dsM cX9_laysWays 4 RX9 1 12) (hR : pp_Rt Γ dsM none none σ') : ∀ {n : Nat} {σ : pp_M} {a1 : Int32}, f_X9_laysWays_2 n σ a1 = some σ' → pp_E Γ dsM cX9_laysWays 4 2 [(0, ppR 40 0 0), (1, ppI a1)] [] σ
  | 0, _, _ => fun h => by cases h
  | n + 1, _, _ => fun h => e_X9_laysWays_2 hF hR (fun h => e_X9_laysWays_2_L hF hR (n := n) h) h
set_option maxRecDepth 20000 in
theorem e_X9_laysWays_0 {Γ : pp_G} {σ' : pp_M} (hF : pp_Fx Γ dsM cX9_laysWays 4 RX9 1 12) (hR : pp_Rt Γ dsM none none σ') {σ : pp_M}  (h : f_X9_laysWays σ  = some σ') : pp_E Γ dsM cX9_laysWays 4 0 [(0, ppR 40 0 0)] [] σ := by
  unfold f_X9_laysWays at h
  refine pp_iconst hF dX9_laysWays_0 ic_0 ?_
  refine pp_istore_n hF dX9_laysWays_1 rfl (by decide) (lv' := [(0, ppR 40 0 0), (1, ppI (0 : Int32))]) rfl ?_
  exact e_X9_laysWays_2_L hF hR h
set_option maxRecDepth 20000 in
theorem c_X9_laysWays {σ' : pp_M} {σ : pp_M}  (h : f_X9_laysWays σ  = some σ') : pp_Ct yX9_laysWays cX9_laysWays 4 none 1 12 dsM [ppR 40 0 0] σ none σ' := pp_met pl_X9 rfl okM (Nat.le_of_ble_eq_true rfl) rfl (fun Γ hF hR => (e_X9_laysWays_0 hF hR h))
set_option maxRecDepth 20000 in
theorem e_X9_looksAt_15 {Γ : pp_G} {r' : Int32} {σ' : pp_M} (hF : pp_Fx Γ dsM cX9_looksAt 7 RX9 1 12) (hR : pp_Rt Γ dsM (some .int) (some (ppI r')) σ') {σ : pp_M} {a3 : Int32} {a4 : Int32} {a5 : Int32} {k15 : pp_M → Int32 → Int32 → Int32 → Option (Int32 × pp_M)} (hk15 : ∀ {σ : pp_M} {a3 : Int32} {a4 : Int32} {a5 : Int32}, k15 σ a3 a4 a5 = some (r', σ') → pp_E Γ dsM cX9_looksAt 7 15 [(0, ppR 40 0 0), (3, ppI a3), (4, ppI a4), (5, ppI a5)] [] σ) (h : f_X9_looksAt_15_B k15 σ a3 a4 a5 = some (r', σ')) : pp_E Γ dsM cX9_looksAt 7 15 [(0, ppR 40 0 0), (3, ppI a3), (4, ppI a4), (5, ppI a5)] [] σ := by
  unfold f_X9_looksAt_15_B at h
  refine pp_iload hF dX9_looksAt_15 rfl ?_
  refine pp_if_lt (tgt := 80) hF dX9_looksAt_17 rfl (fun c1 => ?_) (fun c1 => ?_)
  · replace h := (if_pos c1).symm.trans h
    refine pp_iload hF dX9_looksAt_80 rfl ?_
    obtain ⟨rfl, rfl⟩ := pp_i2 h
    exact pp_ireturn hF hR dX9_looksAt_82
  · replace h := (if_neg c1).symm.trans h
    refine pp_iload_n hF dX9_looksAt_20 rfl rfl ?_
    refine pp_iconst hF dX9_looksAt_21 ic_5 ?_
    refine pp_irem hF dX9_looksAt_22 (by decide) ?_
    refine pp_istore hF dX9_looksAt_23 (by decide) (lv' := [(0, ppR 40 0 0), (3, ppI a3), (4, ppI a4), (5, ppI a5), (6, ppI (a3 - a3 / (5 : Int32) * (5 : Int32)))]) rfl ?_
    refine pp_iload_n hF dX9_looksAt_25 rfl rfl ?_
    refine pp_iconst hF dX9_looksAt_26 ic_5 ?_
    refine pp_idiv hF dX9_looksAt_27 (by decide) ?_
    refine pp_istore_n hF dX9_looksAt_28 rfl (by decide) (lv' := [(0, ppR 40 0 0), (3, ppI (a3 / (5 : Int32))), (4, ppI a4), (5, ppI a5), (6, ppI (a3 - a3 / (5 : Int32) * (5 : Int32)))]) rfl ?_
    refine pp_iload hF dX9_looksAt_29 rfl ?_
    refine pp_aload_n hF dX9_looksAt_31 rfl rfl ?_
    refine pp_getI hF fdM_X9_256 dX9_looksAt_32 ?_
    refine pp_icmp_ge (tgt := 49) hF dX9_looksAt_35 rfl (fun c2 => ?_) (fun c2 => ?_)
    · replace h := (if_pos c2).symm.trans h
      refine pp_iload hF dX9_looksAt_38 rfl ?_
      refine pp_iload hF dX9_looksAt_40 rfl ?_
      refine pp_ishr hF dX9_looksAt_42 ?_
      refine pp_iconst hF dX9_looksAt_43 ic_1 ?_
      refine pp_iand hF dX9_looksAt_44 ?_
      refine pp_iconst hF dX9_looksAt_45 ic_1 ?_
      refine pp_icmp_ne (tgt := 51) hF dX9_looksAt_46 rfl (fun c3 => ?_) (fun c3 => ?_)
      · replace h := (if_pos c3).symm.trans h
        refine pp_iconst hF dX9_looksAt_49 ic_n1 ?_
        obtain ⟨rfl, rfl⟩ := pp_i2 h
        exact pp_ireturn hF hR dX9_looksAt_50
      · replace h := (if_neg c3).symm.trans h
        refine pp_iload hF dX9_looksAt_51 rfl ?_
        refine pp_iconst hF dX9_looksAt_53 ic_1 ?_
        refine pp_iload hF dX9_looksAt_54 rfl ?_
        refine pp_ishl hF dX9_looksAt_56 ?_
        refine pp_ior hF dX9_looksAt_57 ?_
        refine pp_istore hF dX9_looksAt_58 (by decide) (lv' := [(0, ppR 40 0 0), (3, ppI (a3 / (5 : Int32))), (4, ppI (a4 ||| ((1 : Int32) <<< ((a3 - a3 / (5 : Int32) * (5 : Int32)) &&& 31)))), (5, ppI a5), (6, ppI (a3 - a3 / (5 : Int32) * (5 : Int32)))]) rfl ?_
        refine pp_aload_n hF dX9_looksAt_60 rfl rfl ?_
        refine pp_getR hF fdM_X9_62 dX9_looksAt_61 ?_
        refine pp_iload hF dX9_looksAt_64 rfl ?_
        refine pp_aload_n hF dX9_looksAt_66 rfl rfl ?_
        refine pp_getR hF fdM_X9_81 dX9_looksAt_67 ?_
        refine pp_iload hF dX9_looksAt_70 rfl ?_
        obtain ⟨hi4, h⟩ := pp_ck h
        refine pp_ialoadJ hF vM_61 hi4 (Nat.zero_add _) dX9_looksAt_72 ?_
        obtain ⟨hi5, h⟩ := pp_ck h
        refine pp_iastoreJ hF vM_55 hi5 (Nat.zero_add _) dX9_looksAt_73 ?_
        refine pp_iinc hF dX9_looksAt_74 rfl (congrArg (HAdd.hAdd _) ic_n1) (by decide) (lv' := [(0, ppR 40 0 0), (3, ppI (a3 / (5 : Int32))), (4, ppI (a4 ||| ((1 : Int32) <<< ((a3 - a3 / (5 : Int32) * (5 : Int32)) &&& 31)))), (5, ppI (a5 + (-1 : Int32))), (6, ppI (a3 - a3 / (5 : Int32) * (5 : Int32)))]) rfl ?_
        refine pp_goto (tgt := 15) hF dX9_looksAt_77 rfl ?_
        refine pp_few [0, 1, 2, 3] (lv' := [(0, ppR 40 0 0), (3, ppI (a3 / (5 : Int32))), (4, ppI (a4 ||| ((1 : Int32) <<< ((a3 - a3 / (5 : Int32) * (5 : Int32)) &&& 31)))), (5, ppI (a5 + (-1 : Int32)))]) rfl ?_
        exact hk15 h
    · replace h := (if_neg c2).symm.trans h
      refine pp_iconst hF dX9_looksAt_49 ic_n1 ?_
      obtain ⟨rfl, rfl⟩ := pp_i2 h
      exact pp_ireturn hF hR dX9_looksAt_50
set_option maxRecDepth 20000 in
theorem e_X9_looksAt_15_L {Γ : pp_G} {r' : Int32} {σ' : pp_M} (hF : pp_Fx Γ dsM cX9_looksAt 7 RX9 1 12) (hR : pp_Rt Γ dsM (some .int) (some (ppI r')) σ') : ∀ {n : Nat} {σ : pp_M} {a3 : Int32} {a4 : Int32} {a5 : Int32}, f_X9_looksAt_15 n σ a3 a4 a5 = some (r', σ') → pp_E Γ dsM cX9_looksAt 7 15 [(0, ppR 40 0 0), (3, ppI a3), (4, ppI a4), (5, ppI a5)] [] σ
  | 0, _, _, _, _ => fun h => by cases h
  | n + 1, _, _, _, _ => fun h => e_X9_looksAt_15 hF hR (fun h => e_X9_looksAt_15_L hF hR (n := n) h) h
set_option maxRecDepth 20000 in
theorem e_X9_looksAt_0 {Γ : pp_G} {r' : Int32} {σ' : pp_M} (hF : pp_Fx Γ dsM cX9_looksAt 7 RX9 1 12) (hR : pp_Rt Γ dsM (some .int) (some (ppI r')) σ') {σ : pp_M} {a1 : Int32} {a2 : Int32} (h : f_X9_looksAt σ a1 a2 = some (r', σ')) : pp_E Γ dsM cX9_looksAt 7 0 [(0, ppR 40 0 0), (1, ppI a1), (2, ppI a2)] [] σ := by
  unfold f_X9_looksAt at h
  refine pp_aload_n hF dX9_looksAt_0 rfl rfl ?_
  refine pp_iload_n hF dX9_looksAt_1 rfl rfl ?_
  refine pp_putI hF fwM_X9_184 dX9_looksAt_2 ?_
  refine pp_iload_n hF dX9_looksAt_5 rfl rfl ?_
  refine pp_istore_n hF dX9_looksAt_6 rfl (by decide) (lv' := [(0, ppR 40 0 0), (1, ppI a1), (2, ppI a2), (3, ppI a2)]) rfl ?_
  refine pp_iconst hF dX9_looksAt_7 ic_0 ?_
  refine pp_istore hF dX9_looksAt_8 (by decide) (lv' := [(0, ppR 40 0 0), (1, ppI a1), (2, ppI a2), (3, ppI a2), (4, ppI (0 : Int32))]) rfl ?_
  refine pp_iload_n hF dX9_looksAt_10 rfl rfl ?_
  refine pp_iconst hF dX9_looksAt_11 ic_1 ?_
  refine pp_isub hF dX9_looksAt_12 ?_
  refine pp_istore hF dX9_looksAt_13 (by decide) (lv' := [(0, ppR 40 0 0), (1, ppI a1), (2, ppI a2), (3, ppI a2), (4, ppI (0 : Int32)), (5, ppI (a1 - (1 : Int32)))]) rfl ?_
  refine pp_few [0, 3, 4, 5] (lv' := [(0, ppR 40 0 0), (3, ppI a2), (4, ppI (0 : Int32)), (5, ppI (a1 - (1 : Int32)))]) rfl ?_
  exact e_X9_looksAt_15_L hF hR h
set_option maxRecDepth 20000 in
theorem c_X9_looksAt {r' : Int32} {σ' : pp_M} {σ : pp_M} {a1 : Int32} {a2 : Int32} (h : f_X9_looksAt σ a1 a2 = some (r', σ')) : pp_Ct yX9_looksAt cX9_looksAt 7 (some .int) 1 12 dsM [ppR 40 0 0, ppI a1, ppI a2] σ (some (ppI r')) σ' := pp_met pl_X9 rfl okM (Nat.le_of_ble_eq_true rfl) rfl (fun Γ hF hR => (e_X9_looksAt_0 hF hR h))
set_option maxRecDepth 20000 in
theorem e_X9_mostGain_122 {Γ : pp_G} {r' : Int64} {σ' : pp_M} (hF : pp_Fx Γ dsM cX9_mostGain 6 RX9 4 94) (hR : pp_Rt Γ dsM (some .long) (some (ppL r')) σ') {σ : pp_M} {a1 : Int32} {a2 : Int32} {k29 : pp_M → Int32 → Option (Int64 × pp_M)} (hk29 : ∀ {σ : pp_M} {a1 : Int32}, k29 σ a1 = some (r', σ') → pp_E Γ dsM cX9_mostGain 6 29 [(0, ppR 40 0 0), (1, ppI a1)] [] σ) {k40 : pp_M → Int32 → Int32 → Option (Int64 × pp_M)} (hk40 : ∀ {σ : pp_M} {a1 : Int32} {a2 : Int32}, k40 σ a1 a2 = some (r', σ') → pp_E Γ dsM cX9_mostGain 6 40 [(0, ppR 40 0 0), (1, ppI a1), (2, ppI a2)] [] σ) (h : f_X9_mostGain_122 k29 k40 σ a1 a2 = some (r', σ')) : pp_E Γ dsM cX9_mostGain 6 122 [(0, ppR 40 0 0), (1, ppI a1), (2, ppI a2)] [] σ := by
  unfold f_X9_mostGain_122 at h
  refine pp_iinc hF dX9_mostGain_122 rfl (congrArg (HAdd.hAdd _) ic_n1) (by decide) (lv' := [(0, ppR 40 0 0), (1, ppI a1), (2, ppI (a2 + (-1 : Int32)))]) rfl ?_
  refine pp_goto (tgt := 40) hF dX9_mostGain_125 rfl ?_
  exact hk40 h
set_option maxRecDepth 20000 in
theorem e_X9_mostGain_115 {Γ : pp_G} {r' : Int64} {σ' : pp_M} (hF : pp_Fx Γ dsM cX9_mostGain 6 RX9 4 94) (hR : pp_Rt Γ dsM (some .long) (some (ppL r')) σ') {σ : pp_M} {a1 : Int32} {a2 : Int32} {a3 : Int32} {b1 : Int32} {b2 : Int64} {k29 : pp_M → Int32 → Option (Int64 × pp_M)} (hk29 : ∀ {σ : pp_M} {a1 : Int32}, k29 σ a1 = some (r', σ') → pp_E Γ dsM cX9_mostGain 6 29 [(0, ppR 40 0 0), (1, ppI a1)] [] σ) {k40 : pp_M → Int32 → Int32 → Option (Int64 × pp_M)} (hk40 : ∀ {σ : pp_M} {a1 : Int32} {a2 : Int32}, k40 σ a1 a2 = some (r', σ') → pp_E Γ dsM cX9_mostGain 6 40 [(0, ppR 40 0 0), (1, ppI a1), (2, ppI a2)] [] σ) {k46 : pp_M → Int32 → Int32 → Int32 → Option (Int64 × pp_M)} (hk46 : ∀ {σ : pp_M} {a1 : Int32} {a2 : Int32} {a3 : Int32}, k46 σ a1 a2 a3 = some (r', σ') → pp_E Γ dsM cX9_mostGain 6 46 [(0, ppR 40 0 0), (1, ppI a1), (2, ppI a2), (3, ppI a3)] [] σ) (h : f_X9_mostGain_115 k29 k40 k46 σ a1 a2 a3 b1 b2 = some (r', σ')) : pp_E Γ dsM cX9_mostGain 6 115 [(0, ppR 40 0 0), (1, ppI a1), (2, ppI a2), (3, ppI a3)] [ppL b2, ppI b1, ppR 62 0 101] σ := by
  unfold f_X9_mostGain_115 at h
  obtain ⟨hi1, h⟩ := pp_ck h
  refine pp_lastoreJ hF vM_62 hi1 (Nat.zero_add _) dX9_mostGain_115 ?_
  refine pp_iinc hF dX9_mostGain_116 rfl (congrArg (HAdd.hAdd _) ic_1) (by decide) (lv' := [(0, ppR 40 0 0), (1, ppI a1), (2, ppI a2), (3, ppI (a3 + (1 : Int32)))]) rfl ?_
  refine pp_goto (tgt := 46) hF dX9_mostGain_119 rfl ?_
  exact hk46 h
set_option maxRecDepth 20000 in
theorem e_X9_mostGain_46 {Γ : pp_G} {r' : Int64} {σ' : pp_M} (hF : pp_Fx Γ dsM cX9_mostGain 6 RX9 4 94) (hR : pp_Rt Γ dsM (some .long) (some (ppL r')) σ') {σ : pp_M} {a1 : Int32} {a2 : Int32} {a3 : Int32} {k29 : pp_M → Int32 → Option (Int64 × pp_M)} (hk29 : ∀ {σ : pp_M} {a1 : Int32}, k29 σ a1 = some (r', σ') → pp_E Γ dsM cX9_mostGain 6 29 [(0, ppR 40 0 0), (1, ppI a1)] [] σ) {k40 : pp_M → Int32 → Int32 → Option (Int64 × pp_M)} (hk40 : ∀ {σ : pp_M} {a1 : Int32} {a2 : Int32}, k40 σ a1 a2 = some (r', σ') → pp_E Γ dsM cX9_mostGain 6 40 [(0, ppR 40 0 0), (1, ppI a1), (2, ppI a2)] [] σ) {k46 : pp_M → Int32 → Int32 → Int32 → Option (Int64 × pp_M)} (hk46 : ∀ {σ : pp_M} {a1 : Int32} {a2 : Int32} {a3 : Int32}, k46 σ a1 a2 a3 = some (r', σ') → pp_E Γ dsM cX9_mostGain 6 46 [(0, ppR 40 0 0), (1, ppI a1), (2, ppI a2), (3, ppI a3)] [] σ) (h : f_X9_mostGain_46_B k29 k40 k46 σ a1 a2 a3 = some (r', σ')) : pp_E Γ dsM cX9_mostGain 6 46 [(0, ppR 40 0 0), (1, ppI a1), (2, ppI a2), (3, ppI a3)] [] σ := by
  unfold f_X9_mostGain_46_B at h
  refine pp_iload_n hF dX9_mostGain_46 rfl rfl ?_
  refine pp_iconst hF dX9_mostGain_47 ic_5 ?_
  refine pp_icmp_ge (tgt := 122) hF dX9_mostGain_48 rfl (fun c1 => ?_) (fun c1 => ?_)
  · replace h := (if_pos c1).symm.trans h
    refine pp_iload_n hF dX9_mostGain_51 rfl rfl ?_
    refine pp_aload_n hF dX9_mostGain_52 rfl rfl ?_
    refine pp_getR hF fdM_X9_13 dX9_mostGain_53 ?_
    refine pp_iload_n hF dX9_mostGain_56 rfl rfl ?_
    obtain ⟨hi2, h⟩ := pp_ck h
    refine pp_ialoadJ hF vM_42 hi2 (Nat.zero_add _) dX9_mostGain_57 ?_
    refine pp_imul hF dX9_mostGain_58 ?_
    refine pp_iload_n hF dX9_mostGain_59 rfl rfl ?_
    refine pp_icmp_gt (tgt := 122) hF dX9_mostGain_60 rfl (fun c3 => ?_) (fun c3 => ?_)
    · replace h := (if_pos c3).symm.trans h
      refine pp_few [0, 1, 2] (lv' := [(0, ppR 40 0 0), (1, ppI a1), (2, ppI a2)]) rfl ?_
      exact e_X9_mostGain_122 hF hR hk29 hk40 h
    · replace h := (if_neg c3).symm.trans h
      refine pp_aload_n hF dX9_mostGain_63 rfl rfl ?_
      refine pp_getR hF fdM_X9_84 dX9_mostGain_64 ?_
      refine pp_iload_n hF dX9_mostGain_67 rfl rfl ?_
      refine pp_iload_n hF dX9_mostGain_68 rfl rfl ?_
      refine pp_aload_n hF dX9_mostGain_69 rfl rfl ?_
      refine pp_getR hF fdM_X9_13 dX9_mostGain_70 ?_
      refine pp_iload_n hF dX9_mostGain_73 rfl rfl ?_
      refine pp_ialoadJ hF vM_42 hi2 (Nat.zero_add _) dX9_mostGain_74 ?_
      refine pp_imul hF dX9_mostGain_75 ?_
      refine pp_isub hF dX9_mostGain_76 ?_
      obtain ⟨hi4, h⟩ := pp_ck h
      refine pp_laloadJ hF vM_62 hi4 (Nat.zero_add _) dX9_mostGain_77 ?_
      refine pp_aload_n hF dX9_mostGain_78 rfl rfl ?_
      refine pp_iload_n hF dX9_mostGain_79 rfl rfl ?_
      refine pp_iload_n hF dX9_mostGain_80 rfl rfl ?_
      obtain ⟨x81, hx81, h⟩ := pp_bd h
      refine pp_callVl hF (c_X9_gainOf hx81) mV_X9_gainOf lk_X9_218 obM_40 rfl rfl ⟨by decide, by decide⟩ (Nat.le_of_ble_eq_true rfl) dX9_mostGain_81 ?_
      refine pp_ladd hF dX9_mostGain_84 ?_
      refine pp_lstore hF dX9_mostGain_85 (by decide) (lv' := [(0, ppR 40 0 0), (1, ppI a1), (2, ppI a2), (3, ppI a3), (4, ppL ((σ.2 62 (a2 - (a3 * (σ.1 42 a1.toNatClampNeg))).toNatClampNeg) + x81.1))]) rfl ?_
      refine pp_aload_n hF dX9_mostGain_87 rfl rfl ?_
      refine pp_getR hF fdM_X9_84 dX9_mostGain_88 ?_
      refine pp_iload_n hF dX9_mostGain_91 rfl rfl ?_
      refine pp_lload hF dX9_mostGain_92 rfl ?_
      refine pp_aload_n hF dX9_mostGain_94 rfl rfl ?_
      refine pp_getR hF fdM_X9_84 dX9_mostGain_95 ?_
      refine pp_iload_n hF dX9_mostGain_98 rfl rfl ?_
      obtain ⟨hi6, h⟩ := pp_ck h
      refine pp_laloadJ hF vM_62 hi6 (Nat.zero_add _) dX9_mostGain_99 ?_
      refine pp_lcmp_le (tgt := 109) hF dX9_mostGain_100 dX9_mostGain_101 rfl (fun c7 => ?_) (fun c7 => ?_)
      · replace h := (if_pos c7).symm.trans h
        refine pp_lload hF dX9_mostGain_104 rfl ?_
        refine pp_goto (tgt := 115) hF dX9_mostGain_106 rfl ?_
        refine pp_few [0, 1, 2, 3] (lv' := [(0, ppR 40 0 0), (1, ppI a1), (2, ppI a2), (3, ppI a3)]) rfl ?_
        exact e_X9_mostGain_115 hF hR hk29 hk40 hk46 h
      · replace h := (if_neg c7).symm.trans h
        refine pp_aload_n hF dX9_mostGain_109 rfl rfl ?_
        refine pp_getR hF fdM_X9_84 dX9_mostGain_110 ?_
        refine pp_iload_n hF dX9_mostGain_113 rfl rfl ?_
        refine pp_laloadJ hF vM_62 hi6 (Nat.zero_add _) dX9_mostGain_114 ?_
        refine pp_few [0, 1, 2, 3] (lv' := [(0, ppR 40 0 0), (1, ppI a1), (2, ppI a2), (3, ppI a3)]) rfl ?_
        exact e_X9_mostGain_115 hF hR hk29 hk40 hk46 h
  · replace h := (if_neg c1).symm.trans h
    refine pp_few [0, 1, 2] (lv' := [(0, ppR 40 0 0), (1, ppI a1), (2, ppI a2)]) rfl ?_
    exact e_X9_mostGain_122 hF hR hk29 hk40 h
set_option maxRecDepth 20000 in
theorem e_X9_mostGain_46_L {Γ : pp_G} {r' : Int64} {σ' : pp_M} (hF : pp_Fx Γ dsM cX9_mostGain 6 RX9 4 94) (hR : pp_Rt Γ dsM (some .long) (some (ppL r')) σ') {k29 : pp_M → Int32 → Option (Int64 × pp_M)} (hk29 : ∀ {σ : pp_M} {a1 : Int32}, k29 σ a1 = some (r', σ') → pp_E Γ dsM cX9_mostGain 6 29 [(0, ppR 40 0 0), (1, ppI a1)] [] σ) {k40 : pp_M → Int32 → Int32 → Option (Int64 × pp_M)} (hk40 : ∀ {σ : pp_M} {a1 : Int32} {a2 : Int32}, k40 σ a1 a2 = some (r', σ') → pp_E Γ dsM cX9_mostGain 6 40 [(0, ppR 40 0 0), (1, ppI a1), (2, ppI a2)] [] σ) : ∀ {n : Nat} {σ : pp_M} {a1 : Int32} {a2 : Int32} {a3 : Int32}, f_X9_mostGain_46 k29 k40 n σ a1 a2 a3 = some (r', σ') → pp_E Γ dsM cX9_mostGain 6 46 [(0, ppR 40 0 0), (1, ppI a1), (2, ppI a2), (3, ppI a3)] [] σ
  | 0, _, _, _, _ => fun h => by cases h
  | n + 1, _, _, _, _ => fun h => e_X9_mostGain_46 hF hR hk29 hk40 (fun h => e_X9_mostGain_46_L hF hR hk29 hk40 (n := n) h) h
set_option maxRecDepth 20000 in
theorem e_X9_mostGain_40 {Γ : pp_G} {r' : Int64} {σ' : pp_M} (hF : pp_Fx Γ dsM cX9_mostGain 6 RX9 4 94) (hR : pp_Rt Γ dsM (some .long) (some (ppL r')) σ') {σ : pp_M} {a1 : Int32} {a2 : Int32} {k29 : pp_M → Int32 → Option (Int64 × pp_M)} (hk29 : ∀ {σ : pp_M} {a1 : Int32}, k29 σ a1 = some (r', σ') → pp_E Γ dsM cX9_mostGain 6 29 [(0, ppR 40 0 0), (1, ppI a1)] [] σ) {k40 : pp_M → Int32 → Int32 → Option (Int64 × pp_M)} (hk40 : ∀ {σ : pp_M} {a1 : Int32} {a2 : Int32}, k40 σ a1 a2 = some (r', σ') → pp_E Γ dsM cX9_mostGain 6 40 [(0, ppR 40 0 0), (1, ppI a1), (2, ppI a2)] [] σ) (h : f_X9_mostGain_40_B k29 k40 σ a1 a2 = some (r', σ')) : pp_E Γ dsM cX9_mostGain 6 40 [(0, ppR 40 0 0), (1, ppI a1), (2, ppI a2)] [] σ := by
  unfold f_X9_mostGain_40_B at h
  refine pp_iload_n hF dX9_mostGain_40 rfl rfl ?_
  refine pp_if_le (tgt := 128) hF dX9_mostGain_41 rfl (fun c1 => ?_) (fun c1 => ?_)
  · replace h := (if_pos c1).symm.trans h
    refine pp_iconst hF dX9_mostGain_44 ic_1 ?_
    refine pp_istore_n hF dX9_mostGain_45 rfl (by decide) (lv' := [(0, ppR 40 0 0), (1, ppI a1), (2, ppI a2), (3, ppI (1 : Int32))]) rfl ?_
    exact e_X9_mostGain_46_L hF hR hk29 hk40 h
  · replace h := (if_neg c1).symm.trans h
    refine pp_iinc hF dX9_mostGain_128 rfl (congrArg (HAdd.hAdd _) ic_1) (by decide) (lv' := [(0, ppR 40 0 0), (1, ppI (a1 + (1 : Int32))), (2, ppI a2)]) rfl ?_
    refine pp_goto (tgt := 29) hF dX9_mostGain_131 rfl ?_
    refine pp_few [0, 1] (lv' := [(0, ppR 40 0 0), (1, ppI (a1 + (1 : Int32)))]) rfl ?_
    exact hk29 h
set_option maxRecDepth 20000 in
theorem e_X9_mostGain_40_L {Γ : pp_G} {r' : Int64} {σ' : pp_M} (hF : pp_Fx Γ dsM cX9_mostGain 6 RX9 4 94) (hR : pp_Rt Γ dsM (some .long) (some (ppL r')) σ') {k29 : pp_M → Int32 → Option (Int64 × pp_M)} (hk29 : ∀ {σ : pp_M} {a1 : Int32}, k29 σ a1 = some (r', σ') → pp_E Γ dsM cX9_mostGain 6 29 [(0, ppR 40 0 0), (1, ppI a1)] [] σ) : ∀ {n : Nat} {σ : pp_M} {a1 : Int32} {a2 : Int32}, f_X9_mostGain_40 k29 n σ a1 a2 = some (r', σ') → pp_E Γ dsM cX9_mostGain 6 40 [(0, ppR 40 0 0), (1, ppI a1), (2, ppI a2)] [] σ
  | 0, _, _, _ => fun h => by cases h
  | n + 1, _, _, _ => fun h => e_X9_mostGain_40 hF hR hk29 (fun h => e_X9_mostGain_40_L hF hR hk29 (n := n) h) h
set_option maxRecDepth 20000 in
theorem e_X9_mostGain_29 {Γ : pp_G} {r' : Int64} {σ' : pp_M} (hF : pp_Fx Γ dsM cX9_mostGain 6 RX9 4 94) (hR : pp_Rt Γ dsM (some .long) (some (ppL r')) σ') {σ : pp_M} {a1 : Int32} {k29 : pp_M → Int32 → Option (Int64 × pp_M)} (hk29 : ∀ {σ : pp_M} {a1 : Int32}, k29 σ a1 = some (r', σ') → pp_E Γ dsM cX9_mostGain 6 29 [(0, ppR 40 0 0), (1, ppI a1)] [] σ) (h : f_X9_mostGain_29_B k29 σ a1 = some (r', σ')) : pp_E Γ dsM cX9_mostGain 6 29 [(0, ppR 40 0 0), (1, ppI a1)] [] σ := by
  unfold f_X9_mostGain_29_B at h
  refine pp_iload_n hF dX9_mostGain_29 rfl rfl ?_
  refine pp_bipush hF dX9_mostGain_30 bc_6 ?_
  refine pp_icmp_ge (tgt := 134) hF dX9_mostGain_32 rfl (fun c1 => ?_) (fun c1 => ?_)
  · replace h := (if_pos c1).symm.trans h
    refine pp_aload_n hF dX9_mostGain_35 rfl rfl ?_
    refine pp_getI hF fdM_X9_32 dX9_mostGain_36 ?_
    refine pp_istore_n hF dX9_mostGain_39 rfl (by decide) (lv' := [(0, ppR 40 0 0), (1, ppI a1), (2, ppI (σ.1 40 7))]) rfl ?_
    exact e_X9_mostGain_40_L hF hR hk29 h
  · replace h := (if_neg c1).symm.trans h
    refine pp_aload_n hF dX9_mostGain_134 rfl rfl ?_
    refine pp_getR hF fdM_X9_84 dX9_mostGain_135 ?_
    refine pp_aload_n hF dX9_mostGain_138 rfl rfl ?_
    refine pp_getI hF fdM_X9_32 dX9_mostGain_139 ?_
    obtain ⟨hi2, h⟩ := pp_ck h
    refine pp_laloadJ hF vM_62 hi2 (Nat.zero_add _) dX9_mostGain_142 ?_
    refine pp_iconst hF dX9_mostGain_143 ic_5 ?_
    refine pp_aload_n hF dX9_mostGain_144 rfl rfl ?_
    refine pp_getI hF fdM_X9_184 dX9_mostGain_145 ?_
    refine pp_isub hF dX9_mostGain_148 ?_
    obtain ⟨x149, hx149, h⟩ := pp_bd h
    refine pp_callSl hF (c_X9_sixteen hx149) mS_X9_sixteen lk_X9_193 rfl rfl ⟨by decide, by decide⟩ (Nat.le_of_ble_eq_true rfl) dX9_mostGain_149 ?_
    refine pp_lmul hF dX9_mostGain_152 ?_
    obtain ⟨rfl, rfl⟩ := pp_i2 h
    exact pp_lreturn hF hR dX9_mostGain_153
set_option maxRecDepth 20000 in
theorem e_X9_mostGain_29_L {Γ : pp_G} {r' : Int64} {σ' : pp_M} (hF : pp_Fx Γ dsM cX9_mostGain 6 RX9 4 94) (hR : pp_Rt Γ dsM (some .long) (some (ppL r')) σ') : ∀ {n : Nat} {σ : pp_M} {a1 : Int32}, f_X9_mostGain_29 n σ a1 = some (r', σ') → pp_E Γ dsM cX9_mostGain 6 29 [(0, ppR 40 0 0), (1, ppI a1)] [] σ
  | 0, _, _ => fun h => by cases h
  | n + 1, _, _ => fun h => e_X9_mostGain_29 hF hR (fun h => e_X9_mostGain_29_L hF hR (n := n) h) h
set_option maxRecDepth 20000 in
theorem e_X9_mostGain_6 {Γ : pp_G} {r' : Int64} {σ' : pp_M} (hF : pp_Fx Γ dsM cX9_mostGain 6 RX9 4 94) (hR : pp_Rt Γ dsM (some .long) (some (ppL r')) σ') {σ : pp_M} {a1 : Int32} {k6 : pp_M → Int32 → Option (Int64 × pp_M)} (hk6 : ∀ {σ : pp_M} {a1 : Int32}, k6 σ a1 = some (r', σ') → pp_E Γ dsM cX9_mostGain 6 6 [(0, ppR 40 0 0), (1, ppI a1)] [] σ) (h : f_X9_mostGain_6_B k6 σ a1 = some (r', σ')) : pp_E Γ dsM cX9_mostGain 6 6 [(0, ppR 40 0 0), (1, ppI a1)] [] σ := by
  unfold f_X9_mostGain_6_B at h
  refine pp_iload_n hF dX9_mostGain_6 rfl rfl ?_
  refine pp_aload_n hF dX9_mostGain_7 rfl rfl ?_
  refine pp_getI hF fdM_X9_32 dX9_mostGain_8 ?_
  refine pp_icmp_gt (tgt := 27) hF dX9_mostGain_11 rfl (fun c1 => ?_) (fun c1 => ?_)
  · replace h := (if_pos c1).symm.trans h
    refine pp_iconst hF dX9_mostGain_27 ic_0 ?_
    refine pp_istore_n hF dX9_mostGain_28 rfl (by decide) (lv' := [(0, ppR 40 0 0), (1, ppI (0 : Int32))]) rfl ?_
    exact e_X9_mostGain_29_L hF hR h
  · replace h := (if_neg c1).symm.trans h
    refine pp_aload_n hF dX9_mostGain_14 rfl rfl ?_
    refine pp_getR hF fdM_X9_84 dX9_mostGain_15 ?_
    refine pp_iload_n hF dX9_mostGain_18 rfl rfl ?_
    refine pp_lconst hF dX9_mostGain_19 lc_0 ?_
    obtain ⟨hi2, h⟩ := pp_ck h
    refine pp_lastoreJ hF vM_62 hi2 (Nat.zero_add _) dX9_mostGain_20 ?_
    refine pp_iinc hF dX9_mostGain_21 rfl (congrArg (HAdd.hAdd _) ic_1) (by decide) (lv' := [(0, ppR 40 0 0), (1, ppI (a1 + (1 : Int32)))]) rfl ?_
    refine pp_goto (tgt := 6) hF dX9_mostGain_24 rfl ?_
    exact hk6 h
set_option maxRecDepth 20000 in
theorem e_X9_mostGain_6_L {Γ : pp_G} {r' : Int64} {σ' : pp_M} (hF : pp_Fx Γ dsM cX9_mostGain 6 RX9 4 94) (hR : pp_Rt Γ dsM (some .long) (some (ppL r')) σ') : ∀ {n : Nat} {σ : pp_M} {a1 : Int32}, f_X9_mostGain_6 n σ a1 = some (r', σ') → pp_E Γ dsM cX9_mostGain 6 6 [(0, ppR 40 0 0), (1, ppI a1)] [] σ
  | 0, _, _ => fun h => by cases h
  | n + 1, _, _ => fun h => e_X9_mostGain_6 hF hR (fun h => e_X9_mostGain_6_L hF hR (n := n) h) h
set_option maxRecDepth 20000 in
theorem e_X9_mostGain_0 {Γ : pp_G} {r' : Int64} {σ' : pp_M} (hF : pp_Fx Γ dsM cX9_mostGain 6 RX9 4 94) (hR : pp_Rt Γ dsM (some .long) (some (ppL r')) σ') {σ : pp_M}  (h : f_X9_mostGain σ  = some (r', σ')) : pp_E Γ dsM cX9_mostGain 6 0 [(0, ppR 40 0 0)] [] σ := by
  unfold f_X9_mostGain at h
  refine pp_aload_n hF dX9_mostGain_0 rfl rfl ?_
  obtain ⟨x1, hx1, h⟩ := pp_bd h
  refine pp_callVv hF (c_X9_laysWorth hx1) mV_X9_laysWorth lk_X9_187 obM_40 rfl rfl ⟨by decide, by decide⟩ (Nat.le_of_ble_eq_true rfl) dX9_mostGain_1 ?_
  refine pp_iconst hF dX9_mostGain_4 ic_0 ?_
  refine pp_istore_n hF dX9_mostGain_5 rfl (by decide) (lv' := [(0, ppR 40 0 0), (1, ppI (0 : Int32))]) rfl ?_
  exact e_X9_mostGain_6_L hF hR h
set_option maxRecDepth 20000 in
theorem c_X9_mostGain {r' : Int64} {σ' : pp_M} {σ : pp_M}  (h : f_X9_mostGain σ  = some (r', σ')) : pp_Ct yX9_mostGain cX9_mostGain 6 (some .long) 4 94 dsM [ppR 40 0 0] σ (some (ppL r')) σ' := pp_met pl_X9 rfl okM (Nat.le_of_ble_eq_true rfl) rfl (fun Γ hF hR => (e_X9_mostGain_0 hF hR h))
set_option maxRecDepth 20000 in
theorem e_X9_goesRound_168 {Γ : pp_G} {σ' : pp_M} (hF : pp_Fx Γ dsM cX9_goesRound 7 RX9 5 119) (hR : pp_Rt Γ dsM none none σ') {σ : pp_M} {a1 : Int32} {a2 : Int32} {k41 : pp_M → Int32 → Option (pp_M)} (hk41 : ∀ {σ : pp_M} {a1 : Int32}, k41 σ a1 = some σ' → pp_E Γ dsM cX9_goesRound 7 41 [(0, ppR 40 0 0), (1, ppI a1)] [] σ) {k51 : pp_M → Int32 → Int32 → Option (pp_M)} (hk51 : ∀ {σ : pp_M} {a1 : Int32} {a2 : Int32}, k51 σ a1 a2 = some σ' → pp_E Γ dsM cX9_goesRound 7 51 [(0, ppR 40 0 0), (1, ppI a1), (2, ppI a2)] [] σ) (h : f_X9_goesRound_168 k41 k51 σ a1 a2 = some σ') : pp_E Γ dsM cX9_goesRound 7 168 [(0, ppR 40 0 0), (1, ppI a1), (2, ppI a2)] [] σ := by
  unfold f_X9_goesRound_168 at h
  refine pp_iinc hF dX9_goesRound_168 rfl (congrArg (HAdd.hAdd _) ic_1) (by decide) (lv' := [(0, ppR 40 0 0), (1, ppI a1), (2, ppI (a2 + (1 : Int32)))]) rfl ?_
  refine pp_goto (tgt := 51) hF dX9_goesRound_171 rfl ?_
  exact hk51 h
set_option maxRecDepth 20000 in
theorem e_X9_goesRound_142 {Γ : pp_G} {σ' : pp_M} (hF : pp_Fx Γ dsM cX9_goesRound 7 RX9 5 119) (hR : pp_Rt Γ dsM none none σ') {σ : pp_M} {a1 : Int32} {a2 : Int32} {a6 : Int32} {k41 : pp_M → Int32 → Option (pp_M)} (hk41 : ∀ {σ : pp_M} {a1 : Int32}, k41 σ a1 = some σ' → pp_E Γ dsM cX9_goesRound 7 41 [(0, ppR 40 0 0), (1, ppI a1)] [] σ) {k51 : pp_M → Int32 → Int32 → Option (pp_M)} (hk51 : ∀ {σ : pp_M} {a1 : Int32} {a2 : Int32}, k51 σ a1 a2 = some σ' → pp_E Γ dsM cX9_goesRound 7 51 [(0, ppR 40 0 0), (1, ppI a1), (2, ppI a2)] [] σ) {k142 : pp_M → Int32 → Int32 → Int32 → Option (pp_M)} (hk142 : ∀ {σ : pp_M} {a1 : Int32} {a2 : Int32} {a6 : Int32}, k142 σ a1 a2 a6 = some σ' → pp_E Γ dsM cX9_goesRound 7 142 [(0, ppR 40 0 0), (1, ppI a1), (2, ppI a2), (6, ppI a6)] [] σ) (h : f_X9_goesRound_142_B k41 k51 k142 σ a1 a2 a6 = some σ') : pp_E Γ dsM cX9_goesRound 7 142 [(0, ppR 40 0 0), (1, ppI a1), (2, ppI a2), (6, ppI a6)] [] σ := by
  unfold f_X9_goesRound_142_B at h
  refine pp_iload hF dX9_goesRound_142 rfl ?_
  refine pp_iload_n hF dX9_goesRound_144 rfl rfl ?_
  refine pp_icmp_ge (tgt := 168) hF dX9_goesRound_145 rfl (fun c1 => ?_) (fun c1 => ?_)
  · replace h := (if_pos c1).symm.trans h
    refine pp_aload_n hF dX9_goesRound_148 rfl rfl ?_
    refine pp_getR hF fdM_X9_87 dX9_goesRound_149 ?_
    refine pp_iload hF dX9_goesRound_152 rfl ?_
    refine pp_aload_n hF dX9_goesRound_154 rfl rfl ?_
    refine pp_getR hF fdM_X9_62 dX9_goesRound_155 ?_
    refine pp_iload hF dX9_goesRound_158 rfl ?_
    obtain ⟨hi2, h⟩ := pp_ck h
    refine pp_ialoadJ hF vM_55 hi2 (Nat.zero_add _) dX9_goesRound_160 ?_
    obtain ⟨hi3, h⟩ := pp_ck h
    refine pp_iastoreJ hF vM_63 hi3 (Nat.zero_add _) dX9_goesRound_161 ?_
    refine pp_iinc hF dX9_goesRound_162 rfl (congrArg (HAdd.hAdd _) ic_1) (by decide) (lv' := [(0, ppR 40 0 0), (1, ppI a1), (2, ppI a2), (6, ppI (a6 + (1 : Int32)))]) rfl ?_
    refine pp_goto (tgt := 142) hF dX9_goesRound_165 rfl ?_
    exact hk142 h
  · replace h := (if_neg c1).symm.trans h
    refine pp_few [0, 1, 2] (lv' := [(0, ppR 40 0 0), (1, ppI a1), (2, ppI a2)]) rfl ?_
    exact e_X9_goesRound_168 hF hR hk41 hk51 h
set_option maxRecDepth 20000 in
theorem e_X9_goesRound_142_L {Γ : pp_G} {σ' : pp_M} (hF : pp_Fx Γ dsM cX9_goesRound 7 RX9 5 119) (hR : pp_Rt Γ dsM none none σ') {k41 : pp_M → Int32 → Option (pp_M)} (hk41 : ∀ {σ : pp_M} {a1 : Int32}, k41 σ a1 = some σ' → pp_E Γ dsM cX9_goesRound 7 41 [(0, ppR 40 0 0), (1, ppI a1)] [] σ) {k51 : pp_M → Int32 → Int32 → Option (pp_M)} (hk51 : ∀ {σ : pp_M} {a1 : Int32} {a2 : Int32}, k51 σ a1 a2 = some σ' → pp_E Γ dsM cX9_goesRound 7 51 [(0, ppR 40 0 0), (1, ppI a1), (2, ppI a2)] [] σ) : ∀ {n : Nat} {σ : pp_M} {a1 : Int32} {a2 : Int32} {a6 : Int32}, f_X9_goesRound_142 k41 k51 n σ a1 a2 a6 = some σ' → pp_E Γ dsM cX9_goesRound 7 142 [(0, ppR 40 0 0), (1, ppI a1), (2, ppI a2), (6, ppI a6)] [] σ
  | 0, _, _, _, _ => fun h => by cases h
  | n + 1, _, _, _, _ => fun h => e_X9_goesRound_142 hF hR hk41 hk51 (fun h => e_X9_goesRound_142_L hF hR hk41 hk51 (n := n) h) h
set_option maxRecDepth 20000 in
theorem e_X9_goesRound_117 {Γ : pp_G} {σ' : pp_M} (hF : pp_Fx Γ dsM cX9_goesRound 7 RX9 5 119) (hR : pp_Rt Γ dsM none none σ') {σ : pp_M} {a1 : Int32} {a2 : Int32} {a4 : Int64} {b1 : Int32} {b2 : Int64} {k41 : pp_M → Int32 → Option (pp_M)} (hk41 : ∀ {σ : pp_M} {a1 : Int32}, k41 σ a1 = some σ' → pp_E Γ dsM cX9_goesRound 7 41 [(0, ppR 40 0 0), (1, ppI a1)] [] σ) {k51 : pp_M → Int32 → Int32 → Option (pp_M)} (hk51 : ∀ {σ : pp_M} {a1 : Int32} {a2 : Int32}, k51 σ a1 a2 = some σ' → pp_E Γ dsM cX9_goesRound 7 51 [(0, ppR 40 0 0), (1, ppI a1), (2, ppI a2)] [] σ) (h : f_X9_goesRound_117 k41 k51 σ a1 a2 a4 b1 b2 = some σ') : pp_E Γ dsM cX9_goesRound 7 117 [(0, ppR 40 0 0), (1, ppI a1), (2, ppI a2), (4, ppL a4)] [ppL b2, ppI b1, ppR 64 0 32] σ := by
  unfold f_X9_goesRound_117 at h
  obtain ⟨hi1, h⟩ := pp_ck h
  refine pp_lastoreJ hF vM_64 hi1 (Nat.zero_add _) dX9_goesRound_117 ?_
  refine pp_lload hF dX9_goesRound_118 rfl ?_
  refine pp_aload_n hF dX9_goesRound_120 rfl rfl ?_
  refine pp_getL hF fdM_X9_262 dX9_goesRound_121 ?_
  refine pp_lcmp_le (tgt := 168) hF dX9_goesRound_124 dX9_goesRound_125 rfl (fun c2 => ?_) (fun c2 => ?_)
  · replace h := (if_pos c2).symm.trans h
    refine pp_aload_n hF dX9_goesRound_128 rfl rfl ?_
    refine pp_lload hF dX9_goesRound_129 rfl ?_
    refine pp_putL hF fwM_X9_262 dX9_goesRound_131 ?_
    refine pp_aload_n hF dX9_goesRound_134 rfl rfl ?_
    refine pp_iload_n hF dX9_goesRound_135 rfl rfl ?_
    refine pp_putI hF fwM_X9_259 dX9_goesRound_136 ?_
    refine pp_iconst hF dX9_goesRound_139 ic_0 ?_
    refine pp_istore hF dX9_goesRound_140 (by decide) (lv' := [(0, ppR 40 0 0), (1, ppI a1), (2, ppI a2), (4, ppL a4), (6, ppI (0 : Int32))]) rfl ?_
    refine pp_few [0, 1, 2, 4] (lv' := [(0, ppR 40 0 0), (1, ppI a1), (2, ppI a2), (6, ppI (0 : Int32))]) rfl ?_
    exact e_X9_goesRound_142_L hF hR hk41 hk51 h
  · replace h := (if_neg c2).symm.trans h
    refine pp_few [0, 1, 2] (lv' := [(0, ppR 40 0 0), (1, ppI a1), (2, ppI a2)]) rfl ?_
    exact e_X9_goesRound_168 hF hR hk41 hk51 h
set_option maxRecDepth 20000 in
theorem e_X9_goesRound_51 {Γ : pp_G} {σ' : pp_M} (hF : pp_Fx Γ dsM cX9_goesRound 7 RX9 5 119) (hR : pp_Rt Γ dsM none none σ') {σ : pp_M} {a1 : Int32} {a2 : Int32} {k41 : pp_M → Int32 → Option (pp_M)} (hk41 : ∀ {σ : pp_M} {a1 : Int32}, k41 σ a1 = some σ' → pp_E Γ dsM cX9_goesRound 7 41 [(0, ppR 40 0 0), (1, ppI a1)] [] σ) {k51 : pp_M → Int32 → Int32 → Option (pp_M)} (hk51 : ∀ {σ : pp_M} {a1 : Int32} {a2 : Int32}, k51 σ a1 a2 = some σ' → pp_E Γ dsM cX9_goesRound 7 51 [(0, ppR 40 0 0), (1, ppI a1), (2, ppI a2)] [] σ) (h : f_X9_goesRound_51_B k41 k51 σ a1 a2 = some σ') : pp_E Γ dsM cX9_goesRound 7 51 [(0, ppR 40 0 0), (1, ppI a1), (2, ppI a2)] [] σ := by
  unfold f_X9_goesRound_51_B at h
  refine pp_iload_n hF dX9_goesRound_51 rfl rfl ?_
  refine pp_iload_n hF dX9_goesRound_52 rfl rfl ?_
  obtain ⟨x53, hx53, h⟩ := pp_bd h
  refine pp_callSi hF (c_X9_fives hx53) mS_X9_fives lk_X9_265 rfl rfl ⟨by decide, by decide⟩ (Nat.le_of_ble_eq_true rfl) dX9_goesRound_53 ?_
  refine pp_icmp_ge (tgt := 174) hF dX9_goesRound_56 rfl (fun c2 => ?_) (fun c2 => ?_)
  · replace h := (if_pos c2).symm.trans h
    refine pp_aload_n hF dX9_goesRound_59 rfl rfl ?_
    refine pp_iload_n hF dX9_goesRound_60 rfl rfl ?_
    refine pp_iload_n hF dX9_goesRound_61 rfl rfl ?_
    obtain ⟨x62, hx62, h⟩ := pp_bd h
    refine pp_callVi hF (c_X9_looksAt hx62) mV_X9_looksAt lk_X9_268 obM_40 rfl rfl ⟨by decide, by decide⟩ (Nat.le_of_ble_eq_true rfl) dX9_goesRound_62 ?_
    refine pp_istore_n hF dX9_goesRound_65 rfl (by decide) (lv' := [(0, ppR 40 0 0), (1, ppI a1), (2, ppI a2), (3, ppI x62.1)]) rfl ?_
    refine pp_iload_n hF dX9_goesRound_66 rfl rfl ?_
    refine pp_iconst hF dX9_goesRound_67 ic_n1 ?_
    refine pp_icmp_eq (tgt := 168) hF dX9_goesRound_68 rfl (fun c4 => ?_) (fun c4 => ?_)
    · replace h := (if_pos c4).symm.trans h
      refine pp_few [0, 1, 2] (lv' := [(0, ppR 40 0 0), (1, ppI a1), (2, ppI a2)]) rfl ?_
      exact e_X9_goesRound_168 hF hR hk41 hk51 h
    · replace h := (if_neg c4).symm.trans h
      refine pp_aload_n hF dX9_goesRound_71 rfl rfl ?_
      refine pp_iconst hF dX9_goesRound_72 ic_0 ?_
      obtain ⟨x73, hx73, h⟩ := pp_bd h
      refine pp_callVi hF (c_X9_hoursFrom hx73) mV_X9_hoursFrom lk_X9_202 obM_40 rfl rfl ⟨by decide, by decide⟩ (Nat.le_of_ble_eq_true rfl) dX9_goesRound_73 ?_
      refine pp_aload_n hF dX9_goesRound_76 rfl rfl ?_
      refine pp_getI hF fdM_X9_28 dX9_goesRound_77 ?_
      refine pp_icmp_gt (tgt := 168) hF dX9_goesRound_80 rfl (fun c6 => ?_) (fun c6 => ?_)
      · replace h := (if_pos c6).symm.trans h
        refine pp_few [0, 1, 2] (lv' := [(0, ppR 40 0 0), (1, ppI a1), (2, ppI a2)]) rfl ?_
        exact e_X9_goesRound_168 hF hR hk41 hk51 h
      · replace h := (if_neg c6).symm.trans h
        refine pp_aload_n hF dX9_goesRound_83 rfl rfl ?_
        obtain ⟨x84, hx84, h⟩ := pp_bd h
        refine pp_callVl hF (c_X9_mostGain hx84) mV_X9_mostGain lk_X9_271 obM_40 rfl rfl ⟨by decide, by decide⟩ (Nat.le_of_ble_eq_true rfl) dX9_goesRound_84 ?_
        refine pp_lstore hF dX9_goesRound_87 (by decide) (lv' := [(0, ppR 40 0 0), (1, ppI a1), (2, ppI a2), (3, ppI x62.1), (4, ppL x84.1)]) rfl ?_
        refine pp_aload_n hF dX9_goesRound_89 rfl rfl ?_
        refine pp_getR hF fdM_X9_90 dX9_goesRound_90 ?_
        refine pp_iload_n hF dX9_goesRound_93 rfl rfl ?_
        refine pp_lload hF dX9_goesRound_94 rfl ?_
        refine pp_aload_n hF dX9_goesRound_96 rfl rfl ?_
        refine pp_getR hF fdM_X9_90 dX9_goesRound_97 ?_
        refine pp_iload_n hF dX9_goesRound_100 rfl rfl ?_
        obtain ⟨hi8, h⟩ := pp_ck h
        refine pp_laloadJ hF vM_64 hi8 (Nat.zero_add _) dX9_goesRound_101 ?_
        refine pp_lcmp_le (tgt := 111) hF dX9_goesRound_102 dX9_goesRound_103 rfl (fun c9 => ?_) (fun c9 => ?_)
        · replace h := (if_pos c9).symm.trans h
          refine pp_lload hF dX9_goesRound_106 rfl ?_
          refine pp_goto (tgt := 117) hF dX9_goesRound_108 rfl ?_
          refine pp_few [0, 1, 2, 4] (lv' := [(0, ppR 40 0 0), (1, ppI a1), (2, ppI a2), (4, ppL x84.1)]) rfl ?_
          exact e_X9_goesRound_117 hF hR hk41 hk51 h
        · replace h := (if_neg c9).symm.trans h
          refine pp_aload_n hF dX9_goesRound_111 rfl rfl ?_
          refine pp_getR hF fdM_X9_90 dX9_goesRound_112 ?_
          refine pp_iload_n hF dX9_goesRound_115 rfl rfl ?_
          refine pp_laloadJ hF vM_64 hi8 (Nat.zero_add _) dX9_goesRound_116 ?_
          refine pp_few [0, 1, 2, 4] (lv' := [(0, ppR 40 0 0), (1, ppI a1), (2, ppI a2), (4, ppL x84.1)]) rfl ?_
          exact e_X9_goesRound_117 hF hR hk41 hk51 h
  · replace h := (if_neg c2).symm.trans h
    refine pp_iinc hF dX9_goesRound_174 rfl (congrArg (HAdd.hAdd _) ic_1) (by decide) (lv' := [(0, ppR 40 0 0), (1, ppI (a1 + (1 : Int32))), (2, ppI a2)]) rfl ?_
    refine pp_goto (tgt := 41) hF dX9_goesRound_177 rfl ?_
    refine pp_few [0, 1] (lv' := [(0, ppR 40 0 0), (1, ppI (a1 + (1 : Int32)))]) rfl ?_
    exact hk41 h
set_option maxRecDepth 20000 in
theorem e_X9_goesRound_51_L {Γ : pp_G} {σ' : pp_M} (hF : pp_Fx Γ dsM cX9_goesRound 7 RX9 5 119) (hR : pp_Rt Γ dsM none none σ') {k41 : pp_M → Int32 → Option (pp_M)} (hk41 : ∀ {σ : pp_M} {a1 : Int32}, k41 σ a1 = some σ' → pp_E Γ dsM cX9_goesRound 7 41 [(0, ppR 40 0 0), (1, ppI a1)] [] σ) : ∀ {n : Nat} {σ : pp_M} {a1 : Int32} {a2 : Int32}, f_X9_goesRound_51 k41 n σ a1 a2 = some σ' → pp_E Γ dsM cX9_goesRound 7 51 [(0, ppR 40 0 0), (1, ppI a1), (2, ppI a2)] [] σ
  | 0, _, _, _ => fun h => by cases h
  | n + 1, _, _, _ => fun h => e_X9_goesRound_51 hF hR hk41 (fun h => e_X9_goesRound_51_L hF hR hk41 (n := n) h) h
set_option maxRecDepth 20000 in
theorem e_X9_goesRound_41 {Γ : pp_G} {σ' : pp_M} (hF : pp_Fx Γ dsM cX9_goesRound 7 RX9 5 119) (hR : pp_Rt Γ dsM none none σ') {σ : pp_M} {a1 : Int32} {k41 : pp_M → Int32 → Option (pp_M)} (hk41 : ∀ {σ : pp_M} {a1 : Int32}, k41 σ a1 = some σ' → pp_E Γ dsM cX9_goesRound 7 41 [(0, ppR 40 0 0), (1, ppI a1)] [] σ) (h : f_X9_goesRound_41_B k41 σ a1 = some σ') : pp_E Γ dsM cX9_goesRound 7 41 [(0, ppR 40 0 0), (1, ppI a1)] [] σ := by
  unfold f_X9_goesRound_41_B at h
  refine pp_iload_n hF dX9_goesRound_41 rfl rfl ?_
  refine pp_aload_n hF dX9_goesRound_42 rfl rfl ?_
  refine pp_getI hF fdM_X9_256 dX9_goesRound_43 ?_
  refine pp_icmp_gt (tgt := 180) hF dX9_goesRound_46 rfl (fun c1 => ?_) (fun c1 => ?_)
  · replace h := (if_pos c1).symm.trans h
    obtain rfl := (Option.some.inj h).symm
    exact pp_return hF hR dX9_goesRound_180
  · replace h := (if_neg c1).symm.trans h
    refine pp_iconst hF dX9_goesRound_49 ic_0 ?_
    refine pp_istore_n hF dX9_goesRound_50 rfl (by decide) (lv' := [(0, ppR 40 0 0), (1, ppI a1), (2, ppI (0 : Int32))]) rfl ?_
    exact e_X9_goesRound_51_L hF hR hk41 h
set_option maxRecDepth 20000 in
theorem e_X9_goesRound_41_L {Γ : pp_G} {σ' : pp_M} (hF : pp_Fx Γ dsM cX9_goesRound 7 RX9 5 119) (hR : pp_Rt Γ dsM none none σ') : ∀ {n : Nat} {σ : pp_M} {a1 : Int32}, f_X9_goesRound_41 n σ a1 = some σ' → pp_E Γ dsM cX9_goesRound 7 41 [(0, ppR 40 0 0), (1, ppI a1)] [] σ
  | 0, _, _ => fun h => by cases h
  | n + 1, _, _ => fun h => e_X9_goesRound_41 hF hR (fun h => e_X9_goesRound_41_L hF hR (n := n) h) h
set_option maxRecDepth 20000 in
theorem e_X9_goesRound_18 {Γ : pp_G} {σ' : pp_M} (hF : pp_Fx Γ dsM cX9_goesRound 7 RX9 5 119) (hR : pp_Rt Γ dsM none none σ') {σ : pp_M} {a1 : Int32} {k18 : pp_M → Int32 → Option (pp_M)} (hk18 : ∀ {σ : pp_M} {a1 : Int32}, k18 σ a1 = some σ' → pp_E Γ dsM cX9_goesRound 7 18 [(0, ppR 40 0 0), (1, ppI a1)] [] σ) (h : f_X9_goesRound_18_B k18 σ a1 = some σ') : pp_E Γ dsM cX9_goesRound 7 18 [(0, ppR 40 0 0), (1, ppI a1)] [] σ := by
  unfold f_X9_goesRound_18_B at h
  refine pp_iload_n hF dX9_goesRound_18 rfl rfl ?_
  refine pp_bipush hF dX9_goesRound_19 bc_32 ?_
  refine pp_icmp_ge (tgt := 39) hF dX9_goesRound_21 rfl (fun c1 => ?_) (fun c1 => ?_)
  · replace h := (if_pos c1).symm.trans h
    refine pp_aload_n hF dX9_goesRound_24 rfl rfl ?_
    refine pp_getR hF fdM_X9_90 dX9_goesRound_25 ?_
    refine pp_iload_n hF dX9_goesRound_28 rfl rfl ?_
    refine pp_ldc2 hF wm_1167 dX9_goesRound_29 ?_
    obtain ⟨hi2, h⟩ := pp_ck h
    refine pp_lastoreJ hF vM_64 hi2 (Nat.zero_add _) dX9_goesRound_32 ?_
    refine pp_iinc hF dX9_goesRound_33 rfl (congrArg (HAdd.hAdd _) ic_1) (by decide) (lv' := [(0, ppR 40 0 0), (1, ppI (a1 + (1 : Int32)))]) rfl ?_
    refine pp_goto (tgt := 18) hF dX9_goesRound_36 rfl ?_
    exact hk18 h
  · replace h := (if_neg c1).symm.trans h
    refine pp_iconst hF dX9_goesRound_39 ic_0 ?_
    refine pp_istore_n hF dX9_goesRound_40 rfl (by decide) (lv' := [(0, ppR 40 0 0), (1, ppI (0 : Int32))]) rfl ?_
    exact e_X9_goesRound_41_L hF hR h
set_option maxRecDepth 20000 in
theorem e_X9_goesRound_18_L {Γ : pp_G} {σ' : pp_M} (hF : pp_Fx Γ dsM cX9_goesRound 7 RX9 5 119) (hR : pp_Rt Γ dsM none none σ') : ∀ {n : Nat} {σ : pp_M} {a1 : Int32}, f_X9_goesRound_18 n σ a1 = some σ' → pp_E Γ dsM cX9_goesRound 7 18 [(0, ppR 40 0 0), (1, ppI a1)] [] σ
  | 0, _, _ => fun h => by cases h
  | n + 1, _, _ => fun h => e_X9_goesRound_18 hF hR (fun h => e_X9_goesRound_18_L hF hR (n := n) h) h
set_option maxRecDepth 20000 in
theorem e_X9_goesRound_0 {Γ : pp_G} {σ' : pp_M} (hF : pp_Fx Γ dsM cX9_goesRound 7 RX9 5 119) (hR : pp_Rt Γ dsM none none σ') {σ : pp_M}  (h : f_X9_goesRound σ  = some σ') : pp_E Γ dsM cX9_goesRound 7 0 [(0, ppR 40 0 0)] [] σ := by
  unfold f_X9_goesRound at h
  refine pp_aload_n hF dX9_goesRound_0 rfl rfl ?_
  obtain ⟨x1, hx1, h⟩ := pp_bd h
  refine pp_callVv hF (c_X9_laysWays hx1) mV_X9_laysWays lk_X9_129 obM_40 rfl rfl ⟨by decide, by decide⟩ (Nat.le_of_ble_eq_true rfl) dX9_goesRound_1 ?_
  refine pp_aload_n hF dX9_goesRound_4 rfl rfl ?_
  refine pp_iconst hF dX9_goesRound_5 ic_0 ?_
  refine pp_putI hF fwM_X9_259 dX9_goesRound_6 ?_
  refine pp_aload_n hF dX9_goesRound_9 rfl rfl ?_
  refine pp_ldc2 hF wm_1167 dX9_goesRound_10 ?_
  refine pp_putL hF fwM_X9_262 dX9_goesRound_13 ?_
  refine pp_iconst hF dX9_goesRound_16 ic_0 ?_
  refine pp_istore_n hF dX9_goesRound_17 rfl (by decide) (lv' := [(0, ppR 40 0 0), (1, ppI (0 : Int32))]) rfl ?_
  exact e_X9_goesRound_18_L hF hR h
set_option maxRecDepth 20000 in
theorem c_X9_goesRound {σ' : pp_M} {σ : pp_M}  (h : f_X9_goesRound σ  = some σ') : pp_Ct yX9_goesRound cX9_goesRound 7 none 5 119 dsM [ppR 40 0 0] σ none σ' := pp_met pl_X9 rfl okM (Nat.le_of_ble_eq_true rfl) rfl (fun Γ hF hR => (e_X9_goesRound_0 hF hR h))
set_option maxRecDepth 20000 in
theorem e_X9_parted_115 {Γ : pp_G} {σ' : pp_M} (hF : pp_Fx Γ dsM cX9_parted 3 RX9 6 145) (hR : pp_Rt Γ dsM none none σ') {σ : pp_M} {a1 : Int32} {a2 : Int32} {k13 : pp_M → Int32 → Option (pp_M)} (hk13 : ∀ {σ : pp_M} {a1 : Int32}, k13 σ a1 = some σ' → pp_E Γ dsM cX9_parted 3 13 [(0, ppR 40 0 0), (1, ppI a1)] [] σ) {k25 : pp_M → Int32 → Int32 → Option (pp_M)} (hk25 : ∀ {σ : pp_M} {a1 : Int32} {a2 : Int32}, k25 σ a1 a2 = some σ' → pp_E Γ dsM cX9_parted 3 25 [(0, ppR 40 0 0), (1, ppI a1), (2, ppI a2)] [] σ) (h : f_X9_parted_115 k13 k25 σ a1 a2 = some σ') : pp_E Γ dsM cX9_parted 3 115 [(0, ppR 40 0 0), (1, ppI a1), (2, ppI a2)] [] σ := by
  unfold f_X9_parted_115 at h
  refine pp_iinc hF dX9_parted_115 rfl (congrArg (HAdd.hAdd _) ic_1) (by decide) (lv' := [(0, ppR 40 0 0), (1, ppI a1), (2, ppI (a2 + (1 : Int32)))]) rfl ?_
  refine pp_goto (tgt := 25) hF dX9_parted_118 rfl ?_
  exact hk25 h
set_option maxRecDepth 20000 in
theorem e_X9_parted_25 {Γ : pp_G} {σ' : pp_M} (hF : pp_Fx Γ dsM cX9_parted 3 RX9 6 145) (hR : pp_Rt Γ dsM none none σ') {σ : pp_M} {a1 : Int32} {a2 : Int32} {k13 : pp_M → Int32 → Option (pp_M)} (hk13 : ∀ {σ : pp_M} {a1 : Int32}, k13 σ a1 = some σ' → pp_E Γ dsM cX9_parted 3 13 [(0, ppR 40 0 0), (1, ppI a1)] [] σ) {k25 : pp_M → Int32 → Int32 → Option (pp_M)} (hk25 : ∀ {σ : pp_M} {a1 : Int32} {a2 : Int32}, k25 σ a1 a2 = some σ' → pp_E Γ dsM cX9_parted 3 25 [(0, ppR 40 0 0), (1, ppI a1), (2, ppI a2)] [] σ) (h : f_X9_parted_25_B k13 k25 σ a1 a2 = some σ') : pp_E Γ dsM cX9_parted 3 25 [(0, ppR 40 0 0), (1, ppI a1), (2, ppI a2)] [] σ := by
  unfold f_X9_parted_25_B at h
  refine pp_iload_n hF dX9_parted_25 rfl rfl ?_
  refine pp_iconst hF dX9_parted_26 ic_1 ?_
  refine pp_aload_n hF dX9_parted_27 rfl rfl ?_
  refine pp_getI hF fdM_X9_256 dX9_parted_28 ?_
  refine pp_ishl hF dX9_parted_31 ?_
  refine pp_icmp_ge (tgt := 121) hF dX9_parted_32 rfl (fun c1 => ?_) (fun c1 => ?_)
  · replace h := (if_pos c1).symm.trans h
    refine pp_iload_n hF dX9_parted_35 rfl rfl ?_
    refine pp_iload_n hF dX9_parted_36 rfl rfl ?_
    refine pp_iand hF dX9_parted_37 ?_
    refine pp_if_ne (tgt := 115) hF dX9_parted_38 rfl (fun c2 => ?_) (fun c2 => ?_)
    · replace h := (if_pos c2).symm.trans h
      refine pp_aload_n hF dX9_parted_41 rfl rfl ?_
      refine pp_getR hF fdM_X9_90 dX9_parted_42 ?_
      refine pp_iload_n hF dX9_parted_45 rfl rfl ?_
      obtain ⟨hi3, h⟩ := pp_ck h
      refine pp_laloadJ hF vM_64 hi3 (Nat.zero_add _) dX9_parted_46 ?_
      refine pp_ldc2 hF wm_1167 dX9_parted_47 ?_
      refine pp_lcmp_eq (tgt := 115) hF dX9_parted_50 dX9_parted_51 rfl (fun c4 => ?_) (fun c4 => ?_)
      · replace h := (if_pos c4).symm.trans h
        exact e_X9_parted_115 hF hR hk13 hk25 h
      · replace h := (if_neg c4).symm.trans h
        refine pp_aload_n hF dX9_parted_54 rfl rfl ?_
        refine pp_getR hF fdM_X9_90 dX9_parted_55 ?_
        refine pp_iload_n hF dX9_parted_58 rfl rfl ?_
        obtain ⟨hi5, h⟩ := pp_ck h
        refine pp_laloadJ hF vM_64 hi5 (Nat.zero_add _) dX9_parted_59 ?_
        refine pp_ldc2 hF wm_1167 dX9_parted_60 ?_
        refine pp_lcmp_eq (tgt := 115) hF dX9_parted_63 dX9_parted_64 rfl (fun c6 => ?_) (fun c6 => ?_)
        · replace h := (if_pos c6).symm.trans h
          exact e_X9_parted_115 hF hR hk13 hk25 h
        · replace h := (if_neg c6).symm.trans h
          refine pp_aload_n hF dX9_parted_67 rfl rfl ?_
          refine pp_getR hF fdM_X9_90 dX9_parted_68 ?_
          refine pp_iload_n hF dX9_parted_71 rfl rfl ?_
          refine pp_laloadJ hF vM_64 hi3 (Nat.zero_add _) dX9_parted_72 ?_
          refine pp_aload_n hF dX9_parted_73 rfl rfl ?_
          refine pp_getR hF fdM_X9_90 dX9_parted_74 ?_
          refine pp_iload_n hF dX9_parted_77 rfl rfl ?_
          refine pp_laloadJ hF vM_64 hi5 (Nat.zero_add _) dX9_parted_78 ?_
          refine pp_ladd hF dX9_parted_79 ?_
          refine pp_aload_n hF dX9_parted_80 rfl rfl ?_
          refine pp_getL hF fdM_X9_281 dX9_parted_81 ?_
          refine pp_lcmp_le (tgt := 115) hF dX9_parted_84 dX9_parted_85 rfl (fun c7 => ?_) (fun c7 => ?_)
          · replace h := (if_pos c7).symm.trans h
            refine pp_aload_n hF dX9_parted_88 rfl rfl ?_
            refine pp_aload_n hF dX9_parted_89 rfl rfl ?_
            refine pp_getR hF fdM_X9_90 dX9_parted_90 ?_
            refine pp_iload_n hF dX9_parted_93 rfl rfl ?_
            refine pp_laloadJ hF vM_64 hi3 (Nat.zero_add _) dX9_parted_94 ?_
            refine pp_aload_n hF dX9_parted_95 rfl rfl ?_
            refine pp_getR hF fdM_X9_90 dX9_parted_96 ?_
            refine pp_iload_n hF dX9_parted_99 rfl rfl ?_
            refine pp_laloadJ hF vM_64 hi5 (Nat.zero_add _) dX9_parted_100 ?_
            refine pp_ladd hF dX9_parted_101 ?_
            refine pp_putL hF fwM_X9_281 dX9_parted_102 ?_
            refine pp_aload_n hF dX9_parted_105 rfl rfl ?_
            refine pp_iload_n hF dX9_parted_106 rfl rfl ?_
            refine pp_putI hF fwM_X9_284 dX9_parted_107 ?_
            refine pp_aload_n hF dX9_parted_110 rfl rfl ?_
            refine pp_iload_n hF dX9_parted_111 rfl rfl ?_
            refine pp_putI hF fwM_X9_287 dX9_parted_112 ?_
            exact e_X9_parted_115 hF hR hk13 hk25 h
          · replace h := (if_neg c7).symm.trans h
            exact e_X9_parted_115 hF hR hk13 hk25 h
    · replace h := (if_neg c2).symm.trans h
      exact e_X9_parted_115 hF hR hk13 hk25 h
  · replace h := (if_neg c1).symm.trans h
    refine pp_iinc hF dX9_parted_121 rfl (congrArg (HAdd.hAdd _) ic_1) (by decide) (lv' := [(0, ppR 40 0 0), (1, ppI (a1 + (1 : Int32))), (2, ppI a2)]) rfl ?_
    refine pp_goto (tgt := 13) hF dX9_parted_124 rfl ?_
    refine pp_few [0, 1] (lv' := [(0, ppR 40 0 0), (1, ppI (a1 + (1 : Int32)))]) rfl ?_
    exact hk13 h
set_option maxRecDepth 20000 in
theorem e_X9_parted_25_L {Γ : pp_G} {σ' : pp_M} (hF : pp_Fx Γ dsM cX9_parted 3 RX9 6 145) (hR : pp_Rt Γ dsM none none σ') {k13 : pp_M → Int32 → Option (pp_M)} (hk13 : ∀ {σ : pp_M} {a1 : Int32}, k13 σ a1 = some σ' → pp_E Γ dsM cX9_parted 3 13 [(0, ppR 40 0 0), (1, ppI a1)] [] σ) : ∀ {n : Nat} {σ : pp_M} {a1 : Int32} {a2 : Int32}, f_X9_parted_25 k13 n σ a1 a2 = some σ' → pp_E Γ dsM cX9_parted 3 25 [(0, ppR 40 0 0), (1, ppI a1), (2, ppI a2)] [] σ
  | 0, _, _, _ => fun h => by cases h
  | n + 1, _, _, _ => fun h => e_X9_parted_25 hF hR hk13 (fun h => e_X9_parted_25_L hF hR hk13 (n := n) h) h
set_option maxRecDepth 20000 in
theorem e_X9_parted_13 {Γ : pp_G} {σ' : pp_M} (hF : pp_Fx Γ dsM cX9_parted 3 RX9 6 145) (hR : pp_Rt Γ dsM none none σ') {σ : pp_M} {a1 : Int32} {k13 : pp_M → Int32 → Option (pp_M)} (hk13 : ∀ {σ : pp_M} {a1 : Int32}, k13 σ a1 = some σ' → pp_E Γ dsM cX9_parted 3 13 [(0, ppR 40 0 0), (1, ppI a1)] [] σ) (h : f_X9_parted_13_B k13 σ a1 = some σ') : pp_E Γ dsM cX9_parted 3 13 [(0, ppR 40 0 0), (1, ppI a1)] [] σ := by
  unfold f_X9_parted_13_B at h
  refine pp_iload_n hF dX9_parted_13 rfl rfl ?_
  refine pp_iconst hF dX9_parted_14 ic_1 ?_
  refine pp_aload_n hF dX9_parted_15 rfl rfl ?_
  refine pp_getI hF fdM_X9_256 dX9_parted_16 ?_
  refine pp_ishl hF dX9_parted_19 ?_
  refine pp_icmp_ge (tgt := 127) hF dX9_parted_20 rfl (fun c1 => ?_) (fun c1 => ?_)
  · replace h := (if_pos c1).symm.trans h
    refine pp_iconst hF dX9_parted_23 ic_0 ?_
    refine pp_istore_n hF dX9_parted_24 rfl (by decide) (lv' := [(0, ppR 40 0 0), (1, ppI a1), (2, ppI (0 : Int32))]) rfl ?_
    exact e_X9_parted_25_L hF hR hk13 h
  · replace h := (if_neg c1).symm.trans h
    obtain rfl := (Option.some.inj h).symm
    exact pp_return hF hR dX9_parted_127
set_option maxRecDepth 20000 in
theorem e_X9_parted_13_L {Γ : pp_G} {σ' : pp_M} (hF : pp_Fx Γ dsM cX9_parted 3 RX9 6 145) (hR : pp_Rt Γ dsM none none σ') : ∀ {n : Nat} {σ : pp_M} {a1 : Int32}, f_X9_parted_13 n σ a1 = some σ' → pp_E Γ dsM cX9_parted 3 13 [(0, ppR 40 0 0), (1, ppI a1)] [] σ
  | 0, _, _ => fun h => by cases h
  | n + 1, _, _ => fun h => e_X9_parted_13 hF hR (fun h => e_X9_parted_13_L hF hR (n := n) h) h
set_option maxRecDepth 20000 in
theorem e_X9_parted_0 {Γ : pp_G} {σ' : pp_M} (hF : pp_Fx Γ dsM cX9_parted 3 RX9 6 145) (hR : pp_Rt Γ dsM none none σ') {σ : pp_M}  (h : f_X9_parted σ  = some σ') : pp_E Γ dsM cX9_parted 3 0 [(0, ppR 40 0 0)] [] σ := by
  unfold f_X9_parted at h
  refine pp_aload_n hF dX9_parted_0 rfl rfl ?_
  obtain ⟨x1, hx1, h⟩ := pp_bd h
  refine pp_callVv hF (c_X9_goesRound hx1) mV_X9_goesRound lk_X9_278 obM_40 rfl rfl ⟨by decide, by decide⟩ (Nat.le_of_ble_eq_true rfl) dX9_parted_1 ?_
  refine pp_aload_n hF dX9_parted_4 rfl rfl ?_
  refine pp_ldc2 hF wm_1167 dX9_parted_5 ?_
  refine pp_putL hF fwM_X9_281 dX9_parted_8 ?_
  refine pp_iconst hF dX9_parted_11 ic_0 ?_
  refine pp_istore_n hF dX9_parted_12 rfl (by decide) (lv' := [(0, ppR 40 0 0), (1, ppI (0 : Int32))]) rfl ?_
  exact e_X9_parted_13_L hF hR h
set_option maxRecDepth 20000 in
theorem c_X9_parted {σ' : pp_M} {σ : pp_M}  (h : f_X9_parted σ  = some σ') : pp_Ct yX9_parted cX9_parted 3 none 6 145 dsM [ppR 40 0 0] σ none σ' := pp_met pl_X9 rfl okM (Nat.le_of_ble_eq_true rfl) rfl (fun Γ hF hR => (e_X9_parted_0 hF hR h))
set_option maxRecDepth 20000 in
theorem e_X9_both_0 {Γ : pp_G} {r' : Int64} {σ' : pp_M} (hF : pp_Fx Γ dsM cX9_both 2 RX9 7 167) (hR : pp_Rt Γ dsM (some .long) (some (ppL r')) σ') {σ : pp_M} {a1 : Int32} (h : f_X9_both σ a1 = some (r', σ')) : pp_E Γ dsM cX9_both 2 0 [(0, ppR 40 0 0), (1, ppI a1)] [] σ := by
  unfold f_X9_both at h
  refine pp_iload_n hF dX9_both_0 rfl rfl ?_
  refine pp_iconst hF dX9_both_1 ic_0 ?_
  refine pp_iconst hF dX9_both_2 ic_1 ?_
  obtain ⟨x3, hx3, h⟩ := pp_bd h
  refine pp_callSi hF (c_X9_in hx3) mS_X9_in lk_X9_114 rfl rfl ⟨by decide, by decide⟩ (Nat.le_of_ble_eq_true rfl) dX9_both_3 ?_
  refine pp_if_ne (tgt := 15) hF dX9_both_6 rfl (fun c2 => ?_) (fun c2 => ?_)
  · replace h := (if_pos c2).symm.trans h
    refine pp_bipush hF dX9_both_9 bc_n2 ?_
    obtain ⟨x11, hx11, h⟩ := pp_bd h
    refine pp_callSl hF (c_X9_no hx11) mS_X9_no lk_X9_211 rfl rfl ⟨by decide, by decide⟩ (Nat.le_of_ble_eq_true rfl) dX9_both_11 ?_
    obtain ⟨rfl, rfl⟩ := pp_i2 h
    exact pp_lreturn hF hR dX9_both_14
  · replace h := (if_neg c2).symm.trans h
    refine pp_aload_n hF dX9_both_15 rfl rfl ?_
    obtain ⟨x16, hx16, h⟩ := pp_bd h
    refine pp_callVi hF (c_X9_gathers hx16) mV_X9_gathers lk_X9_274 obM_40 rfl rfl ⟨by decide, by decide⟩ (Nat.le_of_ble_eq_true rfl) dX9_both_16 ?_
    refine pp_if_ne (tgt := 28) hF dX9_both_19 rfl (fun c5 => ?_) (fun c5 => ?_)
    · replace h := (if_pos c5).symm.trans h
      refine pp_bipush hF dX9_both_22 bc_n4 ?_
      obtain ⟨x24, hx24, h⟩ := pp_bd h
      refine pp_callSl hF (c_X9_no hx24) mS_X9_no lk_X9_211 rfl rfl ⟨by decide, by decide⟩ (Nat.le_of_ble_eq_true rfl) dX9_both_24 ?_
      obtain ⟨rfl, rfl⟩ := pp_i2 h
      exact pp_lreturn hF hR dX9_both_27
    · replace h := (if_neg c5).symm.trans h
      refine pp_aload_n hF dX9_both_28 rfl rfl ?_
      obtain ⟨x29, hx29, h⟩ := pp_bd h
      refine pp_callVv hF (c_X9_parted hx29) mV_X9_parted lk_X9_290 obM_40 rfl rfl ⟨by decide, by decide⟩ (Nat.le_of_ble_eq_true rfl) dX9_both_29 ?_
      refine pp_aload_n hF dX9_both_32 rfl rfl ?_
      refine pp_getL hF fdM_X9_281 dX9_both_33 ?_
      refine pp_iconst hF dX9_both_36 ic_5 ?_
      obtain ⟨x37, hx37, h⟩ := pp_bd h
      refine pp_callSl hF (c_X9_sixteen hx37) mS_X9_sixteen lk_X9_193 rfl rfl ⟨by decide, by decide⟩ (Nat.le_of_ble_eq_true rfl) dX9_both_37 ?_
      refine pp_iload_n hF dX9_both_40 rfl rfl ?_
      obtain ⟨x41, hx41, h⟩ := pp_bd h
      refine pp_callSl hF (c_X9_lowest hx41) mS_X9_lowest lk_X9_214 rfl rfl ⟨by decide, by decide⟩ (Nat.le_of_ble_eq_true rfl) dX9_both_41 ?_
      obtain ⟨rfl, rfl⟩ := pp_i2 h
      exact pp_lreturn hF hR dX9_both_44
set_option maxRecDepth 20000 in
theorem c_X9_both {r' : Int64} {σ' : pp_M} {σ : pp_M} {a1 : Int32} (h : f_X9_both σ a1 = some (r', σ')) : pp_Ct yX9_both cX9_both 2 (some .long) 7 167 dsM [ppR 40 0 0, ppI a1] σ (some (ppL r')) σ' := pp_met pl_X9 rfl okM (Nat.le_of_ble_eq_true rfl) rfl (fun Γ hF hR => (e_X9_both_0 hF hR h))
set_option maxRecDepth 20000 in
theorem e_X9_boundNow_135 {Γ : pp_G} {r' : Int64} {σ' : pp_M} (hF : pp_Fx Γ dsM cX9_boundNow 13 RX9 5 115) (hR : pp_Rt Γ dsM (some .long) (some (ppL r')) σ') {σ : pp_M} {a1 : Int32} {a4 : Int64} (h : f_X9_boundNow_135 σ a1 a4 = some (r', σ')) : pp_E Γ dsM cX9_boundNow 13 135 [(0, ppR 40 0 0), (1, ppI a1), (4, ppL a4)] [] σ := by
  unfold f_X9_boundNow_135 at h
  refine pp_lload hF dX9_boundNow_135 rfl ?_
  refine pp_aload_n hF dX9_boundNow_137 rfl rfl ?_
  refine pp_getI hF fdM_X9_184 dX9_boundNow_138 ?_
  obtain ⟨x141, hx141, h⟩ := pp_bd h
  refine pp_callSl hF (c_X9_sixteen hx141) mS_X9_sixteen lk_X9_193 rfl rfl ⟨by decide, by decide⟩ (Nat.le_of_ble_eq_true rfl) dX9_boundNow_141 ?_
  refine pp_iload_n hF dX9_boundNow_144 rfl rfl ?_
  obtain ⟨x145, hx145, h⟩ := pp_bd h
  refine pp_callSl hF (c_X9_lowest hx145) mS_X9_lowest lk_X9_214 rfl rfl ⟨by decide, by decide⟩ (Nat.le_of_ble_eq_true rfl) dX9_boundNow_145 ?_
  obtain ⟨rfl, rfl⟩ := pp_i2 h
  exact pp_lreturn hF hR dX9_boundNow_148
set_option maxRecDepth 20000 in
theorem e_X9_boundNow_119 {Γ : pp_G} {r' : Int64} {σ' : pp_M} (hF : pp_Fx Γ dsM cX9_boundNow 13 RX9 5 115) (hR : pp_Rt Γ dsM (some .long) (some (ppL r')) σ') {σ : pp_M} {a1 : Int32} {a2 : Int32} {a3 : Int32} {a4 : Int64} {a6 : Int32} {a7 : Int64} {a9 : Int32} {k14 : pp_M → Int32 → Int32 → Int32 → Int64 → Option (Int64 × pp_M)} (hk14 : ∀ {σ : pp_M} {a1 : Int32} {a2 : Int32} {a3 : Int32} {a4 : Int64}, k14 σ a1 a2 a3 a4 = some (r', σ') → pp_E Γ dsM cX9_boundNow 13 14 [(0, ppR 40 0 0), (1, ppI a1), (2, ppI a2), (3, ppI a3), (4, ppL a4)] [] σ) {k23 : pp_M → Int32 → Int32 → Int32 → Int64 → Int32 → Int64 → Int32 → Option (Int64 × pp_M)} (hk23 : ∀ {σ : pp_M} {a1 : Int32} {a2 : Int32} {a3 : Int32} {a4 : Int64} {a6 : Int32} {a7 : Int64} {a9 : Int32}, k23 σ a1 a2 a3 a4 a6 a7 a9 = some (r', σ') → pp_E Γ dsM cX9_boundNow 13 23 [(0, ppR 40 0 0), (1, ppI a1), (2, ppI a2), (3, ppI a3), (4, ppL a4), (6, ppI a6), (7, ppL a7), (9, ppI a9)] [] σ) (h : f_X9_boundNow_119 k14 k23 σ a1 a2 a3 a4 a6 a7 a9 = some (r', σ')) : pp_E Γ dsM cX9_boundNow 13 119 [(0, ppR 40 0 0), (1, ppI a1), (2, ppI a2), (3, ppI a3), (4, ppL a4), (6, ppI a6), (7, ppL a7), (9, ppI a9)] [] σ := by
  unfold f_X9_boundNow_119 at h
  refine pp_iinc hF dX9_boundNow_119 rfl (congrArg (HAdd.hAdd _) ic_1) (by decide) (lv' := [(0, ppR 40 0 0), (1, ppI a1), (2, ppI a2), (3, ppI a3), (4, ppL a4), (6, ppI a6), (7, ppL a7), (9, ppI (a9 + (1 : Int32)))]) rfl ?_
  refine pp_goto (tgt := 23) hF dX9_boundNow_122 rfl ?_
  exact hk23 h
set_option maxRecDepth 20000 in
theorem e_X9_boundNow_111 {Γ : pp_G} {r' : Int64} {σ' : pp_M} (hF : pp_Fx Γ dsM cX9_boundNow 13 RX9 5 115) (hR : pp_Rt Γ dsM (some .long) (some (ppL r')) σ') {σ : pp_M} {a1 : Int32} {a2 : Int32} {a3 : Int32} {a4 : Int64} {a9 : Int32} {a11 : Int64} {k14 : pp_M → Int32 → Int32 → Int32 → Int64 → Option (Int64 × pp_M)} (hk14 : ∀ {σ : pp_M} {a1 : Int32} {a2 : Int32} {a3 : Int32} {a4 : Int64}, k14 σ a1 a2 a3 a4 = some (r', σ') → pp_E Γ dsM cX9_boundNow 13 14 [(0, ppR 40 0 0), (1, ppI a1), (2, ppI a2), (3, ppI a3), (4, ppL a4)] [] σ) {k23 : pp_M → Int32 → Int32 → Int32 → Int64 → Int32 → Int64 → Int32 → Option (Int64 × pp_M)} (hk23 : ∀ {σ : pp_M} {a1 : Int32} {a2 : Int32} {a3 : Int32} {a4 : Int64} {a6 : Int32} {a7 : Int64} {a9 : Int32}, k23 σ a1 a2 a3 a4 a6 a7 a9 = some (r', σ') → pp_E Γ dsM cX9_boundNow 13 23 [(0, ppR 40 0 0), (1, ppI a1), (2, ppI a2), (3, ppI a3), (4, ppL a4), (6, ppI a6), (7, ppL a7), (9, ppI a9)] [] σ) (h : f_X9_boundNow_111 k14 k23 σ a1 a2 a3 a4 a9 a11 = some (r', σ')) : pp_E Γ dsM cX9_boundNow 13 111 [(0, ppR 40 0 0), (1, ppI a1), (2, ppI a2), (3, ppI a3), (4, ppL a4), (9, ppI a9), (11, ppL a11)] [] σ := by
  unfold f_X9_boundNow_111 at h
  refine pp_iload hF dX9_boundNow_111 rfl ?_
  refine pp_istore hF dX9_boundNow_113 (by decide) (lv' := [(0, ppR 40 0 0), (1, ppI a1), (2, ppI a2), (3, ppI a3), (4, ppL a4), (6, ppI a9), (9, ppI a9), (11, ppL a11)]) rfl ?_
  refine pp_lload hF dX9_boundNow_115 rfl ?_
  refine pp_lstore hF dX9_boundNow_117 (by decide) (lv' := [(0, ppR 40 0 0), (1, ppI a1), (2, ppI a2), (3, ppI a3), (4, ppL a4), (6, ppI a9), (7, ppL a11), (9, ppI a9), (11, ppL a11)]) rfl ?_
  refine pp_few [0, 1, 2, 3, 4, 5, 6, 7] (lv' := [(0, ppR 40 0 0), (1, ppI a1), (2, ppI a2), (3, ppI a3), (4, ppL a4), (6, ppI a9), (7, ppL a11), (9, ppI a9)]) rfl ?_
  exact e_X9_boundNow_119 hF hR hk14 hk23 h
set_option maxRecDepth 20000 in
theorem e_X9_boundNow_23 {Γ : pp_G} {r' : Int64} {σ' : pp_M} (hF : pp_Fx Γ dsM cX9_boundNow 13 RX9 5 115) (hR : pp_Rt Γ dsM (some .long) (some (ppL r')) σ') {σ : pp_M} {a1 : Int32} {a2 : Int32} {a3 : Int32} {a4 : Int64} {a6 : Int32} {a7 : Int64} {a9 : Int32} {k14 : pp_M → Int32 → Int32 → Int32 → Int64 → Option (Int64 × pp_M)} (hk14 : ∀ {σ : pp_M} {a1 : Int32} {a2 : Int32} {a3 : Int32} {a4 : Int64}, k14 σ a1 a2 a3 a4 = some (r', σ') → pp_E Γ dsM cX9_boundNow 13 14 [(0, ppR 40 0 0), (1, ppI a1), (2, ppI a2), (3, ppI a3), (4, ppL a4)] [] σ) {k23 : pp_M → Int32 → Int32 → Int32 → Int64 → Int32 → Int64 → Int32 → Option (Int64 × pp_M)} (hk23 : ∀ {σ : pp_M} {a1 : Int32} {a2 : Int32} {a3 : Int32} {a4 : Int64} {a6 : Int32} {a7 : Int64} {a9 : Int32}, k23 σ a1 a2 a3 a4 a6 a7 a9 = some (r', σ') → pp_E Γ dsM cX9_boundNow 13 23 [(0, ppR 40 0 0), (1, ppI a1), (2, ppI a2), (3, ppI a3), (4, ppL a4), (6, ppI a6), (7, ppL a7), (9, ppI a9)] [] σ) (h : f_X9_boundNow_23_B k14 k23 σ a1 a2 a3 a4 a6 a7 a9 = some (r', σ')) : pp_E Γ dsM cX9_boundNow 13 23 [(0, ppR 40 0 0), (1, ppI a1), (2, ppI a2), (3, ppI a3), (4, ppL a4), (6, ppI a6), (7, ppL a7), (9, ppI a9)] [] σ := by
  unfold f_X9_boundNow_23_B at h
  refine pp_iload hF dX9_boundNow_23 rfl ?_
  refine pp_bipush hF dX9_boundNow_25 bc_24 ?_
  refine pp_icmp_ge (tgt := 125) hF dX9_boundNow_27 rfl (fun c1 => ?_) (fun c1 => ?_)
  · replace h := (if_pos c1).symm.trans h
    refine pp_iload hF dX9_boundNow_30 rfl ?_
    refine pp_iconst hF dX9_boundNow_32 ic_4 ?_
    refine pp_idiv hF dX9_boundNow_33 (by decide) ?_
    refine pp_istore hF dX9_boundNow_34 (by decide) (lv' := [(0, ppR 40 0 0), (1, ppI a1), (2, ppI a2), (3, ppI a3), (4, ppL a4), (6, ppI a6), (7, ppL a7), (9, ppI a9), (10, ppI (a9 / (4 : Int32)))]) rfl ?_
    refine pp_aload_n hF dX9_boundNow_36 rfl rfl ?_
    refine pp_iload hF dX9_boundNow_37 rfl ?_
    refine pp_iload hF dX9_boundNow_39 rfl ?_
    refine pp_iconst hF dX9_boundNow_41 ic_4 ?_
    refine pp_irem hF dX9_boundNow_42 (by decide) ?_
    refine pp_iconst hF dX9_boundNow_43 ic_1 ?_
    refine pp_iadd hF dX9_boundNow_44 ?_
    obtain ⟨x45, hx45, h⟩ := pp_bd h
    refine pp_callVl hF (c_X9_gainOf hx45) mV_X9_gainOf lk_X9_218 obM_40 rfl rfl ⟨by decide, by decide⟩ (Nat.le_of_ble_eq_true rfl) dX9_boundNow_45 ?_
    refine pp_aload_n hF dX9_boundNow_48 rfl rfl ?_
    refine pp_iload hF dX9_boundNow_49 rfl ?_
    refine pp_iload hF dX9_boundNow_51 rfl ?_
    refine pp_iconst hF dX9_boundNow_53 ic_4 ?_
    refine pp_irem hF dX9_boundNow_54 (by decide) ?_
    obtain ⟨x55, hx55, h⟩ := pp_bd h
    refine pp_callVl hF (c_X9_gainOf hx55) mV_X9_gainOf lk_X9_218 obM_40 rfl rfl ⟨by decide, by decide⟩ (Nat.le_of_ble_eq_true rfl) dX9_boundNow_55 ?_
    refine pp_lsub hF dX9_boundNow_58 ?_
    refine pp_lstore hF dX9_boundNow_59 (by decide) (lv' := [(0, ppR 40 0 0), (1, ppI a1), (2, ppI a2), (3, ppI a3), (4, ppL a4), (6, ppI a6), (7, ppL a7), (9, ppI a9), (10, ppI (a9 / (4 : Int32))), (11, ppL (x45.1 - x55.1))]) rfl ?_
    refine pp_iload_n hF dX9_boundNow_61 rfl rfl ?_
    refine pp_iload hF dX9_boundNow_62 rfl ?_
    refine pp_ishr hF dX9_boundNow_64 ?_
    refine pp_iconst hF dX9_boundNow_65 ic_1 ?_
    refine pp_iand hF dX9_boundNow_66 ?_
    refine pp_if_ne (tgt := 119) hF dX9_boundNow_67 rfl (fun c4 => ?_) (fun c4 => ?_)
    · replace h := (if_pos c4).symm.trans h
      refine pp_lload hF dX9_boundNow_70 rfl ?_
      refine pp_lconst hF dX9_boundNow_72 lc_0 ?_
      refine pp_lcmp_le (tgt := 119) hF dX9_boundNow_73 dX9_boundNow_74 rfl (fun c5 => ?_) (fun c5 => ?_)
      · replace h := (if_pos c5).symm.trans h
        refine pp_iload hF dX9_boundNow_77 rfl ?_
        refine pp_iconst hF dX9_boundNow_79 ic_n1 ?_
        refine pp_icmp_eq (tgt := 111) hF dX9_boundNow_80 rfl (fun c6 => ?_) (fun c6 => ?_)
        · replace h := (if_pos c6).symm.trans h
          refine pp_few [0, 1, 2, 3, 4, 7, 9] (lv' := [(0, ppR 40 0 0), (1, ppI a1), (2, ppI a2), (3, ppI a3), (4, ppL a4), (9, ppI a9), (11, ppL (x45.1 - x55.1))]) rfl ?_
          exact e_X9_boundNow_111 hF hR hk14 hk23 h
        · replace h := (if_neg c6).symm.trans h
          refine pp_lload hF dX9_boundNow_83 rfl ?_
          refine pp_aload_n hF dX9_boundNow_85 rfl rfl ?_
          refine pp_getR hF fdM_X9_13 dX9_boundNow_86 ?_
          refine pp_iload hF dX9_boundNow_89 rfl ?_
          refine pp_iconst hF dX9_boundNow_91 ic_4 ?_
          refine pp_idiv hF dX9_boundNow_92 (by decide) ?_
          obtain ⟨hi7, h⟩ := pp_ck h
          refine pp_ialoadJ hF vM_42 hi7 (Nat.zero_add _) dX9_boundNow_93 ?_
          refine pp_i2l hF dX9_boundNow_94 ?_
          refine pp_lmul hF dX9_boundNow_95 ?_
          refine pp_lload hF dX9_boundNow_96 rfl ?_
          refine pp_aload_n hF dX9_boundNow_98 rfl rfl ?_
          refine pp_getR hF fdM_X9_13 dX9_boundNow_99 ?_
          refine pp_iload hF dX9_boundNow_102 rfl ?_
          obtain ⟨hi8, h⟩ := pp_ck h
          refine pp_ialoadJ hF vM_42 hi8 (Nat.zero_add _) dX9_boundNow_104 ?_
          refine pp_i2l hF dX9_boundNow_105 ?_
          refine pp_lmul hF dX9_boundNow_106 ?_
          refine pp_lcmp_le (tgt := 119) hF dX9_boundNow_107 dX9_boundNow_108 rfl (fun c9 => ?_) (fun c9 => ?_)
          · replace h := (if_pos c9).symm.trans h
            refine pp_few [0, 1, 2, 3, 4, 7, 9] (lv' := [(0, ppR 40 0 0), (1, ppI a1), (2, ppI a2), (3, ppI a3), (4, ppL a4), (9, ppI a9), (11, ppL (x45.1 - x55.1))]) rfl ?_
            exact e_X9_boundNow_111 hF hR hk14 hk23 h
          · replace h := (if_neg c9).symm.trans h
            refine pp_few [0, 1, 2, 3, 4, 5, 6, 7] (lv' := [(0, ppR 40 0 0), (1, ppI a1), (2, ppI a2), (3, ppI a3), (4, ppL a4), (6, ppI a6), (7, ppL a7), (9, ppI a9)]) rfl ?_
            exact e_X9_boundNow_119 hF hR hk14 hk23 h
      · replace h := (if_neg c5).symm.trans h
        refine pp_few [0, 1, 2, 3, 4, 5, 6, 7] (lv' := [(0, ppR 40 0 0), (1, ppI a1), (2, ppI a2), (3, ppI a3), (4, ppL a4), (6, ppI a6), (7, ppL a7), (9, ppI a9)]) rfl ?_
        exact e_X9_boundNow_119 hF hR hk14 hk23 h
    · replace h := (if_neg c4).symm.trans h
      refine pp_few [0, 1, 2, 3, 4, 5, 6, 7] (lv' := [(0, ppR 40 0 0), (1, ppI a1), (2, ppI a2), (3, ppI a3), (4, ppL a4), (6, ppI a6), (7, ppL a7), (9, ppI a9)]) rfl ?_
      exact e_X9_boundNow_119 hF hR hk14 hk23 h
  · replace h := (if_neg c1).symm.trans h
    refine pp_iload hF dX9_boundNow_125 rfl ?_
    refine pp_iconst hF dX9_boundNow_127 ic_n1 ?_
    refine pp_icmp_eq (tgt := 135) hF dX9_boundNow_128 rfl (fun c10 => ?_) (fun c10 => ?_)
    · replace h := (if_pos c10).symm.trans h
      refine pp_few [0, 1, 4] (lv' := [(0, ppR 40 0 0), (1, ppI a1), (4, ppL a4)]) rfl ?_
      exact e_X9_boundNow_135 hF hR h
    · replace h := (if_neg c10).symm.trans h
      refine pp_iload_n hF dX9_boundNow_131 rfl rfl ?_
      refine pp_if_ne (tgt := 149) hF dX9_boundNow_132 rfl (fun c11 => ?_) (fun c11 => ?_)
      · replace h := (if_pos c11).symm.trans h
        refine pp_few [0, 1, 4] (lv' := [(0, ppR 40 0 0), (1, ppI a1), (4, ppL a4)]) rfl ?_
        exact e_X9_boundNow_135 hF hR h
      · replace h := (if_neg c11).symm.trans h
        refine pp_aload_n hF dX9_boundNow_149 rfl rfl ?_
        refine pp_getR hF fdM_X9_13 dX9_boundNow_150 ?_
        refine pp_iload hF dX9_boundNow_153 rfl ?_
        refine pp_iconst hF dX9_boundNow_155 ic_4 ?_
        refine pp_idiv hF dX9_boundNow_156 (by decide) ?_
        obtain ⟨hi12, h⟩ := pp_ck h
        refine pp_ialoadJ hF vM_42 hi12 (Nat.zero_add _) dX9_boundNow_157 ?_
        refine pp_istore hF dX9_boundNow_158 (by decide) (lv' := [(0, ppR 40 0 0), (1, ppI a1), (2, ppI a2), (3, ppI a3), (4, ppL a4), (6, ppI a6), (7, ppL a7), (9, ppI (σ.1 42 (a6 / (4 : Int32)).toNatClampNeg))]) rfl ?_
        refine pp_iload hF dX9_boundNow_160 rfl ?_
        refine pp_iload_n hF dX9_boundNow_162 rfl rfl ?_
        refine pp_icmp_le (tgt := 194) hF dX9_boundNow_163 rfl (fun c13 => ?_) (fun c13 => ?_)
        · replace h := (if_pos c13).symm.trans h
          refine pp_lload hF dX9_boundNow_166 rfl ?_
          refine pp_iload hF dX9_boundNow_168 rfl ?_
          refine pp_i2l hF dX9_boundNow_170 ?_
          refine pp_lmul hF dX9_boundNow_171 ?_
          refine pp_lload hF dX9_boundNow_172 rfl ?_
          refine pp_iload_n hF dX9_boundNow_174 rfl rfl ?_
          refine pp_i2l hF dX9_boundNow_175 ?_
          refine pp_lmul hF dX9_boundNow_176 ?_
          refine pp_ladd hF dX9_boundNow_177 ?_
          refine pp_aload_n hF dX9_boundNow_178 rfl rfl ?_
          refine pp_getI hF fdM_X9_184 dX9_boundNow_179 ?_
          obtain ⟨x182, hx182, h⟩ := pp_bd h
          refine pp_callSl hF (c_X9_sixteen hx182) mS_X9_sixteen lk_X9_193 rfl rfl ⟨by decide, by decide⟩ (Nat.le_of_ble_eq_true rfl) dX9_boundNow_182 ?_
          refine pp_iload hF dX9_boundNow_185 rfl ?_
          refine pp_i2l hF dX9_boundNow_187 ?_
          refine pp_lmul hF dX9_boundNow_188 ?_
          refine pp_iload_n hF dX9_boundNow_189 rfl rfl ?_
          obtain ⟨x190, hx190, h⟩ := pp_bd h
          refine pp_callSl hF (c_X9_lowest hx190) mS_X9_lowest lk_X9_214 rfl rfl ⟨by decide, by decide⟩ (Nat.le_of_ble_eq_true rfl) dX9_boundNow_190 ?_
          obtain ⟨rfl, rfl⟩ := pp_i2 h
          exact pp_lreturn hF hR dX9_boundNow_193
        · replace h := (if_neg c13).symm.trans h
          refine pp_iload_n hF dX9_boundNow_194 rfl rfl ?_
          refine pp_iconst hF dX9_boundNow_195 ic_1 ?_
          refine pp_iload hF dX9_boundNow_196 rfl ?_
          refine pp_ishl hF dX9_boundNow_198 ?_
          refine pp_ior hF dX9_boundNow_199 ?_
          refine pp_istore_n hF dX9_boundNow_200 rfl (by decide) (lv' := [(0, ppR 40 0 0), (1, ppI a1), (2, ppI (a2 ||| ((1 : Int32) <<< (a6 &&& 31)))), (3, ppI a3), (4, ppL a4), (6, ppI a6), (7, ppL a7), (9, ppI (σ.1 42 (a6 / (4 : Int32)).toNatClampNeg))]) rfl ?_
          refine pp_iload_n hF dX9_boundNow_201 rfl rfl ?_
          refine pp_iload hF dX9_boundNow_202 rfl ?_
          refine pp_isub hF dX9_boundNow_204 ?_
          refine pp_istore_n hF dX9_boundNow_205 rfl (by decide) (lv' := [(0, ppR 40 0 0), (1, ppI a1), (2, ppI (a2 ||| ((1 : Int32) <<< (a6 &&& 31)))), (3, ppI (a3 - (σ.1 42 (a6 / (4 : Int32)).toNatClampNeg))), (4, ppL a4), (6, ppI a6), (7, ppL a7), (9, ppI (σ.1 42 (a6 / (4 : Int32)).toNatClampNeg))]) rfl ?_
          refine pp_lload hF dX9_boundNow_206 rfl ?_
          refine pp_lload hF dX9_boundNow_208 rfl ?_
          refine pp_ladd hF dX9_boundNow_210 ?_
          refine pp_lstore hF dX9_boundNow_211 (by decide) (lv' := [(0, ppR 40 0 0), (1, ppI a1), (2, ppI (a2 ||| ((1 : Int32) <<< (a6 &&& 31)))), (3, ppI (a3 - (σ.1 42 (a6 / (4 : Int32)).toNatClampNeg))), (4, ppL (a4 + a7)), (6, ppI a6), (7, ppL a7), (9, ppI (σ.1 42 (a6 / (4 : Int32)).toNatClampNeg))]) rfl ?_
          refine pp_goto (tgt := 14) hF dX9_boundNow_213 rfl ?_
          refine pp_few [0, 1, 2, 3, 4] (lv' := [(0, ppR 40 0 0), (1, ppI a1), (2, ppI (a2 ||| ((1 : Int32) <<< (a6 &&& 31)))), (3, ppI (a3 - (σ.1 42 (a6 / (4 : Int32)).toNatClampNeg))), (4, ppL (a4 + a7))]) rfl ?_
          exact hk14 h
set_option maxRecDepth 20000 in
theorem e_X9_boundNow_23_L {Γ : pp_G} {r' : Int64} {σ' : pp_M} (hF : pp_Fx Γ dsM cX9_boundNow 13 RX9 5 115) (hR : pp_Rt Γ dsM (some .long) (some (ppL r')) σ') {k14 : pp_M → Int32 → Int32 → Int32 → Int64 → Option (Int64 × pp_M)} (hk14 : ∀ {σ : pp_M} {a1 : Int32} {a2 : Int32} {a3 : Int32} {a4 : Int64}, k14 σ a1 a2 a3 a4 = some (r', σ') → pp_E Γ dsM cX9_boundNow 13 14 [(0, ppR 40 0 0), (1, ppI a1), (2, ppI a2), (3, ppI a3), (4, ppL a4)] [] σ) : ∀ {n : Nat} {σ : pp_M} {a1 : Int32} {a2 : Int32} {a3 : Int32} {a4 : Int64} {a6 : Int32} {a7 : Int64} {a9 : Int32}, f_X9_boundNow_23 k14 n σ a1 a2 a3 a4 a6 a7 a9 = some (r', σ') → pp_E Γ dsM cX9_boundNow 13 23 [(0, ppR 40 0 0), (1, ppI a1), (2, ppI a2), (3, ppI a3), (4, ppL a4), (6, ppI a6), (7, ppL a7), (9, ppI a9)] [] σ
  | 0, _, _, _, _, _, _, _, _ => fun h => by cases h
  | n + 1, _, _, _, _, _, _, _, _ => fun h => e_X9_boundNow_23 hF hR hk14 (fun h => e_X9_boundNow_23_L hF hR hk14 (n := n) h) h
set_option maxRecDepth 20000 in
theorem e_X9_boundNow_14 {Γ : pp_G} {r' : Int64} {σ' : pp_M} (hF : pp_Fx Γ dsM cX9_boundNow 13 RX9 5 115) (hR : pp_Rt Γ dsM (some .long) (some (ppL r')) σ') {σ : pp_M} {a1 : Int32} {a2 : Int32} {a3 : Int32} {a4 : Int64} {k14 : pp_M → Int32 → Int32 → Int32 → Int64 → Option (Int64 × pp_M)} (hk14 : ∀ {σ : pp_M} {a1 : Int32} {a2 : Int32} {a3 : Int32} {a4 : Int64}, k14 σ a1 a2 a3 a4 = some (r', σ') → pp_E Γ dsM cX9_boundNow 13 14 [(0, ppR 40 0 0), (1, ppI a1), (2, ppI a2), (3, ppI a3), (4, ppL a4)] [] σ) (h : f_X9_boundNow_14_B k14 σ a1 a2 a3 a4 = some (r', σ')) : pp_E Γ dsM cX9_boundNow 13 14 [(0, ppR 40 0 0), (1, ppI a1), (2, ppI a2), (3, ppI a3), (4, ppL a4)] [] σ := by
  unfold f_X9_boundNow_14_B at h
  refine pp_iconst hF dX9_boundNow_14 ic_n1 ?_
  refine pp_istore hF dX9_boundNow_15 (by decide) (lv' := [(0, ppR 40 0 0), (1, ppI a1), (2, ppI a2), (3, ppI a3), (4, ppL a4), (6, ppI (-1 : Int32))]) rfl ?_
  refine pp_lconst hF dX9_boundNow_17 lc_0 ?_
  refine pp_lstore hF dX9_boundNow_18 (by decide) (lv' := [(0, ppR 40 0 0), (1, ppI a1), (2, ppI a2), (3, ppI a3), (4, ppL a4), (6, ppI (-1 : Int32)), (7, ppL (0 : Int64))]) rfl ?_
  refine pp_iconst hF dX9_boundNow_20 ic_0 ?_
  refine pp_istore hF dX9_boundNow_21 (by decide) (lv' := [(0, ppR 40 0 0), (1, ppI a1), (2, ppI a2), (3, ppI a3), (4, ppL a4), (6, ppI (-1 : Int32)), (7, ppL (0 : Int64)), (9, ppI (0 : Int32))]) rfl ?_
  exact e_X9_boundNow_23_L hF hR hk14 h
set_option maxRecDepth 20000 in
theorem e_X9_boundNow_14_L {Γ : pp_G} {r' : Int64} {σ' : pp_M} (hF : pp_Fx Γ dsM cX9_boundNow 13 RX9 5 115) (hR : pp_Rt Γ dsM (some .long) (some (ppL r')) σ') : ∀ {n : Nat} {σ : pp_M} {a1 : Int32} {a2 : Int32} {a3 : Int32} {a4 : Int64}, f_X9_boundNow_14 n σ a1 a2 a3 a4 = some (r', σ') → pp_E Γ dsM cX9_boundNow 13 14 [(0, ppR 40 0 0), (1, ppI a1), (2, ppI a2), (3, ppI a3), (4, ppL a4)] [] σ
  | 0, _, _, _, _, _ => fun h => by cases h
  | n + 1, _, _, _, _, _ => fun h => e_X9_boundNow_14 hF hR (fun h => e_X9_boundNow_14_L hF hR (n := n) h) h
set_option maxRecDepth 20000 in
theorem e_X9_boundNow_0 {Γ : pp_G} {r' : Int64} {σ' : pp_M} (hF : pp_Fx Γ dsM cX9_boundNow 13 RX9 5 115) (hR : pp_Rt Γ dsM (some .long) (some (ppL r')) σ') {σ : pp_M} {a1 : Int32} (h : f_X9_boundNow σ a1 = some (r', σ')) : pp_E Γ dsM cX9_boundNow 13 0 [(0, ppR 40 0 0), (1, ppI a1)] [] σ := by
  unfold f_X9_boundNow at h
  refine pp_aload_n hF dX9_boundNow_0 rfl rfl ?_
  obtain ⟨x1, hx1, h⟩ := pp_bd h
  refine pp_callVv hF (c_X9_looksAtRow hx1) mV_X9_looksAtRow lk_X9_199 obM_40 rfl rfl ⟨by decide, by decide⟩ (Nat.le_of_ble_eq_true rfl) dX9_boundNow_1 ?_
  refine pp_iconst hF dX9_boundNow_4 ic_0 ?_
  refine pp_istore_n hF dX9_boundNow_5 rfl (by decide) (lv' := [(0, ppR 40 0 0), (1, ppI a1), (2, ppI (0 : Int32))]) rfl ?_
  refine pp_aload_n hF dX9_boundNow_6 rfl rfl ?_
  refine pp_getI hF fdM_X9_32 dX9_boundNow_7 ?_
  refine pp_istore_n hF dX9_boundNow_10 rfl (by decide) (lv' := [(0, ppR 40 0 0), (1, ppI a1), (2, ppI (0 : Int32)), (3, ppI (x1.1 40 7))]) rfl ?_
  refine pp_lconst hF dX9_boundNow_11 lc_0 ?_
  refine pp_lstore hF dX9_boundNow_12 (by decide) (lv' := [(0, ppR 40 0 0), (1, ppI a1), (2, ppI (0 : Int32)), (3, ppI (x1.1 40 7)), (4, ppL (0 : Int64))]) rfl ?_
  exact e_X9_boundNow_14_L hF hR h
set_option maxRecDepth 20000 in
theorem c_X9_boundNow {r' : Int64} {σ' : pp_M} {σ : pp_M} {a1 : Int32} (h : f_X9_boundNow σ a1 = some (r', σ')) : pp_Ct yX9_boundNow cX9_boundNow 13 (some .long) 5 115 dsM [ppR 40 0 0, ppI a1] σ (some (ppL r')) σ' := pp_met pl_X9 rfl okM (Nat.le_of_ble_eq_true rfl) rfl (fun Γ hF hR => (e_X9_boundNow_0 hF hR h))
