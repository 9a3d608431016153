set_option maxRecDepth 20000 in
theorem e_X9_bringsNow_0 {Γ : pp_G} {r' : Int64} {σ' : pp_M} (hF : pp_Fx Γ dsM cX9_bringsNow 4 RX9 4 85) (hR : pp_Rt Γ dsM (some .long) (some (ppL r')) σ') {σ : pp_M} {a1 : Int32} (h : f_X9_bringsNow σ a1 = some (r', σ')) : pp_E Γ dsM cX9_bringsNow 4 0 [(0, ppR 40 0 0), (1, ppI a1)] [] σ := by
  unfold f_X9_bringsNow at h
  refine pp_aload_n hF dX9_bringsNow_0 rfl rfl ?_
  refine pp_iconst hF dX9_bringsNow_1 ic_n1 ?_
  obtain ⟨x2, hx2, h⟩ := pp_bd h
  refine pp_callVv hF (c_X9_packs hx2) mV_X9_packs lk_X9_232 obM_40 rfl rfl ⟨by decide, by decide⟩ (Nat.le_of_ble_eq_true rfl) dX9_bringsNow_2 ?_
  refine pp_aload_n hF dX9_bringsNow_5 rfl rfl ?_
  refine pp_getL hF fdM_X9_228 dX9_bringsNow_6 ?_
  refine pp_lstore_n hF dX9_bringsNow_9 rfl (by decide) (lv' := [(0, ppR 40 0 0), (1, ppI a1), (2, ppL (x2.2 40 28))]) rfl ?_
  refine pp_aload_n hF dX9_bringsNow_10 rfl rfl ?_
  refine pp_iload_n hF dX9_bringsNow_11 rfl rfl ?_
  obtain ⟨x12, hx12, h⟩ := pp_bd h
  refine pp_callVv hF (c_X9_packs hx12) mV_X9_packs lk_X9_232 obM_40 rfl rfl ⟨by decide, by decide⟩ (Nat.le_of_ble_eq_true rfl) dX9_bringsNow_12 ?_
  refine pp_lload_n hF dX9_bringsNow_15 rfl rfl ?_
  refine pp_aload_n hF dX9_bringsNow_16 rfl rfl ?_
  refine pp_getL hF fdM_X9_228 dX9_bringsNow_17 ?_
  refine pp_lsub hF dX9_bringsNow_20 ?_
  obtain ⟨rfl, rfl⟩ := pp_i2 h
  exact pp_lreturn hF hR dX9_bringsNow_21
set_option maxRecDepth 20000 in
theorem c_X9_bringsNow {r' : Int64} {σ' : pp_M} {σ : pp_M} {a1 : Int32} (h : f_X9_bringsNow σ a1 = some (r', σ')) : pp_Ct yX9_bringsNow cX9_bringsNow 4 (some .long) 4 85 dsM [ppR 40 0 0, ppI a1] σ (some (ppL r')) σ' := pp_met pl_X9 rfl okM (Nat.le_of_ble_eq_true rfl) rfl (fun Γ hF hR => (e_X9_bringsNow_0 hF hR h))
set_option maxRecDepth 20000 in
theorem e_X9_brings_16 {Γ : pp_G} {r' : Int64} {σ' : pp_M} (hF : pp_Fx Γ dsM cX9_brings 3 RX9 5 115) (hR : pp_Rt Γ dsM (some .long) (some (ppL r')) σ') {σ : pp_M}  (h : f_X9_brings_16 σ  = some (r', σ')) : pp_E Γ dsM cX9_brings 3 16 [] [] σ := by
  unfold f_X9_brings_16 at h
  refine pp_bipush hF dX9_brings_16 bc_n2 ?_
  obtain ⟨x18, hx18, h⟩ := pp_bd h
  refine pp_callSl hF (c_X9_no hx18) mS_X9_no lk_X9_211 rfl rfl ⟨by decide, by decide⟩ (Nat.le_of_ble_eq_true rfl) dX9_brings_18 ?_
  obtain ⟨rfl, rfl⟩ := pp_i2 h
  exact pp_lreturn hF hR dX9_brings_21
set_option maxRecDepth 20000 in
theorem e_X9_brings_0 {Γ : pp_G} {r' : Int64} {σ' : pp_M} (hF : pp_Fx Γ dsM cX9_brings 3 RX9 5 115) (hR : pp_Rt Γ dsM (some .long) (some (ppL r')) σ') {σ : pp_M} {a1 : Int32} {a2 : Int32} (h : f_X9_brings σ a1 a2 = some (r', σ')) : pp_E Γ dsM cX9_brings 3 0 [(0, ppR 40 0 0), (1, ppI a1), (2, ppI a2)] [] σ := by
  unfold f_X9_brings at h
  refine pp_iload_n hF dX9_brings_0 rfl rfl ?_
  obtain ⟨x1, hx1, h⟩ := pp_bd h
  refine pp_callSi hF (c_X9_isThing hx1) mS_X9_isThing lk_X9_118 rfl rfl ⟨by decide, by decide⟩ (Nat.le_of_ble_eq_true rfl) dX9_brings_1 ?_
  refine pp_if_eq (tgt := 16) hF dX9_brings_4 rfl (fun c2 => ?_) (fun c2 => ?_)
  · replace h := (if_pos c2).symm.trans h
    refine pp_few [] (lv' := []) rfl ?_
    exact e_X9_brings_16 hF hR h
  · replace h := (if_neg c2).symm.trans h
    refine pp_iload_n hF dX9_brings_7 rfl rfl ?_
    refine pp_iconst hF dX9_brings_8 ic_0 ?_
    refine pp_iconst hF dX9_brings_9 ic_1 ?_
    obtain ⟨x10, hx10, h⟩ := pp_bd h
    refine pp_callSi hF (c_X9_in hx10) mS_X9_in lk_X9_114 rfl rfl ⟨by decide, by decide⟩ (Nat.le_of_ble_eq_true rfl) dX9_brings_10 ?_
    refine pp_if_ne (tgt := 22) hF dX9_brings_13 rfl (fun c4 => ?_) (fun c4 => ?_)
    · replace h := (if_pos c4).symm.trans h
      refine pp_few [] (lv' := []) rfl ?_
      exact e_X9_brings_16 hF hR h
    · replace h := (if_neg c4).symm.trans h
      refine pp_aload_n hF dX9_brings_22 rfl rfl ?_
      obtain ⟨x23, hx23, h⟩ := pp_bd h
      refine pp_callVv hF (c_X9_looksAtRow hx23) mV_X9_looksAtRow lk_X9_199 obM_40 rfl rfl ⟨by decide, by decide⟩ (Nat.le_of_ble_eq_true rfl) dX9_brings_23 ?_
      refine pp_aload_n hF dX9_brings_26 rfl rfl ?_
      refine pp_iload_n hF dX9_brings_27 rfl rfl ?_
      obtain ⟨x28, hx28, h⟩ := pp_bd h
      refine pp_callVl hF (c_X9_bringsNow hx28) mV_X9_bringsNow lk_X9_293 obM_40 rfl rfl ⟨by decide, by decide⟩ (Nat.le_of_ble_eq_true rfl) dX9_brings_28 ?_
      refine pp_aload_n hF dX9_brings_31 rfl rfl ?_
      refine pp_getI hF fdM_X9_178 dX9_brings_32 ?_
      obtain ⟨x35, hx35, h⟩ := pp_bd h
      refine pp_callSl hF (c_X9_sixteen hx35) mS_X9_sixteen lk_X9_193 rfl rfl ⟨by decide, by decide⟩ (Nat.le_of_ble_eq_true rfl) dX9_brings_35 ?_
      refine pp_iload_n hF dX9_brings_38 rfl rfl ?_
      obtain ⟨x39, hx39, h⟩ := pp_bd h
      refine pp_callSl hF (c_X9_lowest hx39) mS_X9_lowest lk_X9_214 rfl rfl ⟨by decide, by decide⟩ (Nat.le_of_ble_eq_true rfl) dX9_brings_39 ?_
      obtain ⟨rfl, rfl⟩ := pp_i2 h
      exact pp_lreturn hF hR dX9_brings_42
set_option maxRecDepth 20000 in
theorem c_X9_brings {r' : Int64} {σ' : pp_M} {σ : pp_M} {a1 : Int32} {a2 : Int32} (h : f_X9_brings σ a1 a2 = some (r', σ')) : pp_Ct yX9_brings cX9_brings 3 (some .long) 5 115 dsM [ppR 40 0 0, ppI a1, ppI a2] σ (some (ppL r')) σ' := pp_met pl_X9 rfl okM (Nat.le_of_ble_eq_true rfl) rfl (fun Γ hF hR => (e_X9_brings_0 hF hR h))
set_option maxRecDepth 20000 in
theorem e_X9_byteNow_0 {Γ : pp_G} {r' : Int32} {σ' : pp_M} (hF : pp_Fx Γ dsM cX9_byteNow 1 RX9 1 12) (hR : pp_Rt Γ dsM (some .int) (some (ppI r')) σ') {σ : pp_M}  (h : f_X9_byteNow σ  = some (r', σ')) : pp_E Γ dsM cX9_byteNow 1 0 [(0, ppR 40 0 0)] [] σ := by
  unfold f_X9_byteNow at h
  refine pp_aload_n hF dX9_byteNow_0 rfl rfl ?_
  refine pp_getI hF fdM_X9_135 dX9_byteNow_1 ?_
  refine pp_aload_n hF dX9_byteNow_4 rfl rfl ?_
  refine pp_getI hF fdM_X9_132 dX9_byteNow_5 ?_
  refine pp_icmp_ge (tgt := 23) hF dX9_byteNow_8 rfl (fun c1 => ?_) (fun c1 => ?_)
  · replace h := (if_pos c1).symm.trans h
    refine pp_aload_n hF dX9_byteNow_11 rfl rfl ?_
    refine pp_getR hF fdM_X9_44 dX9_byteNow_12 ?_
    refine pp_aload_n hF dX9_byteNow_15 rfl rfl ?_
    refine pp_getI hF fdM_X9_135 dX9_byteNow_16 ?_
    obtain ⟨hi2, h⟩ := pp_ck h
    refine pp_ialoadJ hF vM_49 hi2 (Nat.zero_add _) dX9_byteNow_19 ?_
    refine pp_goto (tgt := 24) hF dX9_byteNow_20 rfl ?_
    obtain ⟨rfl, rfl⟩ := pp_i2 h
    exact pp_ireturn hF hR dX9_byteNow_24
  · replace h := (if_neg c1).symm.trans h
    refine pp_iconst hF dX9_byteNow_23 ic_n1 ?_
    obtain ⟨rfl, rfl⟩ := pp_i2 h
    exact pp_ireturn hF hR dX9_byteNow_24
set_option maxRecDepth 20000 in
theorem c_X9_byteNow {r' : Int32} {σ' : pp_M} {σ : pp_M}  (h : f_X9_byteNow σ  = some (r', σ')) : pp_Ct yX9_byteNow cX9_byteNow 1 (some .int) 1 12 dsM [ppR 40 0 0] σ (some (ppI r')) σ' := pp_met pl_X9 rfl okM (Nat.le_of_ble_eq_true rfl) rfl (fun Γ hF hR => (e_X9_byteNow_0 hF hR h))
set_option maxRecDepth 20000 in
theorem e_X9_isFarm_0 {Γ : pp_G} {r' : Int32} {σ' : pp_M} (hF : pp_Fx Γ dsM cX9_isFarm 1 RX9 2 34) (hR : pp_Rt Γ dsM (some .boolean) (some (ppI r')) σ') {σ : pp_M} {a0 : Int32} (h : f_X9_isFarm σ a0 = some (r', σ')) : pp_E Γ dsM cX9_isFarm 1 0 [(0, ppI a0)] [] σ := by
  unfold f_X9_isFarm at h
  refine pp_iload_n hF dX9_isFarm_0 rfl rfl ?_
  refine pp_iconst hF dX9_isFarm_1 ic_1 ?_
  refine pp_bipush hF dX9_isFarm_2 bc_7 ?_
  obtain ⟨x4, hx4, h⟩ := pp_bd h
  refine pp_callSi hF (c_X9_in hx4) mS_X9_in lk_X9_114 rfl rfl ⟨by decide, by decide⟩ (Nat.le_of_ble_eq_true rfl) dX9_isFarm_4 ?_
  obtain ⟨hb2, h⟩ := pp_ck h
  obtain ⟨rfl, rfl⟩ := pp_i2 h
  exact pp_zreturn hF hR (pp_bn hb2) dX9_isFarm_7
set_option maxRecDepth 20000 in
theorem c_X9_isFarm {r' : Int32} {σ' : pp_M} {σ : pp_M} {a0 : Int32} (h : f_X9_isFarm σ a0 = some (r', σ')) : pp_Ct yX9_isFarm cX9_isFarm 1 (some .boolean) 2 34 dsM [ppI a0] σ (some (ppI r')) σ' := pp_met pl_X9 rfl okM (Nat.le_of_ble_eq_true rfl) rfl (fun Γ hF hR => (e_X9_isFarm_0 hF hR h))
set_option maxRecDepth 20000 in
theorem e_X9_chance_0 {Γ : pp_G} {r' : Int32} {σ' : pp_M} (hF : pp_Fx Γ dsM cX9_chance 4 RX9 3 57) (hR : pp_Rt Γ dsM (some .int) (some (ppI r')) σ') {σ : pp_M} {a1 : Int32} {a2 : Int32} {a3 : Int32} (h : f_X9_chance σ a1 a2 a3 = some (r', σ')) : pp_E Γ dsM cX9_chance 4 0 [(0, ppR 40 0 0), (1, ppI a1), (2, ppI a2), (3, ppI a3)] [] σ := by
  unfold f_X9_chance at h
  refine pp_iload_n hF dX9_chance_0 rfl rfl ?_
  obtain ⟨x1, hx1, h⟩ := pp_bd h
  refine pp_callSi hF (c_X9_isFarm hx1) mS_X9_isFarm lk_X9_168 rfl rfl ⟨by decide, by decide⟩ (Nat.le_of_ble_eq_true rfl) dX9_chance_1 ?_
  refine pp_if_eq (tgt := 33) hF dX9_chance_4 rfl (fun c2 => ?_) (fun c2 => ?_)
  · replace h := (if_pos c2).symm.trans h
    refine pp_bipush hF dX9_chance_33 bc_n2 ?_
    obtain ⟨rfl, rfl⟩ := pp_i2 h
    exact pp_ireturn hF hR dX9_chance_35
  · replace h := (if_neg c2).symm.trans h
    refine pp_iload_n hF dX9_chance_7 rfl rfl ?_
    obtain ⟨x8, hx8, h⟩ := pp_bd h
    refine pp_callSi hF (c_X9_isThing hx8) mS_X9_isThing lk_X9_118 rfl rfl ⟨by decide, by decide⟩ (Nat.le_of_ble_eq_true rfl) dX9_chance_8 ?_
    refine pp_if_eq (tgt := 33) hF dX9_chance_11 rfl (fun c4 => ?_) (fun c4 => ?_)
    · replace h := (if_pos c4).symm.trans h
      refine pp_bipush hF dX9_chance_33 bc_n2 ?_
      obtain ⟨rfl, rfl⟩ := pp_i2 h
      exact pp_ireturn hF hR dX9_chance_35
    · replace h := (if_neg c4).symm.trans h
      refine pp_iload_n hF dX9_chance_14 rfl rfl ?_
      refine pp_iconst hF dX9_chance_15 ic_0 ?_
      refine pp_iconst hF dX9_chance_16 ic_2 ?_
      obtain ⟨x17, hx17, h⟩ := pp_bd h
      refine pp_callSi hF (c_X9_in hx17) mS_X9_in lk_X9_114 rfl rfl ⟨by decide, by decide⟩ (Nat.le_of_ble_eq_true rfl) dX9_chance_17 ?_
      refine pp_if_eq (tgt := 33) hF dX9_chance_20 rfl (fun c6 => ?_) (fun c6 => ?_)
      · replace h := (if_pos c6).symm.trans h
        refine pp_bipush hF dX9_chance_33 bc_n2 ?_
        obtain ⟨rfl, rfl⟩ := pp_i2 h
        exact pp_ireturn hF hR dX9_chance_35
      · replace h := (if_neg c6).symm.trans h
        refine pp_aload_n hF dX9_chance_23 rfl rfl ?_
        refine pp_iload_n hF dX9_chance_24 rfl rfl ?_
        refine pp_iload_n hF dX9_chance_25 rfl rfl ?_
        refine pp_iload_n hF dX9_chance_26 rfl rfl ?_
        obtain ⟨x27, hx27, h⟩ := pp_bd h
        refine pp_callVi hF (c_X9_chanceNow hx27) mV_X9_chanceNow lk_X9_175 obM_40 rfl rfl ⟨by decide, by decide⟩ (Nat.le_of_ble_eq_true rfl) dX9_chance_27 ?_
        refine pp_goto (tgt := 35) hF dX9_chance_30 rfl ?_
        obtain ⟨rfl, rfl⟩ := pp_i2 h
        exact pp_ireturn hF hR dX9_chance_35
set_option maxRecDepth 20000 in
theorem c_X9_chance {r' : Int32} {σ' : pp_M} {σ : pp_M} {a1 : Int32} {a2 : Int32} {a3 : Int32} (h : f_X9_chance σ a1 a2 a3 = some (r', σ')) : pp_Ct yX9_chance cX9_chance 4 (some .int) 3 57 dsM [ppR 40 0 0, ppI a1, ppI a2, ppI a3] σ (some (ppI r')) σ' := pp_met pl_X9 rfl okM (Nat.le_of_ble_eq_true rfl) rfl (fun Γ hF hR => (e_X9_chance_0 hF hR h))
set_option maxRecDepth 20000 in
theorem e_X9_isSheet_0 {Γ : pp_G} {r' : Int32} {σ' : pp_M} (hF : pp_Fx Γ dsM cX9_isSheet 1 RX9 2 34) (hR : pp_Rt Γ dsM (some .boolean) (some (ppI r')) σ') {σ : pp_M} {a0 : Int32} (h : f_X9_isSheet σ a0 = some (r', σ')) : pp_E Γ dsM cX9_isSheet 1 0 [(0, ppI a0)] [] σ := by
  unfold f_X9_isSheet at h
  refine pp_iload_n hF dX9_isSheet_0 rfl rfl ?_
  refine pp_iconst hF dX9_isSheet_1 ic_0 ?_
  refine pp_iconst hF dX9_isSheet_2 ic_3 ?_
  obtain ⟨x3, hx3, h⟩ := pp_bd h
  refine pp_callSi hF (c_X9_in hx3) mS_X9_in lk_X9_114 rfl rfl ⟨by decide, by decide⟩ (Nat.le_of_ble_eq_true rfl) dX9_isSheet_3 ?_
  obtain ⟨hb2, h⟩ := pp_ck h
  obtain ⟨rfl, rfl⟩ := pp_i2 h
  exact pp_zreturn hF hR (pp_bn hb2) dX9_isSheet_6
set_option maxRecDepth 20000 in
theorem c_X9_isSheet {r' : Int32} {σ' : pp_M} {σ : pp_M} {a0 : Int32} (h : f_X9_isSheet σ a0 = some (r', σ')) : pp_Ct yX9_isSheet cX9_isSheet 1 (some .boolean) 2 34 dsM [ppI a0] σ (some (ppI r')) σ' := pp_met pl_X9 rfl okM (Nat.le_of_ble_eq_true rfl) rfl (fun Γ hF hR => (e_X9_isSheet_0 hF hR h))
set_option maxRecDepth 20000 in
theorem e_X9_meets_0 {Γ : pp_G} {r' : Int32} {σ' : pp_M} (hF : pp_Fx Γ dsM cX9_meets 2 RX9 1 12) (hR : pp_Rt Γ dsM (some .int) (some (ppI r')) σ') {σ : pp_M} {a1 : Int32} (h : f_X9_meets σ a1 = some (r', σ')) : pp_E Γ dsM cX9_meets 2 0 [(0, ppR 40 0 0), (1, ppI a1)] [] σ := by
  unfold f_X9_meets at h
  refine pp_aload_n hF dX9_meets_0 rfl rfl ?_
  refine pp_iload_n hF dX9_meets_1 rfl rfl ?_
  refine pp_putI hF fwM_X9_299 dX9_meets_2 ?_
  refine pp_bipush hF dX9_meets_5 bc_n10 ?_
  refine pp_iload_n hF dX9_meets_7 rfl rfl ?_
  refine pp_isub hF dX9_meets_8 ?_
  obtain ⟨rfl, rfl⟩ := pp_i2 h
  exact pp_ireturn hF hR dX9_meets_9
set_option maxRecDepth 20000 in
theorem c_X9_meets {r' : Int32} {σ' : pp_M} {σ : pp_M} {a1 : Int32} (h : f_X9_meets σ a1 = some (r', σ')) : pp_Ct yX9_meets cX9_meets 2 (some .int) 1 12 dsM [ppR 40 0 0, ppI a1] σ (some (ppI r')) σ' := pp_met pl_X9 rfl okM (Nat.le_of_ble_eq_true rfl) rfl (fun Γ hF hR => (e_X9_meets_0 hF hR h))
set_option maxRecDepth 20000 in
theorem e_X9_copy_157 {Γ : pp_G} {r' : Int32} {σ' : pp_M} (hF : pp_Fx Γ dsM cX9_copy 7 RX9 3 54) (hR : pp_Rt Γ dsM (some .int) (some (ppI r')) σ') {σ : pp_M} {a3 : Int32} {a4 : Int32} {a5 : Int32} {a6 : Int32} {k157 : pp_M → Int32 → Int32 → Int32 → Int32 → Option (Int32 × pp_M)} (hk157 : ∀ {σ : pp_M} {a3 : Int32} {a4 : Int32} {a5 : Int32} {a6 : Int32}, k157 σ a3 a4 a5 a6 = some (r', σ') → pp_E Γ dsM cX9_copy 7 157 [(0, ppR 40 0 0), (3, ppI a3), (4, ppI a4), (5, ppI a5), (6, ppI a6)] [] σ) (h : f_X9_copy_157_B k157 σ a3 a4 a5 a6 = some (r', σ')) : pp_E Γ dsM cX9_copy 7 157 [(0, ppR 40 0 0), (3, ppI a3), (4, ppI a4), (5, ppI a5), (6, ppI a6)] [] σ := by
  unfold f_X9_copy_157_B at h
  refine pp_iload hF dX9_copy_157 rfl ?_
  refine pp_iload hF dX9_copy_159 rfl ?_
  refine pp_icmp_ge (tgt := 192) hF dX9_copy_161 rfl (fun c1 => ?_) (fun c1 => ?_)
  · replace h := (if_pos c1).symm.trans h
    refine pp_aload_n hF dX9_copy_164 rfl rfl ?_
    refine pp_getR hF fdM_X9_106 dX9_copy_165 ?_
    refine pp_bipush hF dX9_copy_168 bc_40 ?_
    refine pp_iload_n hF dX9_copy_170 rfl rfl ?_
    refine pp_imul hF dX9_copy_171 ?_
    refine pp_iload hF dX9_copy_172 rfl ?_
    refine pp_iadd hF dX9_copy_174 ?_
    refine pp_iload hF dX9_copy_175 rfl ?_
    refine pp_iadd hF dX9_copy_177 ?_
    refine pp_aload_n hF dX9_copy_178 rfl rfl ?_
    refine pp_getR hF fdM_X9_109 dX9_copy_179 ?_
    refine pp_iload hF dX9_copy_182 rfl ?_
    obtain ⟨hi2, h⟩ := pp_ck h
    refine pp_ialoadJ hF vM_70 hi2 (Nat.zero_add _) dX9_copy_184 ?_
    obtain ⟨hi3, h⟩ := pp_ck h
    refine pp_iastoreJ hF vM_69 hi3 (Nat.zero_add _) dX9_copy_185 ?_
    refine pp_iinc hF dX9_copy_186 rfl (congrArg (HAdd.hAdd _) ic_1) (by decide) (lv' := [(0, ppR 40 0 0), (3, ppI a3), (4, ppI a4), (5, ppI a5), (6, ppI (a6 + (1 : Int32)))]) rfl ?_
    refine pp_goto (tgt := 157) hF dX9_copy_189 rfl ?_
    exact hk157 h
  · replace h := (if_neg c1).symm.trans h
    refine pp_iconst hF dX9_copy_192 ic_1 ?_
    obtain ⟨rfl, rfl⟩ := pp_i2 h
    exact pp_ireturn hF hR dX9_copy_193
set_option maxRecDepth 20000 in
theorem e_X9_copy_157_L {Γ : pp_G} {r' : Int32} {σ' : pp_M} (hF : pp_Fx Γ dsM cX9_copy 7 RX9 3 54) (hR : pp_Rt Γ dsM (some .int) (some (ppI r')) σ') : ∀ {n : Nat} {σ : pp_M} {a3 : Int32} {a4 : Int32} {a5 : Int32} {a6 : Int32}, f_X9_copy_157 n σ a3 a4 a5 a6 = some (r', σ') → pp_E Γ dsM cX9_copy 7 157 [(0, ppR 40 0 0), (3, ppI a3), (4, ppI a4), (5, ppI a5), (6, ppI a6)] [] σ
  | 0, _, _, _, _, _ => fun h => by cases h
  | n + 1, _, _, _, _, _ => fun h => e_X9_copy_157 hF hR (fun h => e_X9_copy_157_L hF hR (n := n) h) h
set_option maxRecDepth 20000 in
theorem e_X9_copy_120 {Γ : pp_G} {r' : Int32} {σ' : pp_M} (hF : pp_Fx Γ dsM cX9_copy 7 RX9 3 54) (hR : pp_Rt Γ dsM (some .int) (some (ppI r')) σ') {σ : pp_M} {a1 : Int32} {a2 : Int32} {a3 : Int32} {a4 : Int32} {a5 : Int32} {a6 : Int32} {k120 : pp_M → Int32 → Int32 → Int32 → Int32 → Int32 → Int32 → Option (Int32 × pp_M)} (hk120 : ∀ {σ : pp_M} {a1 : Int32} {a2 : Int32} {a3 : Int32} {a4 : Int32} {a5 : Int32} {a6 : Int32}, k120 σ a1 a2 a3 a4 a5 a6 = some (r', σ') → pp_E Γ dsM cX9_copy 7 120 [(0, ppR 40 0 0), (1, ppI a1), (2, ppI a2), (3, ppI a3), (4, ppI a4), (5, ppI a5), (6, ppI a6)] [] σ) (h : f_X9_copy_120_B k120 σ a1 a2 a3 a4 a5 a6 = some (r', σ')) : pp_E Γ dsM cX9_copy 7 120 [(0, ppR 40 0 0), (1, ppI a1), (2, ppI a2), (3, ppI a3), (4, ppI a4), (5, ppI a5), (6, ppI a6)] [] σ := by
  unfold f_X9_copy_120_B at h
  refine pp_iload hF dX9_copy_120 rfl ?_
  refine pp_iload hF dX9_copy_122 rfl ?_
  refine pp_icmp_ge (tgt := 154) hF dX9_copy_124 rfl (fun c1 => ?_) (fun c1 => ?_)
  · replace h := (if_pos c1).symm.trans h
    refine pp_aload_n hF dX9_copy_127 rfl rfl ?_
    refine pp_getR hF fdM_X9_109 dX9_copy_128 ?_
    refine pp_iload hF dX9_copy_131 rfl ?_
    refine pp_aload_n hF dX9_copy_133 rfl rfl ?_
    refine pp_getR hF fdM_X9_106 dX9_copy_134 ?_
    refine pp_bipush hF dX9_copy_137 bc_40 ?_
    refine pp_iload_n hF dX9_copy_139 rfl rfl ?_
    refine pp_imul hF dX9_copy_140 ?_
    refine pp_iload_n hF dX9_copy_141 rfl rfl ?_
    refine pp_iadd hF dX9_copy_142 ?_
    refine pp_iload hF dX9_copy_143 rfl ?_
    refine pp_iadd hF dX9_copy_145 ?_
    obtain ⟨hi2, h⟩ := pp_ck h
    refine pp_ialoadJ hF vM_69 hi2 (Nat.zero_add _) dX9_copy_146 ?_
    obtain ⟨hi3, h⟩ := pp_ck h
    refine pp_iastoreJ hF vM_70 hi3 (Nat.zero_add _) dX9_copy_147 ?_
    refine pp_iinc hF dX9_copy_148 rfl (congrArg (HAdd.hAdd _) ic_1) (by decide) (lv' := [(0, ppR 40 0 0), (1, ppI a1), (2, ppI a2), (3, ppI a3), (4, ppI a4), (5, ppI a5), (6, ppI (a6 + (1 : Int32)))]) rfl ?_
    refine pp_goto (tgt := 120) hF dX9_copy_151 rfl ?_
    exact hk120 h
  · replace h := (if_neg c1).symm.trans h
    refine pp_iconst hF dX9_copy_154 ic_0 ?_
    refine pp_istore hF dX9_copy_155 (by decide) (lv' := [(0, ppR 40 0 0), (1, ppI a1), (2, ppI a2), (3, ppI a3), (4, ppI a4), (5, ppI a5), (6, ppI (0 : Int32))]) rfl ?_
    refine pp_few [0, 3, 4, 5, 6] (lv' := [(0, ppR 40 0 0), (3, ppI a3), (4, ppI a4), (5, ppI a5), (6, ppI (0 : Int32))]) rfl ?_
    exact e_X9_copy_157_L hF hR h
set_option maxRecDepth 20000 in
theorem e_X9_copy_120_L {Γ : pp_G} {r' : Int32} {σ' : pp_M} (hF : pp_Fx Γ dsM cX9_copy 7 RX9 3 54) (hR : pp_Rt Γ dsM (some .int) (some (ppI r')) σ') : ∀ {n : Nat} {σ : pp_M} {a1 : Int32} {a2 : Int32} {a3 : Int32} {a4 : Int32} {a5 : Int32} {a6 : Int32}, f_X9_copy_120 n σ a1 a2 a3 a4 a5 a6 = some (r', σ') → pp_E Γ dsM cX9_copy 7 120 [(0, ppR 40 0 0), (1, ppI a1), (2, ppI a2), (3, ppI a3), (4, ppI a4), (5, ppI a5), (6, ppI a6)] [] σ
  | 0, _, _, _, _, _, _, _ => fun h => by cases h
  | n + 1, _, _, _, _, _, _, _ => fun h => e_X9_copy_120 hF hR (fun h => e_X9_copy_120_L hF hR (n := n) h) h
set_option maxRecDepth 20000 in
theorem e_X9_copy_111 {Γ : pp_G} {r' : Int32} {σ' : pp_M} (hF : pp_Fx Γ dsM cX9_copy 7 RX9 3 54) (hR : pp_Rt Γ dsM (some .int) (some (ppI r')) σ') {σ : pp_M}  (h : f_X9_copy_111 σ  = some (r', σ')) : pp_E Γ dsM cX9_copy 7 111 [(0, ppR 40 0 0)] [] σ := by
  unfold f_X9_copy_111 at h
  refine pp_aload_n hF dX9_copy_111 rfl rfl ?_
  refine pp_iconst hF dX9_copy_112 ic_2 ?_
  obtain ⟨x113, hx113, h⟩ := pp_bd h
  refine pp_callVi hF (c_X9_meets hx113) mV_X9_meets lk_X9_171 obM_40 rfl rfl ⟨by decide, by decide⟩ (Nat.le_of_ble_eq_true rfl) dX9_copy_113 ?_
  obtain ⟨rfl, rfl⟩ := pp_i2 h
  exact pp_ireturn hF hR dX9_copy_116
set_option maxRecDepth 20000 in
theorem e_X9_copy_35 {Γ : pp_G} {r' : Int32} {σ' : pp_M} (hF : pp_Fx Γ dsM cX9_copy 7 RX9 3 54) (hR : pp_Rt Γ dsM (some .int) (some (ppI r')) σ') {σ : pp_M}  (h : f_X9_copy_35 σ  = some (r', σ')) : pp_E Γ dsM cX9_copy 7 35 [(0, ppR 40 0 0)] [] σ := by
  unfold f_X9_copy_35 at h
  refine pp_aload_n hF dX9_copy_35 rfl rfl ?_
  refine pp_iconst hF dX9_copy_36 ic_1 ?_
  obtain ⟨x37, hx37, h⟩ := pp_bd h
  refine pp_callVi hF (c_X9_meets hx37) mV_X9_meets lk_X9_171 obM_40 rfl rfl ⟨by decide, by decide⟩ (Nat.le_of_ble_eq_true rfl) dX9_copy_37 ?_
  obtain ⟨rfl, rfl⟩ := pp_i2 h
  exact pp_ireturn hF hR dX9_copy_40
set_option maxRecDepth 20000 in
theorem e_X9_copy_0 {Γ : pp_G} {r' : Int32} {σ' : pp_M} (hF : pp_Fx Γ dsM cX9_copy 7 RX9 3 54) (hR : pp_Rt Γ dsM (some .int) (some (ppI r')) σ') {σ : pp_M} {a1 : Int32} {a2 : Int32} {a3 : Int32} {a4 : Int32} {a5 : Int32} (h : f_X9_copy σ a1 a2 a3 a4 a5 = some (r', σ')) : pp_E Γ dsM cX9_copy 7 0 [(0, ppR 40 0 0), (1, ppI a1), (2, ppI a2), (3, ppI a3), (4, ppI a4), (5, ppI a5)] [] σ := by
  unfold f_X9_copy at h
  refine pp_iload_n hF dX9_copy_0 rfl rfl ?_
  obtain ⟨x1, hx1, h⟩ := pp_bd h
  refine pp_callSi hF (c_X9_isSheet hx1) mS_X9_isSheet lk_X9_165 rfl rfl ⟨by decide, by decide⟩ (Nat.le_of_ble_eq_true rfl) dX9_copy_1 ?_
  refine pp_if_eq (tgt := 14) hF dX9_copy_4 rfl (fun c2 => ?_) (fun c2 => ?_)
  · replace h := (if_pos c2).symm.trans h
    refine pp_bipush hF dX9_copy_14 bc_n2 ?_
    obtain ⟨rfl, rfl⟩ := pp_i2 h
    exact pp_ireturn hF hR dX9_copy_16
  · replace h := (if_neg c2).symm.trans h
    refine pp_iload_n hF dX9_copy_7 rfl rfl ?_
    obtain ⟨x8, hx8, h⟩ := pp_bd h
    refine pp_callSi hF (c_X9_isSheet hx8) mS_X9_isSheet lk_X9_165 rfl rfl ⟨by decide, by decide⟩ (Nat.le_of_ble_eq_true rfl) dX9_copy_8 ?_
    refine pp_if_ne (tgt := 17) hF dX9_copy_11 rfl (fun c4 => ?_) (fun c4 => ?_)
    · replace h := (if_pos c4).symm.trans h
      refine pp_bipush hF dX9_copy_14 bc_n2 ?_
      obtain ⟨rfl, rfl⟩ := pp_i2 h
      exact pp_ireturn hF hR dX9_copy_16
    · replace h := (if_neg c4).symm.trans h
      refine pp_aload_n hF dX9_copy_17 rfl rfl ?_
      refine pp_getR hF fdM_X9_96 dX9_copy_18 ?_
      refine pp_iload_n hF dX9_copy_21 rfl rfl ?_
      obtain ⟨hi5, h⟩ := pp_ck h
      refine pp_baloadJ hF vM_66 hi5 (Nat.zero_add _) dX9_copy_22 ?_
      refine pp_if_eq (tgt := 35) hF dX9_copy_23 rfl (fun c6 => ?_) (fun c6 => ?_)
      · replace h := (if_pos c6).symm.trans h
        refine pp_few [0] (lv' := [(0, ppR 40 0 0)]) rfl ?_
        exact e_X9_copy_35 hF hR h
      · replace h := (if_neg c6).symm.trans h
        refine pp_aload_n hF dX9_copy_26 rfl rfl ?_
        refine pp_getR hF fdM_X9_96 dX9_copy_27 ?_
        refine pp_iload_n hF dX9_copy_30 rfl rfl ?_
        obtain ⟨hi7, h⟩ := pp_ck h
        refine pp_baloadJ hF vM_66 hi7 (Nat.zero_add _) dX9_copy_31 ?_
        refine pp_if_ne (tgt := 41) hF dX9_copy_32 rfl (fun c8 => ?_) (fun c8 => ?_)
        · replace h := (if_pos c8).symm.trans h
          refine pp_few [0] (lv' := [(0, ppR 40 0 0)]) rfl ?_
          exact e_X9_copy_35 hF hR h
        · replace h := (if_neg c8).symm.trans h
          refine pp_aload_n hF dX9_copy_41 rfl rfl ?_
          refine pp_getR hF fdM_X9_100 dX9_copy_42 ?_
          refine pp_iload_n hF dX9_copy_45 rfl rfl ?_
          refine pp_ialoadJ hF vM_67 hi5 (Nat.zero_add _) dX9_copy_46 ?_
          refine pp_aload_n hF dX9_copy_47 rfl rfl ?_
          refine pp_getR hF fdM_X9_100 dX9_copy_48 ?_
          refine pp_iload_n hF dX9_copy_51 rfl rfl ?_
          refine pp_ialoadJ hF vM_67 hi7 (Nat.zero_add _) dX9_copy_52 ?_
          refine pp_icmp_eq (tgt := 62) hF dX9_copy_53 rfl (fun c9 => ?_) (fun c9 => ?_)
          · replace h := (if_pos c9).symm.trans h
            refine pp_iload_n hF dX9_copy_62 rfl rfl ?_
            refine pp_if_lt (tgt := 111) hF dX9_copy_63 rfl (fun c10 => ?_) (fun c10 => ?_)
            · replace h := (if_pos c10).symm.trans h
              refine pp_few [0] (lv' := [(0, ppR 40 0 0)]) rfl ?_
              exact e_X9_copy_111 hF hR h
            · replace h := (if_neg c10).symm.trans h
              refine pp_iload hF dX9_copy_66 rfl ?_
              refine pp_if_lt (tgt := 111) hF dX9_copy_68 rfl (fun c11 => ?_) (fun c11 => ?_)
              · replace h := (if_pos c11).symm.trans h
                refine pp_few [0] (lv' := [(0, ppR 40 0 0)]) rfl ?_
                exact e_X9_copy_111 hF hR h
              · replace h := (if_neg c11).symm.trans h
                refine pp_iload hF dX9_copy_71 rfl ?_
                refine pp_if_lt (tgt := 111) hF dX9_copy_73 rfl (fun c12 => ?_) (fun c12 => ?_)
                · replace h := (if_pos c12).symm.trans h
                  refine pp_few [0] (lv' := [(0, ppR 40 0 0)]) rfl ?_
                  exact e_X9_copy_111 hF hR h
                · replace h := (if_neg c12).symm.trans h
                  refine pp_iload_n hF dX9_copy_76 rfl rfl ?_
                  refine pp_i2l hF dX9_copy_77 ?_
                  refine pp_iload hF dX9_copy_78 rfl ?_
                  refine pp_i2l hF dX9_copy_80 ?_
                  refine pp_ladd hF dX9_copy_81 ?_
                  refine pp_aload_n hF dX9_copy_82 rfl rfl ?_
                  refine pp_getR hF fdM_X9_103 dX9_copy_83 ?_
                  refine pp_iload_n hF dX9_copy_86 rfl rfl ?_
                  refine pp_ialoadJ hF vM_68 hi5 (Nat.zero_add _) dX9_copy_87 ?_
                  refine pp_i2l hF dX9_copy_88 ?_
                  refine pp_lcmp_gt (tgt := 111) hF dX9_copy_89 dX9_copy_90 rfl (fun c13 => ?_) (fun c13 => ?_)
                  · replace h := (if_pos c13).symm.trans h
                    refine pp_few [0] (lv' := [(0, ppR 40 0 0)]) rfl ?_
                    exact e_X9_copy_111 hF hR h
                  · replace h := (if_neg c13).symm.trans h
                    refine pp_iload hF dX9_copy_93 rfl ?_
                    refine pp_i2l hF dX9_copy_95 ?_
                    refine pp_iload hF dX9_copy_96 rfl ?_
                    refine pp_i2l hF dX9_copy_98 ?_
                    refine pp_ladd hF dX9_copy_99 ?_
                    refine pp_aload_n hF dX9_copy_100 rfl rfl ?_
                    refine pp_getR hF fdM_X9_103 dX9_copy_101 ?_
                    refine pp_iload_n hF dX9_copy_104 rfl rfl ?_
                    refine pp_ialoadJ hF vM_68 hi7 (Nat.zero_add _) dX9_copy_105 ?_
                    refine pp_i2l hF dX9_copy_106 ?_
                    refine pp_lcmp_le (tgt := 117) hF dX9_copy_107 dX9_copy_108 rfl (fun c14 => ?_) (fun c14 => ?_)
                    · replace h := (if_pos c14).symm.trans h
                      refine pp_few [0] (lv' := [(0, ppR 40 0 0)]) rfl ?_
                      exact e_X9_copy_111 hF hR h
                    · replace h := (if_neg c14).symm.trans h
                      refine pp_iconst hF dX9_copy_117 ic_0 ?_
                      refine pp_istore hF dX9_copy_118 (by decide) (lv' := [(0, ppR 40 0 0), (1, ppI a1), (2, ppI a2), (3, ppI a3), (4, ppI a4), (5, ppI a5), (6, ppI (0 : Int32))]) rfl ?_
                      exact e_X9_copy_120_L hF hR h
          · replace h := (if_neg c9).symm.trans h
            refine pp_aload_n hF dX9_copy_56 rfl rfl ?_
            refine pp_iconst hF dX9_copy_57 ic_4 ?_
            obtain ⟨x58, hx58, h⟩ := pp_bd h
            refine pp_callVi hF (c_X9_meets hx58) mV_X9_meets lk_X9_171 obM_40 rfl rfl ⟨by decide, by decide⟩ (Nat.le_of_ble_eq_true rfl) dX9_copy_58 ?_
            obtain ⟨rfl, rfl⟩ := pp_i2 h
            exact pp_ireturn hF hR dX9_copy_61
set_option maxRecDepth 20000 in
theorem c_X9_copy {r' : Int32} {σ' : pp_M} {σ : pp_M} {a1 : Int32} {a2 : Int32} {a3 : Int32} {a4 : Int32} {a5 : Int32} (h : f_X9_copy σ a1 a2 a3 a4 a5 = some (r', σ')) : pp_Ct yX9_copy cX9_copy 7 (some .int) 3 54 dsM [ppR 40 0 0, ppI a1, ppI a2, ppI a3, ppI a4, ppI a5] σ (some (ppI r')) σ' := pp_met pl_X9 rfl okM (Nat.le_of_ble_eq_true rfl) rfl (fun Γ hF hR => (e_X9_copy_0 hF hR h))
set_option maxRecDepth 20000 in
theorem e_X9_countNow_92 {Γ : pp_G} {r' : Int32} {σ' : pp_M} (hF : pp_Fx Γ dsM cX9_countNow 5 RX9 3 57) (hR : pp_Rt Γ dsM (some .int) (some (ppI r')) σ') {σ : pp_M} {a3 : Int32} {a4 : Int32} {b0 : Int32} {b1 : Int32} {k54 : pp_M → Int32 → Int32 → Option (Int32 × pp_M)} (hk54 : ∀ {σ : pp_M} {a2 : Int32} {a3 : Int32}, k54 σ a2 a3 = some (r', σ') → pp_E Γ dsM cX9_countNow 5 54 [(0, ppR 40 0 0), (2, ppI a2), (3, ppI a3)] [] σ) {k63 : pp_M → Int32 → Int32 → Int32 → Option (Int32 × pp_M)} (hk63 : ∀ {σ : pp_M} {a2 : Int32} {a3 : Int32} {a4 : Int32}, k63 σ a2 a3 a4 = some (r', σ') → pp_E Γ dsM cX9_countNow 5 63 [(0, ppR 40 0 0), (2, ppI a2), (3, ppI a3), (4, ppI a4)] [] σ) (h : f_X9_countNow_92 k54 k63 σ a3 a4 b0 b1 = some (r', σ')) : pp_E Γ dsM cX9_countNow 5 92 [(0, ppR 40 0 0), (3, ppI a3), (4, ppI a4)] [ppI b1, ppI b0] σ := by
  unfold f_X9_countNow_92 at h
  refine pp_iadd hF dX9_countNow_92 ?_
  refine pp_istore_n hF dX9_countNow_93 rfl (by decide) (lv' := [(0, ppR 40 0 0), (2, ppI (b0 + b1)), (3, ppI a3), (4, ppI a4)]) rfl ?_
  refine pp_iinc hF dX9_countNow_94 rfl (congrArg (HAdd.hAdd _) ic_1) (by decide) (lv' := [(0, ppR 40 0 0), (2, ppI (b0 + b1)), (3, ppI a3), (4, ppI (a4 + (1 : Int32)))]) rfl ?_
  refine pp_goto (tgt := 63) hF dX9_countNow_97 rfl ?_
  exact hk63 h
set_option maxRecDepth 20000 in
theorem e_X9_countNow_63 {Γ : pp_G} {r' : Int32} {σ' : pp_M} (hF : pp_Fx Γ dsM cX9_countNow 5 RX9 3 57) (hR : pp_Rt Γ dsM (some .int) (some (ppI r')) σ') {σ : pp_M} {a2 : Int32} {a3 : Int32} {a4 : Int32} {k54 : pp_M → Int32 → Int32 → Option (Int32 × pp_M)} (hk54 : ∀ {σ : pp_M} {a2 : Int32} {a3 : Int32}, k54 σ a2 a3 = some (r', σ') → pp_E Γ dsM cX9_countNow 5 54 [(0, ppR 40 0 0), (2, ppI a2), (3, ppI a3)] [] σ) {k63 : pp_M → Int32 → Int32 → Int32 → Option (Int32 × pp_M)} (hk63 : ∀ {σ : pp_M} {a2 : Int32} {a3 : Int32} {a4 : Int32}, k63 σ a2 a3 a4 = some (r', σ') → pp_E Γ dsM cX9_countNow 5 63 [(0, ppR 40 0 0), (2, ppI a2), (3, ppI a3), (4, ppI a4)] [] σ) (h : f_X9_countNow_63_B k54 k63 σ a2 a3 a4 = some (r', σ')) : pp_E Γ dsM cX9_countNow 5 63 [(0, ppR 40 0 0), (2, ppI a2), (3, ppI a3), (4, ppI a4)] [] σ := by
  unfold f_X9_countNow_63_B at h
  refine pp_iload hF dX9_countNow_63 rfl ?_
  refine pp_bipush hF dX9_countNow_65 bc_18 ?_
  refine pp_icmp_ge (tgt := 100) hF dX9_countNow_67 rfl (fun c1 => ?_) (fun c1 => ?_)
  · replace h := (if_pos c1).symm.trans h
    refine pp_iload_n hF dX9_countNow_70 rfl rfl ?_
    refine pp_aload_n hF dX9_countNow_71 rfl rfl ?_
    refine pp_iload_n hF dX9_countNow_72 rfl rfl ?_
    refine pp_iload hF dX9_countNow_73 rfl ?_
    refine pp_iconst hF dX9_countNow_75 ic_3 ?_
    refine pp_idiv hF dX9_countNow_76 (by decide) ?_
    refine pp_iload hF dX9_countNow_77 rfl ?_
    refine pp_iconst hF dX9_countNow_79 ic_3 ?_
    refine pp_irem hF dX9_countNow_80 (by decide) ?_
    obtain ⟨x81, hx81, h⟩ := pp_bd h
    refine pp_callVi hF (c_X9_chanceNow hx81) mV_X9_chanceNow lk_X9_175 obM_40 rfl rfl ⟨by decide, by decide⟩ (Nat.le_of_ble_eq_true rfl) dX9_countNow_81 ?_
    refine pp_if_le (tgt := 91) hF dX9_countNow_84 rfl (fun c3 => ?_) (fun c3 => ?_)
    · replace h := (if_pos c3).symm.trans h
      refine pp_iconst hF dX9_countNow_87 ic_1 ?_
      refine pp_goto (tgt := 92) hF dX9_countNow_88 rfl ?_
      refine pp_few [0, 2, 3] (lv' := [(0, ppR 40 0 0), (3, ppI a3), (4, ppI a4)]) rfl ?_
      exact e_X9_countNow_92 hF hR hk54 hk63 h
    · replace h := (if_neg c3).symm.trans h
      refine pp_iconst hF dX9_countNow_91 ic_0 ?_
      refine pp_few [0, 2, 3] (lv' := [(0, ppR 40 0 0), (3, ppI a3), (4, ppI a4)]) rfl ?_
      exact e_X9_countNow_92 hF hR hk54 hk63 h
  · replace h := (if_neg c1).symm.trans h
    refine pp_iinc hF dX9_countNow_100 rfl (congrArg (HAdd.hAdd _) ic_1) (by decide) (lv' := [(0, ppR 40 0 0), (2, ppI a2), (3, ppI (a3 + (1 : Int32))), (4, ppI a4)]) rfl ?_
    refine pp_goto (tgt := 54) hF dX9_countNow_103 rfl ?_
    refine pp_few [0, 1, 2] (lv' := [(0, ppR 40 0 0), (2, ppI a2), (3, ppI (a3 + (1 : Int32)))]) rfl ?_
    exact hk54 h
set_option maxRecDepth 20000 in
theorem e_X9_countNow_63_L {Γ : pp_G} {r' : Int32} {σ' : pp_M} (hF : pp_Fx Γ dsM cX9_countNow 5 RX9 3 57) (hR : pp_Rt Γ dsM (some .int) (some (ppI r')) σ') {k54 : pp_M → Int32 → Int32 → Option (Int32 × pp_M)} (hk54 : ∀ {σ : pp_M} {a2 : Int32} {a3 : Int32}, k54 σ a2 a3 = some (r', σ') → pp_E Γ dsM cX9_countNow 5 54 [(0, ppR 40 0 0), (2, ppI a2), (3, ppI a3)] [] σ) : ∀ {n : Nat} {σ : pp_M} {a2 : Int32} {a3 : Int32} {a4 : Int32}, f_X9_countNow_63 k54 n σ a2 a3 a4 = some (r', σ') → pp_E Γ dsM cX9_countNow 5 63 [(0, ppR 40 0 0), (2, ppI a2), (3, ppI a3), (4, ppI a4)] [] σ
  | 0, _, _, _, _ => fun h => by cases h
  | n + 1, _, _, _, _ => fun h => e_X9_countNow_63 hF hR hk54 (fun h => e_X9_countNow_63_L hF hR hk54 (n := n) h) h
set_option maxRecDepth 20000 in
theorem e_X9_countNow_54 {Γ : pp_G} {r' : Int32} {σ' : pp_M} (hF : pp_Fx Γ dsM cX9_countNow 5 RX9 3 57) (hR : pp_Rt Γ dsM (some .int) (some (ppI r')) σ') {σ : pp_M} {a2 : Int32} {a3 : Int32} {k54 : pp_M → Int32 → Int32 → Option (Int32 × pp_M)} (hk54 : ∀ {σ : pp_M} {a2 : Int32} {a3 : Int32}, k54 σ a2 a3 = some (r', σ') → pp_E Γ dsM cX9_countNow 5 54 [(0, ppR 40 0 0), (2, ppI a2), (3, ppI a3)] [] σ) (h : f_X9_countNow_54_B k54 σ a2 a3 = some (r', σ')) : pp_E Γ dsM cX9_countNow 5 54 [(0, ppR 40 0 0), (2, ppI a2), (3, ppI a3)] [] σ := by
  unfold f_X9_countNow_54_B at h
  refine pp_iload_n hF dX9_countNow_54 rfl rfl ?_
  refine pp_bipush hF dX9_countNow_55 bc_7 ?_
  refine pp_icmp_gt (tgt := 106) hF dX9_countNow_57 rfl (fun c1 => ?_) (fun c1 => ?_)
  · replace h := (if_pos c1).symm.trans h
    refine pp_iload_n hF dX9_countNow_106 rfl rfl ?_
    obtain ⟨rfl, rfl⟩ := pp_i2 h
    exact pp_ireturn hF hR dX9_countNow_107
  · replace h := (if_neg c1).symm.trans h
    refine pp_iconst hF dX9_countNow_60 ic_0 ?_
    refine pp_istore hF dX9_countNow_61 (by decide) (lv' := [(0, ppR 40 0 0), (2, ppI a2), (3, ppI a3), (4, ppI (0 : Int32))]) rfl ?_
    exact e_X9_countNow_63_L hF hR hk54 h
set_option maxRecDepth 20000 in
theorem e_X9_countNow_54_L {Γ : pp_G} {r' : Int32} {σ' : pp_M} (hF : pp_Fx Γ dsM cX9_countNow 5 RX9 3 57) (hR : pp_Rt Γ dsM (some .int) (some (ppI r')) σ') : ∀ {n : Nat} {σ : pp_M} {a2 : Int32} {a3 : Int32}, f_X9_countNow_54 n σ a2 a3 = some (r', σ') → pp_E Γ dsM cX9_countNow 5 54 [(0, ppR 40 0 0), (2, ppI a2), (3, ppI a3)] [] σ
  | 0, _, _, _ => fun h => by cases h
  | n + 1, _, _, _ => fun h => e_X9_countNow_54 hF hR (fun h => e_X9_countNow_54_L hF hR (n := n) h) h
set_option maxRecDepth 20000 in
theorem e_X9_countNow_41 {Γ : pp_G} {r' : Int32} {σ' : pp_M} (hF : pp_Fx Γ dsM cX9_countNow 5 RX9 3 57) (hR : pp_Rt Γ dsM (some .int) (some (ppI r')) σ') {σ : pp_M} {a3 : Int32} {b0 : Int32} {b1 : Int32} {k9 : pp_M → Int32 → Int32 → Option (Int32 × pp_M)} (hk9 : ∀ {σ : pp_M} {a2 : Int32} {a3 : Int32}, k9 σ a2 a3 = some (r', σ') → pp_E Γ dsM cX9_countNow 5 9 [(0, ppR 40 0 0), (2, ppI a2), (3, ppI a3)] [] σ) (h : f_X9_countNow_41 k9 σ a3 b0 b1 = some (r', σ')) : pp_E Γ dsM cX9_countNow 5 41 [(0, ppR 40 0 0), (3, ppI a3)] [ppI b1, ppI b0] σ := by
  unfold f_X9_countNow_41 at h
  refine pp_iadd hF dX9_countNow_41 ?_
  refine pp_istore_n hF dX9_countNow_42 rfl (by decide) (lv' := [(0, ppR 40 0 0), (2, ppI (b0 + b1)), (3, ppI a3)]) rfl ?_
  refine pp_iinc hF dX9_countNow_43 rfl (congrArg (HAdd.hAdd _) ic_1) (by decide) (lv' := [(0, ppR 40 0 0), (2, ppI (b0 + b1)), (3, ppI (a3 + (1 : Int32)))]) rfl ?_
  refine pp_goto (tgt := 9) hF dX9_countNow_46 rfl ?_
  exact hk9 h
set_option maxRecDepth 20000 in
theorem e_X9_countNow_40 {Γ : pp_G} {r' : Int32} {σ' : pp_M} (hF : pp_Fx Γ dsM cX9_countNow 5 RX9 3 57) (hR : pp_Rt Γ dsM (some .int) (some (ppI r')) σ') {σ : pp_M} {a3 : Int32} {b0 : Int32} {k9 : pp_M → Int32 → Int32 → Option (Int32 × pp_M)} (hk9 : ∀ {σ : pp_M} {a2 : Int32} {a3 : Int32}, k9 σ a2 a3 = some (r', σ') → pp_E Γ dsM cX9_countNow 5 9 [(0, ppR 40 0 0), (2, ppI a2), (3, ppI a3)] [] σ) (h : f_X9_countNow_40 k9 σ a3 b0 = some (r', σ')) : pp_E Γ dsM cX9_countNow 5 40 [(0, ppR 40 0 0), (3, ppI a3)] [ppI b0] σ := by
  unfold f_X9_countNow_40 at h
  refine pp_iconst hF dX9_countNow_40 ic_0 ?_
  exact e_X9_countNow_41 hF hR hk9 h
set_option maxRecDepth 20000 in
theorem e_X9_countNow_9 {Γ : pp_G} {r' : Int32} {σ' : pp_M} (hF : pp_Fx Γ dsM cX9_countNow 5 RX9 3 57) (hR : pp_Rt Γ dsM (some .int) (some (ppI r')) σ') {σ : pp_M} {a2 : Int32} {a3 : Int32} {k9 : pp_M → Int32 → Int32 → Option (Int32 × pp_M)} (hk9 : ∀ {σ : pp_M} {a2 : Int32} {a3 : Int32}, k9 σ a2 a3 = some (r', σ') → pp_E Γ dsM cX9_countNow 5 9 [(0, ppR 40 0 0), (2, ppI a2), (3, ppI a3)] [] σ) (h : f_X9_countNow_9_B k9 σ a2 a3 = some (r', σ')) : pp_E Γ dsM cX9_countNow 5 9 [(0, ppR 40 0 0), (2, ppI a2), (3, ppI a3)] [] σ := by
  unfold f_X9_countNow_9_B at h
  refine pp_iload_n hF dX9_countNow_9 rfl rfl ?_
  refine pp_bipush hF dX9_countNow_10 bc_64 ?_
  refine pp_icmp_ge (tgt := 49) hF dX9_countNow_12 rfl (fun c1 => ?_) (fun c1 => ?_)
  · replace h := (if_pos c1).symm.trans h
    refine pp_iload_n hF dX9_countNow_15 rfl rfl ?_
    refine pp_iload_n hF dX9_countNow_16 rfl rfl ?_
    refine pp_bipush hF dX9_countNow_17 bc_8 ?_
    refine pp_idiv hF dX9_countNow_19 (by decide) ?_
    refine pp_iload_n hF dX9_countNow_20 rfl rfl ?_
    refine pp_bipush hF dX9_countNow_21 bc_8 ?_
    refine pp_irem hF dX9_countNow_23 (by decide) ?_
    refine pp_icmp_ge (tgt := 40) hF dX9_countNow_24 rfl (fun c2 => ?_) (fun c2 => ?_)
    · replace h := (if_pos c2).symm.trans h
      refine pp_aload_n hF dX9_countNow_27 rfl rfl ?_
      refine pp_getR hF fdM_X9_22 dX9_countNow_28 ?_
      refine pp_iload_n hF dX9_countNow_31 rfl rfl ?_
      obtain ⟨hi3, h⟩ := pp_ck h
      refine pp_ialoadJ hF vM_45 hi3 (Nat.zero_add _) dX9_countNow_32 ?_
      refine pp_if_le (tgt := 40) hF dX9_countNow_33 rfl (fun c4 => ?_) (fun c4 => ?_)
      · replace h := (if_pos c4).symm.trans h
        refine pp_iconst hF dX9_countNow_36 ic_1 ?_
        refine pp_goto (tgt := 41) hF dX9_countNow_37 rfl ?_
        refine pp_few [0, 2] (lv' := [(0, ppR 40 0 0), (3, ppI a3)]) rfl ?_
        exact e_X9_countNow_41 hF hR hk9 h
      · replace h := (if_neg c4).symm.trans h
        refine pp_few [0, 2] (lv' := [(0, ppR 40 0 0), (3, ppI a3)]) rfl ?_
        exact e_X9_countNow_40 hF hR hk9 h
    · replace h := (if_neg c2).symm.trans h
      refine pp_few [0, 2] (lv' := [(0, ppR 40 0 0), (3, ppI a3)]) rfl ?_
      exact e_X9_countNow_40 hF hR hk9 h
  · replace h := (if_neg c1).symm.trans h
    refine pp_goto (tgt := 106) hF dX9_countNow_49 rfl ?_
    refine pp_iload_n hF dX9_countNow_106 rfl rfl ?_
    obtain ⟨rfl, rfl⟩ := pp_i2 h
    exact pp_ireturn hF hR dX9_countNow_107
set_option maxRecDepth 20000 in
theorem e_X9_countNow_9_L {Γ : pp_G} {r' : Int32} {σ' : pp_M} (hF : pp_Fx Γ dsM cX9_countNow 5 RX9 3 57) (hR : pp_Rt Γ dsM (some .int) (some (ppI r')) σ') : ∀ {n : Nat} {σ : pp_M} {a2 : Int32} {a3 : Int32}, f_X9_countNow_9 n σ a2 a3 = some (r', σ') → pp_E Γ dsM cX9_countNow 5 9 [(0, ppR 40 0 0), (2, ppI a2), (3, ppI a3)] [] σ
  | 0, _, _, _ => fun h => by cases h
  | n + 1, _, _, _ => fun h => e_X9_countNow_9 hF hR (fun h => e_X9_countNow_9_L hF hR (n := n) h) h
set_option maxRecDepth 20000 in
theorem e_X9_countNow_0 {Γ : pp_G} {r' : Int32} {σ' : pp_M} (hF : pp_Fx Γ dsM cX9_countNow 5 RX9 3 57) (hR : pp_Rt Γ dsM (some .int) (some (ppI r')) σ') {σ : pp_M} {a1 : Int32} (h : f_X9_countNow σ a1 = some (r', σ')) : pp_E Γ dsM cX9_countNow 5 0 [(0, ppR 40 0 0), (1, ppI a1)] [] σ := by
  unfold f_X9_countNow at h
  refine pp_iconst hF dX9_countNow_0 ic_0 ?_
  refine pp_istore_n hF dX9_countNow_1 rfl (by decide) (lv' := [(0, ppR 40 0 0), (1, ppI a1), (2, ppI (0 : Int32))]) rfl ?_
  refine pp_iload_n hF dX9_countNow_2 rfl rfl ?_
  refine pp_iconst hF dX9_countNow_3 ic_2 ?_
  refine pp_icmp_ne (tgt := 52) hF dX9_countNow_4 rfl (fun c1 => ?_) (fun c1 => ?_)
  · replace h := (if_pos c1).symm.trans h
    refine pp_iconst hF dX9_countNow_7 ic_0 ?_
    refine pp_istore_n hF dX9_countNow_8 rfl (by decide) (lv' := [(0, ppR 40 0 0), (1, ppI a1), (2, ppI (0 : Int32)), (3, ppI (0 : Int32))]) rfl ?_
    refine pp_few [0, 2, 3] (lv' := [(0, ppR 40 0 0), (2, ppI (0 : Int32)), (3, ppI (0 : Int32))]) rfl ?_
    exact e_X9_countNow_9_L hF hR h
  · replace h := (if_neg c1).symm.trans h
    refine pp_iconst hF dX9_countNow_52 ic_1 ?_
    refine pp_istore_n hF dX9_countNow_53 rfl (by decide) (lv' := [(0, ppR 40 0 0), (1, ppI a1), (2, ppI (0 : Int32)), (3, ppI (1 : Int32))]) rfl ?_
    refine pp_few [0, 2, 3] (lv' := [(0, ppR 40 0 0), (2, ppI (0 : Int32)), (3, ppI (1 : Int32))]) rfl ?_
    exact e_X9_countNow_54_L hF hR h
set_option maxRecDepth 20000 in
theorem c_X9_countNow {r' : Int32} {σ' : pp_M} {σ : pp_M} {a1 : Int32} (h : f_X9_countNow σ a1 = some (r', σ')) : pp_Ct yX9_countNow cX9_countNow 5 (some .int) 3 57 dsM [ppR 40 0 0, ppI a1] σ (some (ppI r')) σ' := pp_met pl_X9 rfl okM (Nat.le_of_ble_eq_true rfl) rfl (fun Γ hF hR => (e_X9_countNow_0 hF hR h))
set_option maxRecDepth 20000 in
theorem e_X9_packWeight_4 {Γ : pp_G} {r' : Int32} {σ' : pp_M} (hF : pp_Fx Γ dsM cX9_packWeight 3 RX9 1 12) (hR : pp_Rt Γ dsM (some .int) (some (ppI r')) σ') {σ : pp_M} {a1 : Int32} {a2 : Int32} {k4 : pp_M → Int32 → Int32 → Option (Int32 × pp_M)} (hk4 : ∀ {σ : pp_M} {a1 : Int32} {a2 : Int32}, k4 σ a1 a2 = some (r', σ') → pp_E Γ dsM cX9_packWeight 3 4 [(0, ppR 40 0 0), (1, ppI a1), (2, ppI a2)] [] σ) (h : f_X9_packWeight_4_B k4 σ a1 a2 = some (r', σ')) : pp_E Γ dsM cX9_packWeight 3 4 [(0, ppR 40 0 0), (1, ppI a1), (2, ppI a2)] [] σ := by
  unfold f_X9_packWeight_4_B at h
  refine pp_iload_n hF dX9_packWeight_4 rfl rfl ?_
  refine pp_bipush hF dX9_packWeight_5 bc_6 ?_
  refine pp_icmp_ge (tgt := 32) hF dX9_packWeight_7 rfl (fun c1 => ?_) (fun c1 => ?_)
  · replace h := (if_pos c1).symm.trans h
    refine pp_iload_n hF dX9_packWeight_10 rfl rfl ?_
    refine pp_aload_n hF dX9_packWeight_11 rfl rfl ?_
    refine pp_getR hF fdM_X9_59 dX9_packWeight_12 ?_
    refine pp_iload_n hF dX9_packWeight_15 rfl rfl ?_
    obtain ⟨hi2, h⟩ := pp_ck h
    refine pp_ialoadJ hF vM_54 hi2 (Nat.zero_add _) dX9_packWeight_16 ?_
    refine pp_aload_n hF dX9_packWeight_17 rfl rfl ?_
    refine pp_getR hF fdM_X9_13 dX9_packWeight_18 ?_
    refine pp_iload_n hF dX9_packWeight_21 rfl rfl ?_
    refine pp_ialoadJ hF vM_42 hi2 (Nat.zero_add _) dX9_packWeight_22 ?_
    refine pp_imul hF dX9_packWeight_23 ?_
    refine pp_iadd hF dX9_packWeight_24 ?_
    refine pp_istore_n hF dX9_packWeight_25 rfl (by decide) (lv' := [(0, ppR 40 0 0), (1, ppI (a1 + ((σ.1 54 a2.toNatClampNeg) * (σ.1 42 a2.toNatClampNeg)))), (2, ppI a2)]) rfl ?_
    refine pp_iinc hF dX9_packWeight_26 rfl (congrArg (HAdd.hAdd _) ic_1) (by decide) (lv' := [(0, ppR 40 0 0), (1, ppI (a1 + ((σ.1 54 a2.toNatClampNeg) * (σ.1 42 a2.toNatClampNeg)))), (2, ppI (a2 + (1 : Int32)))]) rfl ?_
    refine pp_goto (tgt := 4) hF dX9_packWeight_29 rfl ?_
    exact hk4 h
  · replace h := (if_neg c1).symm.trans h
    refine pp_iload_n hF dX9_packWeight_32 rfl rfl ?_
    obtain ⟨rfl, rfl⟩ := pp_i2 h
    exact pp_ireturn hF hR dX9_packWeight_33
set_option maxRecDepth 20000 in
theorem e_X9_packWeight_4_L {Γ : pp_G} {r' : Int32} {σ' : pp_M} (hF : pp_Fx Γ dsM cX9_packWeight 3 RX9 1 12) (hR : pp_Rt Γ dsM (some .int) (some (ppI r')) σ') : ∀ {n : Nat} {σ : pp_M} {a1 : Int32} {a2 : Int32}, f_X9_packWeight_4 n σ a1 a2 = some (r', σ') → pp_E Γ dsM cX9_packWeight 3 4 [(0, ppR 40 0 0), (1, ppI a1), (2, ppI a2)] [] σ
  | 0, _, _, _ => fun h => by cases h
  | n + 1, _, _, _ => fun h => e_X9_packWeight_4 hF hR (fun h => e_X9_packWeight_4_L hF hR (n := n) h) h
set_option maxRecDepth 20000 in
theorem e_X9_packWeight_0 {Γ : pp_G} {r' : Int32} {σ' : pp_M} (hF : pp_Fx Γ dsM cX9_packWeight 3 RX9 1 12) (hR : pp_Rt Γ dsM (some .int) (some (ppI r')) σ') {σ : pp_M}  (h : f_X9_packWeight σ  = some (r', σ')) : pp_E Γ dsM cX9_packWeight 3 0 [(0, ppR 40 0 0)] [] σ := by
  unfold f_X9_packWeight at h
  refine pp_iconst hF dX9_packWeight_0 ic_0 ?_
  refine pp_istore_n hF dX9_packWeight_1 rfl (by decide) (lv' := [(0, ppR 40 0 0), (1, ppI (0 : Int32))]) rfl ?_
  refine pp_iconst hF dX9_packWeight_2 ic_0 ?_
  refine pp_istore_n hF dX9_packWeight_3 rfl (by decide) (lv' := [(0, ppR 40 0 0), (1, ppI (0 : Int32)), (2, ppI (0 : Int32))]) rfl ?_
  exact e_X9_packWeight_4_L hF hR h
set_option maxRecDepth 20000 in
theorem c_X9_packWeight {r' : Int32} {σ' : pp_M} {σ : pp_M}  (h : f_X9_packWeight σ  = some (r', σ')) : pp_Ct yX9_packWeight cX9_packWeight 3 (some .int) 1 12 dsM [ppR 40 0 0] σ (some (ppI r')) σ' := pp_met pl_X9 rfl okM (Nat.le_of_ble_eq_true rfl) rfl (fun Γ hF hR => (e_X9_packWeight_0 hF hR h))
set_option maxRecDepth 20000 in
theorem e_X9_count_0 {Γ : pp_G} {r' : Int32} {σ' : pp_M} (hF : pp_Fx Γ dsM cX9_count 2 RX9 4 81) (hR : pp_Rt Γ dsM (some .int) (some (ppI r')) σ') {σ : pp_M} {a1 : Int32} (h : f_X9_count σ a1 = some (r', σ')) : pp_E Γ dsM cX9_count 2 0 [(0, ppR 40 0 0), (1, ppI a1)] [] σ := by
  unfold f_X9_count at h
  refine pp_iload_n hF dX9_count_0 rfl rfl ?_
  refine pp_tsw9 hF dX9_count_1 rfl rfl rfl rfl rfl rfl rfl rfl rfl rfl (fun c1 => ?_) (fun c1 => ?_) (fun c1 => ?_) (fun c1 => ?_) (fun c1 => ?_) (fun c1 => ?_) (fun c1 => ?_) (fun c1 => ?_) (fun c1 => ?_) (fun n0 n1 n2 n3 n4 n5 n6 n7 n8 => ?_)
  · subst c1
    replace h := (if_pos rfl).symm.trans h
    refine pp_aload_n hF dX9_count_52 rfl rfl ?_
    refine pp_getI hF fdM_X9_178 dX9_count_53 ?_
    obtain ⟨rfl, rfl⟩ := pp_i2 h
    exact pp_ireturn hF hR dX9_count_56
  · subst c1
    replace h := (if_neg (by decide)).symm.trans h
    replace h := (if_pos rfl).symm.trans h
    refine pp_aload_n hF dX9_count_57 rfl rfl ?_
    obtain ⟨x58, hx58, h⟩ := pp_bd h
    refine pp_callVi hF (c_X9_packWeight hx58) mV_X9_packWeight lk_X9_181 obM_40 rfl rfl ⟨by decide, by decide⟩ (Nat.le_of_ble_eq_true rfl) dX9_count_58 ?_
    obtain ⟨rfl, rfl⟩ := pp_i2 h
    exact pp_ireturn hF hR dX9_count_61
  · subst c1
    replace h := (if_neg (by decide)).symm.trans h
    replace h := (if_neg (by decide)).symm.trans h
    replace h := (if_pos rfl).symm.trans h
    refine pp_aload_n hF dX9_count_62 rfl rfl ?_
    refine pp_iload_n hF dX9_count_63 rfl rfl ?_
    obtain ⟨x64, hx64, h⟩ := pp_bd h
    refine pp_callVi hF (c_X9_countNow hx64) mV_X9_countNow lk_X9_310 obM_40 rfl rfl ⟨by decide, by decide⟩ (Nat.le_of_ble_eq_true rfl) dX9_count_64 ?_
    obtain ⟨rfl, rfl⟩ := pp_i2 h
    exact pp_ireturn hF hR dX9_count_67
  · subst c1
    replace h := (if_neg (by decide)).symm.trans h
    replace h := (if_neg (by decide)).symm.trans h
    replace h := (if_neg (by decide)).symm.trans h
    replace h := (if_pos rfl).symm.trans h
    refine pp_aload_n hF dX9_count_62 rfl rfl ?_
    refine pp_iload_n hF dX9_count_63 rfl rfl ?_
    obtain ⟨x64, hx64, h⟩ := pp_bd h
    refine pp_callVi hF (c_X9_countNow hx64) mV_X9_countNow lk_X9_310 obM_40 rfl rfl ⟨by decide, by decide⟩ (Nat.le_of_ble_eq_true rfl) dX9_count_64 ?_
    obtain ⟨rfl, rfl⟩ := pp_i2 h
    exact pp_ireturn hF hR dX9_count_67
  · subst c1
    replace h := (if_neg (by decide)).symm.trans h
    replace h := (if_neg (by decide)).symm.trans h
    replace h := (if_neg (by decide)).symm.trans h
    replace h := (if_neg (by decide)).symm.trans h
    replace h := (if_pos rfl).symm.trans h
    refine pp_aload_n hF dX9_count_68 rfl rfl ?_
    refine pp_getI hF fdM_X9_132 dX9_count_69 ?_
    obtain ⟨rfl, rfl⟩ := pp_i2 h
    exact pp_ireturn hF hR dX9_count_72
  · subst c1
    replace h := (if_neg (by decide)).symm.trans h
    replace h := (if_neg (by decide)).symm.trans h
    replace h := (if_neg (by decide)).symm.trans h
    replace h := (if_neg (by decide)).symm.trans h
    replace h := (if_neg (by decide)).symm.trans h
    replace h := (if_pos rfl).symm.trans h
    refine pp_aload_n hF dX9_count_73 rfl rfl ?_
    refine pp_getI hF fdM_X9_28 dX9_count_74 ?_
    obtain ⟨rfl, rfl⟩ := pp_i2 h
    exact pp_ireturn hF hR dX9_count_77
  · subst c1
    replace h := (if_neg (by decide)).symm.trans h
    replace h := (if_neg (by decide)).symm.trans h
    replace h := (if_neg (by decide)).symm.trans h
    replace h := (if_neg (by decide)).symm.trans h
    replace h := (if_neg (by decide)).symm.trans h
    replace h := (if_neg (by decide)).symm.trans h
    replace h := (if_pos rfl).symm.trans h
    refine pp_aload_n hF dX9_count_78 rfl rfl ?_
    refine pp_getI hF fdM_X9_32 dX9_count_79 ?_
    obtain ⟨rfl, rfl⟩ := pp_i2 h
    exact pp_ireturn hF hR dX9_count_82
  · subst c1
    replace h := (if_neg (by decide)).symm.trans h
    replace h := (if_neg (by decide)).symm.trans h
    replace h := (if_neg (by decide)).symm.trans h
    replace h := (if_neg (by decide)).symm.trans h
    replace h := (if_neg (by decide)).symm.trans h
    replace h := (if_neg (by decide)).symm.trans h
    replace h := (if_neg (by decide)).symm.trans h
    replace h := (if_pos rfl).symm.trans h
    refine pp_aload_n hF dX9_count_83 rfl rfl ?_
    refine pp_getI hF fdM_X9_35 dX9_count_84 ?_
    obtain ⟨rfl, rfl⟩ := pp_i2 h
    exact pp_ireturn hF hR dX9_count_87
  · subst c1
    replace h := (if_neg (by decide)).symm.trans h
    replace h := (if_neg (by decide)).symm.trans h
    replace h := (if_neg (by decide)).symm.trans h
    replace h := (if_neg (by decide)).symm.trans h
    replace h := (if_neg (by decide)).symm.trans h
    replace h := (if_neg (by decide)).symm.trans h
    replace h := (if_neg (by decide)).symm.trans h
    replace h := (if_neg (by decide)).symm.trans h
    replace h := (if_pos rfl).symm.trans h
    refine pp_aload_n hF dX9_count_88 rfl rfl ?_
    refine pp_getI hF fdM_X9_299 dX9_count_89 ?_
    obtain ⟨rfl, rfl⟩ := pp_i2 h
    exact pp_ireturn hF hR dX9_count_92
  · replace h := (if_neg n0).symm.trans h
    replace h := (if_neg n1).symm.trans h
    replace h := (if_neg n2).symm.trans h
    replace h := (if_neg n3).symm.trans h
    replace h := (if_neg n4).symm.trans h
    replace h := (if_neg n5).symm.trans h
    replace h := (if_neg n6).symm.trans h
    replace h := (if_neg n7).symm.trans h
    replace h := (if_neg n8).symm.trans h
    refine pp_bipush hF dX9_count_93 bc_n2 ?_
    obtain ⟨rfl, rfl⟩ := pp_i2 h
    exact pp_ireturn hF hR dX9_count_95
set_option maxRecDepth 20000 in
theorem c_X9_count {r' : Int32} {σ' : pp_M} {σ : pp_M} {a1 : Int32} (h : f_X9_count σ a1 = some (r', σ')) : pp_Ct yX9_count cX9_count 2 (some .int) 4 81 dsM [ppR 40 0 0, ppI a1] σ (some (ppI r')) σ' := pp_met pl_X9 rfl okM (Nat.le_of_ble_eq_true rfl) rfl (fun Γ hF hR => (e_X9_count_0 hF hR h))
set_option maxRecDepth 20000 in
theorem e_X9_expects_0 {Γ : pp_G} {σ' : pp_M} (hF : pp_Fx Γ dsM cX9_expects 2 RX9 2 32) (hR : pp_Rt Γ dsM none none σ') {σ : pp_M} {a1 : Int32} (h : f_X9_expects σ a1 = some σ') : pp_E Γ dsM cX9_expects 2 0 [(0, ppR 40 0 0), (1, ppI a1)] [] σ := by
  unfold f_X9_expects at h
  refine pp_aload_n hF dX9_expects_0 rfl rfl ?_
  refine pp_getI hF fdM_X9_138 dX9_expects_1 ?_
  refine pp_iconst hF dX9_expects_4 ic_n1 ?_
  refine pp_icmp_ne (tgt := 24) hF dX9_expects_5 rfl (fun c1 => ?_) (fun c1 => ?_)
  · replace h := (if_pos c1).symm.trans h
    refine pp_aload_n hF dX9_expects_8 rfl rfl ?_
    obtain ⟨x9, hx9, h⟩ := pp_bd h
    refine pp_callVi hF (c_X9_byteNow hx9) mV_X9_byteNow lk_X9_141 obM_40 rfl rfl ⟨by decide, by decide⟩ (Nat.le_of_ble_eq_true rfl) dX9_expects_9 ?_
    refine pp_iload_n hF dX9_expects_12 rfl rfl ?_
    refine pp_icmp_eq (tgt := 24) hF dX9_expects_13 rfl (fun c3 => ?_) (fun c3 => ?_)
    · replace h := (if_pos c3).symm.trans h
      refine pp_aload_n hF dX9_expects_24 rfl rfl ?_
      refine pp_dupR hF dX9_expects_25 ?_
      refine pp_getI hF fdM_X9_135 dX9_expects_26 ?_
      refine pp_iconst hF dX9_expects_29 ic_1 ?_
      refine pp_iadd hF dX9_expects_30 ?_
      refine pp_putI hF fwM_X9_135 dX9_expects_31 ?_
      obtain rfl := (Option.some.inj h).symm
      exact pp_return hF hR dX9_expects_34
    · replace h := (if_neg c3).symm.trans h
      refine pp_aload_n hF dX9_expects_16 rfl rfl ?_
      refine pp_aload_n hF dX9_expects_17 rfl rfl ?_
      refine pp_getI hF fdM_X9_135 dX9_expects_18 ?_
      refine pp_putI hF fwM_X9_138 dX9_expects_21 ?_
      refine pp_aload_n hF dX9_expects_24 rfl rfl ?_
      refine pp_dupR hF dX9_expects_25 ?_
      refine pp_getI hF fdM_X9_135 dX9_expects_26 ?_
      refine pp_iconst hF dX9_expects_29 ic_1 ?_
      refine pp_iadd hF dX9_expects_30 ?_
      refine pp_putI hF fwM_X9_135 dX9_expects_31 ?_
      obtain rfl := (Option.some.inj h).symm
      exact pp_return hF hR dX9_expects_34
  · replace h := (if_neg c1).symm.trans h
    refine pp_aload_n hF dX9_expects_24 rfl rfl ?_
    refine pp_dupR hF dX9_expects_25 ?_
    refine pp_getI hF fdM_X9_135 dX9_expects_26 ?_
    refine pp_iconst hF dX9_expects_29 ic_1 ?_
    refine pp_iadd hF dX9_expects_30 ?_
    refine pp_putI hF fwM_X9_135 dX9_expects_31 ?_
    obtain rfl := (Option.some.inj h).symm
    exact pp_return hF hR dX9_expects_34
set_option maxRecDepth 20000 in
theorem c_X9_expects {σ' : pp_M} {σ : pp_M} {a1 : Int32} (h : f_X9_expects σ a1 = some σ') : pp_Ct yX9_expects cX9_expects 2 none 2 32 dsM [ppR 40 0 0, ppI a1] σ none σ' := pp_met pl_X9 rfl okM (Nat.le_of_ble_eq_true rfl) rfl (fun Γ hF hR => (e_X9_expects_0 hF hR h))
set_option maxRecDepth 20000 in
theorem e_X9_number_74 {Γ : pp_G} {r' : Int32} {σ' : pp_M} (hF : pp_Fx Γ dsM cX9_number 6 RX9 2 34) (hR : pp_Rt Γ dsM (some .int) (some (ppI r')) σ') {σ : pp_M} {a2 : Int32} {a3 : Int32} {a4 : Int32} {a5 : Int32} (h : f_X9_number_74 σ a2 a3 a4 a5 = some (r', σ')) : pp_E Γ dsM cX9_number 6 74 [(0, ppR 40 0 0), (2, ppI a2), (3, ppI a3), (4, ppI a4), (5, ppI a5)] [] σ := by
  unfold f_X9_number_74 at h
  refine pp_aload_n hF dX9_number_74 rfl rfl ?_
  refine pp_getI hF fdM_X9_138 dX9_number_75 ?_
  refine pp_iconst hF dX9_number_78 ic_n1 ?_
  refine pp_icmp_ne (tgt := 107) hF dX9_number_79 rfl (fun c1 => ?_) (fun c1 => ?_)
  · replace h := (if_pos c1).symm.trans h
    refine pp_aload_n hF dX9_number_82 rfl rfl ?_
    refine pp_getI hF fdM_X9_135 dX9_number_83 ?_
    refine pp_iload hF dX9_number_86 rfl ?_
    refine pp_icmp_eq (tgt := 101) hF dX9_number_88 rfl (fun c2 => ?_) (fun c2 => ?_)
    · replace h := (if_pos c2).symm.trans h
      refine pp_aload_n hF dX9_number_101 rfl rfl ?_
      refine pp_iload hF dX9_number_102 rfl ?_
      refine pp_putI hF fwM_X9_138 dX9_number_104 ?_
      refine pp_iload hF dX9_number_107 rfl ?_
      obtain ⟨rfl, rfl⟩ := pp_i2 h
      exact pp_ireturn hF hR dX9_number_109
    · replace h := (if_neg c2).symm.trans h
      refine pp_iload hF dX9_number_91 rfl ?_
      refine pp_iload_n hF dX9_number_93 rfl rfl ?_
      refine pp_iload_n hF dX9_number_94 rfl rfl ?_
      obtain ⟨x95, hx95, h⟩ := pp_bd h
      refine pp_callSi hF (c_X9_in hx95) mS_X9_in lk_X9_114 rfl rfl ⟨by decide, by decide⟩ (Nat.le_of_ble_eq_true rfl) dX9_number_95 ?_
      refine pp_if_ne (tgt := 107) hF dX9_number_98 rfl (fun c4 => ?_) (fun c4 => ?_)
      · replace h := (if_pos c4).symm.trans h
        refine pp_aload_n hF dX9_number_101 rfl rfl ?_
        refine pp_iload hF dX9_number_102 rfl ?_
        refine pp_putI hF fwM_X9_138 dX9_number_104 ?_
        refine pp_iload hF dX9_number_107 rfl ?_
        obtain ⟨rfl, rfl⟩ := pp_i2 h
        exact pp_ireturn hF hR dX9_number_109
      · replace h := (if_neg c4).symm.trans h
        refine pp_iload hF dX9_number_107 rfl ?_
        obtain ⟨rfl, rfl⟩ := pp_i2 h
        exact pp_ireturn hF hR dX9_number_109
  · replace h := (if_neg c1).symm.trans h
    refine pp_iload hF dX9_number_107 rfl ?_
    obtain ⟨rfl, rfl⟩ := pp_i2 h
    exact pp_ireturn hF hR dX9_number_109
set_option maxRecDepth 20000 in
theorem e_X9_number_9 {Γ : pp_G} {r' : Int32} {σ' : pp_M} (hF : pp_Fx Γ dsM cX9_number 6 RX9 2 34) (hR : pp_Rt Γ dsM (some .int) (some (ppI r')) σ') {σ : pp_M} {a1 : Int32} {a2 : Int32} {a3 : Int32} {a4 : Int32} {a5 : Int32} {k9 : pp_M → Int32 → Int32 → Int32 → Int32 → Int32 → Option (Int32 × pp_M)} (hk9 : ∀ {σ : pp_M} {a1 : Int32} {a2 : Int32} {a3 : Int32} {a4 : Int32} {a5 : Int32}, k9 σ a1 a2 a3 a4 a5 = some (r', σ') → pp_E Γ dsM cX9_number 6 9 [(0, ppR 40 0 0), (1, ppI a1), (2, ppI a2), (3, ppI a3), (4, ppI a4), (5, ppI a5)] [] σ) (h : f_X9_number_9_B k9 σ a1 a2 a3 a4 a5 = some (r', σ')) : pp_E Γ dsM cX9_number 6 9 [(0, ppR 40 0 0), (1, ppI a1), (2, ppI a2), (3, ppI a3), (4, ppI a4), (5, ppI a5)] [] σ := by
  unfold f_X9_number_9_B at h
  refine pp_aload_n hF dX9_number_9 rfl rfl ?_
  refine pp_getI hF fdM_X9_138 dX9_number_10 ?_
  refine pp_iconst hF dX9_number_13 ic_n1 ?_
  refine pp_icmp_ne (tgt := 74) hF dX9_number_14 rfl (fun c1 => ?_) (fun c1 => ?_)
  · replace h := (if_pos c1).symm.trans h
    refine pp_aload_n hF dX9_number_17 rfl rfl ?_
    refine pp_getI hF fdM_X9_135 dX9_number_18 ?_
    refine pp_iload hF dX9_number_21 rfl ?_
    refine pp_iload_n hF dX9_number_23 rfl rfl ?_
    refine pp_iadd hF dX9_number_24 ?_
    refine pp_icmp_ge (tgt := 74) hF dX9_number_25 rfl (fun c2 => ?_) (fun c2 => ?_)
    · replace h := (if_pos c2).symm.trans h
      refine pp_aload_n hF dX9_number_28 rfl rfl ?_
      obtain ⟨x29, hx29, h⟩ := pp_bd h
      refine pp_callVi hF (c_X9_byteNow hx29) mV_X9_byteNow lk_X9_141 obM_40 rfl rfl ⟨by decide, by decide⟩ (Nat.le_of_ble_eq_true rfl) dX9_number_29 ?_
      refine pp_bipush hF dX9_number_32 bc_48 ?_
      refine pp_icmp_lt (tgt := 74) hF dX9_number_34 rfl (fun c4 => ?_) (fun c4 => ?_)
      · replace h := (if_pos c4).symm.trans h
        refine pp_few [0, 2, 3, 4, 5] (lv' := [(0, ppR 40 0 0), (2, ppI a2), (3, ppI a3), (4, ppI a4), (5, ppI a5)]) rfl ?_
        exact e_X9_number_74 hF hR h
      · replace h := (if_neg c4).symm.trans h
        refine pp_aload_n hF dX9_number_37 rfl rfl ?_
        obtain ⟨x38, hx38, h⟩ := pp_bd h
        refine pp_callVi hF (c_X9_byteNow hx38) mV_X9_byteNow lk_X9_141 obM_40 rfl rfl ⟨by decide, by decide⟩ (Nat.le_of_ble_eq_true rfl) dX9_number_38 ?_
        refine pp_bipush hF dX9_number_41 bc_57 ?_
        refine pp_icmp_gt (tgt := 74) hF dX9_number_43 rfl (fun c6 => ?_) (fun c6 => ?_)
        · replace h := (if_pos c6).symm.trans h
          refine pp_few [0, 2, 3, 4, 5] (lv' := [(0, ppR 40 0 0), (2, ppI a2), (3, ppI a3), (4, ppI a4), (5, ppI a5)]) rfl ?_
          exact e_X9_number_74 hF hR h
        · replace h := (if_neg c6).symm.trans h
          refine pp_bipush hF dX9_number_46 bc_10 ?_
          refine pp_iload hF dX9_number_48 rfl ?_
          refine pp_imul hF dX9_number_50 ?_
          refine pp_aload_n hF dX9_number_51 rfl rfl ?_
          obtain ⟨x52, hx52, h⟩ := pp_bd h
          refine pp_callVi hF (c_X9_byteNow hx52) mV_X9_byteNow lk_X9_141 obM_40 rfl rfl ⟨by decide, by decide⟩ (Nat.le_of_ble_eq_true rfl) dX9_number_52 ?_
          refine pp_iadd hF dX9_number_55 ?_
          refine pp_bipush hF dX9_number_56 bc_48 ?_
          refine pp_isub hF dX9_number_58 ?_
          refine pp_istore hF dX9_number_59 (by decide) (lv' := [(0, ppR 40 0 0), (1, ppI a1), (2, ppI a2), (3, ppI a3), (4, ppI a4), (5, ppI ((((10 : Int32) * a5) + x52.1) - (48 : Int32)))]) rfl ?_
          refine pp_aload_n hF dX9_number_61 rfl rfl ?_
          refine pp_dupR hF dX9_number_62 ?_
          refine pp_getI hF fdM_X9_135 dX9_number_63 ?_
          refine pp_iconst hF dX9_number_66 ic_1 ?_
          refine pp_iadd hF dX9_number_67 ?_
          refine pp_putI hF fwM_X9_135 dX9_number_68 ?_
          refine pp_goto (tgt := 9) hF dX9_number_71 rfl ?_
          exact hk9 h
    · replace h := (if_neg c2).symm.trans h
      refine pp_few [0, 2, 3, 4, 5] (lv' := [(0, ppR 40 0 0), (2, ppI a2), (3, ppI a3), (4, ppI a4), (5, ppI a5)]) rfl ?_
      exact e_X9_number_74 hF hR h
  · replace h := (if_neg c1).symm.trans h
    refine pp_few [0, 2, 3, 4, 5] (lv' := [(0, ppR 40 0 0), (2, ppI a2), (3, ppI a3), (4, ppI a4), (5, ppI a5)]) rfl ?_
    exact e_X9_number_74 hF hR h
set_option maxRecDepth 20000 in
theorem e_X9_number_9_L {Γ : pp_G} {r' : Int32} {σ' : pp_M} (hF : pp_Fx Γ dsM cX9_number 6 RX9 2 34) (hR : pp_Rt Γ dsM (some .int) (some (ppI r')) σ') : ∀ {n : Nat} {σ : pp_M} {a1 : Int32} {a2 : Int32} {a3 : Int32} {a4 : Int32} {a5 : Int32}, f_X9_number_9 n σ a1 a2 a3 a4 a5 = some (r', σ') → pp_E Γ dsM cX9_number 6 9 [(0, ppR 40 0 0), (1, ppI a1), (2, ppI a2), (3, ppI a3), (4, ppI a4), (5, ppI a5)] [] σ
  | 0, _, _, _, _, _, _ => fun h => by cases h
  | n + 1, _, _, _, _, _, _ => fun h => e_X9_number_9 hF hR (fun h => e_X9_number_9_L hF hR (n := n) h) h
set_option maxRecDepth 20000 in
theorem e_X9_number_0 {Γ : pp_G} {r' : Int32} {σ' : pp_M} (hF : pp_Fx Γ dsM cX9_number 6 RX9 2 34) (hR : pp_Rt Γ dsM (some .int) (some (ppI r')) σ') {σ : pp_M} {a1 : Int32} {a2 : Int32} {a3 : Int32} (h : f_X9_number σ a1 a2 a3 = some (r', σ')) : pp_E Γ dsM cX9_number 6 0 [(0, ppR 40 0 0), (1, ppI a1), (2, ppI a2), (3, ppI a3)] [] σ := by
  unfold f_X9_number at h
  refine pp_aload_n hF dX9_number_0 rfl rfl ?_
  refine pp_getI hF fdM_X9_135 dX9_number_1 ?_
  refine pp_istore hF dX9_number_4 (by decide) (lv' := [(0, ppR 40 0 0), (1, ppI a1), (2, ppI a2), (3, ppI a3), (4, ppI (σ.1 40 13))]) rfl ?_
  refine pp_iconst hF dX9_number_6 ic_0 ?_
  refine pp_istore hF dX9_number_7 (by decide) (lv' := [(0, ppR 40 0 0), (1, ppI a1), (2, ppI a2), (3, ppI a3), (4, ppI (σ.1 40 13)), (5, ppI (0 : Int32))]) rfl ?_
  exact e_X9_number_9_L hF hR h
set_option maxRecDepth 20000 in
theorem c_X9_number {r' : Int32} {σ' : pp_M} {σ : pp_M} {a1 : Int32} {a2 : Int32} {a3 : Int32} (h : f_X9_number σ a1 a2 a3 = some (r', σ')) : pp_Ct yX9_number cX9_number 6 (some .int) 2 34 dsM [ppR 40 0 0, ppI a1, ppI a2, ppI a3] σ (some (ppI r')) σ' := pp_met pl_X9 rfl okM (Nat.le_of_ble_eq_true rfl) rfl (fun Γ hF hR => (e_X9_number_0 hF hR h))
set_option maxRecDepth 20000 in
theorem e_X9_part_0 {Γ : pp_G} {σ' : pp_M} (hF : pp_Fx Γ dsM cX9_part 6 RX9 3 59) (hR : pp_Rt Γ dsM none none σ') {σ : pp_M}  (h : f_X9_part σ  = some σ') : pp_E Γ dsM cX9_part 6 0 [(0, ppR 40 0 0)] [] σ := by
  unfold f_X9_part at h
  refine pp_aload_n hF dX9_part_0 rfl rfl ?_
  refine pp_iconst hF dX9_part_1 ic_1 ?_
  refine pp_iconst hF dX9_part_2 ic_1 ?_
  refine pp_bipush hF dX9_part_3 bc_7 ?_
  obtain ⟨x5, hx5, h⟩ := pp_bd h
  refine pp_callVi hF (c_X9_number hx5) mV_X9_number lk_X9_145 obM_40 rfl rfl ⟨by decide, by decide⟩ (Nat.le_of_ble_eq_true rfl) dX9_part_5 ?_
  refine pp_istore_n hF dX9_part_8 rfl (by decide) (lv' := [(0, ppR 40 0 0), (1, ppI x5.1)]) rfl ?_
  refine pp_aload_n hF dX9_part_9 rfl rfl ?_
  refine pp_bipush hF dX9_part_10 bc_58 ?_
  obtain ⟨x12, hx12, h⟩ := pp_bd h
  refine pp_callVv hF (c_X9_expects hx12) mV_X9_expects lk_X9_149 obM_40 rfl rfl ⟨by decide, by decide⟩ (Nat.le_of_ble_eq_true rfl) dX9_part_12 ?_
  refine pp_aload_n hF dX9_part_15 rfl rfl ?_
  refine pp_iconst hF dX9_part_16 ic_1 ?_
  refine pp_iconst hF dX9_part_17 ic_0 ?_
  refine pp_iconst hF dX9_part_18 ic_5 ?_
  obtain ⟨x19, hx19, h⟩ := pp_bd h
  refine pp_callVi hF (c_X9_number hx19) mV_X9_number lk_X9_145 obM_40 rfl rfl ⟨by decide, by decide⟩ (Nat.le_of_ble_eq_true rfl) dX9_part_19 ?_
  refine pp_istore_n hF dX9_part_22 rfl (by decide) (lv' := [(0, ppR 40 0 0), (1, ppI x5.1), (2, ppI x19.1)]) rfl ?_
  refine pp_aload_n hF dX9_part_23 rfl rfl ?_
  refine pp_bipush hF dX9_part_24 bc_61 ?_
  obtain ⟨x26, hx26, h⟩ := pp_bd h
  refine pp_callVv hF (c_X9_expects hx26) mV_X9_expects lk_X9_149 obM_40 rfl rfl ⟨by decide, by decide⟩ (Nat.le_of_ble_eq_true rfl) dX9_part_26 ?_
  refine pp_aload_n hF dX9_part_29 rfl rfl ?_
  refine pp_iconst hF dX9_part_30 ic_2 ?_
  refine pp_iconst hF dX9_part_31 ic_0 ?_
  refine pp_bipush hF dX9_part_32 bc_16 ?_
  obtain ⟨x34, hx34, h⟩ := pp_bd h
  refine pp_callVi hF (c_X9_number hx34) mV_X9_number lk_X9_145 obM_40 rfl rfl ⟨by decide, by decide⟩ (Nat.le_of_ble_eq_true rfl) dX9_part_34 ?_
  refine pp_istore_n hF dX9_part_37 rfl (by decide) (lv' := [(0, ppR 40 0 0), (1, ppI x5.1), (2, ppI x19.1), (3, ppI x34.1)]) rfl ?_
  refine pp_aload_n hF dX9_part_38 rfl rfl ?_
  refine pp_bipush hF dX9_part_39 bc_44 ?_
  obtain ⟨x41, hx41, h⟩ := pp_bd h
  refine pp_callVv hF (c_X9_expects hx41) mV_X9_expects lk_X9_149 obM_40 rfl rfl ⟨by decide, by decide⟩ (Nat.le_of_ble_eq_true rfl) dX9_part_41 ?_
  refine pp_aload_n hF dX9_part_44 rfl rfl ?_
  refine pp_iconst hF dX9_part_45 ic_2 ?_
  refine pp_iconst hF dX9_part_46 ic_0 ?_
  refine pp_iload_n hF dX9_part_47 rfl rfl ?_
  obtain ⟨x48, hx48, h⟩ := pp_bd h
  refine pp_callVi hF (c_X9_number hx48) mV_X9_number lk_X9_145 obM_40 rfl rfl ⟨by decide, by decide⟩ (Nat.le_of_ble_eq_true rfl) dX9_part_48 ?_
  refine pp_istore hF dX9_part_51 (by decide) (lv' := [(0, ppR 40 0 0), (1, ppI x5.1), (2, ppI x19.1), (3, ppI x34.1), (4, ppI x48.1)]) rfl ?_
  refine pp_aload_n hF dX9_part_53 rfl rfl ?_
  refine pp_bipush hF dX9_part_54 bc_44 ?_
  obtain ⟨x56, hx56, h⟩ := pp_bd h
  refine pp_callVv hF (c_X9_expects hx56) mV_X9_expects lk_X9_149 obM_40 rfl rfl ⟨by decide, by decide⟩ (Nat.le_of_ble_eq_true rfl) dX9_part_56 ?_
  refine pp_aload_n hF dX9_part_59 rfl rfl ?_
  refine pp_iconst hF dX9_part_60 ic_2 ?_
  refine pp_iconst hF dX9_part_61 ic_0 ?_
  refine pp_iload hF dX9_part_62 rfl ?_
  obtain ⟨x64, hx64, h⟩ := pp_bd h
  refine pp_callVi hF (c_X9_number hx64) mV_X9_number lk_X9_145 obM_40 rfl rfl ⟨by decide, by decide⟩ (Nat.le_of_ble_eq_true rfl) dX9_part_64 ?_
  refine pp_istore hF dX9_part_67 (by decide) (lv' := [(0, ppR 40 0 0), (1, ppI x5.1), (2, ppI x19.1), (3, ppI x34.1), (4, ppI x48.1), (5, ppI x64.1)]) rfl ?_
  refine pp_aload_n hF dX9_part_69 rfl rfl ?_
  refine pp_getI hF fdM_X9_138 dX9_part_70 ?_
  refine pp_iconst hF dX9_part_73 ic_n1 ?_
  refine pp_icmp_ne (tgt := 149) hF dX9_part_74 rfl (fun c10 => ?_) (fun c10 => ?_)
  · replace h := (if_pos c10).symm.trans h
    refine pp_aload_n hF dX9_part_77 rfl rfl ?_
    refine pp_getR hF fdM_X9_47 dX9_part_78 ?_
    refine pp_aload_n hF dX9_part_81 rfl rfl ?_
    refine pp_getI hF fdM_X9_153 dX9_part_82 ?_
    refine pp_iload_n hF dX9_part_85 rfl rfl ?_
    obtain ⟨hi11, h⟩ := pp_ck h
    refine pp_iastoreJ hF vM_50 hi11 (Nat.zero_add _) dX9_part_86 ?_
    refine pp_aload_n hF dX9_part_87 rfl rfl ?_
    refine pp_getR hF fdM_X9_50 dX9_part_88 ?_
    refine pp_aload_n hF dX9_part_91 rfl rfl ?_
    refine pp_getI hF fdM_X9_153 dX9_part_92 ?_
    refine pp_iload_n hF dX9_part_95 rfl rfl ?_
    obtain ⟨hi12, h⟩ := pp_ck h
    refine pp_iastoreJ hF vM_51 hi12 (Nat.zero_add _) dX9_part_96 ?_
    refine pp_aload_n hF dX9_part_97 rfl rfl ?_
    refine pp_getR hF fdM_X9_53 dX9_part_98 ?_
    refine pp_iconst hF dX9_part_101 ic_3 ?_
    refine pp_aload_n hF dX9_part_102 rfl rfl ?_
    refine pp_getI hF fdM_X9_153 dX9_part_103 ?_
    refine pp_imul hF dX9_part_106 ?_
    refine pp_iload_n hF dX9_part_107 rfl rfl ?_
    obtain ⟨hi13, h⟩ := pp_ck h
    refine pp_iastoreJ hF vM_52 hi13 (Nat.zero_add _) dX9_part_108 ?_
    refine pp_aload_n hF dX9_part_109 rfl rfl ?_
    refine pp_getR hF fdM_X9_53 dX9_part_110 ?_
    refine pp_iconst hF dX9_part_113 ic_3 ?_
    refine pp_aload_n hF dX9_part_114 rfl rfl ?_
    refine pp_getI hF fdM_X9_153 dX9_part_115 ?_
    refine pp_imul hF dX9_part_118 ?_
    refine pp_iconst hF dX9_part_119 ic_1 ?_
    refine pp_iadd hF dX9_part_120 ?_
    refine pp_iload hF dX9_part_121 rfl ?_
    obtain ⟨hi14, h⟩ := pp_ck h
    refine pp_iastoreJ hF vM_52 hi14 (Nat.zero_add _) dX9_part_123 ?_
    refine pp_aload_n hF dX9_part_124 rfl rfl ?_
    refine pp_getR hF fdM_X9_53 dX9_part_125 ?_
    refine pp_iconst hF dX9_part_128 ic_3 ?_
    refine pp_aload_n hF dX9_part_129 rfl rfl ?_
    refine pp_getI hF fdM_X9_153 dX9_part_130 ?_
    refine pp_imul hF dX9_part_133 ?_
    refine pp_iconst hF dX9_part_134 ic_2 ?_
    refine pp_iadd hF dX9_part_135 ?_
    refine pp_iload hF dX9_part_136 rfl ?_
    obtain ⟨hi15, h⟩ := pp_ck h
    refine pp_iastoreJ hF vM_52 hi15 (Nat.zero_add _) dX9_part_138 ?_
    refine pp_aload_n hF dX9_part_139 rfl rfl ?_
    refine pp_dupR hF dX9_part_140 ?_
    refine pp_getI hF fdM_X9_153 dX9_part_141 ?_
    refine pp_iconst hF dX9_part_144 ic_1 ?_
    refine pp_iadd hF dX9_part_145 ?_
    refine pp_putI hF fwM_X9_153 dX9_part_146 ?_
    obtain rfl := (Option.some.inj h).symm
    exact pp_return hF hR dX9_part_149
  · replace h := (if_neg c10).symm.trans h
    obtain rfl := (Option.some.inj h).symm
    exact pp_return hF hR dX9_part_149
set_option maxRecDepth 20000 in
theorem c_X9_part {σ' : pp_M} {σ : pp_M}  (h : f_X9_part σ  = some σ') : pp_Ct yX9_part cX9_part 6 none 3 59 dsM [ppR 40 0 0] σ none σ' := pp_met pl_X9 rfl okM (Nat.le_of_ble_eq_true rfl) rfl (fun Γ hF hR => (e_X9_part_0 hF hR h))
set_option maxRecDepth 20000 in
theorem e_X9_faultNow_19 {Γ : pp_G} {r' : Int32} {σ' : pp_M} (hF : pp_Fx Γ dsM cX9_faultNow 1 RX9 4 84) (hR : pp_Rt Γ dsM (some .int) (some (ppI r')) σ') {σ : pp_M}  {k19 : pp_M → Option (Int32 × pp_M)} (hk19 : ∀ {σ : pp_M} , k19 σ = some (r', σ') → pp_E Γ dsM cX9_faultNow 1 19 [(0, ppR 40 0 0)] [] σ) (h : f_X9_faultNow_19_B k19 σ  = some (r', σ')) : pp_E Γ dsM cX9_faultNow 1 19 [(0, ppR 40 0 0)] [] σ := by
  unfold f_X9_faultNow_19_B at h
  refine pp_aload_n hF dX9_faultNow_19 rfl rfl ?_
  refine pp_getI hF fdM_X9_138 dX9_faultNow_20 ?_
  refine pp_iconst hF dX9_faultNow_23 ic_n1 ?_
  refine pp_icmp_ne (tgt := 59) hF dX9_faultNow_24 rfl (fun c1 => ?_) (fun c1 => ?_)
  · replace h := (if_pos c1).symm.trans h
    refine pp_aload_n hF dX9_faultNow_27 rfl rfl ?_
    refine pp_getI hF fdM_X9_135 dX9_faultNow_28 ?_
    refine pp_aload_n hF dX9_faultNow_31 rfl rfl ?_
    refine pp_getI hF fdM_X9_132 dX9_faultNow_32 ?_
    refine pp_icmp_ge (tgt := 59) hF dX9_faultNow_35 rfl (fun c2 => ?_) (fun c2 => ?_)
    · replace h := (if_pos c2).symm.trans h
      refine pp_aload_n hF dX9_faultNow_38 rfl rfl ?_
      refine pp_bipush hF dX9_faultNow_39 bc_59 ?_
      obtain ⟨x41, hx41, h⟩ := pp_bd h
      refine pp_callVv hF (c_X9_expects hx41) mV_X9_expects lk_X9_149 obM_40 rfl rfl ⟨by decide, by decide⟩ (Nat.le_of_ble_eq_true rfl) dX9_faultNow_41 ?_
      refine pp_aload_n hF dX9_faultNow_44 rfl rfl ?_
      refine pp_getI hF fdM_X9_138 dX9_faultNow_45 ?_
      refine pp_iconst hF dX9_faultNow_48 ic_n1 ?_
      refine pp_icmp_ne (tgt := 19) hF dX9_faultNow_49 rfl (fun c4 => ?_) (fun c4 => ?_)
      · replace h := (if_pos c4).symm.trans h
        refine pp_aload_n hF dX9_faultNow_52 rfl rfl ?_
        obtain ⟨x53, hx53, h⟩ := pp_bd h
        refine pp_callVv hF (c_X9_part hx53) mV_X9_part lk_X9_156 obM_40 rfl rfl ⟨by decide, by decide⟩ (Nat.le_of_ble_eq_true rfl) dX9_faultNow_53 ?_
        refine pp_goto (tgt := 19) hF dX9_faultNow_56 rfl ?_
        exact hk19 h
      · replace h := (if_neg c4).symm.trans h
        exact hk19 h
    · replace h := (if_neg c2).symm.trans h
      refine pp_aload_n hF dX9_faultNow_59 rfl rfl ?_
      refine pp_getI hF fdM_X9_138 dX9_faultNow_60 ?_
      obtain ⟨rfl, rfl⟩ := pp_i2 h
      exact pp_ireturn hF hR dX9_faultNow_63
  · replace h := (if_neg c1).symm.trans h
    refine pp_aload_n hF dX9_faultNow_59 rfl rfl ?_
    refine pp_getI hF fdM_X9_138 dX9_faultNow_60 ?_
    obtain ⟨rfl, rfl⟩ := pp_i2 h
    exact pp_ireturn hF hR dX9_faultNow_63
set_option maxRecDepth 20000 in
theorem e_X9_faultNow_19_L {Γ : pp_G} {r' : Int32} {σ' : pp_M} (hF : pp_Fx Γ dsM cX9_faultNow 1 RX9 4 84) (hR : pp_Rt Γ dsM (some .int) (some (ppI r')) σ') : ∀ {n : Nat} {σ : pp_M} , f_X9_faultNow_19 n σ  = some (r', σ') → pp_E Γ dsM cX9_faultNow 1 19 [(0, ppR 40 0 0)] [] σ
  | 0, _ => fun h => by cases h
  | n + 1, _ => fun h => e_X9_faultNow_19 hF hR (fun h => e_X9_faultNow_19_L hF hR (n := n) h) h
set_option maxRecDepth 20000 in
theorem e_X9_faultNow_0 {Γ : pp_G} {r' : Int32} {σ' : pp_M} (hF : pp_Fx Γ dsM cX9_faultNow 1 RX9 4 84) (hR : pp_Rt Γ dsM (some .int) (some (ppI r')) σ') {σ : pp_M}  (h : f_X9_faultNow σ  = some (r', σ')) : pp_E Γ dsM cX9_faultNow 1 0 [(0, ppR 40 0 0)] [] σ := by
  unfold f_X9_faultNow at h
  refine pp_aload_n hF dX9_faultNow_0 rfl rfl ?_
  refine pp_iconst hF dX9_faultNow_1 ic_0 ?_
  refine pp_putI hF fwM_X9_135 dX9_faultNow_2 ?_
  refine pp_aload_n hF dX9_faultNow_5 rfl rfl ?_
  refine pp_iconst hF dX9_faultNow_6 ic_n1 ?_
  refine pp_putI hF fwM_X9_138 dX9_faultNow_7 ?_
  refine pp_aload_n hF dX9_faultNow_10 rfl rfl ?_
  refine pp_iconst hF dX9_faultNow_11 ic_0 ?_
  refine pp_putI hF fwM_X9_153 dX9_faultNow_12 ?_
  refine pp_aload_n hF dX9_faultNow_15 rfl rfl ?_
  obtain ⟨x16, hx16, h⟩ := pp_bd h
  refine pp_callVv hF (c_X9_part hx16) mV_X9_part lk_X9_156 obM_40 rfl rfl ⟨by decide, by decide⟩ (Nat.le_of_ble_eq_true rfl) dX9_faultNow_16 ?_
  exact e_X9_faultNow_19_L hF hR h
set_option maxRecDepth 20000 in
theorem c_X9_faultNow {r' : Int32} {σ' : pp_M} {σ : pp_M}  (h : f_X9_faultNow σ  = some (r', σ')) : pp_Ct yX9_faultNow cX9_faultNow 1 (some .int) 4 84 dsM [ppR 40 0 0] σ (some (ppI r')) σ' := pp_met pl_X9 rfl okM (Nat.le_of_ble_eq_true rfl) rfl (fun Γ hF hR => (e_X9_faultNow_0 hF hR h))
set_option maxRecDepth 20000 in
theorem e_X9_gainNow_8 {Γ : pp_G} {r' : Int64} {σ' : pp_M} (hF : pp_Fx Γ dsM cX9_gainNow 4 RX9 5 115) (hR : pp_Rt Γ dsM (some .long) (some (ppL r')) σ') {σ : pp_M} {a1 : Int64} {a3 : Int32} {k8 : pp_M → Int64 → Int32 → Option (Int64 × pp_M)} (hk8 : ∀ {σ : pp_M} {a1 : Int64} {a3 : Int32}, k8 σ a1 a3 = some (r', σ') → pp_E Γ dsM cX9_gainNow 4 8 [(0, ppR 40 0 0), (1, ppL a1), (3, ppI a3)] [] σ) (h : f_X9_gainNow_8_B k8 σ a1 a3 = some (r', σ')) : pp_E Γ dsM cX9_gainNow 4 8 [(0, ppR 40 0 0), (1, ppL a1), (3, ppI a3)] [] σ := by
  unfold f_X9_gainNow_8_B at h
  refine pp_iload_n hF dX9_gainNow_8 rfl rfl ?_
  refine pp_bipush hF dX9_gainNow_9 bc_6 ?_
  refine pp_icmp_ge (tgt := 34) hF dX9_gainNow_11 rfl (fun c1 => ?_) (fun c1 => ?_)
  · replace h := (if_pos c1).symm.trans h
    refine pp_lload_n hF dX9_gainNow_14 rfl rfl ?_
    refine pp_aload_n hF dX9_gainNow_15 rfl rfl ?_
    refine pp_iload_n hF dX9_gainNow_16 rfl rfl ?_
    refine pp_aload_n hF dX9_gainNow_17 rfl rfl ?_
    refine pp_getR hF fdM_X9_59 dX9_gainNow_18 ?_
    refine pp_iload_n hF dX9_gainNow_21 rfl rfl ?_
    obtain ⟨hi2, h⟩ := pp_ck h
    refine pp_ialoadJ hF vM_54 hi2 (Nat.zero_add _) dX9_gainNow_22 ?_
    obtain ⟨x23, hx23, h⟩ := pp_bd h
    refine pp_callVl hF (c_X9_gainOf hx23) mV_X9_gainOf lk_X9_218 obM_40 rfl rfl ⟨by decide, by decide⟩ (Nat.le_of_ble_eq_true rfl) dX9_gainNow_23 ?_
    refine pp_ladd hF dX9_gainNow_26 ?_
    refine pp_lstore_n hF dX9_gainNow_27 rfl (by decide) (lv' := [(0, ppR 40 0 0), (1, ppL (a1 + x23.1)), (3, ppI a3)]) rfl ?_
    refine pp_iinc hF dX9_gainNow_28 rfl (congrArg (HAdd.hAdd _) ic_1) (by decide) (lv' := [(0, ppR 40 0 0), (1, ppL (a1 + x23.1)), (3, ppI (a3 + (1 : Int32)))]) rfl ?_
    refine pp_goto (tgt := 8) hF dX9_gainNow_31 rfl ?_
    exact hk8 h
  · replace h := (if_neg c1).symm.trans h
    refine pp_lload_n hF dX9_gainNow_34 rfl rfl ?_
    obtain ⟨rfl, rfl⟩ := pp_i2 h
    exact pp_lreturn hF hR dX9_gainNow_35
set_option maxRecDepth 20000 in
theorem e_X9_gainNow_8_L {Γ : pp_G} {r' : Int64} {σ' : pp_M} (hF : pp_Fx Γ dsM cX9_gainNow 4 RX9 5 115) (hR : pp_Rt Γ dsM (some .long) (some (ppL r')) σ') : ∀ {n : Nat} {σ : pp_M} {a1 : Int64} {a3 : Int32}, f_X9_gainNow_8 n σ a1 a3 = some (r', σ') → pp_E Γ dsM cX9_gainNow 4 8 [(0, ppR 40 0 0), (1, ppL a1), (3, ppI a3)] [] σ
  | 0, _, _, _ => fun h => by cases h
  | n + 1, _, _, _ => fun h => e_X9_gainNow_8 hF hR (fun h => e_X9_gainNow_8_L hF hR (n := n) h) h
set_option maxRecDepth 20000 in
theorem e_X9_gainNow_0 {Γ : pp_G} {r' : Int64} {σ' : pp_M} (hF : pp_Fx Γ dsM cX9_gainNow 4 RX9 5 115) (hR : pp_Rt Γ dsM (some .long) (some (ppL r')) σ') {σ : pp_M}  (h : f_X9_gainNow σ  = some (r', σ')) : pp_E Γ dsM cX9_gainNow 4 0 [(0, ppR 40 0 0)] [] σ := by
  unfold f_X9_gainNow at h
  refine pp_aload_n hF dX9_gainNow_0 rfl rfl ?_
  obtain ⟨x1, hx1, h⟩ := pp_bd h
  refine pp_callVv hF (c_X9_looksAtRow hx1) mV_X9_looksAtRow lk_X9_199 obM_40 rfl rfl ⟨by decide, by decide⟩ (Nat.le_of_ble_eq_true rfl) dX9_gainNow_1 ?_
  refine pp_lconst hF dX9_gainNow_4 lc_0 ?_
  refine pp_lstore_n hF dX9_gainNow_5 rfl (by decide) (lv' := [(0, ppR 40 0 0), (1, ppL (0 : Int64))]) rfl ?_
  refine pp_iconst hF dX9_gainNow_6 ic_0 ?_
  refine pp_istore_n hF dX9_gainNow_7 rfl (by decide) (lv' := [(0, ppR 40 0 0), (1, ppL (0 : Int64)), (3, ppI (0 : Int32))]) rfl ?_
  exact e_X9_gainNow_8_L hF hR h
set_option maxRecDepth 20000 in
theorem c_X9_gainNow {r' : Int64} {σ' : pp_M} {σ : pp_M}  (h : f_X9_gainNow σ  = some (r', σ')) : pp_Ct yX9_gainNow cX9_gainNow 4 (some .long) 5 115 dsM [ppR 40 0 0] σ (some (ppL r')) σ' := pp_met pl_X9 rfl okM (Nat.le_of_ble_eq_true rfl) rfl (fun Γ hF hR => (e_X9_gainNow_0 hF hR h))
set_option maxRecDepth 20000 in
theorem e_X9_hoursNow_0 {Γ : pp_G} {r' : Int32} {σ' : pp_M} (hF : pp_Fx Γ dsM cX9_hoursNow 1 RX9 5 115) (hR : pp_Rt Γ dsM (some .int) (some (ppI r')) σ') {σ : pp_M}  (h : f_X9_hoursNow σ  = some (r', σ')) : pp_E Γ dsM cX9_hoursNow 1 0 [(0, ppR 40 0 0)] [] σ := by
  unfold f_X9_hoursNow at h
  refine pp_aload_n hF dX9_hoursNow_0 rfl rfl ?_
  obtain ⟨x1, hx1, h⟩ := pp_bd h
  refine pp_callVv hF (c_X9_laysWays hx1) mV_X9_laysWays lk_X9_129 obM_40 rfl rfl ⟨by decide, by decide⟩ (Nat.le_of_ble_eq_true rfl) dX9_hoursNow_1 ?_
  refine pp_aload_n hF dX9_hoursNow_4 rfl rfl ?_
  obtain ⟨x5, hx5, h⟩ := pp_bd h
  refine pp_callVv hF (c_X9_looksAtRow hx5) mV_X9_looksAtRow lk_X9_199 obM_40 rfl rfl ⟨by decide, by decide⟩ (Nat.le_of_ble_eq_true rfl) dX9_hoursNow_5 ?_
  refine pp_aload_n hF dX9_hoursNow_8 rfl rfl ?_
  refine pp_iconst hF dX9_hoursNow_9 ic_0 ?_
  obtain ⟨x10, hx10, h⟩ := pp_bd h
  refine pp_callVi hF (c_X9_hoursFrom hx10) mV_X9_hoursFrom lk_X9_202 obM_40 rfl rfl ⟨by decide, by decide⟩ (Nat.le_of_ble_eq_true rfl) dX9_hoursNow_10 ?_
  obtain ⟨rfl, rfl⟩ := pp_i2 h
  exact pp_ireturn hF hR dX9_hoursNow_13
set_option maxRecDepth 20000 in
theorem c_X9_hoursNow {r' : Int32} {σ' : pp_M} {σ : pp_M}  (h : f_X9_hoursNow σ  = some (r', σ')) : pp_Ct yX9_hoursNow cX9_hoursNow 1 (some .int) 5 115 dsM [ppR 40 0 0] σ (some (ppI r')) σ' := pp_met pl_X9 rfl okM (Nat.le_of_ble_eq_true rfl) rfl (fun Γ hF hR => (e_X9_hoursNow_0 hF hR h))
set_option maxRecDepth 20000 in
theorem e_X9_judgedNow_0 {Γ : pp_G} {r' : Int32} {σ' : pp_M} (hF : pp_Fx Γ dsM cX9_judgedNow 1 RX9 6 135) (hR : pp_Rt Γ dsM (some .int) (some (ppI r')) σ') {σ : pp_M}  (h : f_X9_judgedNow σ  = some (r', σ')) : pp_E Γ dsM cX9_judgedNow 1 0 [(0, ppR 40 0 0)] [] σ := by
  unfold f_X9_judgedNow at h
  refine pp_aload_n hF dX9_judgedNow_0 rfl rfl ?_
  obtain ⟨x1, hx1, h⟩ := pp_bd h
  refine pp_callVi hF (c_X9_packWeight hx1) mV_X9_packWeight lk_X9_181 obM_40 rfl rfl ⟨by decide, by decide⟩ (Nat.le_of_ble_eq_true rfl) dX9_judgedNow_1 ?_
  refine pp_aload_n hF dX9_judgedNow_4 rfl rfl ?_
  refine pp_getI hF fdM_X9_32 dX9_judgedNow_5 ?_
  refine pp_icmp_le (tgt := 15) hF dX9_judgedNow_8 rfl (fun c2 => ?_) (fun c2 => ?_)
  · replace h := (if_pos c2).symm.trans h
    refine pp_iconst hF dX9_judgedNow_11 ic_1 ?_
    refine pp_goto (tgt := 31) hF dX9_judgedNow_12 rfl ?_
    obtain ⟨rfl, rfl⟩ := pp_i2 h
    exact pp_ireturn hF hR dX9_judgedNow_31
  · replace h := (if_neg c2).symm.trans h
    refine pp_aload_n hF dX9_judgedNow_15 rfl rfl ?_
    obtain ⟨x16, hx16, h⟩ := pp_bd h
    refine pp_callVi hF (c_X9_hoursNow hx16) mV_X9_hoursNow lk_X9_205 obM_40 rfl rfl ⟨by decide, by decide⟩ (Nat.le_of_ble_eq_true rfl) dX9_judgedNow_16 ?_
    refine pp_aload_n hF dX9_judgedNow_19 rfl rfl ?_
    refine pp_getI hF fdM_X9_28 dX9_judgedNow_20 ?_
    refine pp_icmp_le (tgt := 30) hF dX9_judgedNow_23 rfl (fun c4 => ?_) (fun c4 => ?_)
    · replace h := (if_pos c4).symm.trans h
      refine pp_iconst hF dX9_judgedNow_26 ic_2 ?_
      refine pp_goto (tgt := 31) hF dX9_judgedNow_27 rfl ?_
      obtain ⟨rfl, rfl⟩ := pp_i2 h
      exact pp_ireturn hF hR dX9_judgedNow_31
    · replace h := (if_neg c4).symm.trans h
      refine pp_iconst hF dX9_judgedNow_30 ic_0 ?_
      obtain ⟨rfl, rfl⟩ := pp_i2 h
      exact pp_ireturn hF hR dX9_judgedNow_31
set_option maxRecDepth 20000 in
theorem c_X9_judgedNow {r' : Int32} {σ' : pp_M} {σ : pp_M}  (h : f_X9_judgedNow σ  = some (r', σ')) : pp_Ct yX9_judgedNow cX9_judgedNow 1 (some .int) 6 135 dsM [ppR 40 0 0] σ (some (ppI r')) σ' := pp_met pl_X9 rfl okM (Nat.le_of_ble_eq_true rfl) rfl (fun Γ hF hR => (e_X9_judgedNow_0 hF hR h))
set_option maxRecDepth 20000 in
theorem e_X9_loads_199 {Γ : pp_G} {σ' : pp_M} (hF : pp_Fx Γ dsM cX9_loads 8 RX9 5 115) (hR : pp_Rt Γ dsM none none σ') {σ : pp_M} {a1 : Int32} {k32 : pp_M → Int32 → Option (pp_M)} (hk32 : ∀ {σ : pp_M} {a1 : Int32}, k32 σ a1 = some σ' → pp_E Γ dsM cX9_loads 8 32 [(0, ppR 40 0 0), (1, ppI a1)] [] σ) (h : f_X9_loads_199 k32 σ a1 = some σ') : pp_E Γ dsM cX9_loads 8 199 [(0, ppR 40 0 0), (1, ppI a1)] [] σ := by
  unfold f_X9_loads_199 at h
  refine pp_goto (tgt := 32) hF dX9_loads_199 rfl ?_
  exact hk32 h
set_option maxRecDepth 20000 in
theorem e_X9_loads_169 {Γ : pp_G} {σ' : pp_M} (hF : pp_Fx Γ dsM cX9_loads 8 RX9 5 115) (hR : pp_Rt Γ dsM none none σ') {σ : pp_M} {a2 : Int32} {b0 : Int32} {k32 : pp_M → Int32 → Option (pp_M)} (hk32 : ∀ {σ : pp_M} {a1 : Int32}, k32 σ a1 = some σ' → pp_E Γ dsM cX9_loads 8 32 [(0, ppR 40 0 0), (1, ppI a1)] [] σ) (h : f_X9_loads_169 k32 σ a2 b0 = some σ') : pp_E Γ dsM cX9_loads 8 169 [(0, ppR 40 0 0), (2, ppI a2)] [ppI b0] σ := by
  unfold f_X9_loads_169 at h
  refine pp_istore_n hF dX9_loads_169 rfl (by decide) (lv' := [(0, ppR 40 0 0), (1, ppI b0), (2, ppI a2)]) rfl ?_
  refine pp_iload_n hF dX9_loads_170 rfl rfl ?_
  refine pp_if_eq (tgt := 199) hF dX9_loads_171 rfl (fun c1 => ?_) (fun c1 => ?_)
  · replace h := (if_pos c1).symm.trans h
    refine pp_few [0, 1] (lv' := [(0, ppR 40 0 0), (1, ppI b0)]) rfl ?_
    exact e_X9_loads_199 hF hR hk32 h
  · replace h := (if_neg c1).symm.trans h
    refine pp_aload_n hF dX9_loads_174 rfl rfl ?_
    refine pp_getR hF fdM_X9_78 dX9_loads_175 ?_
    refine pp_iload_n hF dX9_loads_178 rfl rfl ?_
    refine pp_dup2 hF dX9_loads_179 ?_
    obtain ⟨hi2, h⟩ := pp_ck h
    refine pp_ialoadJ hF vM_60 hi2 (Nat.zero_add _) dX9_loads_180 ?_
    refine pp_iconst hF dX9_loads_181 ic_1 ?_
    refine pp_iadd hF dX9_loads_182 ?_
    refine pp_iastoreJ hF vM_60 hi2 (Nat.zero_add _) dX9_loads_183 ?_
    refine pp_aload_n hF dX9_loads_184 rfl rfl ?_
    refine pp_dupR hF dX9_loads_185 ?_
    refine pp_getI hF fdM_X9_241 dX9_loads_186 ?_
    refine pp_aload_n hF dX9_loads_189 rfl rfl ?_
    refine pp_getR hF fdM_X9_13 dX9_loads_190 ?_
    refine pp_iload_n hF dX9_loads_193 rfl rfl ?_
    refine pp_ialoadJ hF vM_42 hi2 (Nat.zero_add _) dX9_loads_194 ?_
    refine pp_iadd hF dX9_loads_195 ?_
    refine pp_putI hF fwM_X9_241 dX9_loads_196 ?_
    refine pp_few [0, 1] (lv' := [(0, ppR 40 0 0), (1, ppI b0)]) rfl ?_
    exact e_X9_loads_199 hF hR hk32 h
set_option maxRecDepth 20000 in
theorem e_X9_loads_153 {Γ : pp_G} {σ' : pp_M} (hF : pp_Fx Γ dsM cX9_loads 8 RX9 5 115) (hR : pp_Rt Γ dsM none none σ') {σ : pp_M} {a2 : Int32} {a3 : Int64} {a5 : Int32} {k32 : pp_M → Int32 → Option (pp_M)} (hk32 : ∀ {σ : pp_M} {a1 : Int32}, k32 σ a1 = some σ' → pp_E Γ dsM cX9_loads 8 32 [(0, ppR 40 0 0), (1, ppI a1)] [] σ) {k43 : pp_M → Int32 → Int64 → Int32 → Option (pp_M)} (hk43 : ∀ {σ : pp_M} {a2 : Int32} {a3 : Int64} {a5 : Int32}, k43 σ a2 a3 a5 = some σ' → pp_E Γ dsM cX9_loads 8 43 [(0, ppR 40 0 0), (2, ppI a2), (3, ppL a3), (5, ppI a5)] [] σ) (h : f_X9_loads_153 k32 k43 σ a2 a3 a5 = some σ') : pp_E Γ dsM cX9_loads 8 153 [(0, ppR 40 0 0), (2, ppI a2), (3, ppL a3), (5, ppI a5)] [] σ := by
  unfold f_X9_loads_153 at h
  refine pp_iinc hF dX9_loads_153 rfl (congrArg (HAdd.hAdd _) ic_1) (by decide) (lv' := [(0, ppR 40 0 0), (2, ppI a2), (3, ppL a3), (5, ppI (a5 + (1 : Int32)))]) rfl ?_
  refine pp_goto (tgt := 43) hF dX9_loads_156 rfl ?_
  exact hk43 h
set_option maxRecDepth 20000 in
theorem e_X9_loads_147 {Γ : pp_G} {σ' : pp_M} (hF : pp_Fx Γ dsM cX9_loads 8 RX9 5 115) (hR : pp_Rt Γ dsM none none σ') {σ : pp_M} {a5 : Int32} {a6 : Int64} {k32 : pp_M → Int32 → Option (pp_M)} (hk32 : ∀ {σ : pp_M} {a1 : Int32}, k32 σ a1 = some σ' → pp_E Γ dsM cX9_loads 8 32 [(0, ppR 40 0 0), (1, ppI a1)] [] σ) {k43 : pp_M → Int32 → Int64 → Int32 → Option (pp_M)} (hk43 : ∀ {σ : pp_M} {a2 : Int32} {a3 : Int64} {a5 : Int32}, k43 σ a2 a3 a5 = some σ' → pp_E Γ dsM cX9_loads 8 43 [(0, ppR 40 0 0), (2, ppI a2), (3, ppL a3), (5, ppI a5)] [] σ) (h : f_X9_loads_147 k32 k43 σ a5 a6 = some σ') : pp_E Γ dsM cX9_loads 8 147 [(0, ppR 40 0 0), (5, ppI a5), (6, ppL a6)] [] σ := by
  unfold f_X9_loads_147 at h
  refine pp_iload hF dX9_loads_147 rfl ?_
  refine pp_istore_n hF dX9_loads_149 rfl (by decide) (lv' := [(0, ppR 40 0 0), (2, ppI a5), (5, ppI a5), (6, ppL a6)]) rfl ?_
  refine pp_lload hF dX9_loads_150 rfl ?_
  refine pp_lstore_n hF dX9_loads_152 rfl (by decide) (lv' := [(0, ppR 40 0 0), (2, ppI a5), (3, ppL a6), (5, ppI a5), (6, ppL a6)]) rfl ?_
  refine pp_few [0, 1, 2, 3] (lv' := [(0, ppR 40 0 0), (2, ppI a5), (3, ppL a6), (5, ppI a5)]) rfl ?_
  exact e_X9_loads_153 hF hR hk32 hk43 h
set_option maxRecDepth 20000 in
theorem e_X9_loads_43 {Γ : pp_G} {σ' : pp_M} (hF : pp_Fx Γ dsM cX9_loads 8 RX9 5 115) (hR : pp_Rt Γ dsM none none σ') {σ : pp_M} {a2 : Int32} {a3 : Int64} {a5 : Int32} {k32 : pp_M → Int32 → Option (pp_M)} (hk32 : ∀ {σ : pp_M} {a1 : Int32}, k32 σ a1 = some σ' → pp_E Γ dsM cX9_loads 8 32 [(0, ppR 40 0 0), (1, ppI a1)] [] σ) {k43 : pp_M → Int32 → Int64 → Int32 → Option (pp_M)} (hk43 : ∀ {σ : pp_M} {a2 : Int32} {a3 : Int64} {a5 : Int32}, k43 σ a2 a3 a5 = some σ' → pp_E Γ dsM cX9_loads 8 43 [(0, ppR 40 0 0), (2, ppI a2), (3, ppL a3), (5, ppI a5)] [] σ) (h : f_X9_loads_43_B k32 k43 σ a2 a3 a5 = some σ') : pp_E Γ dsM cX9_loads 8 43 [(0, ppR 40 0 0), (2, ppI a2), (3, ppL a3), (5, ppI a5)] [] σ := by
  unfold f_X9_loads_43_B at h
  refine pp_iload hF dX9_loads_43 rfl ?_
  refine pp_bipush hF dX9_loads_45 bc_6 ?_
  refine pp_icmp_ge (tgt := 159) hF dX9_loads_47 rfl (fun c1 => ?_) (fun c1 => ?_)
  · replace h := (if_pos c1).symm.trans h
    refine pp_aload_n hF dX9_loads_50 rfl rfl ?_
    refine pp_getR hF fdM_X9_78 dX9_loads_51 ?_
    refine pp_iload hF dX9_loads_54 rfl ?_
    obtain ⟨hi2, h⟩ := pp_ck h
    refine pp_ialoadJ hF vM_60 hi2 (Nat.zero_add _) dX9_loads_56 ?_
    refine pp_iconst hF dX9_loads_57 ic_4 ?_
    refine pp_icmp_ge (tgt := 153) hF dX9_loads_58 rfl (fun c3 => ?_) (fun c3 => ?_)
    · replace h := (if_pos c3).symm.trans h
      refine pp_aload_n hF dX9_loads_61 rfl rfl ?_
      refine pp_getI hF fdM_X9_241 dX9_loads_62 ?_
      refine pp_aload_n hF dX9_loads_65 rfl rfl ?_
      refine pp_getR hF fdM_X9_13 dX9_loads_66 ?_
      refine pp_iload hF dX9_loads_69 rfl ?_
      refine pp_ialoadJ hF vM_42 hi2 (Nat.zero_add _) dX9_loads_71 ?_
      refine pp_iadd hF dX9_loads_72 ?_
      refine pp_aload_n hF dX9_loads_73 rfl rfl ?_
      refine pp_getI hF fdM_X9_32 dX9_loads_74 ?_
      refine pp_icmp_gt (tgt := 153) hF dX9_loads_77 rfl (fun c4 => ?_) (fun c4 => ?_)
      · replace h := (if_pos c4).symm.trans h
        exact e_X9_loads_153 hF hR hk32 hk43 h
      · replace h := (if_neg c4).symm.trans h
        refine pp_aload_n hF dX9_loads_80 rfl rfl ?_
        refine pp_iload hF dX9_loads_81 rfl ?_
        refine pp_aload_n hF dX9_loads_83 rfl rfl ?_
        refine pp_getR hF fdM_X9_78 dX9_loads_84 ?_
        refine pp_iload hF dX9_loads_87 rfl ?_
        refine pp_ialoadJ hF vM_60 hi2 (Nat.zero_add _) dX9_loads_89 ?_
        refine pp_iconst hF dX9_loads_90 ic_1 ?_
        refine pp_iadd hF dX9_loads_91 ?_
        obtain ⟨x92, hx92, h⟩ := pp_bd h
        refine pp_callVl hF (c_X9_gainOf hx92) mV_X9_gainOf lk_X9_218 obM_40 rfl rfl ⟨by decide, by decide⟩ (Nat.le_of_ble_eq_true rfl) dX9_loads_92 ?_
        refine pp_aload_n hF dX9_loads_95 rfl rfl ?_
        refine pp_iload hF dX9_loads_96 rfl ?_
        refine pp_aload_n hF dX9_loads_98 rfl rfl ?_
        refine pp_getR hF fdM_X9_78 dX9_loads_99 ?_
        refine pp_iload hF dX9_loads_102 rfl ?_
        refine pp_ialoadJ hF vM_60 hi2 (Nat.zero_add _) dX9_loads_104 ?_
        obtain ⟨x105, hx105, h⟩ := pp_bd h
        refine pp_callVl hF (c_X9_gainOf hx105) mV_X9_gainOf lk_X9_218 obM_40 rfl rfl ⟨by decide, by decide⟩ (Nat.le_of_ble_eq_true rfl) dX9_loads_105 ?_
        refine pp_lsub hF dX9_loads_108 ?_
        refine pp_lstore hF dX9_loads_109 (by decide) (lv' := [(0, ppR 40 0 0), (2, ppI a2), (3, ppL a3), (5, ppI a5), (6, ppL (x92.1 - x105.1))]) rfl ?_
        refine pp_lload hF dX9_loads_111 rfl ?_
        refine pp_lconst hF dX9_loads_113 lc_0 ?_
        refine pp_lcmp_le (tgt := 153) hF dX9_loads_114 dX9_loads_115 rfl (fun c7 => ?_) (fun c7 => ?_)
        · replace h := (if_pos c7).symm.trans h
          refine pp_iload_n hF dX9_loads_118 rfl rfl ?_
          refine pp_iconst hF dX9_loads_119 ic_n1 ?_
          refine pp_icmp_eq (tgt := 147) hF dX9_loads_120 rfl (fun c8 => ?_) (fun c8 => ?_)
          · replace h := (if_pos c8).symm.trans h
            refine pp_few [0, 3, 4] (lv' := [(0, ppR 40 0 0), (5, ppI a5), (6, ppL (x92.1 - x105.1))]) rfl ?_
            exact e_X9_loads_147 hF hR hk32 hk43 h
          · replace h := (if_neg c8).symm.trans h
            refine pp_lload hF dX9_loads_123 rfl ?_
            refine pp_aload_n hF dX9_loads_125 rfl rfl ?_
            refine pp_getR hF fdM_X9_13 dX9_loads_126 ?_
            refine pp_iload_n hF dX9_loads_129 rfl rfl ?_
            obtain ⟨hi9, h⟩ := pp_ck h
            refine pp_ialoadJ hF vM_42 hi9 (Nat.zero_add _) dX9_loads_130 ?_
            refine pp_i2l hF dX9_loads_131 ?_
            refine pp_lmul hF dX9_loads_132 ?_
            refine pp_lload_n hF dX9_loads_133 rfl rfl ?_
            refine pp_aload_n hF dX9_loads_134 rfl rfl ?_
            refine pp_getR hF fdM_X9_13 dX9_loads_135 ?_
            refine pp_iload hF dX9_loads_138 rfl ?_
            refine pp_ialoadJ hF vM_42 hi2 (Nat.zero_add _) dX9_loads_140 ?_
            refine pp_i2l hF dX9_loads_141 ?_
            refine pp_lmul hF dX9_loads_142 ?_
            refine pp_lcmp_le (tgt := 153) hF dX9_loads_143 dX9_loads_144 rfl (fun c10 => ?_) (fun c10 => ?_)
            · replace h := (if_pos c10).symm.trans h
              refine pp_few [0, 3, 4] (lv' := [(0, ppR 40 0 0), (5, ppI a5), (6, ppL (x92.1 - x105.1))]) rfl ?_
              exact e_X9_loads_147 hF hR hk32 hk43 h
            · replace h := (if_neg c10).symm.trans h
              refine pp_few [0, 1, 2, 3] (lv' := [(0, ppR 40 0 0), (2, ppI a2), (3, ppL a3), (5, ppI a5)]) rfl ?_
              exact e_X9_loads_153 hF hR hk32 hk43 h
        · replace h := (if_neg c7).symm.trans h
          refine pp_few [0, 1, 2, 3] (lv' := [(0, ppR 40 0 0), (2, ppI a2), (3, ppL a3), (5, ppI a5)]) rfl ?_
          exact e_X9_loads_153 hF hR hk32 hk43 h
    · replace h := (if_neg c3).symm.trans h
      exact e_X9_loads_153 hF hR hk32 hk43 h
  · replace h := (if_neg c1).symm.trans h
    refine pp_iload_n hF dX9_loads_159 rfl rfl ?_
    refine pp_iconst hF dX9_loads_160 ic_n1 ?_
    refine pp_icmp_eq (tgt := 168) hF dX9_loads_161 rfl (fun c11 => ?_) (fun c11 => ?_)
    · replace h := (if_pos c11).symm.trans h
      refine pp_iconst hF dX9_loads_168 ic_0 ?_
      refine pp_few [0, 1] (lv' := [(0, ppR 40 0 0), (2, ppI a2)]) rfl ?_
      exact e_X9_loads_169 hF hR hk32 h
    · replace h := (if_neg c11).symm.trans h
      refine pp_iconst hF dX9_loads_164 ic_1 ?_
      refine pp_goto (tgt := 169) hF dX9_loads_165 rfl ?_
      refine pp_few [0, 1] (lv' := [(0, ppR 40 0 0), (2, ppI a2)]) rfl ?_
      exact e_X9_loads_169 hF hR hk32 h
set_option maxRecDepth 20000 in
theorem e_X9_loads_43_L {Γ : pp_G} {σ' : pp_M} (hF : pp_Fx Γ dsM cX9_loads 8 RX9 5 115) (hR : pp_Rt Γ dsM none none σ') {k32 : pp_M → Int32 → Option (pp_M)} (hk32 : ∀ {σ : pp_M} {a1 : Int32}, k32 σ a1 = some σ' → pp_E Γ dsM cX9_loads 8 32 [(0, ppR 40 0 0), (1, ppI a1)] [] σ) : ∀ {n : Nat} {σ : pp_M} {a2 : Int32} {a3 : Int64} {a5 : Int32}, f_X9_loads_43 k32 n σ a2 a3 a5 = some σ' → pp_E Γ dsM cX9_loads 8 43 [(0, ppR 40 0 0), (2, ppI a2), (3, ppL a3), (5, ppI a5)] [] σ
  | 0, _, _, _, _ => fun h => by cases h
  | n + 1, _, _, _, _ => fun h => e_X9_loads_43 hF hR hk32 (fun h => e_X9_loads_43_L hF hR hk32 (n := n) h) h
set_option maxRecDepth 20000 in
theorem e_X9_loads_32 {Γ : pp_G} {σ' : pp_M} (hF : pp_Fx Γ dsM cX9_loads 8 RX9 5 115) (hR : pp_Rt Γ dsM none none σ') {σ : pp_M} {a1 : Int32} {k32 : pp_M → Int32 → Option (pp_M)} (hk32 : ∀ {σ : pp_M} {a1 : Int32}, k32 σ a1 = some σ' → pp_E Γ dsM cX9_loads 8 32 [(0, ppR 40 0 0), (1, ppI a1)] [] σ) (h : f_X9_loads_32_B k32 σ a1 = some σ') : pp_E Γ dsM cX9_loads 8 32 [(0, ppR 40 0 0), (1, ppI a1)] [] σ := by
  unfold f_X9_loads_32_B at h
  refine pp_iload_n hF dX9_loads_32 rfl rfl ?_
  refine pp_if_eq (tgt := 202) hF dX9_loads_33 rfl (fun c1 => ?_) (fun c1 => ?_)
  · replace h := (if_pos c1).symm.trans h
    obtain rfl := (Option.some.inj h).symm
    exact pp_return hF hR dX9_loads_202
  · replace h := (if_neg c1).symm.trans h
    refine pp_iconst hF dX9_loads_36 ic_n1 ?_
    refine pp_istore_n hF dX9_loads_37 rfl (by decide) (lv' := [(0, ppR 40 0 0), (1, ppI a1), (2, ppI (-1 : Int32))]) rfl ?_
    refine pp_lconst hF dX9_loads_38 lc_0 ?_
    refine pp_lstore_n hF dX9_loads_39 rfl (by decide) (lv' := [(0, ppR 40 0 0), (1, ppI a1), (2, ppI (-1 : Int32)), (3, ppL (0 : Int64))]) rfl ?_
    refine pp_iconst hF dX9_loads_40 ic_0 ?_
    refine pp_istore hF dX9_loads_41 (by decide) (lv' := [(0, ppR 40 0 0), (1, ppI a1), (2, ppI (-1 : Int32)), (3, ppL (0 : Int64)), (5, ppI (0 : Int32))]) rfl ?_
    refine pp_few [0, 2, 3, 4] (lv' := [(0, ppR 40 0 0), (2, ppI (-1 : Int32)), (3, ppL (0 : Int64)), (5, ppI (0 : Int32))]) rfl ?_
    exact e_X9_loads_43_L hF hR hk32 h
set_option maxRecDepth 20000 in
theorem e_X9_loads_32_L {Γ : pp_G} {σ' : pp_M} (hF : pp_Fx Γ dsM cX9_loads 8 RX9 5 115) (hR : pp_Rt Γ dsM none none σ') : ∀ {n : Nat} {σ : pp_M} {a1 : Int32}, f_X9_loads_32 n σ a1 = some σ' → pp_E Γ dsM cX9_loads 8 32 [(0, ppR 40 0 0), (1, ppI a1)] [] σ
  | 0, _, _ => fun h => by cases h
  | n + 1, _, _ => fun h => e_X9_loads_32 hF hR (fun h => e_X9_loads_32_L hF hR (n := n) h) h
set_option maxRecDepth 20000 in
theorem e_X9_loads_11 {Γ : pp_G} {σ' : pp_M} (hF : pp_Fx Γ dsM cX9_loads 8 RX9 5 115) (hR : pp_Rt Γ dsM none none σ') {σ : pp_M} {a1 : Int32} {k11 : pp_M → Int32 → Option (pp_M)} (hk11 : ∀ {σ : pp_M} {a1 : Int32}, k11 σ a1 = some σ' → pp_E Γ dsM cX9_loads 8 11 [(0, ppR 40 0 0), (1, ppI a1)] [] σ) (h : f_X9_loads_11_B k11 σ a1 = some σ') : pp_E Γ dsM cX9_loads 8 11 [(0, ppR 40 0 0), (1, ppI a1)] [] σ := by
  unfold f_X9_loads_11_B at h
  refine pp_iload_n hF dX9_loads_11 rfl rfl ?_
  refine pp_bipush hF dX9_loads_12 bc_6 ?_
  refine pp_icmp_ge (tgt := 30) hF dX9_loads_14 rfl (fun c1 => ?_) (fun c1 => ?_)
  · replace h := (if_pos c1).symm.trans h
    refine pp_aload_n hF dX9_loads_17 rfl rfl ?_
    refine pp_getR hF fdM_X9_78 dX9_loads_18 ?_
    refine pp_iload_n hF dX9_loads_21 rfl rfl ?_
    refine pp_iconst hF dX9_loads_22 ic_0 ?_
    obtain ⟨hi2, h⟩ := pp_ck h
    refine pp_iastoreJ hF vM_60 hi2 (Nat.zero_add _) dX9_loads_23 ?_
    refine pp_iinc hF dX9_loads_24 rfl (congrArg (HAdd.hAdd _) ic_1) (by decide) (lv' := [(0, ppR 40 0 0), (1, ppI (a1 + (1 : Int32)))]) rfl ?_
    refine pp_goto (tgt := 11) hF dX9_loads_27 rfl ?_
    exact hk11 h
  · replace h := (if_neg c1).symm.trans h
    refine pp_iconst hF dX9_loads_30 ic_1 ?_
    refine pp_istore_n hF dX9_loads_31 rfl (by decide) (lv' := [(0, ppR 40 0 0), (1, ppI (1 : Int32))]) rfl ?_
    exact e_X9_loads_32_L hF hR h
set_option maxRecDepth 20000 in
theorem e_X9_loads_11_L {Γ : pp_G} {σ' : pp_M} (hF : pp_Fx Γ dsM cX9_loads 8 RX9 5 115) (hR : pp_Rt Γ dsM none none σ') : ∀ {n : Nat} {σ : pp_M} {a1 : Int32}, f_X9_loads_11 n σ a1 = some σ' → pp_E Γ dsM cX9_loads 8 11 [(0, ppR 40 0 0), (1, ppI a1)] [] σ
  | 0, _, _ => fun h => by cases h
  | n + 1, _, _ => fun h => e_X9_loads_11 hF hR (fun h => e_X9_loads_11_L hF hR (n := n) h) h
set_option maxRecDepth 20000 in
theorem e_X9_loads_0 {Γ : pp_G} {σ' : pp_M} (hF : pp_Fx Γ dsM cX9_loads 8 RX9 5 115) (hR : pp_Rt Γ dsM none none σ') {σ : pp_M}  (h : f_X9_loads σ  = some σ') : pp_E Γ dsM cX9_loads 8 0 [(0, ppR 40 0 0)] [] σ := by
  unfold f_X9_loads at h
  refine pp_aload_n hF dX9_loads_0 rfl rfl ?_
  obtain ⟨x1, hx1, h⟩ := pp_bd h
  refine pp_callVv hF (c_X9_looksAtRow hx1) mV_X9_looksAtRow lk_X9_199 obM_40 rfl rfl ⟨by decide, by decide⟩ (Nat.le_of_ble_eq_true rfl) dX9_loads_1 ?_
  refine pp_aload_n hF dX9_loads_4 rfl rfl ?_
  refine pp_iconst hF dX9_loads_5 ic_0 ?_
  refine pp_putI hF fwM_X9_241 dX9_loads_6 ?_
  refine pp_iconst hF dX9_loads_9 ic_0 ?_
  refine pp_istore_n hF dX9_loads_10 rfl (by decide) (lv' := [(0, ppR 40 0 0), (1, ppI (0 : Int32))]) rfl ?_
  exact e_X9_loads_11_L hF hR h
set_option maxRecDepth 20000 in
theorem c_X9_loads {σ' : pp_M} {σ : pp_M}  (h : f_X9_loads σ  = some σ') : pp_Ct yX9_loads cX9_loads 8 none 5 115 dsM [ppR 40 0 0] σ none σ' := pp_met pl_X9 rfl okM (Nat.le_of_ble_eq_true rfl) rfl (fun Γ hF hR => (e_X9_loads_0 hF hR h))
set_option maxRecDepth 20000 in
theorem e_X9_loadNow_70 {Γ : pp_G} {r' : Int64} {σ' : pp_M} (hF : pp_Fx Γ dsM cX9_loadNow 6 RX9 6 147) (hR : pp_Rt Γ dsM (some .long) (some (ppL r')) σ') {σ : pp_M} {a2 : Int32} {a3 : Int64} (h : f_X9_loadNow_70 σ a2 a3 = some (r', σ')) : pp_E Γ dsM cX9_loadNow 6 70 [(0, ppR 40 0 0), (2, ppI a2), (3, ppL a3)] [] σ := by
  unfold f_X9_loadNow_70 at h
  refine pp_lload_n hF dX9_loadNow_70 rfl rfl ?_
  refine pp_aload_n hF dX9_loadNow_71 rfl rfl ?_
  refine pp_getI hF fdM_X9_184 dX9_loadNow_72 ?_
  obtain ⟨x75, hx75, h⟩ := pp_bd h
  refine pp_callSl hF (c_X9_sixteen hx75) mS_X9_sixteen lk_X9_193 rfl rfl ⟨by decide, by decide⟩ (Nat.le_of_ble_eq_true rfl) dX9_loadNow_75 ?_
  refine pp_iload_n hF dX9_loadNow_78 rfl rfl ?_
  obtain ⟨x79, hx79, h⟩ := pp_bd h
  refine pp_callSl hF (c_X9_lowest hx79) mS_X9_lowest lk_X9_214 rfl rfl ⟨by decide, by decide⟩ (Nat.le_of_ble_eq_true rfl) dX9_loadNow_79 ?_
  obtain ⟨rfl, rfl⟩ := pp_i2 h
  exact pp_lreturn hF hR dX9_loadNow_82
set_option maxRecDepth 20000 in
theorem e_X9_loadNow_41 {Γ : pp_G} {r' : Int64} {σ' : pp_M} (hF : pp_Fx Γ dsM cX9_loadNow 6 RX9 6 147) (hR : pp_Rt Γ dsM (some .long) (some (ppL r')) σ') {σ : pp_M} {a2 : Int32} {a3 : Int64} {a5 : Int32} {k41 : pp_M → Int32 → Int64 → Int32 → Option (Int64 × pp_M)} (hk41 : ∀ {σ : pp_M} {a2 : Int32} {a3 : Int64} {a5 : Int32}, k41 σ a2 a3 a5 = some (r', σ') → pp_E Γ dsM cX9_loadNow 6 41 [(0, ppR 40 0 0), (2, ppI a2), (3, ppL a3), (5, ppI a5)] [] σ) (h : f_X9_loadNow_41_B k41 σ a2 a3 a5 = some (r', σ')) : pp_E Γ dsM cX9_loadNow 6 41 [(0, ppR 40 0 0), (2, ppI a2), (3, ppL a3), (5, ppI a5)] [] σ := by
  unfold f_X9_loadNow_41_B at h
  refine pp_iload hF dX9_loadNow_41 rfl ?_
  refine pp_bipush hF dX9_loadNow_43 bc_6 ?_
  refine pp_icmp_ge (tgt := 70) hF dX9_loadNow_45 rfl (fun c1 => ?_) (fun c1 => ?_)
  · replace h := (if_pos c1).symm.trans h
    refine pp_lload_n hF dX9_loadNow_48 rfl rfl ?_
    refine pp_aload_n hF dX9_loadNow_49 rfl rfl ?_
    refine pp_iload hF dX9_loadNow_50 rfl ?_
    refine pp_aload_n hF dX9_loadNow_52 rfl rfl ?_
    refine pp_getR hF fdM_X9_78 dX9_loadNow_53 ?_
    refine pp_iload hF dX9_loadNow_56 rfl ?_
    obtain ⟨hi2, h⟩ := pp_ck h
    refine pp_ialoadJ hF vM_60 hi2 (Nat.zero_add _) dX9_loadNow_58 ?_
    obtain ⟨x59, hx59, h⟩ := pp_bd h
    refine pp_callVl hF (c_X9_gainOf hx59) mV_X9_gainOf lk_X9_218 obM_40 rfl rfl ⟨by decide, by decide⟩ (Nat.le_of_ble_eq_true rfl) dX9_loadNow_59 ?_
    refine pp_ladd hF dX9_loadNow_62 ?_
    refine pp_lstore_n hF dX9_loadNow_63 rfl (by decide) (lv' := [(0, ppR 40 0 0), (2, ppI a2), (3, ppL (a3 + x59.1)), (5, ppI a5)]) rfl ?_
    refine pp_iinc hF dX9_loadNow_64 rfl (congrArg (HAdd.hAdd _) ic_1) (by decide) (lv' := [(0, ppR 40 0 0), (2, ppI a2), (3, ppL (a3 + x59.1)), (5, ppI (a5 + (1 : Int32)))]) rfl ?_
    refine pp_goto (tgt := 41) hF dX9_loadNow_67 rfl ?_
    exact hk41 h
  · replace h := (if_neg c1).symm.trans h
    refine pp_few [0, 1, 2] (lv' := [(0, ppR 40 0 0), (2, ppI a2), (3, ppL a3)]) rfl ?_
    exact e_X9_loadNow_70 hF hR h
set_option maxRecDepth 20000 in
theorem e_X9_loadNow_41_L {Γ : pp_G} {r' : Int64} {σ' : pp_M} (hF : pp_Fx Γ dsM cX9_loadNow 6 RX9 6 147) (hR : pp_Rt Γ dsM (some .long) (some (ppL r')) σ') : ∀ {n : Nat} {σ : pp_M} {a2 : Int32} {a3 : Int64} {a5 : Int32}, f_X9_loadNow_41 n σ a2 a3 a5 = some (r', σ') → pp_E Γ dsM cX9_loadNow 6 41 [(0, ppR 40 0 0), (2, ppI a2), (3, ppL a3), (5, ppI a5)] [] σ
  | 0, _, _, _, _ => fun h => by cases h
  | n + 1, _, _, _, _ => fun h => e_X9_loadNow_41 hF hR (fun h => e_X9_loadNow_41_L hF hR (n := n) h) h
set_option maxRecDepth 20000 in
theorem e_X9_loadNow_0 {Γ : pp_G} {r' : Int64} {σ' : pp_M} (hF : pp_Fx Γ dsM cX9_loadNow 6 RX9 6 147) (hR : pp_Rt Γ dsM (some .long) (some (ppL r')) σ') {σ : pp_M} {a1 : Int32} {a2 : Int32} (h : f_X9_loadNow σ a1 a2 = some (r', σ')) : pp_E Γ dsM cX9_loadNow 6 0 [(0, ppR 40 0 0), (1, ppI a1), (2, ppI a2)] [] σ := by
  unfold f_X9_loadNow at h
  refine pp_iload_n hF dX9_loadNow_0 rfl rfl ?_
  refine pp_iconst hF dX9_loadNow_1 ic_2 ?_
  refine pp_icmp_ne (tgt := 11) hF dX9_loadNow_2 rfl (fun c1 => ?_) (fun c1 => ?_)
  · replace h := (if_pos c1).symm.trans h
    refine pp_aload_n hF dX9_loadNow_5 rfl rfl ?_
    refine pp_iload_n hF dX9_loadNow_6 rfl rfl ?_
    obtain ⟨x7, hx7, h⟩ := pp_bd h
    refine pp_callVl hF (c_X9_boundNow hx7) mV_X9_boundNow lk_X9_250 obM_40 rfl rfl ⟨by decide, by decide⟩ (Nat.le_of_ble_eq_true rfl) dX9_loadNow_7 ?_
    obtain ⟨rfl, rfl⟩ := pp_i2 h
    exact pp_lreturn hF hR dX9_loadNow_10
  · replace h := (if_neg c1).symm.trans h
    refine pp_lconst hF dX9_loadNow_11 lc_0 ?_
    refine pp_lstore_n hF dX9_loadNow_12 rfl (by decide) (lv' := [(0, ppR 40 0 0), (1, ppI a1), (2, ppI a2), (3, ppL (0 : Int64))]) rfl ?_
    refine pp_iload_n hF dX9_loadNow_13 rfl rfl ?_
    refine pp_if_ne (tgt := 34) hF dX9_loadNow_14 rfl (fun c3 => ?_) (fun c3 => ?_)
    · replace h := (if_pos c3).symm.trans h
      refine pp_aload_n hF dX9_loadNow_17 rfl rfl ?_
      obtain ⟨x18, hx18, h⟩ := pp_bd h
      refine pp_callVv hF (c_X9_looksAtRow hx18) mV_X9_looksAtRow lk_X9_199 obM_40 rfl rfl ⟨by decide, by decide⟩ (Nat.le_of_ble_eq_true rfl) dX9_loadNow_18 ?_
      refine pp_aload_n hF dX9_loadNow_21 rfl rfl ?_
      refine pp_iconst hF dX9_loadNow_22 ic_n1 ?_
      obtain ⟨x23, hx23, h⟩ := pp_bd h
      refine pp_callVv hF (c_X9_packs hx23) mV_X9_packs lk_X9_232 obM_40 rfl rfl ⟨by decide, by decide⟩ (Nat.le_of_ble_eq_true rfl) dX9_loadNow_23 ?_
      refine pp_aload_n hF dX9_loadNow_26 rfl rfl ?_
      refine pp_getL hF fdM_X9_228 dX9_loadNow_27 ?_
      refine pp_lstore_n hF dX9_loadNow_30 rfl (by decide) (lv' := [(0, ppR 40 0 0), (1, ppI a1), (2, ppI a2), (3, ppL (x23.2 40 28))]) rfl ?_
      refine pp_goto (tgt := 70) hF dX9_loadNow_31 rfl ?_
      refine pp_few [0, 2, 3] (lv' := [(0, ppR 40 0 0), (2, ppI a2), (3, ppL (x23.2 40 28))]) rfl ?_
      exact e_X9_loadNow_70 hF hR h
    · replace h := (if_neg c3).symm.trans h
      refine pp_aload_n hF dX9_loadNow_34 rfl rfl ?_
      obtain ⟨x35, hx35, h⟩ := pp_bd h
      refine pp_callVv hF (c_X9_loads hx35) mV_X9_loads lk_X9_244 obM_40 rfl rfl ⟨by decide, by decide⟩ (Nat.le_of_ble_eq_true rfl) dX9_loadNow_35 ?_
      refine pp_iconst hF dX9_loadNow_38 ic_0 ?_
      refine pp_istore hF dX9_loadNow_39 (by decide) (lv' := [(0, ppR 40 0 0), (1, ppI a1), (2, ppI a2), (3, ppL (0 : Int64)), (5, ppI (0 : Int32))]) rfl ?_
      refine pp_few [0, 2, 3, 4] (lv' := [(0, ppR 40 0 0), (2, ppI a2), (3, ppL (0 : Int64)), (5, ppI (0 : Int32))]) rfl ?_
      exact e_X9_loadNow_41_L hF hR h
set_option maxRecDepth 20000 in
theorem c_X9_loadNow {r' : Int64} {σ' : pp_M} {σ : pp_M} {a1 : Int32} {a2 : Int32} (h : f_X9_loadNow σ a1 a2 = some (r', σ')) : pp_Ct yX9_loadNow cX9_loadNow 6 (some .long) 6 147 dsM [ppR 40 0 0, ppI a1, ppI a2] σ (some (ppL r')) σ' := pp_met pl_X9 rfl okM (Nat.le_of_ble_eq_true rfl) rfl (fun Γ hF hR => (e_X9_loadNow_0 hF hR h))
set_option maxRecDepth 20000 in
theorem e_X9_loadedNow_0 {Γ : pp_G} {r' : Int32} {σ' : pp_M} (hF : pp_Fx Γ dsM cX9_loadedNow 2 RX9 6 142) (hR : pp_Rt Γ dsM (some .int) (some (ppI r')) σ') {σ : pp_M} {a1 : Int32} (h : f_X9_loadedNow σ a1 = some (r', σ')) : pp_E Γ dsM cX9_loadedNow 2 0 [(0, ppR 40 0 0), (1, ppI a1)] [] σ := by
  unfold f_X9_loadedNow at h
  refine pp_aload_n hF dX9_loadedNow_0 rfl rfl ?_
  obtain ⟨x1, hx1, h⟩ := pp_bd h
  refine pp_callVv hF (c_X9_loads hx1) mV_X9_loads lk_X9_244 obM_40 rfl rfl ⟨by decide, by decide⟩ (Nat.le_of_ble_eq_true rfl) dX9_loadedNow_1 ?_
  refine pp_iload_n hF dX9_loadedNow_4 rfl rfl ?_
  refine pp_iconst hF dX9_loadedNow_5 ic_n1 ?_
  refine pp_icmp_ne (tgt := 16) hF dX9_loadedNow_6 rfl (fun c2 => ?_) (fun c2 => ?_)
  · replace h := (if_pos c2).symm.trans h
    refine pp_aload_n hF dX9_loadedNow_9 rfl rfl ?_
    refine pp_getI hF fdM_X9_241 dX9_loadedNow_10 ?_
    refine pp_goto (tgt := 22) hF dX9_loadedNow_13 rfl ?_
    obtain ⟨rfl, rfl⟩ := pp_i2 h
    exact pp_ireturn hF hR dX9_loadedNow_22
  · replace h := (if_neg c2).symm.trans h
    refine pp_aload_n hF dX9_loadedNow_16 rfl rfl ?_
    refine pp_getR hF fdM_X9_78 dX9_loadedNow_17 ?_
    refine pp_iload_n hF dX9_loadedNow_20 rfl rfl ?_
    obtain ⟨hi3, h⟩ := pp_ck h
    refine pp_ialoadJ hF vM_60 hi3 (Nat.zero_add _) dX9_loadedNow_21 ?_
    obtain ⟨rfl, rfl⟩ := pp_i2 h
    exact pp_ireturn hF hR dX9_loadedNow_22
set_option maxRecDepth 20000 in
theorem c_X9_loadedNow {r' : Int32} {σ' : pp_M} {σ : pp_M} {a1 : Int32} (h : f_X9_loadedNow σ a1 = some (r', σ')) : pp_Ct yX9_loadedNow cX9_loadedNow 2 (some .int) 6 142 dsM [ppR 40 0 0, ppI a1] σ (some (ppI r')) σ' := pp_met pl_X9 rfl okM (Nat.le_of_ble_eq_true rfl) rfl (fun Γ hF hR => (e_X9_loadedNow_0 hF hR h))
set_option maxRecDepth 20000 in
theorem e_X9_strapsNow_113 {Γ : pp_G} {r' : Int32} {σ' : pp_M} (hF : pp_Fx Γ dsM cX9_strapsNow 7 RX9 5 115) (hR : pp_Rt Γ dsM (some .int) (some (ppI r')) σ') {σ : pp_M} {a1 : Int32} {a2 : Int64} {a4 : Int32} {k42 : pp_M → Int32 → Int64 → Int32 → Option (Int32 × pp_M)} (hk42 : ∀ {σ : pp_M} {a1 : Int32} {a2 : Int64} {a4 : Int32}, k42 σ a1 a2 a4 = some (r', σ') → pp_E Γ dsM cX9_strapsNow 7 42 [(0, ppR 40 0 0), (1, ppI a1), (2, ppL a2), (4, ppI a4)] [] σ) (h : f_X9_strapsNow_113 k42 σ a1 a2 a4 = some (r', σ')) : pp_E Γ dsM cX9_strapsNow 7 113 [(0, ppR 40 0 0), (1, ppI a1), (2, ppL a2), (4, ppI a4)] [] σ := by
  unfold f_X9_strapsNow_113 at h
  refine pp_iinc hF dX9_strapsNow_113 rfl (congrArg (HAdd.hAdd _) ic_1) (by decide) (lv' := [(0, ppR 40 0 0), (1, ppI a1), (2, ppL a2), (4, ppI (a4 + (1 : Int32)))]) rfl ?_
  refine pp_goto (tgt := 42) hF dX9_strapsNow_116 rfl ?_
  exact hk42 h
set_option maxRecDepth 20000 in
theorem e_X9_strapsNow_107 {Γ : pp_G} {r' : Int32} {σ' : pp_M} (hF : pp_Fx Γ dsM cX9_strapsNow 7 RX9 5 115) (hR : pp_Rt Γ dsM (some .int) (some (ppI r')) σ') {σ : pp_M} {a4 : Int32} {a5 : Int64} {k42 : pp_M → Int32 → Int64 → Int32 → Option (Int32 × pp_M)} (hk42 : ∀ {σ : pp_M} {a1 : Int32} {a2 : Int64} {a4 : Int32}, k42 σ a1 a2 a4 = some (r', σ') → pp_E Γ dsM cX9_strapsNow 7 42 [(0, ppR 40 0 0), (1, ppI a1), (2, ppL a2), (4, ppI a4)] [] σ) (h : f_X9_strapsNow_107 k42 σ a4 a5 = some (r', σ')) : pp_E Γ dsM cX9_strapsNow 7 107 [(0, ppR 40 0 0), (4, ppI a4), (5, ppL a5)] [] σ := by
  unfold f_X9_strapsNow_107 at h
  refine pp_iload hF dX9_strapsNow_107 rfl ?_
  refine pp_istore_n hF dX9_strapsNow_109 rfl (by decide) (lv' := [(0, ppR 40 0 0), (1, ppI a4), (4, ppI a4), (5, ppL a5)]) rfl ?_
  refine pp_lload hF dX9_strapsNow_110 rfl ?_
  refine pp_lstore_n hF dX9_strapsNow_112 rfl (by decide) (lv' := [(0, ppR 40 0 0), (1, ppI a4), (2, ppL a5), (4, ppI a4), (5, ppL a5)]) rfl ?_
  refine pp_few [0, 1, 2, 3] (lv' := [(0, ppR 40 0 0), (1, ppI a4), (2, ppL a5), (4, ppI a4)]) rfl ?_
  exact e_X9_strapsNow_113 hF hR hk42 h
set_option maxRecDepth 20000 in
theorem e_X9_strapsNow_42 {Γ : pp_G} {r' : Int32} {σ' : pp_M} (hF : pp_Fx Γ dsM cX9_strapsNow 7 RX9 5 115) (hR : pp_Rt Γ dsM (some .int) (some (ppI r')) σ') {σ : pp_M} {a1 : Int32} {a2 : Int64} {a4 : Int32} {k42 : pp_M → Int32 → Int64 → Int32 → Option (Int32 × pp_M)} (hk42 : ∀ {σ : pp_M} {a1 : Int32} {a2 : Int64} {a4 : Int32}, k42 σ a1 a2 a4 = some (r', σ') → pp_E Γ dsM cX9_strapsNow 7 42 [(0, ppR 40 0 0), (1, ppI a1), (2, ppL a2), (4, ppI a4)] [] σ) (h : f_X9_strapsNow_42_B k42 σ a1 a2 a4 = some (r', σ')) : pp_E Γ dsM cX9_strapsNow 7 42 [(0, ppR 40 0 0), (1, ppI a1), (2, ppL a2), (4, ppI a4)] [] σ := by
  unfold f_X9_strapsNow_42_B at h
  refine pp_iload hF dX9_strapsNow_42 rfl ?_
  refine pp_bipush hF dX9_strapsNow_44 bc_6 ?_
  refine pp_icmp_ge (tgt := 119) hF dX9_strapsNow_46 rfl (fun c1 => ?_) (fun c1 => ?_)
  · replace h := (if_pos c1).symm.trans h
    refine pp_aload_n hF dX9_strapsNow_49 rfl rfl ?_
    refine pp_getR hF fdM_X9_93 dX9_strapsNow_50 ?_
    refine pp_iload hF dX9_strapsNow_53 rfl ?_
    obtain ⟨hi2, h⟩ := pp_ck h
    refine pp_ialoadJ hF vM_65 hi2 (Nat.zero_add _) dX9_strapsNow_55 ?_
    refine pp_if_le (tgt := 113) hF dX9_strapsNow_56 rfl (fun c3 => ?_) (fun c3 => ?_)
    · replace h := (if_pos c3).symm.trans h
      refine pp_aload_n hF dX9_strapsNow_59 rfl rfl ?_
      refine pp_iload hF dX9_strapsNow_60 rfl ?_
      obtain ⟨x62, hx62, h⟩ := pp_bd h
      refine pp_callVl hF (c_X9_bringsNow hx62) mV_X9_bringsNow lk_X9_293 obM_40 rfl rfl ⟨by decide, by decide⟩ (Nat.le_of_ble_eq_true rfl) dX9_strapsNow_62 ?_
      refine pp_lstore hF dX9_strapsNow_65 (by decide) (lv' := [(0, ppR 40 0 0), (1, ppI a1), (2, ppL a2), (4, ppI a4), (5, ppL x62.1)]) rfl ?_
      refine pp_iload_n hF dX9_strapsNow_67 rfl rfl ?_
      refine pp_iconst hF dX9_strapsNow_68 ic_n1 ?_
      refine pp_icmp_eq (tgt := 107) hF dX9_strapsNow_69 rfl (fun c5 => ?_) (fun c5 => ?_)
      · replace h := (if_pos c5).symm.trans h
        refine pp_few [0, 3, 4] (lv' := [(0, ppR 40 0 0), (4, ppI a4), (5, ppL x62.1)]) rfl ?_
        exact e_X9_strapsNow_107 hF hR hk42 h
      · replace h := (if_neg c5).symm.trans h
        refine pp_lload hF dX9_strapsNow_72 rfl ?_
        refine pp_aload_n hF dX9_strapsNow_74 rfl rfl ?_
        refine pp_iload_n hF dX9_strapsNow_75 rfl rfl ?_
        refine pp_aload_n hF dX9_strapsNow_76 rfl rfl ?_
        refine pp_getR hF fdM_X9_93 dX9_strapsNow_77 ?_
        refine pp_iload_n hF dX9_strapsNow_80 rfl rfl ?_
        obtain ⟨hi6, h⟩ := pp_ck h
        refine pp_ialoadJ hF vM_65 hi6 (Nat.zero_add _) dX9_strapsNow_81 ?_
        obtain ⟨x82, hx82, h⟩ := pp_bd h
        refine pp_callVi hF (c_X9_weightOf hx82) mV_X9_weightOf lk_X9_235 obM_40 rfl rfl ⟨by decide, by decide⟩ (Nat.le_of_ble_eq_true rfl) dX9_strapsNow_82 ?_
        refine pp_i2l hF dX9_strapsNow_85 ?_
        refine pp_lmul hF dX9_strapsNow_86 ?_
        refine pp_lload_n hF dX9_strapsNow_87 rfl rfl ?_
        refine pp_aload_n hF dX9_strapsNow_88 rfl rfl ?_
        refine pp_iload hF dX9_strapsNow_89 rfl ?_
        refine pp_aload_n hF dX9_strapsNow_91 rfl rfl ?_
        refine pp_getR hF fdM_X9_93 dX9_strapsNow_92 ?_
        refine pp_iload hF dX9_strapsNow_95 rfl ?_
        refine pp_ialoadJ hF vM_65 hi2 (Nat.zero_add _) dX9_strapsNow_97 ?_
        obtain ⟨x98, hx98, h⟩ := pp_bd h
        refine pp_callVi hF (c_X9_weightOf hx98) mV_X9_weightOf lk_X9_235 obM_40 rfl rfl ⟨by decide, by decide⟩ (Nat.le_of_ble_eq_true rfl) dX9_strapsNow_98 ?_
        refine pp_i2l hF dX9_strapsNow_101 ?_
        refine pp_lmul hF dX9_strapsNow_102 ?_
        refine pp_lcmp_ge (tgt := 113) hF dX9_strapsNow_103 dX9_strapsNow_104 rfl (fun c9 => ?_) (fun c9 => ?_)
        · replace h := (if_pos c9).symm.trans h
          refine pp_few [0, 3, 4] (lv' := [(0, ppR 40 0 0), (4, ppI a4), (5, ppL x62.1)]) rfl ?_
          exact e_X9_strapsNow_107 hF hR hk42 h
        · replace h := (if_neg c9).symm.trans h
          refine pp_few [0, 1, 2, 3] (lv' := [(0, ppR 40 0 0), (1, ppI a1), (2, ppL a2), (4, ppI a4)]) rfl ?_
          exact e_X9_strapsNow_113 hF hR hk42 h
    · replace h := (if_neg c3).symm.trans h
      exact e_X9_strapsNow_113 hF hR hk42 h
  · replace h := (if_neg c1).symm.trans h
    refine pp_iload_n hF dX9_strapsNow_119 rfl rfl ?_
    obtain ⟨rfl, rfl⟩ := pp_i2 h
    exact pp_ireturn hF hR dX9_strapsNow_120
set_option maxRecDepth 20000 in
theorem e_X9_strapsNow_42_L {Γ : pp_G} {r' : Int32} {σ' : pp_M} (hF : pp_Fx Γ dsM cX9_strapsNow 7 RX9 5 115) (hR : pp_Rt Γ dsM (some .int) (some (ppI r')) σ') : ∀ {n : Nat} {σ : pp_M} {a1 : Int32} {a2 : Int64} {a4 : Int32}, f_X9_strapsNow_42 n σ a1 a2 a4 = some (r', σ') → pp_E Γ dsM cX9_strapsNow 7 42 [(0, ppR 40 0 0), (1, ppI a1), (2, ppL a2), (4, ppI a4)] [] σ
  | 0, _, _, _, _ => fun h => by cases h
  | n + 1, _, _, _, _ => fun h => e_X9_strapsNow_42 hF hR (fun h => e_X9_strapsNow_42_L hF hR (n := n) h) h
set_option maxRecDepth 20000 in
theorem e_X9_strapsNow_11 {Γ : pp_G} {r' : Int32} {σ' : pp_M} (hF : pp_Fx Γ dsM cX9_strapsNow 7 RX9 5 115) (hR : pp_Rt Γ dsM (some .int) (some (ppI r')) σ') {σ : pp_M} {a1 : Int32} {k11 : pp_M → Int32 → Option (Int32 × pp_M)} (hk11 : ∀ {σ : pp_M} {a1 : Int32}, k11 σ a1 = some (r', σ') → pp_E Γ dsM cX9_strapsNow 7 11 [(0, ppR 40 0 0), (1, ppI a1)] [] σ) (h : f_X9_strapsNow_11_B k11 σ a1 = some (r', σ')) : pp_E Γ dsM cX9_strapsNow 7 11 [(0, ppR 40 0 0), (1, ppI a1)] [] σ := by
  unfold f_X9_strapsNow_11_B at h
  refine pp_iload_n hF dX9_strapsNow_11 rfl rfl ?_
  refine pp_bipush hF dX9_strapsNow_12 bc_6 ?_
  refine pp_icmp_ge (tgt := 35) hF dX9_strapsNow_14 rfl (fun c1 => ?_) (fun c1 => ?_)
  · replace h := (if_pos c1).symm.trans h
    refine pp_aload_n hF dX9_strapsNow_17 rfl rfl ?_
    refine pp_getR hF fdM_X9_93 dX9_strapsNow_18 ?_
    refine pp_iload_n hF dX9_strapsNow_21 rfl rfl ?_
    refine pp_aload_n hF dX9_strapsNow_22 rfl rfl ?_
    refine pp_getR hF fdM_X9_75 dX9_strapsNow_23 ?_
    refine pp_iload_n hF dX9_strapsNow_26 rfl rfl ?_
    obtain ⟨hi2, h⟩ := pp_ck h
    refine pp_ialoadJ hF vM_59 hi2 (Nat.zero_add _) dX9_strapsNow_27 ?_
    refine pp_iastoreJ hF vM_65 hi2 (Nat.zero_add _) dX9_strapsNow_28 ?_
    refine pp_iinc hF dX9_strapsNow_29 rfl (congrArg (HAdd.hAdd _) ic_1) (by decide) (lv' := [(0, ppR 40 0 0), (1, ppI (a1 + (1 : Int32)))]) rfl ?_
    refine pp_goto (tgt := 11) hF dX9_strapsNow_32 rfl ?_
    exact hk11 h
  · replace h := (if_neg c1).symm.trans h
    refine pp_iconst hF dX9_strapsNow_35 ic_n1 ?_
    refine pp_istore_n hF dX9_strapsNow_36 rfl (by decide) (lv' := [(0, ppR 40 0 0), (1, ppI (-1 : Int32))]) rfl ?_
    refine pp_lconst hF dX9_strapsNow_37 lc_0 ?_
    refine pp_lstore_n hF dX9_strapsNow_38 rfl (by decide) (lv' := [(0, ppR 40 0 0), (1, ppI (-1 : Int32)), (2, ppL (0 : Int64))]) rfl ?_
    refine pp_iconst hF dX9_strapsNow_39 ic_0 ?_
    refine pp_istore hF dX9_strapsNow_40 (by decide) (lv' := [(0, ppR 40 0 0), (1, ppI (-1 : Int32)), (2, ppL (0 : Int64)), (4, ppI (0 : Int32))]) rfl ?_
    exact e_X9_strapsNow_42_L hF hR h
set_option maxRecDepth 20000 in
theorem e_X9_strapsNow_11_L {Γ : pp_G} {r' : Int32} {σ' : pp_M} (hF : pp_Fx Γ dsM cX9_strapsNow 7 RX9 5 115) (hR : pp_Rt Γ dsM (some .int) (some (ppI r')) σ') : ∀ {n : Nat} {σ : pp_M} {a1 : Int32}, f_X9_strapsNow_11 n σ a1 = some (r', σ') → pp_E Γ dsM cX9_strapsNow 7 11 [(0, ppR 40 0 0), (1, ppI a1)] [] σ
  | 0, _, _ => fun h => by cases h
  | n + 1, _, _ => fun h => e_X9_strapsNow_11 hF hR (fun h => e_X9_strapsNow_11_L hF hR (n := n) h) h
set_option maxRecDepth 20000 in
theorem e_X9_strapsNow_0 {Γ : pp_G} {r' : Int32} {σ' : pp_M} (hF : pp_Fx Γ dsM cX9_strapsNow 7 RX9 5 115) (hR : pp_Rt Γ dsM (some .int) (some (ppI r')) σ') {σ : pp_M}  (h : f_X9_strapsNow σ  = some (r', σ')) : pp_E Γ dsM cX9_strapsNow 7 0 [(0, ppR 40 0 0)] [] σ := by
  unfold f_X9_strapsNow at h
  refine pp_aload_n hF dX9_strapsNow_0 rfl rfl ?_
  obtain ⟨x1, hx1, h⟩ := pp_bd h
  refine pp_callVv hF (c_X9_looksAtRow hx1) mV_X9_looksAtRow lk_X9_199 obM_40 rfl rfl ⟨by decide, by decide⟩ (Nat.le_of_ble_eq_true rfl) dX9_strapsNow_1 ?_
  refine pp_aload_n hF dX9_strapsNow_4 rfl rfl ?_
  refine pp_iconst hF dX9_strapsNow_5 ic_n1 ?_
  obtain ⟨x6, hx6, h⟩ := pp_bd h
  refine pp_callVv hF (c_X9_packs hx6) mV_X9_packs lk_X9_232 obM_40 rfl rfl ⟨by decide, by decide⟩ (Nat.le_of_ble_eq_true rfl) dX9_strapsNow_6 ?_
  refine pp_iconst hF dX9_strapsNow_9 ic_0 ?_
  refine pp_istore_n hF dX9_strapsNow_10 rfl (by decide) (lv' := [(0, ppR 40 0 0), (1, ppI (0 : Int32))]) rfl ?_
  exact e_X9_strapsNow_11_L hF hR h
set_option maxRecDepth 20000 in
theorem c_X9_strapsNow {r' : Int32} {σ' : pp_M} {σ : pp_M}  (h : f_X9_strapsNow σ  = some (r', σ')) : pp_Ct yX9_strapsNow cX9_strapsNow 7 (some .int) 5 115 dsM [ppR 40 0 0] σ (some (ppI r')) σ' := pp_met pl_X9 rfl okM (Nat.le_of_ble_eq_true rfl) rfl (fun Γ hF hR => (e_X9_strapsNow_0 hF hR h))
set_option maxRecDepth 20000 in
theorem e_X9_thingNow_0 {Γ : pp_G} {r' : Int32} {σ' : pp_M} (hF : pp_Fx Γ dsM cX9_thingNow 3 RX9 1 12) (hR : pp_Rt Γ dsM (some .int) (some (ppI r')) σ') {σ : pp_M} {a1 : Int32} {a2 : Int32} (h : f_X9_thingNow σ a1 a2 = some (r', σ')) : pp_E Γ dsM cX9_thingNow 3 0 [(0, ppR 40 0 0), (1, ppI a1), (2, ppI a2)] [] σ := by
  unfold f_X9_thingNow at h
  refine pp_iload_n hF dX9_thingNow_0 rfl rfl ?_
  refine pp_if_ne (tgt := 13) hF dX9_thingNow_1 rfl (fun c1 => ?_) (fun c1 => ?_)
  · replace h := (if_pos c1).symm.trans h
    refine pp_aload_n hF dX9_thingNow_4 rfl rfl ?_
    refine pp_getR hF fdM_X9_7 dX9_thingNow_5 ?_
    refine pp_iload_n hF dX9_thingNow_8 rfl rfl ?_
    obtain ⟨hi2, h⟩ := pp_ck h
    refine pp_ialoadJ hF vM_41 hi2 (Nat.zero_add _) dX9_thingNow_9 ?_
    refine pp_goto (tgt := 53) hF dX9_thingNow_10 rfl ?_
    obtain ⟨rfl, rfl⟩ := pp_i2 h
    exact pp_ireturn hF hR dX9_thingNow_53
  · replace h := (if_neg c1).symm.trans h
    refine pp_iload_n hF dX9_thingNow_13 rfl rfl ?_
    refine pp_iconst hF dX9_thingNow_14 ic_1 ?_
    refine pp_icmp_ne (tgt := 27) hF dX9_thingNow_15 rfl (fun c3 => ?_) (fun c3 => ?_)
    · replace h := (if_pos c3).symm.trans h
      refine pp_aload_n hF dX9_thingNow_18 rfl rfl ?_
      refine pp_getR hF fdM_X9_13 dX9_thingNow_19 ?_
      refine pp_iload_n hF dX9_thingNow_22 rfl rfl ?_
      obtain ⟨hi4, h⟩ := pp_ck h
      refine pp_ialoadJ hF vM_42 hi4 (Nat.zero_add _) dX9_thingNow_23 ?_
      refine pp_goto (tgt := 53) hF dX9_thingNow_24 rfl ?_
      obtain ⟨rfl, rfl⟩ := pp_i2 h
      exact pp_ireturn hF hR dX9_thingNow_53
    · replace h := (if_neg c3).symm.trans h
      refine pp_iload_n hF dX9_thingNow_27 rfl rfl ?_
      refine pp_iconst hF dX9_thingNow_28 ic_2 ?_
      refine pp_icmp_ne (tgt := 41) hF dX9_thingNow_29 rfl (fun c5 => ?_) (fun c5 => ?_)
      · replace h := (if_pos c5).symm.trans h
        refine pp_aload_n hF dX9_thingNow_32 rfl rfl ?_
        refine pp_getR hF fdM_X9_16 dX9_thingNow_33 ?_
        refine pp_iload_n hF dX9_thingNow_36 rfl rfl ?_
        obtain ⟨hi6, h⟩ := pp_ck h
        refine pp_ialoadJ hF vM_43 hi6 (Nat.zero_add _) dX9_thingNow_37 ?_
        refine pp_goto (tgt := 53) hF dX9_thingNow_38 rfl ?_
        obtain ⟨rfl, rfl⟩ := pp_i2 h
        exact pp_ireturn hF hR dX9_thingNow_53
      · replace h := (if_neg c5).symm.trans h
        refine pp_aload_n hF dX9_thingNow_41 rfl rfl ?_
        refine pp_getR hF fdM_X9_19 dX9_thingNow_42 ?_
        refine pp_iconst hF dX9_thingNow_45 ic_3 ?_
        refine pp_iload_n hF dX9_thingNow_46 rfl rfl ?_
        refine pp_imul hF dX9_thingNow_47 ?_
        refine pp_iload_n hF dX9_thingNow_48 rfl rfl ?_
        refine pp_iadd hF dX9_thingNow_49 ?_
        refine pp_iconst hF dX9_thingNow_50 ic_3 ?_
        refine pp_isub hF dX9_thingNow_51 ?_
        obtain ⟨hi7, h⟩ := pp_ck h
        refine pp_ialoadJ hF vM_44 hi7 (Nat.zero_add _) dX9_thingNow_52 ?_
        obtain ⟨rfl, rfl⟩ := pp_i2 h
        exact pp_ireturn hF hR dX9_thingNow_53
set_option maxRecDepth 20000 in
theorem c_X9_thingNow {r' : Int32} {σ' : pp_M} {σ : pp_M} {a1 : Int32} {a2 : Int32} (h : f_X9_thingNow σ a1 a2 = some (r', σ')) : pp_Ct yX9_thingNow cX9_thingNow 3 (some .int) 1 12 dsM [ppR 40 0 0, ppI a1, ppI a2] σ (some (ppI r')) σ' := pp_met pl_X9 rfl okM (Nat.le_of_ble_eq_true rfl) rfl (fun Γ hF hR => (e_X9_thingNow_0 hF hR h))
set_option maxRecDepth 20000 in
theorem e_X9_digest_184 {Γ : pp_G} {r' : Int64} {σ' : pp_M} (hF : pp_Fx Γ dsM cX9_digest 6 RX9 7 172) (hR : pp_Rt Γ dsM (some .long) (some (ppL r')) σ') {σ : pp_M} {a1 : Int64} {a5 : Int32} {k184 : pp_M → Int64 → Int32 → Option (Int64 × pp_M)} (hk184 : ∀ {σ : pp_M} {a1 : Int64} {a5 : Int32}, k184 σ a1 a5 = some (r', σ') → pp_E Γ dsM cX9_digest 6 184 [(0, ppR 40 0 0), (1, ppL a1), (5, ppI a5)] [] σ) (h : f_X9_digest_184_B k184 σ a1 a5 = some (r', σ')) : pp_E Γ dsM cX9_digest 6 184 [(0, ppR 40 0 0), (1, ppL a1), (5, ppI a5)] [] σ := by
  unfold f_X9_digest_184_B at h
  refine pp_iload hF dX9_digest_184 rfl ?_
  refine pp_iconst hF dX9_digest_186 ic_3 ?_
  refine pp_icmp_ge (tgt := 224) hF dX9_digest_187 rfl (fun c1 => ?_) (fun c1 => ?_)
  · replace h := (if_pos c1).symm.trans h
    refine pp_ldc2 hF wm_1305 dX9_digest_190 ?_
    refine pp_lload_n hF dX9_digest_193 rfl rfl ?_
    refine pp_lmul hF dX9_digest_194 ?_
    refine pp_aload_n hF dX9_digest_195 rfl rfl ?_
    refine pp_iload hF dX9_digest_196 rfl ?_
    refine pp_iconst hF dX9_digest_198 ic_0 ?_
    obtain ⟨x199, hx199, h⟩ := pp_bd h
    refine pp_callVl hF (c_X9_loadNow hx199) mV_X9_loadNow lk_X9_253 obM_40 rfl rfl ⟨by decide, by decide⟩ (Nat.le_of_ble_eq_true rfl) dX9_digest_199 ?_
    refine pp_ladd hF dX9_digest_202 ?_
    refine pp_lstore_n hF dX9_digest_203 rfl (by decide) (lv' := [(0, ppR 40 0 0), (1, ppL (((31 : Int64) * a1) + x199.1)), (5, ppI a5)]) rfl ?_
    refine pp_ldc2 hF wm_1305 dX9_digest_204 ?_
    refine pp_lload_n hF dX9_digest_207 rfl rfl ?_
    refine pp_lmul hF dX9_digest_208 ?_
    refine pp_aload_n hF dX9_digest_209 rfl rfl ?_
    refine pp_iload hF dX9_digest_210 rfl ?_
    refine pp_iconst hF dX9_digest_212 ic_1 ?_
    obtain ⟨x213, hx213, h⟩ := pp_bd h
    refine pp_callVl hF (c_X9_loadNow hx213) mV_X9_loadNow lk_X9_253 obM_40 rfl rfl ⟨by decide, by decide⟩ (Nat.le_of_ble_eq_true rfl) dX9_digest_213 ?_
    refine pp_ladd hF dX9_digest_216 ?_
    refine pp_lstore_n hF dX9_digest_217 rfl (by decide) (lv' := [(0, ppR 40 0 0), (1, ppL (((31 : Int64) * (((31 : Int64) * a1) + x199.1)) + x213.1)), (5, ppI a5)]) rfl ?_
    refine pp_iinc hF dX9_digest_218 rfl (congrArg (HAdd.hAdd _) ic_1) (by decide) (lv' := [(0, ppR 40 0 0), (1, ppL (((31 : Int64) * (((31 : Int64) * a1) + x199.1)) + x213.1)), (5, ppI (a5 + (1 : Int32)))]) rfl ?_
    refine pp_goto (tgt := 184) hF dX9_digest_221 rfl ?_
    exact hk184 h
  · replace h := (if_neg c1).symm.trans h
    refine pp_ldc2 hF wm_1305 dX9_digest_224 ?_
    refine pp_lload_n hF dX9_digest_227 rfl rfl ?_
    refine pp_lmul hF dX9_digest_228 ?_
    refine pp_aload_n hF dX9_digest_229 rfl rfl ?_
    obtain ⟨x230, hx230, h⟩ := pp_bd h
    refine pp_callVi hF (c_X9_strapsNow hx230) mV_X9_strapsNow lk_X9_296 obM_40 rfl rfl ⟨by decide, by decide⟩ (Nat.le_of_ble_eq_true rfl) dX9_digest_230 ?_
    refine pp_i2l hF dX9_digest_233 ?_
    refine pp_ladd hF dX9_digest_234 ?_
    obtain ⟨rfl, rfl⟩ := pp_i2 h
    exact pp_lreturn hF hR dX9_digest_235
set_option maxRecDepth 20000 in
theorem e_X9_digest_184_L {Γ : pp_G} {r' : Int64} {σ' : pp_M} (hF : pp_Fx Γ dsM cX9_digest 6 RX9 7 172) (hR : pp_Rt Γ dsM (some .long) (some (ppL r')) σ') : ∀ {n : Nat} {σ : pp_M} {a1 : Int64} {a5 : Int32}, f_X9_digest_184 n σ a1 a5 = some (r', σ') → pp_E Γ dsM cX9_digest 6 184 [(0, ppR 40 0 0), (1, ppL a1), (5, ppI a5)] [] σ
  | 0, _, _, _ => fun h => by cases h
  | n + 1, _, _, _ => fun h => e_X9_digest_184 hF hR (fun h => e_X9_digest_184_L hF hR (n := n) h) h
set_option maxRecDepth 20000 in
theorem e_X9_digest_54 {Γ : pp_G} {r' : Int64} {σ' : pp_M} (hF : pp_Fx Γ dsM cX9_digest 6 RX9 7 172) (hR : pp_Rt Γ dsM (some .long) (some (ppL r')) σ') {σ : pp_M} {a1 : Int64} {a3 : Int32} {a4 : Int32} {k45 : pp_M → Int64 → Int32 → Option (Int64 × pp_M)} (hk45 : ∀ {σ : pp_M} {a1 : Int64} {a3 : Int32}, k45 σ a1 a3 = some (r', σ') → pp_E Γ dsM cX9_digest 6 45 [(0, ppR 40 0 0), (1, ppL a1), (3, ppI a3)] [] σ) {k54 : pp_M → Int64 → Int32 → Int32 → Option (Int64 × pp_M)} (hk54 : ∀ {σ : pp_M} {a1 : Int64} {a3 : Int32} {a4 : Int32}, k54 σ a1 a3 a4 = some (r', σ') → pp_E Γ dsM cX9_digest 6 54 [(0, ppR 40 0 0), (1, ppL a1), (3, ppI a3), (4, ppI a4)] [] σ) (h : f_X9_digest_54_B k45 k54 σ a1 a3 a4 = some (r', σ')) : pp_E Γ dsM cX9_digest 6 54 [(0, ppR 40 0 0), (1, ppL a1), (3, ppI a3), (4, ppI a4)] [] σ := by
  unfold f_X9_digest_54_B at h
  refine pp_iload hF dX9_digest_54 rfl ?_
  refine pp_bipush hF dX9_digest_56 bc_6 ?_
  refine pp_icmp_ge (tgt := 82) hF dX9_digest_58 rfl (fun c1 => ?_) (fun c1 => ?_)
  · replace h := (if_pos c1).symm.trans h
    refine pp_ldc2 hF wm_1305 dX9_digest_61 ?_
    refine pp_lload_n hF dX9_digest_64 rfl rfl ?_
    refine pp_lmul hF dX9_digest_65 ?_
    refine pp_aload_n hF dX9_digest_66 rfl rfl ?_
    refine pp_iload_n hF dX9_digest_67 rfl rfl ?_
    refine pp_iload hF dX9_digest_68 rfl ?_
    obtain ⟨x70, hx70, h⟩ := pp_bd h
    refine pp_callVi hF (c_X9_thingNow hx70) mV_X9_thingNow lk_X9_122 obM_40 rfl rfl ⟨by decide, by decide⟩ (Nat.le_of_ble_eq_true rfl) dX9_digest_70 ?_
    refine pp_i2l hF dX9_digest_73 ?_
    refine pp_ladd hF dX9_digest_74 ?_
    refine pp_lstore_n hF dX9_digest_75 rfl (by decide) (lv' := [(0, ppR 40 0 0), (1, ppL (((31 : Int64) * a1) + (x70.1.toInt64))), (3, ppI a3), (4, ppI a4)]) rfl ?_
    refine pp_iinc hF dX9_digest_76 rfl (congrArg (HAdd.hAdd _) ic_1) (by decide) (lv' := [(0, ppR 40 0 0), (1, ppL (((31 : Int64) * a1) + (x70.1.toInt64))), (3, ppI a3), (4, ppI (a4 + (1 : Int32)))]) rfl ?_
    refine pp_goto (tgt := 54) hF dX9_digest_79 rfl ?_
    exact hk54 h
  · replace h := (if_neg c1).symm.trans h
    refine pp_ldc2 hF wm_1305 dX9_digest_82 ?_
    refine pp_lload_n hF dX9_digest_85 rfl rfl ?_
    refine pp_lmul hF dX9_digest_86 ?_
    refine pp_aload_n hF dX9_digest_87 rfl rfl ?_
    refine pp_iload_n hF dX9_digest_88 rfl rfl ?_
    obtain ⟨x89, hx89, h⟩ := pp_bd h
    refine pp_callVi hF (c_X9_bestNow hx89) mV_X9_bestNow lk_X9_238 obM_40 rfl rfl ⟨by decide, by decide⟩ (Nat.le_of_ble_eq_true rfl) dX9_digest_89 ?_
    refine pp_i2l hF dX9_digest_92 ?_
    refine pp_ladd hF dX9_digest_93 ?_
    refine pp_lstore_n hF dX9_digest_94 rfl (by decide) (lv' := [(0, ppR 40 0 0), (1, ppL (((31 : Int64) * a1) + (x89.1.toInt64))), (3, ppI a3), (4, ppI a4)]) rfl ?_
    refine pp_ldc2 hF wm_1305 dX9_digest_95 ?_
    refine pp_lload_n hF dX9_digest_98 rfl rfl ?_
    refine pp_lmul hF dX9_digest_99 ?_
    refine pp_aload_n hF dX9_digest_100 rfl rfl ?_
    refine pp_iload_n hF dX9_digest_101 rfl rfl ?_
    obtain ⟨x102, hx102, h⟩ := pp_bd h
    refine pp_callVi hF (c_X9_loadedNow hx102) mV_X9_loadedNow lk_X9_247 obM_40 rfl rfl ⟨by decide, by decide⟩ (Nat.le_of_ble_eq_true rfl) dX9_digest_102 ?_
    refine pp_i2l hF dX9_digest_105 ?_
    refine pp_ladd hF dX9_digest_106 ?_
    refine pp_lstore_n hF dX9_digest_107 rfl (by decide) (lv' := [(0, ppR 40 0 0), (1, ppL (((31 : Int64) * (((31 : Int64) * a1) + (x89.1.toInt64))) + (x102.1.toInt64))), (3, ppI a3), (4, ppI a4)]) rfl ?_
    refine pp_iinc hF dX9_digest_108 rfl (congrArg (HAdd.hAdd _) ic_1) (by decide) (lv' := [(0, ppR 40 0 0), (1, ppL (((31 : Int64) * (((31 : Int64) * a1) + (x89.1.toInt64))) + (x102.1.toInt64))), (3, ppI (a3 + (1 : Int32))), (4, ppI a4)]) rfl ?_
    refine pp_goto (tgt := 45) hF dX9_digest_111 rfl ?_
    refine pp_few [0, 1, 2] (lv' := [(0, ppR 40 0 0), (1, ppL (((31 : Int64) * (((31 : Int64) * a1) + (x89.1.toInt64))) + (x102.1.toInt64))), (3, ppI (a3 + (1 : Int32)))]) rfl ?_
    exact hk45 h
set_option maxRecDepth 20000 in
theorem e_X9_digest_54_L {Γ : pp_G} {r' : Int64} {σ' : pp_M} (hF : pp_Fx Γ dsM cX9_digest 6 RX9 7 172) (hR : pp_Rt Γ dsM (some .long) (some (ppL r')) σ') {k45 : pp_M → Int64 → Int32 → Option (Int64 × pp_M)} (hk45 : ∀ {σ : pp_M} {a1 : Int64} {a3 : Int32}, k45 σ a1 a3 = some (r', σ') → pp_E Γ dsM cX9_digest 6 45 [(0, ppR 40 0 0), (1, ppL a1), (3, ppI a3)] [] σ) : ∀ {n : Nat} {σ : pp_M} {a1 : Int64} {a3 : Int32} {a4 : Int32}, f_X9_digest_54 k45 n σ a1 a3 a4 = some (r', σ') → pp_E Γ dsM cX9_digest 6 54 [(0, ppR 40 0 0), (1, ppL a1), (3, ppI a3), (4, ppI a4)] [] σ
  | 0, _, _, _, _ => fun h => by cases h
  | n + 1, _, _, _, _ => fun h => e_X9_digest_54 hF hR hk45 (fun h => e_X9_digest_54_L hF hR hk45 (n := n) h) h
set_option maxRecDepth 20000 in
theorem e_X9_digest_45 {Γ : pp_G} {r' : Int64} {σ' : pp_M} (hF : pp_Fx Γ dsM cX9_digest 6 RX9 7 172) (hR : pp_Rt Γ dsM (some .long) (some (ppL r')) σ') {σ : pp_M} {a1 : Int64} {a3 : Int32} {k45 : pp_M → Int64 → Int32 → Option (Int64 × pp_M)} (hk45 : ∀ {σ : pp_M} {a1 : Int64} {a3 : Int32}, k45 σ a1 a3 = some (r', σ') → pp_E Γ dsM cX9_digest 6 45 [(0, ppR 40 0 0), (1, ppL a1), (3, ppI a3)] [] σ) (h : f_X9_digest_45_B k45 σ a1 a3 = some (r', σ')) : pp_E Γ dsM cX9_digest 6 45 [(0, ppR 40 0 0), (1, ppL a1), (3, ppI a3)] [] σ := by
  unfold f_X9_digest_45_B at h
  refine pp_iload_n hF dX9_digest_45 rfl rfl ?_
  refine pp_bipush hF dX9_digest_46 bc_6 ?_
  refine pp_icmp_ge (tgt := 114) hF dX9_digest_48 rfl (fun c1 => ?_) (fun c1 => ?_)
  · replace h := (if_pos c1).symm.trans h
    refine pp_iconst hF dX9_digest_51 ic_0 ?_
    refine pp_istore hF dX9_digest_52 (by decide) (lv' := [(0, ppR 40 0 0), (1, ppL a1), (3, ppI a3), (4, ppI (0 : Int32))]) rfl ?_
    exact e_X9_digest_54_L hF hR hk45 h
  · replace h := (if_neg c1).symm.trans h
    refine pp_ldc2 hF wm_1305 dX9_digest_114 ?_
    refine pp_lload_n hF dX9_digest_117 rfl rfl ?_
    refine pp_lmul hF dX9_digest_118 ?_
    refine pp_aload_n hF dX9_digest_119 rfl rfl ?_
    obtain ⟨x120, hx120, h⟩ := pp_bd h
    refine pp_callVi hF (c_X9_hoursNow hx120) mV_X9_hoursNow lk_X9_205 obM_40 rfl rfl ⟨by decide, by decide⟩ (Nat.le_of_ble_eq_true rfl) dX9_digest_120 ?_
    refine pp_i2l hF dX9_digest_123 ?_
    refine pp_ladd hF dX9_digest_124 ?_
    refine pp_lstore_n hF dX9_digest_125 rfl (by decide) (lv' := [(0, ppR 40 0 0), (1, ppL (((31 : Int64) * a1) + (x120.1.toInt64))), (3, ppI a3)]) rfl ?_
    refine pp_ldc2 hF wm_1305 dX9_digest_126 ?_
    refine pp_lload_n hF dX9_digest_129 rfl rfl ?_
    refine pp_lmul hF dX9_digest_130 ?_
    refine pp_aload_n hF dX9_digest_131 rfl rfl ?_
    obtain ⟨x132, hx132, h⟩ := pp_bd h
    refine pp_callVi hF (c_X9_judgedNow hx132) mV_X9_judgedNow lk_X9_208 obM_40 rfl rfl ⟨by decide, by decide⟩ (Nat.le_of_ble_eq_true rfl) dX9_digest_132 ?_
    refine pp_i2l hF dX9_digest_135 ?_
    refine pp_ladd hF dX9_digest_136 ?_
    refine pp_lstore_n hF dX9_digest_137 rfl (by decide) (lv' := [(0, ppR 40 0 0), (1, ppL (((31 : Int64) * (((31 : Int64) * a1) + (x120.1.toInt64))) + (x132.1.toInt64))), (3, ppI a3)]) rfl ?_
    refine pp_aload_n hF dX9_digest_138 rfl rfl ?_
    obtain ⟨x139, hx139, h⟩ := pp_bd h
    refine pp_callVl hF (c_X9_gainNow hx139) mV_X9_gainNow lk_X9_222 obM_40 rfl rfl ⟨by decide, by decide⟩ (Nat.le_of_ble_eq_true rfl) dX9_digest_139 ?_
    refine pp_lstore_n hF dX9_digest_142 rfl (by decide) (lv' := [(0, ppR 40 0 0), (1, ppL (((31 : Int64) * (((31 : Int64) * a1) + (x120.1.toInt64))) + (x132.1.toInt64))), (3, ppL x139.1)]) rfl ?_
    refine pp_ldc2 hF wm_1305 dX9_digest_143 ?_
    refine pp_lload_n hF dX9_digest_146 rfl rfl ?_
    refine pp_lmul hF dX9_digest_147 ?_
    refine pp_lload_n hF dX9_digest_148 rfl rfl ?_
    refine pp_aload_n hF dX9_digest_149 rfl rfl ?_
    refine pp_getI hF fdM_X9_178 dX9_digest_150 ?_
    obtain ⟨x153, hx153, h⟩ := pp_bd h
    refine pp_callSl hF (c_X9_sixteen hx153) mS_X9_sixteen lk_X9_193 rfl rfl ⟨by decide, by decide⟩ (Nat.le_of_ble_eq_true rfl) dX9_digest_153 ?_
    refine pp_iconst hF dX9_digest_156 ic_0 ?_
    obtain ⟨x157, hx157, h⟩ := pp_bd h
    refine pp_callSl hF (c_X9_lowest hx157) mS_X9_lowest lk_X9_214 rfl rfl ⟨by decide, by decide⟩ (Nat.le_of_ble_eq_true rfl) dX9_digest_157 ?_
    refine pp_ladd hF dX9_digest_160 ?_
    refine pp_lstore_n hF dX9_digest_161 rfl (by decide) (lv' := [(0, ppR 40 0 0), (1, ppL (((31 : Int64) * (((31 : Int64) * (((31 : Int64) * a1) + (x120.1.toInt64))) + (x132.1.toInt64))) + x157.1)), (3, ppL x139.1)]) rfl ?_
    refine pp_ldc2 hF wm_1305 dX9_digest_162 ?_
    refine pp_lload_n hF dX9_digest_165 rfl rfl ?_
    refine pp_lmul hF dX9_digest_166 ?_
    refine pp_lload_n hF dX9_digest_167 rfl rfl ?_
    refine pp_aload_n hF dX9_digest_168 rfl rfl ?_
    refine pp_getI hF fdM_X9_178 dX9_digest_169 ?_
    obtain ⟨x172, hx172, h⟩ := pp_bd h
    refine pp_callSl hF (c_X9_sixteen hx172) mS_X9_sixteen lk_X9_193 rfl rfl ⟨by decide, by decide⟩ (Nat.le_of_ble_eq_true rfl) dX9_digest_172 ?_
    refine pp_iconst hF dX9_digest_175 ic_1 ?_
    obtain ⟨x176, hx176, h⟩ := pp_bd h
    refine pp_callSl hF (c_X9_lowest hx176) mS_X9_lowest lk_X9_214 rfl rfl ⟨by decide, by decide⟩ (Nat.le_of_ble_eq_true rfl) dX9_digest_176 ?_
    refine pp_ladd hF dX9_digest_179 ?_
    refine pp_lstore_n hF dX9_digest_180 rfl (by decide) (lv' := [(0, ppR 40 0 0), (1, ppL (((31 : Int64) * (((31 : Int64) * (((31 : Int64) * (((31 : Int64) * a1) + (x120.1.toInt64))) + (x132.1.toInt64))) + x157.1)) + x176.1)), (3, ppL x139.1)]) rfl ?_
    refine pp_iconst hF dX9_digest_181 ic_0 ?_
    refine pp_istore hF dX9_digest_182 (by decide) (lv' := [(0, ppR 40 0 0), (1, ppL (((31 : Int64) * (((31 : Int64) * (((31 : Int64) * (((31 : Int64) * a1) + (x120.1.toInt64))) + (x132.1.toInt64))) + x157.1)) + x176.1)), (3, ppL x139.1), (5, ppI (0 : Int32))]) rfl ?_
    refine pp_few [0, 1, 3] (lv' := [(0, ppR 40 0 0), (1, ppL (((31 : Int64) * (((31 : Int64) * (((31 : Int64) * (((31 : Int64) * a1) + (x120.1.toInt64))) + (x132.1.toInt64))) + x157.1)) + x176.1)), (5, ppI (0 : Int32))]) rfl ?_
    exact e_X9_digest_184_L hF hR h
set_option maxRecDepth 20000 in
theorem e_X9_digest_45_L {Γ : pp_G} {r' : Int64} {σ' : pp_M} (hF : pp_Fx Γ dsM cX9_digest 6 RX9 7 172) (hR : pp_Rt Γ dsM (some .long) (some (ppL r')) σ') : ∀ {n : Nat} {σ : pp_M} {a1 : Int64} {a3 : Int32}, f_X9_digest_45 n σ a1 a3 = some (r', σ') → pp_E Γ dsM cX9_digest 6 45 [(0, ppR 40 0 0), (1, ppL a1), (3, ppI a3)] [] σ
  | 0, _, _, _ => fun h => by cases h
  | n + 1, _, _, _ => fun h => e_X9_digest_45 hF hR (fun h => e_X9_digest_45_L hF hR (n := n) h) h
set_option maxRecDepth 20000 in
theorem e_X9_digest_6 {Γ : pp_G} {r' : Int64} {σ' : pp_M} (hF : pp_Fx Γ dsM cX9_digest 6 RX9 7 172) (hR : pp_Rt Γ dsM (some .long) (some (ppL r')) σ') {σ : pp_M} {a1 : Int64} {a3 : Int32} {k6 : pp_M → Int64 → Int32 → Option (Int64 × pp_M)} (hk6 : ∀ {σ : pp_M} {a1 : Int64} {a3 : Int32}, k6 σ a1 a3 = some (r', σ') → pp_E Γ dsM cX9_digest 6 6 [(0, ppR 40 0 0), (1, ppL a1), (3, ppI a3)] [] σ) (h : f_X9_digest_6_B k6 σ a1 a3 = some (r', σ')) : pp_E Γ dsM cX9_digest 6 6 [(0, ppR 40 0 0), (1, ppL a1), (3, ppI a3)] [] σ := by
  unfold f_X9_digest_6_B at h
  refine pp_iload_n hF dX9_digest_6 rfl rfl ?_
  refine pp_bipush hF dX9_digest_7 bc_8 ?_
  refine pp_icmp_ge (tgt := 31) hF dX9_digest_9 rfl (fun c1 => ?_) (fun c1 => ?_)
  · replace h := (if_pos c1).symm.trans h
    refine pp_ldc2 hF wm_1305 dX9_digest_12 ?_
    refine pp_lload_n hF dX9_digest_15 rfl rfl ?_
    refine pp_lmul hF dX9_digest_16 ?_
    refine pp_aload_n hF dX9_digest_17 rfl rfl ?_
    refine pp_iload_n hF dX9_digest_18 rfl rfl ?_
    obtain ⟨x19, hx19, h⟩ := pp_bd h
    refine pp_callVi hF (c_X9_count hx19) mV_X9_count lk_X9_317 obM_40 rfl rfl ⟨by decide, by decide⟩ (Nat.le_of_ble_eq_true rfl) dX9_digest_19 ?_
    refine pp_i2l hF dX9_digest_22 ?_
    refine pp_ladd hF dX9_digest_23 ?_
    refine pp_lstore_n hF dX9_digest_24 rfl (by decide) (lv' := [(0, ppR 40 0 0), (1, ppL (((31 : Int64) * a1) + (x19.1.toInt64))), (3, ppI a3)]) rfl ?_
    refine pp_iinc hF dX9_digest_25 rfl (congrArg (HAdd.hAdd _) ic_1) (by decide) (lv' := [(0, ppR 40 0 0), (1, ppL (((31 : Int64) * a1) + (x19.1.toInt64))), (3, ppI (a3 + (1 : Int32)))]) rfl ?_
    refine pp_goto (tgt := 6) hF dX9_digest_28 rfl ?_
    exact hk6 h
  · replace h := (if_neg c1).symm.trans h
    refine pp_ldc2 hF wm_1305 dX9_digest_31 ?_
    refine pp_lload_n hF dX9_digest_34 rfl rfl ?_
    refine pp_lmul hF dX9_digest_35 ?_
    refine pp_aload_n hF dX9_digest_36 rfl rfl ?_
    obtain ⟨x37, hx37, h⟩ := pp_bd h
    refine pp_callVi hF (c_X9_faultNow hx37) mV_X9_faultNow lk_X9_159 obM_40 rfl rfl ⟨by decide, by decide⟩ (Nat.le_of_ble_eq_true rfl) dX9_digest_37 ?_
    refine pp_i2l hF dX9_digest_40 ?_
    refine pp_ladd hF dX9_digest_41 ?_
    refine pp_lstore_n hF dX9_digest_42 rfl (by decide) (lv' := [(0, ppR 40 0 0), (1, ppL (((31 : Int64) * a1) + (x37.1.toInt64))), (3, ppI a3)]) rfl ?_
    refine pp_iconst hF dX9_digest_43 ic_0 ?_
    refine pp_istore_n hF dX9_digest_44 rfl (by decide) (lv' := [(0, ppR 40 0 0), (1, ppL (((31 : Int64) * a1) + (x37.1.toInt64))), (3, ppI (0 : Int32))]) rfl ?_
    exact e_X9_digest_45_L hF hR h
set_option maxRecDepth 20000 in
theorem e_X9_digest_6_L {Γ : pp_G} {r' : Int64} {σ' : pp_M} (hF : pp_Fx Γ dsM cX9_digest 6 RX9 7 172) (hR : pp_Rt Γ dsM (some .long) (some (ppL r')) σ') : ∀ {n : Nat} {σ : pp_M} {a1 : Int64} {a3 : Int32}, f_X9_digest_6 n σ a1 a3 = some (r', σ') → pp_E Γ dsM cX9_digest 6 6 [(0, ppR 40 0 0), (1, ppL a1), (3, ppI a3)] [] σ
  | 0, _, _, _ => fun h => by cases h
  | n + 1, _, _, _ => fun h => e_X9_digest_6 hF hR (fun h => e_X9_digest_6_L hF hR (n := n) h) h
set_option maxRecDepth 20000 in
theorem e_X9_digest_0 {Γ : pp_G} {r' : Int64} {σ' : pp_M} (hF : pp_Fx Γ dsM cX9_digest 6 RX9 7 172) (hR : pp_Rt Γ dsM (some .long) (some (ppL r')) σ') {σ : pp_M}  (h : f_X9_digest σ  = some (r', σ')) : pp_E Γ dsM cX9_digest 6 0 [(0, ppR 40 0 0)] [] σ := by
  unfold f_X9_digest at h
  refine pp_ldc2 hF wm_1304 dX9_digest_0 ?_
  refine pp_lstore_n hF dX9_digest_3 rfl (by decide) (lv' := [(0, ppR 40 0 0), (1, ppL (17 : Int64))]) rfl ?_
  refine pp_iconst hF dX9_digest_4 ic_0 ?_
  refine pp_istore_n hF dX9_digest_5 rfl (by decide) (lv' := [(0, ppR 40 0 0), (1, ppL (17 : Int64)), (3, ppI (0 : Int32))]) rfl ?_
  exact e_X9_digest_6_L hF hR h
set_option maxRecDepth 20000 in
theorem c_X9_digest {r' : Int64} {σ' : pp_M} {σ : pp_M}  (h : f_X9_digest σ  = some (r', σ')) : pp_Ct yX9_digest cX9_digest 6 (some .long) 7 172 dsM [ppR 40 0 0] σ (some (ppL r')) σ' := pp_met pl_X9 rfl okM (Nat.le_of_ble_eq_true rfl) rfl (fun Γ hF hR => (e_X9_digest_0 hF hR h))
set_option maxRecDepth 20000 in
theorem e_X9_fault_0 {Γ : pp_G} {r' : Int32} {σ' : pp_M} (hF : pp_Fx Γ dsM cX9_fault 1 RX9 5 104) (hR : pp_Rt Γ dsM (some .int) (some (ppI r')) σ') {σ : pp_M}  (h : f_X9_fault σ  = some (r', σ')) : pp_E Γ dsM cX9_fault 1 0 [(0, ppR 40 0 0)] [] σ := by
  unfold f_X9_fault at h
  refine pp_aload_n hF dX9_fault_0 rfl rfl ?_
  obtain ⟨x1, hx1, h⟩ := pp_bd h
  refine pp_callVi hF (c_X9_faultNow hx1) mV_X9_faultNow lk_X9_159 obM_40 rfl rfl ⟨by decide, by decide⟩ (Nat.le_of_ble_eq_true rfl) dX9_fault_1 ?_
  obtain ⟨rfl, rfl⟩ := pp_i2 h
  exact pp_ireturn hF hR dX9_fault_4
set_option maxRecDepth 20000 in
theorem c_X9_fault {r' : Int32} {σ' : pp_M} {σ : pp_M}  (h : f_X9_fault σ  = some (r', σ')) : pp_Ct yX9_fault cX9_fault 1 (some .int) 5 104 dsM [ppR 40 0 0] σ (some (ppI r')) σ' := pp_met pl_X9 rfl okM (Nat.le_of_ble_eq_true rfl) rfl (fun Γ hF hR => (e_X9_fault_0 hF hR h))
set_option maxRecDepth 20000 in
theorem e_X9_gain_0 {Γ : pp_G} {r' : Int64} {σ' : pp_M} (hF : pp_Fx Γ dsM cX9_gain 2 RX9 6 138) (hR : pp_Rt Γ dsM (some .long) (some (ppL r')) σ') {σ : pp_M} {a1 : Int32} (h : f_X9_gain σ a1 = some (r', σ')) : pp_E Γ dsM cX9_gain 2 0 [(0, ppR 40 0 0), (1, ppI a1)] [] σ := by
  unfold f_X9_gain at h
  refine pp_iload_n hF dX9_gain_0 rfl rfl ?_
  refine pp_iconst hF dX9_gain_1 ic_0 ?_
  refine pp_iconst hF dX9_gain_2 ic_1 ?_
  obtain ⟨x3, hx3, h⟩ := pp_bd h
  refine pp_callSi hF (c_X9_in hx3) mS_X9_in lk_X9_114 rfl rfl ⟨by decide, by decide⟩ (Nat.le_of_ble_eq_true rfl) dX9_gain_3 ?_
  refine pp_if_eq (tgt := 27) hF dX9_gain_6 rfl (fun c2 => ?_) (fun c2 => ?_)
  · replace h := (if_pos c2).symm.trans h
    refine pp_bipush hF dX9_gain_27 bc_n2 ?_
    obtain ⟨x29, hx29, h⟩ := pp_bd h
    refine pp_callSl hF (c_X9_no hx29) mS_X9_no lk_X9_211 rfl rfl ⟨by decide, by decide⟩ (Nat.le_of_ble_eq_true rfl) dX9_gain_29 ?_
    obtain ⟨rfl, rfl⟩ := pp_i2 h
    exact pp_lreturn hF hR dX9_gain_32
  · replace h := (if_neg c2).symm.trans h
    refine pp_aload_n hF dX9_gain_9 rfl rfl ?_
    obtain ⟨x10, hx10, h⟩ := pp_bd h
    refine pp_callVl hF (c_X9_gainNow hx10) mV_X9_gainNow lk_X9_222 obM_40 rfl rfl ⟨by decide, by decide⟩ (Nat.le_of_ble_eq_true rfl) dX9_gain_10 ?_
    refine pp_aload_n hF dX9_gain_13 rfl rfl ?_
    refine pp_getI hF fdM_X9_178 dX9_gain_14 ?_
    obtain ⟨x17, hx17, h⟩ := pp_bd h
    refine pp_callSl hF (c_X9_sixteen hx17) mS_X9_sixteen lk_X9_193 rfl rfl ⟨by decide, by decide⟩ (Nat.le_of_ble_eq_true rfl) dX9_gain_17 ?_
    refine pp_iload_n hF dX9_gain_20 rfl rfl ?_
    obtain ⟨x21, hx21, h⟩ := pp_bd h
    refine pp_callSl hF (c_X9_lowest hx21) mS_X9_lowest lk_X9_214 rfl rfl ⟨by decide, by decide⟩ (Nat.le_of_ble_eq_true rfl) dX9_gain_21 ?_
    refine pp_goto (tgt := 32) hF dX9_gain_24 rfl ?_
    obtain ⟨rfl, rfl⟩ := pp_i2 h
    exact pp_lreturn hF hR dX9_gain_32
set_option maxRecDepth 20000 in
theorem c_X9_gain {r' : Int64} {σ' : pp_M} {σ : pp_M} {a1 : Int32} (h : f_X9_gain σ a1 = some (r', σ')) : pp_Ct yX9_gain cX9_gain 2 (some .long) 6 138 dsM [ppR 40 0 0, ppI a1] σ (some (ppL r')) σ' := pp_met pl_X9 rfl okM (Nat.le_of_ble_eq_true rfl) rfl (fun Γ hF hR => (e_X9_gain_0 hF hR h))
set_option maxRecDepth 20000 in
theorem e_X9_lacks_0 {Γ : pp_G} {r' : Int32} {σ' : pp_M} (hF : pp_Fx Γ dsM cX9_lacks 4 RX9 2 34) (hR : pp_Rt Γ dsM (some .int) (some (ppI r')) σ') {σ : pp_M} {a1 : Int32} {a2 : Int32} {a3 : Int32} (h : f_X9_lacks σ a1 a2 a3 = some (r', σ')) : pp_E Γ dsM cX9_lacks 4 0 [(0, ppR 40 0 0), (1, ppI a1), (2, ppI a2), (3, ppI a3)] [] σ := by
  unfold f_X9_lacks at h
  refine pp_aload_n hF dX9_lacks_0 rfl rfl ?_
  refine pp_getR hF fdM_X9_96 dX9_lacks_1 ?_
  refine pp_iload_n hF dX9_lacks_4 rfl rfl ?_
  obtain ⟨hi1, h⟩ := pp_ck h
  refine pp_baloadJ hF vM_66 hi1 (Nat.zero_add _) dX9_lacks_5 ?_
  refine pp_if_ne (tgt := 13) hF dX9_lacks_6 rfl (fun c2 => ?_) (fun c2 => ?_)
  · replace h := (if_pos c2).symm.trans h
    refine pp_iconst hF dX9_lacks_9 ic_1 ?_
    refine pp_goto (tgt := 48) hF dX9_lacks_10 rfl ?_
    obtain ⟨rfl, rfl⟩ := pp_i2 h
    exact pp_ireturn hF hR dX9_lacks_48
  · replace h := (if_neg c2).symm.trans h
    refine pp_aload_n hF dX9_lacks_13 rfl rfl ?_
    refine pp_getR hF fdM_X9_100 dX9_lacks_14 ?_
    refine pp_iload_n hF dX9_lacks_17 rfl rfl ?_
    refine pp_ialoadJ hF vM_67 hi1 (Nat.zero_add _) dX9_lacks_18 ?_
    refine pp_iload_n hF dX9_lacks_19 rfl rfl ?_
    refine pp_icmp_eq (tgt := 27) hF dX9_lacks_20 rfl (fun c3 => ?_) (fun c3 => ?_)
    · replace h := (if_pos c3).symm.trans h
      refine pp_iload_n hF dX9_lacks_27 rfl rfl ?_
      refine pp_iconst hF dX9_lacks_28 ic_0 ?_
      refine pp_aload_n hF dX9_lacks_29 rfl rfl ?_
      refine pp_getR hF fdM_X9_103 dX9_lacks_30 ?_
      refine pp_iload_n hF dX9_lacks_33 rfl rfl ?_
      refine pp_ialoadJ hF vM_68 hi1 (Nat.zero_add _) dX9_lacks_34 ?_
      refine pp_iconst hF dX9_lacks_35 ic_1 ?_
      refine pp_isub hF dX9_lacks_36 ?_
      obtain ⟨x37, hx37, h⟩ := pp_bd h
      refine pp_callSi hF (c_X9_in hx37) mS_X9_in lk_X9_114 rfl rfl ⟨by decide, by decide⟩ (Nat.le_of_ble_eq_true rfl) dX9_lacks_37 ?_
      refine pp_if_eq (tgt := 47) hF dX9_lacks_40 rfl (fun c5 => ?_) (fun c5 => ?_)
      · replace h := (if_pos c5).symm.trans h
        refine pp_iconst hF dX9_lacks_47 ic_2 ?_
        obtain ⟨rfl, rfl⟩ := pp_i2 h
        exact pp_ireturn hF hR dX9_lacks_48
      · replace h := (if_neg c5).symm.trans h
        refine pp_iconst hF dX9_lacks_43 ic_0 ?_
        refine pp_goto (tgt := 48) hF dX9_lacks_44 rfl ?_
        obtain ⟨rfl, rfl⟩ := pp_i2 h
        exact pp_ireturn hF hR dX9_lacks_48
    · replace h := (if_neg c3).symm.trans h
      refine pp_iconst hF dX9_lacks_23 ic_3 ?_
      refine pp_goto (tgt := 48) hF dX9_lacks_24 rfl ?_
      obtain ⟨rfl, rfl⟩ := pp_i2 h
      exact pp_ireturn hF hR dX9_lacks_48
set_option maxRecDepth 20000 in
theorem c_X9_lacks {r' : Int32} {σ' : pp_M} {σ : pp_M} {a1 : Int32} {a2 : Int32} {a3 : Int32} (h : f_X9_lacks σ a1 a2 a3 = some (r', σ')) : pp_Ct yX9_lacks cX9_lacks 4 (some .int) 2 34 dsM [ppR 40 0 0, ppI a1, ppI a2, ppI a3] σ (some (ppI r')) σ' := pp_met pl_X9 rfl okM (Nat.le_of_ble_eq_true rfl) rfl (fun Γ hF hR => (e_X9_lacks_0 hF hR h))
set_option maxRecDepth 20000 in
theorem e_X9_get_0 {Γ : pp_G} {r' : Int32} {σ' : pp_M} (hF : pp_Fx Γ dsM cX9_get 5 RX9 3 57) (hR : pp_Rt Γ dsM (some .int) (some (ppI r')) σ') {σ : pp_M} {a1 : Int32} {a2 : Int32} {a3 : Int32} (h : f_X9_get σ a1 a2 a3 = some (r', σ')) : pp_E Γ dsM cX9_get 5 0 [(0, ppR 40 0 0), (1, ppI a1), (2, ppI a2), (3, ppI a3)] [] σ := by
  unfold f_X9_get at h
  refine pp_iload_n hF dX9_get_0 rfl rfl ?_
  obtain ⟨x1, hx1, h⟩ := pp_bd h
  refine pp_callSi hF (c_X9_isSheet hx1) mS_X9_isSheet lk_X9_165 rfl rfl ⟨by decide, by decide⟩ (Nat.le_of_ble_eq_true rfl) dX9_get_1 ?_
  refine pp_if_eq (tgt := 16) hF dX9_get_4 rfl (fun c2 => ?_) (fun c2 => ?_)
  · replace h := (if_pos c2).symm.trans h
    refine pp_ldcw hF wm_1283 dX9_get_16 ?_
    obtain ⟨rfl, rfl⟩ := pp_i2 h
    exact pp_ireturn hF hR dX9_get_19
  · replace h := (if_neg c2).symm.trans h
    refine pp_iload_n hF dX9_get_7 rfl rfl ?_
    refine pp_iconst hF dX9_get_8 ic_0 ?_
    refine pp_iconst hF dX9_get_9 ic_2 ?_
    obtain ⟨x10, hx10, h⟩ := pp_bd h
    refine pp_callSi hF (c_X9_in hx10) mS_X9_in lk_X9_114 rfl rfl ⟨by decide, by decide⟩ (Nat.le_of_ble_eq_true rfl) dX9_get_10 ?_
    refine pp_if_ne (tgt := 20) hF dX9_get_13 rfl (fun c4 => ?_) (fun c4 => ?_)
    · replace h := (if_pos c4).symm.trans h
      refine pp_ldcw hF wm_1283 dX9_get_16 ?_
      obtain ⟨rfl, rfl⟩ := pp_i2 h
      exact pp_ireturn hF hR dX9_get_19
    · replace h := (if_neg c4).symm.trans h
      refine pp_aload_n hF dX9_get_20 rfl rfl ?_
      refine pp_iload_n hF dX9_get_21 rfl rfl ?_
      refine pp_iload_n hF dX9_get_22 rfl rfl ?_
      refine pp_iload_n hF dX9_get_23 rfl rfl ?_
      obtain ⟨x24, hx24, h⟩ := pp_bd h
      refine pp_callVi hF (c_X9_lacks hx24) mV_X9_lacks lk_X9_302 obM_40 rfl rfl ⟨by decide, by decide⟩ (Nat.le_of_ble_eq_true rfl) dX9_get_24 ?_
      refine pp_istore hF dX9_get_27 (by decide) (lv' := [(0, ppR 40 0 0), (1, ppI a1), (2, ppI a2), (3, ppI a3), (4, ppI x24.1)]) rfl ?_
      refine pp_iload hF dX9_get_29 rfl ?_
      refine pp_if_le (tgt := 44) hF dX9_get_31 rfl (fun c6 => ?_) (fun c6 => ?_)
      · replace h := (if_pos c6).symm.trans h
        refine pp_aload_n hF dX9_get_34 rfl rfl ?_
        refine pp_iload hF dX9_get_35 rfl ?_
        refine pp_putI hF fwM_X9_299 dX9_get_37 ?_
        refine pp_ldcw hF wm_1283 dX9_get_40 ?_
        obtain ⟨rfl, rfl⟩ := pp_i2 h
        exact pp_ireturn hF hR dX9_get_43
      · replace h := (if_neg c6).symm.trans h
        refine pp_aload_n hF dX9_get_44 rfl rfl ?_
        refine pp_getR hF fdM_X9_106 dX9_get_45 ?_
        refine pp_bipush hF dX9_get_48 bc_40 ?_
        refine pp_iload_n hF dX9_get_50 rfl rfl ?_
        refine pp_imul hF dX9_get_51 ?_
        refine pp_iload_n hF dX9_get_52 rfl rfl ?_
        refine pp_iadd hF dX9_get_53 ?_
        obtain ⟨hi7, h⟩ := pp_ck h
        refine pp_ialoadJ hF vM_69 hi7 (Nat.zero_add _) dX9_get_54 ?_
        obtain ⟨rfl, rfl⟩ := pp_i2 h
        exact pp_ireturn hF hR dX9_get_55
set_option maxRecDepth 20000 in
theorem c_X9_get {r' : Int32} {σ' : pp_M} {σ : pp_M} {a1 : Int32} {a2 : Int32} {a3 : Int32} (h : f_X9_get σ a1 a2 a3 = some (r', σ')) : pp_Ct yX9_get cX9_get 5 (some .int) 3 57 dsM [ppR 40 0 0, ppI a1, ppI a2, ppI a3] σ (some (ppI r')) σ' := pp_met pl_X9 rfl okM (Nat.le_of_ble_eq_true rfl) rfl (fun Γ hF hR => (e_X9_get_0 hF hR h))
set_option maxRecDepth 20000 in
theorem e_X9_hours_0 {Γ : pp_G} {r' : Int32} {σ' : pp_M} (hF : pp_Fx Γ dsM cX9_hours 1 RX9 6 135) (hR : pp_Rt Γ dsM (some .int) (some (ppI r')) σ') {σ : pp_M}  (h : f_X9_hours σ  = some (r', σ')) : pp_E Γ dsM cX9_hours 1 0 [(0, ppR 40 0 0)] [] σ := by
  unfold f_X9_hours at h
  refine pp_aload_n hF dX9_hours_0 rfl rfl ?_
  obtain ⟨x1, hx1, h⟩ := pp_bd h
  refine pp_callVi hF (c_X9_hoursNow hx1) mV_X9_hoursNow lk_X9_205 obM_40 rfl rfl ⟨by decide, by decide⟩ (Nat.le_of_ble_eq_true rfl) dX9_hours_1 ?_
  obtain ⟨rfl, rfl⟩ := pp_i2 h
  exact pp_ireturn hF hR dX9_hours_4
set_option maxRecDepth 20000 in
theorem c_X9_hours {r' : Int32} {σ' : pp_M} {σ : pp_M}  (h : f_X9_hours σ  = some (r', σ')) : pp_Ct yX9_hours cX9_hours 1 (some .int) 6 135 dsM [ppR 40 0 0] σ (some (ppI r')) σ' := pp_met pl_X9 rfl okM (Nat.le_of_ble_eq_true rfl) rfl (fun Γ hF hR => (e_X9_hours_0 hF hR h))
set_option maxRecDepth 20000 in
theorem e_X9_isPlace_0 {Γ : pp_G} {r' : Int32} {σ' : pp_M} (hF : pp_Fx Γ dsM cX9_isPlace 1 RX9 2 34) (hR : pp_Rt Γ dsM (some .boolean) (some (ppI r')) σ') {σ : pp_M} {a0 : Int32} (h : f_X9_isPlace σ a0 = some (r', σ')) : pp_E Γ dsM cX9_isPlace 1 0 [(0, ppI a0)] [] σ := by
  unfold f_X9_isPlace at h
  refine pp_iload_n hF dX9_isPlace_0 rfl rfl ?_
  refine pp_iconst hF dX9_isPlace_1 ic_0 ?_
  refine pp_bipush hF dX9_isPlace_2 bc_7 ?_
  obtain ⟨x4, hx4, h⟩ := pp_bd h
  refine pp_callSi hF (c_X9_in hx4) mS_X9_in lk_X9_114 rfl rfl ⟨by decide, by decide⟩ (Nat.le_of_ble_eq_true rfl) dX9_isPlace_4 ?_
  obtain ⟨hb2, h⟩ := pp_ck h
  obtain ⟨rfl, rfl⟩ := pp_i2 h
  exact pp_zreturn hF hR (pp_bn hb2) dX9_isPlace_7
set_option maxRecDepth 20000 in
theorem c_X9_isPlace {r' : Int32} {σ' : pp_M} {σ : pp_M} {a0 : Int32} (h : f_X9_isPlace σ a0 = some (r', σ')) : pp_Ct yX9_isPlace cX9_isPlace 1 (some .boolean) 2 34 dsM [ppI a0] σ (some (ppI r')) σ' := pp_met pl_X9 rfl okM (Nat.le_of_ble_eq_true rfl) rfl (fun Γ hF hR => (e_X9_isPlace_0 hF hR h))
set_option maxRecDepth 20000 in
theorem e_X9_judged_0 {Γ : pp_G} {r' : Int32} {σ' : pp_M} (hF : pp_Fx Γ dsM cX9_judged 1 RX9 7 155) (hR : pp_Rt Γ dsM (some .int) (some (ppI r')) σ') {σ : pp_M}  (h : f_X9_judged σ  = some (r', σ')) : pp_E Γ dsM cX9_judged 1 0 [(0, ppR 40 0 0)] [] σ := by
  unfold f_X9_judged at h
  refine pp_aload_n hF dX9_judged_0 rfl rfl ?_
  obtain ⟨x1, hx1, h⟩ := pp_bd h
  refine pp_callVi hF (c_X9_judgedNow hx1) mV_X9_judgedNow lk_X9_208 obM_40 rfl rfl ⟨by decide, by decide⟩ (Nat.le_of_ble_eq_true rfl) dX9_judged_1 ?_
  obtain ⟨rfl, rfl⟩ := pp_i2 h
  exact pp_ireturn hF hR dX9_judged_4
set_option maxRecDepth 20000 in
theorem c_X9_judged {r' : Int32} {σ' : pp_M} {σ : pp_M}  (h : f_X9_judged σ  = some (r', σ')) : pp_Ct yX9_judged cX9_judged 1 (some .int) 7 155 dsM [ppR 40 0 0] σ (some (ppI r')) σ' := pp_met pl_X9 rfl okM (Nat.le_of_ble_eq_true rfl) rfl (fun Γ hF hR => (e_X9_judged_0 hF hR h))
set_option maxRecDepth 20000 in
theorem e_X9_keep_0 {Γ : pp_G} {σ' : pp_M} (hF : pp_Fx Γ dsM cX9_keep 4 RX9 1 12) (hR : pp_Rt Γ dsM none none σ') {σ : pp_M} {a1 : Int32} {a2 : Int32} {a3 : Int32} (h : f_X9_keep σ a1 a2 a3 = some σ') : pp_E Γ dsM cX9_keep 4 0 [(0, ppR 40 0 0), (1, ppI a1), (2, ppI a2), (3, ppI a3)] [] σ := by
  unfold f_X9_keep at h
  refine pp_aload_n hF dX9_keep_0 rfl rfl ?_
  refine pp_getR hF fdM_X9_106 dX9_keep_1 ?_
  refine pp_bipush hF dX9_keep_4 bc_40 ?_
  refine pp_iload_n hF dX9_keep_6 rfl rfl ?_
  refine pp_imul hF dX9_keep_7 ?_
  refine pp_iload_n hF dX9_keep_8 rfl rfl ?_
  refine pp_iadd hF dX9_keep_9 ?_
  refine pp_aload_n hF dX9_keep_10 rfl rfl ?_
  refine pp_getR hF fdM_X9_100 dX9_keep_11 ?_
  refine pp_iload_n hF dX9_keep_14 rfl rfl ?_
  obtain ⟨hi1, h⟩ := pp_ck h
  refine pp_ialoadJ hF vM_67 hi1 (Nat.zero_add _) dX9_keep_15 ?_
  refine pp_if_ne (tgt := 24) hF dX9_keep_16 rfl (fun c2 => ?_) (fun c2 => ?_)
  · replace h := (if_pos c2).symm.trans h
    refine pp_iload_n hF dX9_keep_19 rfl rfl ?_
    refine pp_i2b hF dX9_keep_20 ?_
    refine pp_goto (tgt := 40) hF dX9_keep_21 rfl ?_
    obtain ⟨hi3, h⟩ := pp_ck h
    refine pp_iastoreJ hF vM_69 hi3 (Nat.zero_add _) dX9_keep_40 ?_
    obtain rfl := (Option.some.inj h).symm
    exact pp_return hF hR dX9_keep_41
  · replace h := (if_neg c2).symm.trans h
    refine pp_aload_n hF dX9_keep_24 rfl rfl ?_
    refine pp_getR hF fdM_X9_100 dX9_keep_25 ?_
    refine pp_iload_n hF dX9_keep_28 rfl rfl ?_
    refine pp_ialoadJ hF vM_67 hi1 (Nat.zero_add _) dX9_keep_29 ?_
    refine pp_iconst hF dX9_keep_30 ic_1 ?_
    refine pp_icmp_ne (tgt := 39) hF dX9_keep_31 rfl (fun c4 => ?_) (fun c4 => ?_)
    · replace h := (if_pos c4).symm.trans h
      refine pp_iload_n hF dX9_keep_34 rfl rfl ?_
      refine pp_i2s hF dX9_keep_35 ?_
      refine pp_goto (tgt := 40) hF dX9_keep_36 rfl ?_
      obtain ⟨hi5, h⟩ := pp_ck h
      refine pp_iastoreJ hF vM_69 hi5 (Nat.zero_add _) dX9_keep_40 ?_
      obtain rfl := (Option.some.inj h).symm
      exact pp_return hF hR dX9_keep_41
    · replace h := (if_neg c4).symm.trans h
      refine pp_iload_n hF dX9_keep_39 rfl rfl ?_
      obtain ⟨hi6, h⟩ := pp_ck h
      refine pp_iastoreJ hF vM_69 hi6 (Nat.zero_add _) dX9_keep_40 ?_
      obtain rfl := (Option.some.inj h).symm
      exact pp_return hF hR dX9_keep_41
set_option maxRecDepth 20000 in
theorem c_X9_keep {σ' : pp_M} {σ : pp_M} {a1 : Int32} {a2 : Int32} {a3 : Int32} (h : f_X9_keep σ a1 a2 a3 = some σ') : pp_Ct yX9_keep cX9_keep 4 none 1 12 dsM [ppR 40 0 0, ppI a1, ppI a2, ppI a3] σ none σ' := pp_met pl_X9 rfl okM (Nat.le_of_ble_eq_true rfl) rfl (fun Γ hF hR => (e_X9_keep_0 hF hR h))
set_option maxRecDepth 20000 in
theorem e_X9_load_27 {Γ : pp_G} {r' : Int64} {σ' : pp_M} (hF : pp_Fx Γ dsM cX9_load 3 RX9 7 172) (hR : pp_Rt Γ dsM (some .long) (some (ppL r')) σ') {σ : pp_M}  (h : f_X9_load_27 σ  = some (r', σ')) : pp_E Γ dsM cX9_load 3 27 [] [] σ := by
  unfold f_X9_load_27 at h
  refine pp_bipush hF dX9_load_27 bc_n2 ?_
  obtain ⟨x29, hx29, h⟩ := pp_bd h
  refine pp_callSl hF (c_X9_no hx29) mS_X9_no lk_X9_211 rfl rfl ⟨by decide, by decide⟩ (Nat.le_of_ble_eq_true rfl) dX9_load_29 ?_
  obtain ⟨rfl, rfl⟩ := pp_i2 h
  exact pp_lreturn hF hR dX9_load_32
set_option maxRecDepth 20000 in
theorem e_X9_load_0 {Γ : pp_G} {r' : Int64} {σ' : pp_M} (hF : pp_Fx Γ dsM cX9_load 3 RX9 7 172) (hR : pp_Rt Γ dsM (some .long) (some (ppL r')) σ') {σ : pp_M} {a1 : Int32} {a2 : Int32} (h : f_X9_load σ a1 a2 = some (r', σ')) : pp_E Γ dsM cX9_load 3 0 [(0, ppR 40 0 0), (1, ppI a1), (2, ppI a2)] [] σ := by
  unfold f_X9_load at h
  refine pp_iload_n hF dX9_load_0 rfl rfl ?_
  refine pp_iconst hF dX9_load_1 ic_0 ?_
  refine pp_iconst hF dX9_load_2 ic_2 ?_
  obtain ⟨x3, hx3, h⟩ := pp_bd h
  refine pp_callSi hF (c_X9_in hx3) mS_X9_in lk_X9_114 rfl rfl ⟨by decide, by decide⟩ (Nat.le_of_ble_eq_true rfl) dX9_load_3 ?_
  refine pp_if_eq (tgt := 27) hF dX9_load_6 rfl (fun c2 => ?_) (fun c2 => ?_)
  · replace h := (if_pos c2).symm.trans h
    refine pp_few [] (lv' := []) rfl ?_
    exact e_X9_load_27 hF hR h
  · replace h := (if_neg c2).symm.trans h
    refine pp_iload_n hF dX9_load_9 rfl rfl ?_
    refine pp_iconst hF dX9_load_10 ic_0 ?_
    refine pp_iconst hF dX9_load_11 ic_1 ?_
    obtain ⟨x12, hx12, h⟩ := pp_bd h
    refine pp_callSi hF (c_X9_in hx12) mS_X9_in lk_X9_114 rfl rfl ⟨by decide, by decide⟩ (Nat.le_of_ble_eq_true rfl) dX9_load_12 ?_
    refine pp_if_eq (tgt := 27) hF dX9_load_15 rfl (fun c4 => ?_) (fun c4 => ?_)
    · replace h := (if_pos c4).symm.trans h
      refine pp_few [] (lv' := []) rfl ?_
      exact e_X9_load_27 hF hR h
    · replace h := (if_neg c4).symm.trans h
      refine pp_aload_n hF dX9_load_18 rfl rfl ?_
      refine pp_iload_n hF dX9_load_19 rfl rfl ?_
      refine pp_iload_n hF dX9_load_20 rfl rfl ?_
      obtain ⟨x21, hx21, h⟩ := pp_bd h
      refine pp_callVl hF (c_X9_loadNow hx21) mV_X9_loadNow lk_X9_253 obM_40 rfl rfl ⟨by decide, by decide⟩ (Nat.le_of_ble_eq_true rfl) dX9_load_21 ?_
      refine pp_goto (tgt := 32) hF dX9_load_24 rfl ?_
      obtain ⟨rfl, rfl⟩ := pp_i2 h
      exact pp_lreturn hF hR dX9_load_32
set_option maxRecDepth 20000 in
theorem c_X9_load {r' : Int64} {σ' : pp_M} {σ : pp_M} {a1 : Int32} {a2 : Int32} (h : f_X9_load σ a1 a2 = some (r', σ')) : pp_Ct yX9_load cX9_load 3 (some .long) 7 172 dsM [ppR 40 0 0, ppI a1, ppI a2] σ (some (ppL r')) σ' := pp_met pl_X9 rfl okM (Nat.le_of_ble_eq_true rfl) rfl (fun Γ hF hR => (e_X9_load_0 hF hR h))
set_option maxRecDepth 20000 in
theorem e_X9_loaded_12 {Γ : pp_G} {r' : Int32} {σ' : pp_M} (hF : pp_Fx Γ dsM cX9_loaded 2 RX9 7 163) (hR : pp_Rt Γ dsM (some .int) (some (ppI r')) σ') {σ : pp_M} {a1 : Int32} (h : f_X9_loaded_12 σ a1 = some (r', σ')) : pp_E Γ dsM cX9_loaded 2 12 [(0, ppR 40 0 0), (1, ppI a1)] [] σ := by
  unfold f_X9_loaded_12 at h
  refine pp_aload_n hF dX9_loaded_12 rfl rfl ?_
  refine pp_iload_n hF dX9_loaded_13 rfl rfl ?_
  obtain ⟨x14, hx14, h⟩ := pp_bd h
  refine pp_callVi hF (c_X9_loadedNow hx14) mV_X9_loadedNow lk_X9_247 obM_40 rfl rfl ⟨by decide, by decide⟩ (Nat.le_of_ble_eq_true rfl) dX9_loaded_14 ?_
  refine pp_goto (tgt := 22) hF dX9_loaded_17 rfl ?_
  obtain ⟨rfl, rfl⟩ := pp_i2 h
  exact pp_ireturn hF hR dX9_loaded_22
set_option maxRecDepth 20000 in
theorem e_X9_loaded_0 {Γ : pp_G} {r' : Int32} {σ' : pp_M} (hF : pp_Fx Γ dsM cX9_loaded 2 RX9 7 163) (hR : pp_Rt Γ dsM (some .int) (some (ppI r')) σ') {σ : pp_M} {a1 : Int32} (h : f_X9_loaded σ a1 = some (r', σ')) : pp_E Γ dsM cX9_loaded 2 0 [(0, ppR 40 0 0), (1, ppI a1)] [] σ := by
  unfold f_X9_loaded at h
  refine pp_iload_n hF dX9_loaded_0 rfl rfl ?_
  refine pp_iconst hF dX9_loaded_1 ic_n1 ?_
  refine pp_icmp_eq (tgt := 12) hF dX9_loaded_2 rfl (fun c1 => ?_) (fun c1 => ?_)
  · replace h := (if_pos c1).symm.trans h
    exact e_X9_loaded_12 hF hR h
  · replace h := (if_neg c1).symm.trans h
    refine pp_iload_n hF dX9_loaded_5 rfl rfl ?_
    obtain ⟨x6, hx6, h⟩ := pp_bd h
    refine pp_callSi hF (c_X9_isThing hx6) mS_X9_isThing lk_X9_118 rfl rfl ⟨by decide, by decide⟩ (Nat.le_of_ble_eq_true rfl) dX9_loaded_6 ?_
    refine pp_if_eq (tgt := 20) hF dX9_loaded_9 rfl (fun c3 => ?_) (fun c3 => ?_)
    · replace h := (if_pos c3).symm.trans h
      refine pp_bipush hF dX9_loaded_20 bc_n2 ?_
      obtain ⟨rfl, rfl⟩ := pp_i2 h
      exact pp_ireturn hF hR dX9_loaded_22
    · replace h := (if_neg c3).symm.trans h
      exact e_X9_loaded_12 hF hR h
set_option maxRecDepth 20000 in
theorem c_X9_loaded {r' : Int32} {σ' : pp_M} {σ : pp_M} {a1 : Int32} (h : f_X9_loaded σ a1 = some (r', σ')) : pp_Ct yX9_loaded cX9_loaded 2 (some .int) 7 163 dsM [ppR 40 0 0, ppI a1] σ (some (ppI r')) σ' := pp_met pl_X9 rfl okM (Nat.le_of_ble_eq_true rfl) rfl (fun Γ hF hR => (e_X9_loaded_0 hF hR h))
set_option maxRecDepth 20000 in
theorem e_X9_lose_0 {Γ : pp_G} {r' : Int32} {σ' : pp_M} (hF : pp_Fx Γ dsM cX9_lose 2 RX9 3 54) (hR : pp_Rt Γ dsM (some .int) (some (ppI r')) σ') {σ : pp_M} {a1 : Int32} (h : f_X9_lose σ a1 = some (r', σ')) : pp_E Γ dsM cX9_lose 2 0 [(0, ppR 40 0 0), (1, ppI a1)] [] σ := by
  unfold f_X9_lose at h
  refine pp_iload_n hF dX9_lose_0 rfl rfl ?_
  obtain ⟨x1, hx1, h⟩ := pp_bd h
  refine pp_callSi hF (c_X9_isSheet hx1) mS_X9_isSheet lk_X9_165 rfl rfl ⟨by decide, by decide⟩ (Nat.le_of_ble_eq_true rfl) dX9_lose_1 ?_
  refine pp_if_ne (tgt := 10) hF dX9_lose_4 rfl (fun c2 => ?_) (fun c2 => ?_)
  · replace h := (if_pos c2).symm.trans h
    refine pp_bipush hF dX9_lose_7 bc_n2 ?_
    obtain ⟨rfl, rfl⟩ := pp_i2 h
    exact pp_ireturn hF hR dX9_lose_9
  · replace h := (if_neg c2).symm.trans h
    refine pp_aload_n hF dX9_lose_10 rfl rfl ?_
    refine pp_getR hF fdM_X9_96 dX9_lose_11 ?_
    refine pp_iload_n hF dX9_lose_14 rfl rfl ?_
    obtain ⟨hi3, h⟩ := pp_ck h
    refine pp_baloadJ hF vM_66 hi3 (Nat.zero_add _) dX9_lose_15 ?_
    refine pp_if_ne (tgt := 25) hF dX9_lose_16 rfl (fun c4 => ?_) (fun c4 => ?_)
    · replace h := (if_pos c4).symm.trans h
      refine pp_aload_n hF dX9_lose_19 rfl rfl ?_
      refine pp_iconst hF dX9_lose_20 ic_1 ?_
      obtain ⟨x21, hx21, h⟩ := pp_bd h
      refine pp_callVi hF (c_X9_meets hx21) mV_X9_meets lk_X9_171 obM_40 rfl rfl ⟨by decide, by decide⟩ (Nat.le_of_ble_eq_true rfl) dX9_lose_21 ?_
      obtain ⟨rfl, rfl⟩ := pp_i2 h
      exact pp_ireturn hF hR dX9_lose_24
    · replace h := (if_neg c4).symm.trans h
      refine pp_aload_n hF dX9_lose_25 rfl rfl ?_
      refine pp_getR hF fdM_X9_96 dX9_lose_26 ?_
      refine pp_iload_n hF dX9_lose_29 rfl rfl ?_
      refine pp_iconst hF dX9_lose_30 ic_0 ?_
      refine pp_bastoreJ hF vM_66 hi3 rfl (Nat.zero_add _) dX9_lose_31 ?_
      refine pp_aload_n hF dX9_lose_32 rfl rfl ?_
      refine pp_getR hF fdM_X9_103 dX9_lose_33 ?_
      refine pp_iload_n hF dX9_lose_36 rfl rfl ?_
      refine pp_ialoadJ hF vM_68 hi3 (Nat.zero_add _) dX9_lose_37 ?_
      obtain ⟨rfl, rfl⟩ := pp_i2 h
      exact pp_ireturn hF hR dX9_lose_38
set_option maxRecDepth 20000 in
theorem c_X9_lose {r' : Int32} {σ' : pp_M} {σ : pp_M} {a1 : Int32} (h : f_X9_lose σ a1 = some (r', σ')) : pp_Ct yX9_lose cX9_lose 2 (some .int) 3 54 dsM [ppR 40 0 0, ppI a1] σ (some (ppI r')) σ' := pp_met pl_X9 rfl okM (Nat.le_of_ble_eq_true rfl) rfl (fun Γ hF hR => (e_X9_lose_0 hF hR h))
set_option maxRecDepth 20000 in
theorem e_X9_onward_230 {Γ : pp_G} {r' : Int32} {σ' : pp_M} (hF : pp_Fx Γ dsM cX9_onward 12 RX9 4 94) (hR : pp_Rt Γ dsM (some .int) (some (ppI r')) σ') {σ : pp_M} {a1 : Int32} {a2 : Int32} {a3 : Int32} {a4 : Int64} {a6 : Int32} {a7 : Int32} {k45 : pp_M → Int32 → Int32 → Int32 → Int64 → Int32 → Option (Int32 × pp_M)} (hk45 : ∀ {σ : pp_M} {a1 : Int32} {a2 : Int32} {a3 : Int32} {a4 : Int64} {a6 : Int32}, k45 σ a1 a2 a3 a4 a6 = some (r', σ') → pp_E Γ dsM cX9_onward 12 45 [(0, ppR 40 0 0), (1, ppI a1), (2, ppI a2), (3, ppI a3), (4, ppL a4), (6, ppI a6)] [] σ) {k57 : pp_M → Int32 → Int32 → Int32 → Int64 → Int32 → Int32 → Option (Int32 × pp_M)} (hk57 : ∀ {σ : pp_M} {a1 : Int32} {a2 : Int32} {a3 : Int32} {a4 : Int64} {a6 : Int32} {a7 : Int32}, k57 σ a1 a2 a3 a4 a6 a7 = some (r', σ') → pp_E Γ dsM cX9_onward 12 57 [(0, ppR 40 0 0), (1, ppI a1), (2, ppI a2), (3, ppI a3), (4, ppL a4), (6, ppI a6), (7, ppI a7)] [] σ) (h : f_X9_onward_230 k45 k57 σ a1 a2 a3 a4 a6 a7 = some (r', σ')) : pp_E Γ dsM cX9_onward 12 230 [(0, ppR 40 0 0), (1, ppI a1), (2, ppI a2), (3, ppI a3), (4, ppL a4), (6, ppI a6), (7, ppI a7)] [] σ := by
  unfold f_X9_onward_230 at h
  refine pp_iinc hF dX9_onward_230 rfl (congrArg (HAdd.hAdd _) ic_1) (by decide) (lv' := [(0, ppR 40 0 0), (1, ppI a1), (2, ppI a2), (3, ppI a3), (4, ppL a4), (6, ppI a6), (7, ppI (a7 + (1 : Int32)))]) rfl ?_
  refine pp_goto (tgt := 57) hF dX9_onward_233 rfl ?_
  exact hk57 h
set_option maxRecDepth 20000 in
theorem e_X9_onward_229 {Γ : pp_G} {r' : Int32} {σ' : pp_M} (hF : pp_Fx Γ dsM cX9_onward 12 RX9 4 94) (hR : pp_Rt Γ dsM (some .int) (some (ppI r')) σ') {σ : pp_M} {a1 : Int32} {a2 : Int32} {a4 : Int64} {a6 : Int32} {a7 : Int32} {b0 : Int32} {k45 : pp_M → Int32 → Int32 → Int32 → Int64 → Int32 → Option (Int32 × pp_M)} (hk45 : ∀ {σ : pp_M} {a1 : Int32} {a2 : Int32} {a3 : Int32} {a4 : Int64} {a6 : Int32}, k45 σ a1 a2 a3 a4 a6 = some (r', σ') → pp_E Γ dsM cX9_onward 12 45 [(0, ppR 40 0 0), (1, ppI a1), (2, ppI a2), (3, ppI a3), (4, ppL a4), (6, ppI a6)] [] σ) {k57 : pp_M → Int32 → Int32 → Int32 → Int64 → Int32 → Int32 → Option (Int32 × pp_M)} (hk57 : ∀ {σ : pp_M} {a1 : Int32} {a2 : Int32} {a3 : Int32} {a4 : Int64} {a6 : Int32} {a7 : Int32}, k57 σ a1 a2 a3 a4 a6 a7 = some (r', σ') → pp_E Γ dsM cX9_onward 12 57 [(0, ppR 40 0 0), (1, ppI a1), (2, ppI a2), (3, ppI a3), (4, ppL a4), (6, ppI a6), (7, ppI a7)] [] σ) (h : f_X9_onward_229 k45 k57 σ a1 a2 a4 a6 a7 b0 = some (r', σ')) : pp_E Γ dsM cX9_onward 12 229 [(0, ppR 40 0 0), (1, ppI a1), (2, ppI a2), (4, ppL a4), (6, ppI a6), (7, ppI a7)] [ppI b0] σ := by
  unfold f_X9_onward_229 at h
  refine pp_istore_n hF dX9_onward_229 rfl (by decide) (lv' := [(0, ppR 40 0 0), (1, ppI a1), (2, ppI a2), (3, ppI b0), (4, ppL a4), (6, ppI a6), (7, ppI a7)]) rfl ?_
  exact e_X9_onward_230 hF hR hk45 hk57 h
set_option maxRecDepth 20000 in
theorem e_X9_onward_154 {Γ : pp_G} {r' : Int32} {σ' : pp_M} (hF : pp_Fx Γ dsM cX9_onward 12 RX9 4 94) (hR : pp_Rt Γ dsM (some .int) (some (ppI r')) σ') {σ : pp_M} {a1 : Int32} {a2 : Int32} {a3 : Int32} {a4 : Int64} {a6 : Int32} {a7 : Int32} {a9 : Int64} {a11 : Int32} {k45 : pp_M → Int32 → Int32 → Int32 → Int64 → Int32 → Option (Int32 × pp_M)} (hk45 : ∀ {σ : pp_M} {a1 : Int32} {a2 : Int32} {a3 : Int32} {a4 : Int64} {a6 : Int32}, k45 σ a1 a2 a3 a4 a6 = some (r', σ') → pp_E Γ dsM cX9_onward 12 45 [(0, ppR 40 0 0), (1, ppI a1), (2, ppI a2), (3, ppI a3), (4, ppL a4), (6, ppI a6)] [] σ) {k57 : pp_M → Int32 → Int32 → Int32 → Int64 → Int32 → Int32 → Option (Int32 × pp_M)} (hk57 : ∀ {σ : pp_M} {a1 : Int32} {a2 : Int32} {a3 : Int32} {a4 : Int64} {a6 : Int32} {a7 : Int32}, k57 σ a1 a2 a3 a4 a6 a7 = some (r', σ') → pp_E Γ dsM cX9_onward 12 57 [(0, ppR 40 0 0), (1, ppI a1), (2, ppI a2), (3, ppI a3), (4, ppL a4), (6, ppI a6), (7, ppI a7)] [] σ) {k154 : pp_M → Int32 → Int32 → Int32 → Int64 → Int32 → Int32 → Int64 → Int32 → Option (Int32 × pp_M)} (hk154 : ∀ {σ : pp_M} {a1 : Int32} {a2 : Int32} {a3 : Int32} {a4 : Int64} {a6 : Int32} {a7 : Int32} {a9 : Int64} {a11 : Int32}, k154 σ a1 a2 a3 a4 a6 a7 a9 a11 = some (r', σ') → pp_E Γ dsM cX9_onward 12 154 [(0, ppR 40 0 0), (1, ppI a1), (2, ppI a2), (3, ppI a3), (4, ppL a4), (6, ppI a6), (7, ppI a7), (9, ppL a9), (11, ppI a11)] [] σ) (h : f_X9_onward_154_B k45 k57 k154 σ a1 a2 a3 a4 a6 a7 a9 a11 = some (r', σ')) : pp_E Γ dsM cX9_onward 12 154 [(0, ppR 40 0 0), (1, ppI a1), (2, ppI a2), (3, ppI a3), (4, ppL a4), (6, ppI a6), (7, ppI a7), (9, ppL a9), (11, ppI a11)] [] σ := by
  unfold f_X9_onward_154_B at h
  refine pp_iload hF dX9_onward_154 rfl ?_
  refine pp_bipush hF dX9_onward_156 bc_6 ?_
  refine pp_icmp_ge (tgt := 190) hF dX9_onward_158 rfl (fun c1 => ?_) (fun c1 => ?_)
  · replace h := (if_pos c1).symm.trans h
    refine pp_lload hF dX9_onward_161 rfl ?_
    refine pp_aload_n hF dX9_onward_163 rfl rfl ?_
    refine pp_getR hF fdM_X9_65 dX9_onward_164 ?_
    refine pp_iload hF dX9_onward_167 rfl ?_
    refine pp_iconst hF dX9_onward_169 ic_0 ?_
    refine pp_aload_n hF dX9_onward_170 rfl rfl ?_
    refine pp_getR hF fdM_X9_59 dX9_onward_171 ?_
    refine pp_iload hF dX9_onward_174 rfl ?_
    obtain ⟨hi2, h⟩ := pp_ck h
    refine pp_ialoadJ hF vM_54 hi2 (Nat.zero_add _) dX9_onward_176 ?_
    obtain ⟨x177, hx177, h⟩ := pp_bd h
    refine pp_callSi hF (c_X9_spot hx177) mS_X9_spot lk_X9_190 rfl rfl ⟨by decide, by decide⟩ (Nat.le_of_ble_eq_true rfl) dX9_onward_177 ?_
    obtain ⟨hi4, h⟩ := pp_ck h
    refine pp_laloadJ hF vM_56 hi4 (Nat.zero_add _) dX9_onward_180 ?_
    refine pp_ladd hF dX9_onward_181 ?_
    refine pp_lstore hF dX9_onward_182 (by decide) (lv' := [(0, ppR 40 0 0), (1, ppI a1), (2, ppI a2), (3, ppI a3), (4, ppL a4), (6, ppI a6), (7, ppI a7), (9, ppL (a9 + (x177.2.2 56 x177.1.toNatClampNeg))), (11, ppI a11)]) rfl ?_
    refine pp_iinc hF dX9_onward_184 rfl (congrArg (HAdd.hAdd _) ic_1) (by decide) (lv' := [(0, ppR 40 0 0), (1, ppI a1), (2, ppI a2), (3, ppI a3), (4, ppL a4), (6, ppI a6), (7, ppI a7), (9, ppL (a9 + (x177.2.2 56 x177.1.toNatClampNeg))), (11, ppI (a11 + (1 : Int32)))]) rfl ?_
    refine pp_goto (tgt := 154) hF dX9_onward_187 rfl ?_
    exact hk154 h
  · replace h := (if_neg c1).symm.trans h
    refine pp_lload hF dX9_onward_190 rfl ?_
    refine pp_iconst hF dX9_onward_192 ic_5 ?_
    refine pp_iload hF dX9_onward_193 rfl ?_
    refine pp_isub hF dX9_onward_195 ?_
    obtain ⟨x196, hx196, h⟩ := pp_bd h
    refine pp_callSl hF (c_X9_sixteen hx196) mS_X9_sixteen lk_X9_193 rfl rfl ⟨by decide, by decide⟩ (Nat.le_of_ble_eq_true rfl) dX9_onward_196 ?_
    refine pp_lmul hF dX9_onward_199 ?_
    refine pp_lstore hF dX9_onward_200 (by decide) (lv' := [(0, ppR 40 0 0), (1, ppI a1), (2, ppI a2), (3, ppI a3), (4, ppL a4), (6, ppI a6), (7, ppI a7), (9, ppL (a9 * x196.1)), (11, ppI a11)]) rfl ?_
    refine pp_lload hF dX9_onward_202 rfl ?_
    refine pp_lload hF dX9_onward_204 rfl ?_
    refine pp_lcmp_le (tgt := 230) hF dX9_onward_206 dX9_onward_207 rfl (fun c6 => ?_) (fun c6 => ?_)
    · replace h := (if_pos c6).symm.trans h
      refine pp_lload hF dX9_onward_210 rfl ?_
      refine pp_lstore hF dX9_onward_212 (by decide) (lv' := [(0, ppR 40 0 0), (1, ppI a1), (2, ppI a2), (3, ppI a3), (4, ppL (a9 * x196.1)), (6, ppI a6), (7, ppI a7), (9, ppL (a9 * x196.1)), (11, ppI a11)]) rfl ?_
      refine pp_iload hF dX9_onward_214 rfl ?_
      refine pp_if_ne (tgt := 223) hF dX9_onward_216 rfl (fun c7 => ?_) (fun c7 => ?_)
      · replace h := (if_pos c7).symm.trans h
        refine pp_iconst hF dX9_onward_219 ic_n1 ?_
        refine pp_goto (tgt := 229) hF dX9_onward_220 rfl ?_
        refine pp_few [0, 1, 2, 4, 5, 6] (lv' := [(0, ppR 40 0 0), (1, ppI a1), (2, ppI a2), (4, ppL (a9 * x196.1)), (6, ppI a6), (7, ppI a7)]) rfl ?_
        exact e_X9_onward_229 hF hR hk45 hk57 h
      · replace h := (if_neg c7).symm.trans h
        refine pp_aload_n hF dX9_onward_223 rfl rfl ?_
        refine pp_getR hF fdM_X9_62 dX9_onward_224 ?_
        refine pp_iconst hF dX9_onward_227 ic_0 ?_
        refine pp_ialoadJ hF vM_55 vl_0_7 rfl dX9_onward_228 ?_
        refine pp_few [0, 1, 2, 4, 5, 6] (lv' := [(0, ppR 40 0 0), (1, ppI a1), (2, ppI a2), (4, ppL (a9 * x196.1)), (6, ppI a6), (7, ppI a7)]) rfl ?_
        exact e_X9_onward_229 hF hR hk45 hk57 h
    · replace h := (if_neg c6).symm.trans h
      refine pp_few [0, 1, 2, 3, 4, 5, 6] (lv' := [(0, ppR 40 0 0), (1, ppI a1), (2, ppI a2), (3, ppI a3), (4, ppL a4), (6, ppI a6), (7, ppI a7)]) rfl ?_
      exact e_X9_onward_230 hF hR hk45 hk57 h
set_option maxRecDepth 20000 in
theorem e_X9_onward_154_L {Γ : pp_G} {r' : Int32} {σ' : pp_M} (hF : pp_Fx Γ dsM cX9_onward 12 RX9 4 94) (hR : pp_Rt Γ dsM (some .int) (some (ppI r')) σ') {k45 : pp_M → Int32 → Int32 → Int32 → Int64 → Int32 → Option (Int32 × pp_M)} (hk45 : ∀ {σ : pp_M} {a1 : Int32} {a2 : Int32} {a3 : Int32} {a4 : Int64} {a6 : Int32}, k45 σ a1 a2 a3 a4 a6 = some (r', σ') → pp_E Γ dsM cX9_onward 12 45 [(0, ppR 40 0 0), (1, ppI a1), (2, ppI a2), (3, ppI a3), (4, ppL a4), (6, ppI a6)] [] σ) {k57 : pp_M → Int32 → Int32 → Int32 → Int64 → Int32 → Int32 → Option (Int32 × pp_M)} (hk57 : ∀ {σ : pp_M} {a1 : Int32} {a2 : Int32} {a3 : Int32} {a4 : Int64} {a6 : Int32} {a7 : Int32}, k57 σ a1 a2 a3 a4 a6 a7 = some (r', σ') → pp_E Γ dsM cX9_onward 12 57 [(0, ppR 40 0 0), (1, ppI a1), (2, ppI a2), (3, ppI a3), (4, ppL a4), (6, ppI a6), (7, ppI a7)] [] σ) : ∀ {n : Nat} {σ : pp_M} {a1 : Int32} {a2 : Int32} {a3 : Int32} {a4 : Int64} {a6 : Int32} {a7 : Int32} {a9 : Int64} {a11 : Int32}, f_X9_onward_154 k45 k57 n σ a1 a2 a3 a4 a6 a7 a9 a11 = some (r', σ') → pp_E Γ dsM cX9_onward 12 154 [(0, ppR 40 0 0), (1, ppI a1), (2, ppI a2), (3, ppI a3), (4, ppL a4), (6, ppI a6), (7, ppI a7), (9, ppL a9), (11, ppI a11)] [] σ
  | 0, _, _, _, _, _, _, _, _, _ => fun h => by cases h
  | n + 1, _, _, _, _, _, _, _, _, _ => fun h => e_X9_onward_154 hF hR hk45 hk57 (fun h => e_X9_onward_154_L hF hR hk45 hk57 (n := n) h) h
set_option maxRecDepth 20000 in
theorem e_X9_onward_125 {Γ : pp_G} {r' : Int32} {σ' : pp_M} (hF : pp_Fx Γ dsM cX9_onward 12 RX9 4 94) (hR : pp_Rt Γ dsM (some .int) (some (ppI r')) σ') {σ : pp_M} {a1 : Int32} {a2 : Int32} {a3 : Int32} {a4 : Int64} {a6 : Int32} {a7 : Int32} {a8 : Int32} {k45 : pp_M → Int32 → Int32 → Int32 → Int64 → Int32 → Option (Int32 × pp_M)} (hk45 : ∀ {σ : pp_M} {a1 : Int32} {a2 : Int32} {a3 : Int32} {a4 : Int64} {a6 : Int32}, k45 σ a1 a2 a3 a4 a6 = some (r', σ') → pp_E Γ dsM cX9_onward 12 45 [(0, ppR 40 0 0), (1, ppI a1), (2, ppI a2), (3, ppI a3), (4, ppL a4), (6, ppI a6)] [] σ) {k57 : pp_M → Int32 → Int32 → Int32 → Int64 → Int32 → Int32 → Option (Int32 × pp_M)} (hk57 : ∀ {σ : pp_M} {a1 : Int32} {a2 : Int32} {a3 : Int32} {a4 : Int64} {a6 : Int32} {a7 : Int32}, k57 σ a1 a2 a3 a4 a6 a7 = some (r', σ') → pp_E Γ dsM cX9_onward 12 57 [(0, ppR 40 0 0), (1, ppI a1), (2, ppI a2), (3, ppI a3), (4, ppL a4), (6, ppI a6), (7, ppI a7)] [] σ) (h : f_X9_onward_125 k45 k57 σ a1 a2 a3 a4 a6 a7 a8 = some (r', σ')) : pp_E Γ dsM cX9_onward 12 125 [(0, ppR 40 0 0), (1, ppI a1), (2, ppI a2), (3, ppI a3), (4, ppL a4), (6, ppI a6), (7, ppI a7), (8, ppI a8)] [] σ := by
  unfold f_X9_onward_125 at h
  refine pp_iload hF dX9_onward_125 rfl ?_
  refine pp_if_eq (tgt := 230) hF dX9_onward_127 rfl (fun c1 => ?_) (fun c1 => ?_)
  · replace h := (if_pos c1).symm.trans h
    refine pp_few [0, 1, 2, 3, 4, 5, 6] (lv' := [(0, ppR 40 0 0), (1, ppI a1), (2, ppI a2), (3, ppI a3), (4, ppL a4), (6, ppI a6), (7, ppI a7)]) rfl ?_
    exact e_X9_onward_230 hF hR hk45 hk57 h
  · replace h := (if_neg c1).symm.trans h
    refine pp_iload_n hF dX9_onward_130 rfl rfl ?_
    refine pp_aload_n hF dX9_onward_131 rfl rfl ?_
    refine pp_iload_n hF dX9_onward_132 rfl rfl ?_
    obtain ⟨x133, hx133, h⟩ := pp_bd h
    refine pp_callVi hF (c_X9_hoursFrom hx133) mV_X9_hoursFrom lk_X9_202 obM_40 rfl rfl ⟨by decide, by decide⟩ (Nat.le_of_ble_eq_true rfl) dX9_onward_133 ?_
    refine pp_iadd hF dX9_onward_136 ?_
    refine pp_aload_n hF dX9_onward_137 rfl rfl ?_
    refine pp_getI hF fdM_X9_28 dX9_onward_138 ?_
    refine pp_icmp_gt (tgt := 230) hF dX9_onward_141 rfl (fun c3 => ?_) (fun c3 => ?_)
    · replace h := (if_pos c3).symm.trans h
      refine pp_few [0, 1, 2, 3, 4, 5, 6] (lv' := [(0, ppR 40 0 0), (1, ppI a1), (2, ppI a2), (3, ppI a3), (4, ppL a4), (6, ppI a6), (7, ppI a7)]) rfl ?_
      exact e_X9_onward_230 hF hR hk45 hk57 h
    · replace h := (if_neg c3).symm.trans h
      refine pp_aload_n hF dX9_onward_144 rfl rfl ?_
      obtain ⟨x145, hx145, h⟩ := pp_bd h
      refine pp_callVv hF (c_X9_laysWorth hx145) mV_X9_laysWorth lk_X9_187 obM_40 rfl rfl ⟨by decide, by decide⟩ (Nat.le_of_ble_eq_true rfl) dX9_onward_145 ?_
      refine pp_lconst hF dX9_onward_148 lc_0 ?_
      refine pp_lstore hF dX9_onward_149 (by decide) (lv' := [(0, ppR 40 0 0), (1, ppI a1), (2, ppI a2), (3, ppI a3), (4, ppL a4), (6, ppI a6), (7, ppI a7), (8, ppI a8), (9, ppL (0 : Int64))]) rfl ?_
      refine pp_iconst hF dX9_onward_151 ic_0 ?_
      refine pp_istore hF dX9_onward_152 (by decide) (lv' := [(0, ppR 40 0 0), (1, ppI a1), (2, ppI a2), (3, ppI a3), (4, ppL a4), (6, ppI a6), (7, ppI a7), (8, ppI a8), (9, ppL (0 : Int64)), (11, ppI (0 : Int32))]) rfl ?_
      refine pp_few [0, 1, 2, 3, 4, 5, 6, 8, 9] (lv' := [(0, ppR 40 0 0), (1, ppI a1), (2, ppI a2), (3, ppI a3), (4, ppL a4), (6, ppI a6), (7, ppI a7), (9, ppL (0 : Int64)), (11, ppI (0 : Int32))]) rfl ?_
      exact e_X9_onward_154_L hF hR hk45 hk57 h
set_option maxRecDepth 20000 in
theorem e_X9_onward_117 {Γ : pp_G} {r' : Int32} {σ' : pp_M} (hF : pp_Fx Γ dsM cX9_onward 12 RX9 4 94) (hR : pp_Rt Γ dsM (some .int) (some (ppI r')) σ') {σ : pp_M} {a1 : Int32} {a2 : Int32} {a3 : Int32} {a4 : Int64} {a6 : Int32} {a7 : Int32} {a9 : Int32} {b0 : Int32} {k45 : pp_M → Int32 → Int32 → Int32 → Int64 → Int32 → Option (Int32 × pp_M)} (hk45 : ∀ {σ : pp_M} {a1 : Int32} {a2 : Int32} {a3 : Int32} {a4 : Int64} {a6 : Int32}, k45 σ a1 a2 a3 a4 a6 = some (r', σ') → pp_E Γ dsM cX9_onward 12 45 [(0, ppR 40 0 0), (1, ppI a1), (2, ppI a2), (3, ppI a3), (4, ppL a4), (6, ppI a6)] [] σ) {k57 : pp_M → Int32 → Int32 → Int32 → Int64 → Int32 → Int32 → Option (Int32 × pp_M)} (hk57 : ∀ {σ : pp_M} {a1 : Int32} {a2 : Int32} {a3 : Int32} {a4 : Int64} {a6 : Int32} {a7 : Int32}, k57 σ a1 a2 a3 a4 a6 a7 = some (r', σ') → pp_E Γ dsM cX9_onward 12 57 [(0, ppR 40 0 0), (1, ppI a1), (2, ppI a2), (3, ppI a3), (4, ppL a4), (6, ppI a6), (7, ppI a7)] [] σ) {k89 : pp_M → Int32 → Int32 → Int32 → Int64 → Int32 → Int32 → Int32 → Int32 → Option (Int32 × pp_M)} (hk89 : ∀ {σ : pp_M} {a1 : Int32} {a2 : Int32} {a3 : Int32} {a4 : Int64} {a6 : Int32} {a7 : Int32} {a8 : Int32} {a9 : Int32}, k89 σ a1 a2 a3 a4 a6 a7 a8 a9 = some (r', σ') → pp_E Γ dsM cX9_onward 12 89 [(0, ppR 40 0 0), (1, ppI a1), (2, ppI a2), (3, ppI a3), (4, ppL a4), (6, ppI a6), (7, ppI a7), (8, ppI a8), (9, ppI a9)] [] σ) (h : f_X9_onward_117 k45 k57 k89 σ a1 a2 a3 a4 a6 a7 a9 b0 = some (r', σ')) : pp_E Γ dsM cX9_onward 12 117 [(0, ppR 40 0 0), (1, ppI a1), (2, ppI a2), (3, ppI a3), (4, ppL a4), (6, ppI a6), (7, ppI a7), (9, ppI a9)] [ppI b0] σ := by
  unfold f_X9_onward_117 at h
  refine pp_istore hF dX9_onward_117 (by decide) (lv' := [(0, ppR 40 0 0), (1, ppI a1), (2, ppI a2), (3, ppI a3), (4, ppL a4), (6, ppI a6), (7, ppI a7), (8, ppI b0), (9, ppI a9)]) rfl ?_
  refine pp_iinc hF dX9_onward_119 rfl (congrArg (HAdd.hAdd _) ic_1) (by decide) (lv' := [(0, ppR 40 0 0), (1, ppI a1), (2, ppI a2), (3, ppI a3), (4, ppL a4), (6, ppI a6), (7, ppI a7), (8, ppI b0), (9, ppI (a9 + (1 : Int32)))]) rfl ?_
  refine pp_goto (tgt := 89) hF dX9_onward_122 rfl ?_
  exact hk89 h
set_option maxRecDepth 20000 in
theorem e_X9_onward_89 {Γ : pp_G} {r' : Int32} {σ' : pp_M} (hF : pp_Fx Γ dsM cX9_onward 12 RX9 4 94) (hR : pp_Rt Γ dsM (some .int) (some (ppI r')) σ') {σ : pp_M} {a1 : Int32} {a2 : Int32} {a3 : Int32} {a4 : Int64} {a6 : Int32} {a7 : Int32} {a8 : Int32} {a9 : Int32} {k45 : pp_M → Int32 → Int32 → Int32 → Int64 → Int32 → Option (Int32 × pp_M)} (hk45 : ∀ {σ : pp_M} {a1 : Int32} {a2 : Int32} {a3 : Int32} {a4 : Int64} {a6 : Int32}, k45 σ a1 a2 a3 a4 a6 = some (r', σ') → pp_E Γ dsM cX9_onward 12 45 [(0, ppR 40 0 0), (1, ppI a1), (2, ppI a2), (3, ppI a3), (4, ppL a4), (6, ppI a6)] [] σ) {k57 : pp_M → Int32 → Int32 → Int32 → Int64 → Int32 → Int32 → Option (Int32 × pp_M)} (hk57 : ∀ {σ : pp_M} {a1 : Int32} {a2 : Int32} {a3 : Int32} {a4 : Int64} {a6 : Int32} {a7 : Int32}, k57 σ a1 a2 a3 a4 a6 a7 = some (r', σ') → pp_E Γ dsM cX9_onward 12 57 [(0, ppR 40 0 0), (1, ppI a1), (2, ppI a2), (3, ppI a3), (4, ppL a4), (6, ppI a6), (7, ppI a7)] [] σ) {k89 : pp_M → Int32 → Int32 → Int32 → Int64 → Int32 → Int32 → Int32 → Int32 → Option (Int32 × pp_M)} (hk89 : ∀ {σ : pp_M} {a1 : Int32} {a2 : Int32} {a3 : Int32} {a4 : Int64} {a6 : Int32} {a7 : Int32} {a8 : Int32} {a9 : Int32}, k89 σ a1 a2 a3 a4 a6 a7 a8 a9 = some (r', σ') → pp_E Γ dsM cX9_onward 12 89 [(0, ppR 40 0 0), (1, ppI a1), (2, ppI a2), (3, ppI a3), (4, ppL a4), (6, ppI a6), (7, ppI a7), (8, ppI a8), (9, ppI a9)] [] σ) (h : f_X9_onward_89_B k45 k57 k89 σ a1 a2 a3 a4 a6 a7 a8 a9 = some (r', σ')) : pp_E Γ dsM cX9_onward 12 89 [(0, ppR 40 0 0), (1, ppI a1), (2, ppI a2), (3, ppI a3), (4, ppL a4), (6, ppI a6), (7, ppI a7), (8, ppI a8), (9, ppI a9)] [] σ := by
  unfold f_X9_onward_89_B at h
  refine pp_iload hF dX9_onward_89 rfl ?_
  refine pp_iload hF dX9_onward_91 rfl ?_
  refine pp_icmp_ge (tgt := 125) hF dX9_onward_93 rfl (fun c1 => ?_) (fun c1 => ?_)
  · replace h := (if_pos c1).symm.trans h
    refine pp_iload hF dX9_onward_96 rfl ?_
    refine pp_if_eq (tgt := 125) hF dX9_onward_98 rfl (fun c2 => ?_) (fun c2 => ?_)
    · replace h := (if_pos c2).symm.trans h
      refine pp_few [0, 1, 2, 3, 4, 5, 6, 7] (lv' := [(0, ppR 40 0 0), (1, ppI a1), (2, ppI a2), (3, ppI a3), (4, ppL a4), (6, ppI a6), (7, ppI a7), (8, ppI a8)]) rfl ?_
      exact e_X9_onward_125 hF hR hk45 hk57 h
    · replace h := (if_neg c2).symm.trans h
      refine pp_aload_n hF dX9_onward_101 rfl rfl ?_
      refine pp_getR hF fdM_X9_62 dX9_onward_102 ?_
      refine pp_iload hF dX9_onward_105 rfl ?_
      obtain ⟨hi3, h⟩ := pp_ck h
      refine pp_ialoadJ hF vM_55 hi3 (Nat.zero_add _) dX9_onward_107 ?_
      refine pp_iload_n hF dX9_onward_108 rfl rfl ?_
      refine pp_icmp_eq (tgt := 116) hF dX9_onward_109 rfl (fun c4 => ?_) (fun c4 => ?_)
      · replace h := (if_pos c4).symm.trans h
        refine pp_iconst hF dX9_onward_116 ic_0 ?_
        refine pp_few [0, 1, 2, 3, 4, 5, 6, 8] (lv' := [(0, ppR 40 0 0), (1, ppI a1), (2, ppI a2), (3, ppI a3), (4, ppL a4), (6, ppI a6), (7, ppI a7), (9, ppI a9)]) rfl ?_
        exact e_X9_onward_117 hF hR hk45 hk57 hk89 h
      · replace h := (if_neg c4).symm.trans h
        refine pp_iconst hF dX9_onward_112 ic_1 ?_
        refine pp_goto (tgt := 117) hF dX9_onward_113 rfl ?_
        refine pp_few [0, 1, 2, 3, 4, 5, 6, 8] (lv' := [(0, ppR 40 0 0), (1, ppI a1), (2, ppI a2), (3, ppI a3), (4, ppL a4), (6, ppI a6), (7, ppI a7), (9, ppI a9)]) rfl ?_
        exact e_X9_onward_117 hF hR hk45 hk57 hk89 h
  · replace h := (if_neg c1).symm.trans h
    refine pp_few [0, 1, 2, 3, 4, 5, 6, 7] (lv' := [(0, ppR 40 0 0), (1, ppI a1), (2, ppI a2), (3, ppI a3), (4, ppL a4), (6, ppI a6), (7, ppI a7), (8, ppI a8)]) rfl ?_
    exact e_X9_onward_125 hF hR hk45 hk57 h
set_option maxRecDepth 20000 in
theorem e_X9_onward_89_L {Γ : pp_G} {r' : Int32} {σ' : pp_M} (hF : pp_Fx Γ dsM cX9_onward 12 RX9 4 94) (hR : pp_Rt Γ dsM (some .int) (some (ppI r')) σ') {k45 : pp_M → Int32 → Int32 → Int32 → Int64 → Int32 → Option (Int32 × pp_M)} (hk45 : ∀ {σ : pp_M} {a1 : Int32} {a2 : Int32} {a3 : Int32} {a4 : Int64} {a6 : Int32}, k45 σ a1 a2 a3 a4 a6 = some (r', σ') → pp_E Γ dsM cX9_onward 12 45 [(0, ppR 40 0 0), (1, ppI a1), (2, ppI a2), (3, ppI a3), (4, ppL a4), (6, ppI a6)] [] σ) {k57 : pp_M → Int32 → Int32 → Int32 → Int64 → Int32 → Int32 → Option (Int32 × pp_M)} (hk57 : ∀ {σ : pp_M} {a1 : Int32} {a2 : Int32} {a3 : Int32} {a4 : Int64} {a6 : Int32} {a7 : Int32}, k57 σ a1 a2 a3 a4 a6 a7 = some (r', σ') → pp_E Γ dsM cX9_onward 12 57 [(0, ppR 40 0 0), (1, ppI a1), (2, ppI a2), (3, ppI a3), (4, ppL a4), (6, ppI a6), (7, ppI a7)] [] σ) : ∀ {n : Nat} {σ : pp_M} {a1 : Int32} {a2 : Int32} {a3 : Int32} {a4 : Int64} {a6 : Int32} {a7 : Int32} {a8 : Int32} {a9 : Int32}, f_X9_onward_89 k45 k57 n σ a1 a2 a3 a4 a6 a7 a8 a9 = some (r', σ') → pp_E Γ dsM cX9_onward 12 89 [(0, ppR 40 0 0), (1, ppI a1), (2, ppI a2), (3, ppI a3), (4, ppL a4), (6, ppI a6), (7, ppI a7), (8, ppI a8), (9, ppI a9)] [] σ
  | 0, _, _, _, _, _, _, _, _, _ => fun h => by cases h
  | n + 1, _, _, _, _, _, _, _, _, _ => fun h => e_X9_onward_89 hF hR hk45 hk57 (fun h => e_X9_onward_89_L hF hR hk45 hk57 (n := n) h) h
set_option maxRecDepth 20000 in
theorem e_X9_onward_84 {Γ : pp_G} {r' : Int32} {σ' : pp_M} (hF : pp_Fx Γ dsM cX9_onward 12 RX9 4 94) (hR : pp_Rt Γ dsM (some .int) (some (ppI r')) σ') {σ : pp_M} {a1 : Int32} {a2 : Int32} {a3 : Int32} {a4 : Int64} {a6 : Int32} {a7 : Int32} {b0 : Int32} {k45 : pp_M → Int32 → Int32 → Int32 → Int64 → Int32 → Option (Int32 × pp_M)} (hk45 : ∀ {σ : pp_M} {a1 : Int32} {a2 : Int32} {a3 : Int32} {a4 : Int64} {a6 : Int32}, k45 σ a1 a2 a3 a4 a6 = some (r', σ') → pp_E Γ dsM cX9_onward 12 45 [(0, ppR 40 0 0), (1, ppI a1), (2, ppI a2), (3, ppI a3), (4, ppL a4), (6, ppI a6)] [] σ) {k57 : pp_M → Int32 → Int32 → Int32 → Int64 → Int32 → Int32 → Option (Int32 × pp_M)} (hk57 : ∀ {σ : pp_M} {a1 : Int32} {a2 : Int32} {a3 : Int32} {a4 : Int64} {a6 : Int32} {a7 : Int32}, k57 σ a1 a2 a3 a4 a6 a7 = some (r', σ') → pp_E Γ dsM cX9_onward 12 57 [(0, ppR 40 0 0), (1, ppI a1), (2, ppI a2), (3, ppI a3), (4, ppL a4), (6, ppI a6), (7, ppI a7)] [] σ) (h : f_X9_onward_84 k45 k57 σ a1 a2 a3 a4 a6 a7 b0 = some (r', σ')) : pp_E Γ dsM cX9_onward 12 84 [(0, ppR 40 0 0), (1, ppI a1), (2, ppI a2), (3, ppI a3), (4, ppL a4), (6, ppI a6), (7, ppI a7)] [ppI b0] σ := by
  unfold f_X9_onward_84 at h
  refine pp_istore hF dX9_onward_84 (by decide) (lv' := [(0, ppR 40 0 0), (1, ppI a1), (2, ppI a2), (3, ppI a3), (4, ppL a4), (6, ppI a6), (7, ppI a7), (8, ppI b0)]) rfl ?_
  refine pp_iconst hF dX9_onward_86 ic_0 ?_
  refine pp_istore hF dX9_onward_87 (by decide) (lv' := [(0, ppR 40 0 0), (1, ppI a1), (2, ppI a2), (3, ppI a3), (4, ppL a4), (6, ppI a6), (7, ppI a7), (8, ppI b0), (9, ppI (0 : Int32))]) rfl ?_
  exact e_X9_onward_89_L hF hR hk45 hk57 h
set_option maxRecDepth 20000 in
theorem e_X9_onward_57 {Γ : pp_G} {r' : Int32} {σ' : pp_M} (hF : pp_Fx Γ dsM cX9_onward 12 RX9 4 94) (hR : pp_Rt Γ dsM (some .int) (some (ppI r')) σ') {σ : pp_M} {a1 : Int32} {a2 : Int32} {a3 : Int32} {a4 : Int64} {a6 : Int32} {a7 : Int32} {k45 : pp_M → Int32 → Int32 → Int32 → Int64 → Int32 → Option (Int32 × pp_M)} (hk45 : ∀ {σ : pp_M} {a1 : Int32} {a2 : Int32} {a3 : Int32} {a4 : Int64} {a6 : Int32}, k45 σ a1 a2 a3 a4 a6 = some (r', σ') → pp_E Γ dsM cX9_onward 12 45 [(0, ppR 40 0 0), (1, ppI a1), (2, ppI a2), (3, ppI a3), (4, ppL a4), (6, ppI a6)] [] σ) {k57 : pp_M → Int32 → Int32 → Int32 → Int64 → Int32 → Int32 → Option (Int32 × pp_M)} (hk57 : ∀ {σ : pp_M} {a1 : Int32} {a2 : Int32} {a3 : Int32} {a4 : Int64} {a6 : Int32} {a7 : Int32}, k57 σ a1 a2 a3 a4 a6 a7 = some (r', σ') → pp_E Γ dsM cX9_onward 12 57 [(0, ppR 40 0 0), (1, ppI a1), (2, ppI a2), (3, ppI a3), (4, ppL a4), (6, ppI a6), (7, ppI a7)] [] σ) (h : f_X9_onward_57_B k45 k57 σ a1 a2 a3 a4 a6 a7 = some (r', σ')) : pp_E Γ dsM cX9_onward 12 57 [(0, ppR 40 0 0), (1, ppI a1), (2, ppI a2), (3, ppI a3), (4, ppL a4), (6, ppI a6), (7, ppI a7)] [] σ := by
  unfold f_X9_onward_57_B at h
  refine pp_iload hF dX9_onward_57 rfl ?_
  refine pp_iload hF dX9_onward_59 rfl ?_
  obtain ⟨x61, hx61, h⟩ := pp_bd h
  refine pp_callSi hF (c_X9_fives hx61) mS_X9_fives lk_X9_265 rfl rfl ⟨by decide, by decide⟩ (Nat.le_of_ble_eq_true rfl) dX9_onward_61 ?_
  refine pp_icmp_ge (tgt := 236) hF dX9_onward_64 rfl (fun c2 => ?_) (fun c2 => ?_)
  · replace h := (if_pos c2).symm.trans h
    refine pp_aload_n hF dX9_onward_67 rfl rfl ?_
    refine pp_iload hF dX9_onward_68 rfl ?_
    refine pp_iload hF dX9_onward_70 rfl ?_
    obtain ⟨x72, hx72, h⟩ := pp_bd h
    refine pp_callVi hF (c_X9_looksAt hx72) mV_X9_looksAt lk_X9_268 obM_40 rfl rfl ⟨by decide, by decide⟩ (Nat.le_of_ble_eq_true rfl) dX9_onward_72 ?_
    refine pp_iconst hF dX9_onward_75 ic_n1 ?_
    refine pp_icmp_eq (tgt := 83) hF dX9_onward_76 rfl (fun c4 => ?_) (fun c4 => ?_)
    · replace h := (if_pos c4).symm.trans h
      refine pp_iconst hF dX9_onward_83 ic_0 ?_
      exact e_X9_onward_84 hF hR hk45 hk57 h
    · replace h := (if_neg c4).symm.trans h
      refine pp_iconst hF dX9_onward_79 ic_1 ?_
      refine pp_goto (tgt := 84) hF dX9_onward_80 rfl ?_
      exact e_X9_onward_84 hF hR hk45 hk57 h
  · replace h := (if_neg c2).symm.trans h
    refine pp_iinc hF dX9_onward_236 rfl (congrArg (HAdd.hAdd _) ic_1) (by decide) (lv' := [(0, ppR 40 0 0), (1, ppI a1), (2, ppI a2), (3, ppI a3), (4, ppL a4), (6, ppI (a6 + (1 : Int32))), (7, ppI a7)]) rfl ?_
    refine pp_goto (tgt := 45) hF dX9_onward_239 rfl ?_
    refine pp_few [0, 1, 2, 3, 4, 5] (lv' := [(0, ppR 40 0 0), (1, ppI a1), (2, ppI a2), (3, ppI a3), (4, ppL a4), (6, ppI (a6 + (1 : Int32)))]) rfl ?_
    exact hk45 h
set_option maxRecDepth 20000 in
theorem e_X9_onward_57_L {Γ : pp_G} {r' : Int32} {σ' : pp_M} (hF : pp_Fx Γ dsM cX9_onward 12 RX9 4 94) (hR : pp_Rt Γ dsM (some .int) (some (ppI r')) σ') {k45 : pp_M → Int32 → Int32 → Int32 → Int64 → Int32 → Option (Int32 × pp_M)} (hk45 : ∀ {σ : pp_M} {a1 : Int32} {a2 : Int32} {a3 : Int32} {a4 : Int64} {a6 : Int32}, k45 σ a1 a2 a3 a4 a6 = some (r', σ') → pp_E Γ dsM cX9_onward 12 45 [(0, ppR 40 0 0), (1, ppI a1), (2, ppI a2), (3, ppI a3), (4, ppL a4), (6, ppI a6)] [] σ) : ∀ {n : Nat} {σ : pp_M} {a1 : Int32} {a2 : Int32} {a3 : Int32} {a4 : Int64} {a6 : Int32} {a7 : Int32}, f_X9_onward_57 k45 n σ a1 a2 a3 a4 a6 a7 = some (r', σ') → pp_E Γ dsM cX9_onward 12 57 [(0, ppR 40 0 0), (1, ppI a1), (2, ppI a2), (3, ppI a3), (4, ppL a4), (6, ppI a6), (7, ppI a7)] [] σ
  | 0, _, _, _, _, _, _, _ => fun h => by cases h
  | n + 1, _, _, _, _, _, _, _ => fun h => e_X9_onward_57 hF hR hk45 (fun h => e_X9_onward_57_L hF hR hk45 (n := n) h) h
set_option maxRecDepth 20000 in
theorem e_X9_onward_45 {Γ : pp_G} {r' : Int32} {σ' : pp_M} (hF : pp_Fx Γ dsM cX9_onward 12 RX9 4 94) (hR : pp_Rt Γ dsM (some .int) (some (ppI r')) σ') {σ : pp_M} {a1 : Int32} {a2 : Int32} {a3 : Int32} {a4 : Int64} {a6 : Int32} {k45 : pp_M → Int32 → Int32 → Int32 → Int64 → Int32 → Option (Int32 × pp_M)} (hk45 : ∀ {σ : pp_M} {a1 : Int32} {a2 : Int32} {a3 : Int32} {a4 : Int64} {a6 : Int32}, k45 σ a1 a2 a3 a4 a6 = some (r', σ') → pp_E Γ dsM cX9_onward 12 45 [(0, ppR 40 0 0), (1, ppI a1), (2, ppI a2), (3, ppI a3), (4, ppL a4), (6, ppI a6)] [] σ) (h : f_X9_onward_45_B k45 σ a1 a2 a3 a4 a6 = some (r', σ')) : pp_E Γ dsM cX9_onward 12 45 [(0, ppR 40 0 0), (1, ppI a1), (2, ppI a2), (3, ppI a3), (4, ppL a4), (6, ppI a6)] [] σ := by
  unfold f_X9_onward_45_B at h
  refine pp_iload hF dX9_onward_45 rfl ?_
  refine pp_aload_n hF dX9_onward_47 rfl rfl ?_
  refine pp_getI hF fdM_X9_256 dX9_onward_48 ?_
  refine pp_icmp_gt (tgt := 242) hF dX9_onward_51 rfl (fun c1 => ?_) (fun c1 => ?_)
  · replace h := (if_pos c1).symm.trans h
    refine pp_iload_n hF dX9_onward_242 rfl rfl ?_
    obtain ⟨rfl, rfl⟩ := pp_i2 h
    exact pp_ireturn hF hR dX9_onward_243
  · replace h := (if_neg c1).symm.trans h
    refine pp_iconst hF dX9_onward_54 ic_0 ?_
    refine pp_istore hF dX9_onward_55 (by decide) (lv' := [(0, ppR 40 0 0), (1, ppI a1), (2, ppI a2), (3, ppI a3), (4, ppL a4), (6, ppI a6), (7, ppI (0 : Int32))]) rfl ?_
    exact e_X9_onward_57_L hF hR hk45 h
set_option maxRecDepth 20000 in
theorem e_X9_onward_45_L {Γ : pp_G} {r' : Int32} {σ' : pp_M} (hF : pp_Fx Γ dsM cX9_onward 12 RX9 4 94) (hR : pp_Rt Γ dsM (some .int) (some (ppI r')) σ') : ∀ {n : Nat} {σ : pp_M} {a1 : Int32} {a2 : Int32} {a3 : Int32} {a4 : Int64} {a6 : Int32}, f_X9_onward_45 n σ a1 a2 a3 a4 a6 = some (r', σ') → pp_E Γ dsM cX9_onward 12 45 [(0, ppR 40 0 0), (1, ppI a1), (2, ppI a2), (3, ppI a3), (4, ppL a4), (6, ppI a6)] [] σ
  | 0, _, _, _, _, _, _ => fun h => by cases h
  | n + 1, _, _, _, _, _, _ => fun h => e_X9_onward_45 hF hR (fun h => e_X9_onward_45_L hF hR (n := n) h) h
set_option maxRecDepth 20000 in
theorem e_X9_onward_0 {Γ : pp_G} {r' : Int32} {σ' : pp_M} (hF : pp_Fx Γ dsM cX9_onward 12 RX9 4 94) (hR : pp_Rt Γ dsM (some .int) (some (ppI r')) σ') {σ : pp_M} {a1 : Int32} {a2 : Int32} (h : f_X9_onward σ a1 a2 = some (r', σ')) : pp_E Γ dsM cX9_onward 12 0 [(0, ppR 40 0 0), (1, ppI a1), (2, ppI a2)] [] σ := by
  unfold f_X9_onward at h
  refine pp_iload_n hF dX9_onward_0 rfl rfl ?_
  obtain ⟨x1, hx1, h⟩ := pp_bd h
  refine pp_callSi hF (c_X9_isPlace hx1) mS_X9_isPlace lk_X9_126 rfl rfl ⟨by decide, by decide⟩ (Nat.le_of_ble_eq_true rfl) dX9_onward_1 ?_
  refine pp_if_eq (tgt := 18) hF dX9_onward_4 rfl (fun c2 => ?_) (fun c2 => ?_)
  · replace h := (if_pos c2).symm.trans h
    refine pp_bipush hF dX9_onward_18 bc_n2 ?_
    obtain ⟨rfl, rfl⟩ := pp_i2 h
    exact pp_ireturn hF hR dX9_onward_20
  · replace h := (if_neg c2).symm.trans h
    refine pp_iload_n hF dX9_onward_7 rfl rfl ?_
    refine pp_iconst hF dX9_onward_8 ic_0 ?_
    refine pp_sipush hF dX9_onward_9 sc_200 ?_
    obtain ⟨x12, hx12, h⟩ := pp_bd h
    refine pp_callSi hF (c_X9_in hx12) mS_X9_in lk_X9_114 rfl rfl ⟨by decide, by decide⟩ (Nat.le_of_ble_eq_true rfl) dX9_onward_12 ?_
    refine pp_if_ne (tgt := 21) hF dX9_onward_15 rfl (fun c4 => ?_) (fun c4 => ?_)
    · replace h := (if_pos c4).symm.trans h
      refine pp_bipush hF dX9_onward_18 bc_n2 ?_
      obtain ⟨rfl, rfl⟩ := pp_i2 h
      exact pp_ireturn hF hR dX9_onward_20
    · replace h := (if_neg c4).symm.trans h
      refine pp_aload_n hF dX9_onward_21 rfl rfl ?_
      obtain ⟨x22, hx22, h⟩ := pp_bd h
      refine pp_callVi hF (c_X9_gathers hx22) mV_X9_gathers lk_X9_274 obM_40 rfl rfl ⟨by decide, by decide⟩ (Nat.le_of_ble_eq_true rfl) dX9_onward_22 ?_
      refine pp_if_ne (tgt := 31) hF dX9_onward_25 rfl (fun c6 => ?_) (fun c6 => ?_)
      · replace h := (if_pos c6).symm.trans h
        refine pp_bipush hF dX9_onward_28 bc_n4 ?_
        obtain ⟨rfl, rfl⟩ := pp_i2 h
        exact pp_ireturn hF hR dX9_onward_30
      · replace h := (if_neg c6).symm.trans h
        refine pp_aload_n hF dX9_onward_31 rfl rfl ?_
        obtain ⟨x32, hx32, h⟩ := pp_bd h
        refine pp_callVv hF (c_X9_laysWays hx32) mV_X9_laysWays lk_X9_129 obM_40 rfl rfl ⟨by decide, by decide⟩ (Nat.le_of_ble_eq_true rfl) dX9_onward_32 ?_
        refine pp_iconst hF dX9_onward_35 ic_n1 ?_
        refine pp_istore_n hF dX9_onward_36 rfl (by decide) (lv' := [(0, ppR 40 0 0), (1, ppI a1), (2, ppI a2), (3, ppI (-1 : Int32))]) rfl ?_
        refine pp_ldc2 hF wm_1167 dX9_onward_37 ?_
        refine pp_lstore hF dX9_onward_40 (by decide) (lv' := [(0, ppR 40 0 0), (1, ppI a1), (2, ppI a2), (3, ppI (-1 : Int32)), (4, ppL (-1000000000000000000 : Int64))]) rfl ?_
        refine pp_iconst hF dX9_onward_42 ic_0 ?_
        refine pp_istore hF dX9_onward_43 (by decide) (lv' := [(0, ppR 40 0 0), (1, ppI a1), (2, ppI a2), (3, ppI (-1 : Int32)), (4, ppL (-1000000000000000000 : Int64)), (6, ppI (0 : Int32))]) rfl ?_
        exact e_X9_onward_45_L hF hR h
set_option maxRecDepth 20000 in
theorem c_X9_onward {r' : Int32} {σ' : pp_M} {σ : pp_M} {a1 : Int32} {a2 : Int32} (h : f_X9_onward σ a1 a2 = some (r', σ')) : pp_Ct yX9_onward cX9_onward 12 (some .int) 4 94 dsM [ppR 40 0 0, ppI a1, ppI a2] σ (some (ppI r')) σ' := pp_met pl_X9 rfl okM (Nat.le_of_ble_eq_true rfl) rfl (fun Γ hF hR => (e_X9_onward_0 hF hR h))
set_option maxRecDepth 20000 in
theorem e_X9_pack_80 {Γ : pp_G} {r' : Int32} {σ' : pp_M} (hF : pp_Fx Γ dsM cX9_pack 3 RX9 3 54) (hR : pp_Rt Γ dsM (some .int) (some (ppI r')) σ') {σ : pp_M} {a1 : Int32} {a2 : Int32} {k80 : pp_M → Int32 → Int32 → Option (Int32 × pp_M)} (hk80 : ∀ {σ : pp_M} {a1 : Int32} {a2 : Int32}, k80 σ a1 a2 = some (r', σ') → pp_E Γ dsM cX9_pack 3 80 [(0, ppR 40 0 0), (1, ppI a1), (2, ppI a2)] [] σ) (h : f_X9_pack_80_B k80 σ a1 a2 = some (r', σ')) : pp_E Γ dsM cX9_pack 3 80 [(0, ppR 40 0 0), (1, ppI a1), (2, ppI a2)] [] σ := by
  unfold f_X9_pack_80_B at h
  refine pp_iload_n hF dX9_pack_80 rfl rfl ?_
  refine pp_bipush hF dX9_pack_81 bc_6 ?_
  refine pp_icmp_ge (tgt := 109) hF dX9_pack_83 rfl (fun c1 => ?_) (fun c1 => ?_)
  · replace h := (if_pos c1).symm.trans h
    refine pp_aload_n hF dX9_pack_86 rfl rfl ?_
    refine pp_getR hF fdM_X9_59 dX9_pack_87 ?_
    refine pp_iload_n hF dX9_pack_90 rfl rfl ?_
    refine pp_aload_n hF dX9_pack_91 rfl rfl ?_
    refine pp_getR hF fdM_X9_106 dX9_pack_92 ?_
    refine pp_bipush hF dX9_pack_95 bc_40 ?_
    refine pp_iload_n hF dX9_pack_97 rfl rfl ?_
    refine pp_imul hF dX9_pack_98 ?_
    refine pp_iload_n hF dX9_pack_99 rfl rfl ?_
    refine pp_iadd hF dX9_pack_100 ?_
    obtain ⟨hi2, h⟩ := pp_ck h
    refine pp_ialoadJ hF vM_69 hi2 (Nat.zero_add _) dX9_pack_101 ?_
    obtain ⟨hi3, h⟩ := pp_ck h
    refine pp_iastoreJ hF vM_54 hi3 (Nat.zero_add _) dX9_pack_102 ?_
    refine pp_iinc hF dX9_pack_103 rfl (congrArg (HAdd.hAdd _) ic_1) (by decide) (lv' := [(0, ppR 40 0 0), (1, ppI a1), (2, ppI (a2 + (1 : Int32)))]) rfl ?_
    refine pp_goto (tgt := 80) hF dX9_pack_106 rfl ?_
    exact hk80 h
  · replace h := (if_neg c1).symm.trans h
    refine pp_aload_n hF dX9_pack_109 rfl rfl ?_
    obtain ⟨x110, hx110, h⟩ := pp_bd h
    refine pp_callVi hF (c_X9_packWeight hx110) mV_X9_packWeight lk_X9_181 obM_40 rfl rfl ⟨by decide, by decide⟩ (Nat.le_of_ble_eq_true rfl) dX9_pack_110 ?_
    obtain ⟨rfl, rfl⟩ := pp_i2 h
    exact pp_ireturn hF hR dX9_pack_113
set_option maxRecDepth 20000 in
theorem e_X9_pack_80_L {Γ : pp_G} {r' : Int32} {σ' : pp_M} (hF : pp_Fx Γ dsM cX9_pack 3 RX9 3 54) (hR : pp_Rt Γ dsM (some .int) (some (ppI r')) σ') : ∀ {n : Nat} {σ : pp_M} {a1 : Int32} {a2 : Int32}, f_X9_pack_80 n σ a1 a2 = some (r', σ') → pp_E Γ dsM cX9_pack 3 80 [(0, ppR 40 0 0), (1, ppI a1), (2, ppI a2)] [] σ
  | 0, _, _, _ => fun h => by cases h
  | n + 1, _, _, _ => fun h => e_X9_pack_80 hF hR (fun h => e_X9_pack_80_L hF hR (n := n) h) h
set_option maxRecDepth 20000 in
theorem e_X9_pack_44 {Γ : pp_G} {r' : Int32} {σ' : pp_M} (hF : pp_Fx Γ dsM cX9_pack 3 RX9 3 54) (hR : pp_Rt Γ dsM (some .int) (some (ppI r')) σ') {σ : pp_M} {a1 : Int32} {a2 : Int32} {k44 : pp_M → Int32 → Int32 → Option (Int32 × pp_M)} (hk44 : ∀ {σ : pp_M} {a1 : Int32} {a2 : Int32}, k44 σ a1 a2 = some (r', σ') → pp_E Γ dsM cX9_pack 3 44 [(0, ppR 40 0 0), (1, ppI a1), (2, ppI a2)] [] σ) (h : f_X9_pack_44_B k44 σ a1 a2 = some (r', σ')) : pp_E Γ dsM cX9_pack 3 44 [(0, ppR 40 0 0), (1, ppI a1), (2, ppI a2)] [] σ := by
  unfold f_X9_pack_44_B at h
  refine pp_iload_n hF dX9_pack_44 rfl rfl ?_
  refine pp_bipush hF dX9_pack_45 bc_6 ?_
  refine pp_icmp_ge (tgt := 78) hF dX9_pack_47 rfl (fun c1 => ?_) (fun c1 => ?_)
  · replace h := (if_pos c1).symm.trans h
    refine pp_aload_n hF dX9_pack_50 rfl rfl ?_
    refine pp_getR hF fdM_X9_106 dX9_pack_51 ?_
    refine pp_bipush hF dX9_pack_54 bc_40 ?_
    refine pp_iload_n hF dX9_pack_56 rfl rfl ?_
    refine pp_imul hF dX9_pack_57 ?_
    refine pp_iload_n hF dX9_pack_58 rfl rfl ?_
    refine pp_iadd hF dX9_pack_59 ?_
    obtain ⟨hi2, h⟩ := pp_ck h
    refine pp_ialoadJ hF vM_69 hi2 (Nat.zero_add _) dX9_pack_60 ?_
    refine pp_iconst hF dX9_pack_61 ic_0 ?_
    refine pp_iconst hF dX9_pack_62 ic_4 ?_
    obtain ⟨x63, hx63, h⟩ := pp_bd h
    refine pp_callSi hF (c_X9_in hx63) mS_X9_in lk_X9_114 rfl rfl ⟨by decide, by decide⟩ (Nat.le_of_ble_eq_true rfl) dX9_pack_63 ?_
    refine pp_if_ne (tgt := 72) hF dX9_pack_66 rfl (fun c4 => ?_) (fun c4 => ?_)
    · replace h := (if_pos c4).symm.trans h
      refine pp_bipush hF dX9_pack_69 bc_n3 ?_
      obtain ⟨rfl, rfl⟩ := pp_i2 h
      exact pp_ireturn hF hR dX9_pack_71
    · replace h := (if_neg c4).symm.trans h
      refine pp_iinc hF dX9_pack_72 rfl (congrArg (HAdd.hAdd _) ic_1) (by decide) (lv' := [(0, ppR 40 0 0), (1, ppI a1), (2, ppI (a2 + (1 : Int32)))]) rfl ?_
      refine pp_goto (tgt := 44) hF dX9_pack_75 rfl ?_
      exact hk44 h
  · replace h := (if_neg c1).symm.trans h
    refine pp_iconst hF dX9_pack_78 ic_0 ?_
    refine pp_istore_n hF dX9_pack_79 rfl (by decide) (lv' := [(0, ppR 40 0 0), (1, ppI a1), (2, ppI (0 : Int32))]) rfl ?_
    exact e_X9_pack_80_L hF hR h
set_option maxRecDepth 20000 in
theorem e_X9_pack_44_L {Γ : pp_G} {r' : Int32} {σ' : pp_M} (hF : pp_Fx Γ dsM cX9_pack 3 RX9 3 54) (hR : pp_Rt Γ dsM (some .int) (some (ppI r')) σ') : ∀ {n : Nat} {σ : pp_M} {a1 : Int32} {a2 : Int32}, f_X9_pack_44 n σ a1 a2 = some (r', σ') → pp_E Γ dsM cX9_pack 3 44 [(0, ppR 40 0 0), (1, ppI a1), (2, ppI a2)] [] σ
  | 0, _, _, _ => fun h => by cases h
  | n + 1, _, _, _ => fun h => e_X9_pack_44 hF hR (fun h => e_X9_pack_44_L hF hR (n := n) h) h
set_option maxRecDepth 20000 in
theorem e_X9_pack_0 {Γ : pp_G} {r' : Int32} {σ' : pp_M} (hF : pp_Fx Γ dsM cX9_pack 3 RX9 3 54) (hR : pp_Rt Γ dsM (some .int) (some (ppI r')) σ') {σ : pp_M} {a1 : Int32} (h : f_X9_pack σ a1 = some (r', σ')) : pp_E Γ dsM cX9_pack 3 0 [(0, ppR 40 0 0), (1, ppI a1)] [] σ := by
  unfold f_X9_pack at h
  refine pp_iload_n hF dX9_pack_0 rfl rfl ?_
  obtain ⟨x1, hx1, h⟩ := pp_bd h
  refine pp_callSi hF (c_X9_isSheet hx1) mS_X9_isSheet lk_X9_165 rfl rfl ⟨by decide, by decide⟩ (Nat.le_of_ble_eq_true rfl) dX9_pack_1 ?_
  refine pp_if_ne (tgt := 10) hF dX9_pack_4 rfl (fun c2 => ?_) (fun c2 => ?_)
  · replace h := (if_pos c2).symm.trans h
    refine pp_bipush hF dX9_pack_7 bc_n2 ?_
    obtain ⟨rfl, rfl⟩ := pp_i2 h
    exact pp_ireturn hF hR dX9_pack_9
  · replace h := (if_neg c2).symm.trans h
    refine pp_aload_n hF dX9_pack_10 rfl rfl ?_
    refine pp_getR hF fdM_X9_96 dX9_pack_11 ?_
    refine pp_iload_n hF dX9_pack_14 rfl rfl ?_
    obtain ⟨hi3, h⟩ := pp_ck h
    refine pp_baloadJ hF vM_66 hi3 (Nat.zero_add _) dX9_pack_15 ?_
    refine pp_if_ne (tgt := 25) hF dX9_pack_16 rfl (fun c4 => ?_) (fun c4 => ?_)
    · replace h := (if_pos c4).symm.trans h
      refine pp_aload_n hF dX9_pack_19 rfl rfl ?_
      refine pp_iconst hF dX9_pack_20 ic_1 ?_
      obtain ⟨x21, hx21, h⟩ := pp_bd h
      refine pp_callVi hF (c_X9_meets hx21) mV_X9_meets lk_X9_171 obM_40 rfl rfl ⟨by decide, by decide⟩ (Nat.le_of_ble_eq_true rfl) dX9_pack_21 ?_
      obtain ⟨rfl, rfl⟩ := pp_i2 h
      exact pp_ireturn hF hR dX9_pack_24
    · replace h := (if_neg c4).symm.trans h
      refine pp_aload_n hF dX9_pack_25 rfl rfl ?_
      refine pp_getR hF fdM_X9_103 dX9_pack_26 ?_
      refine pp_iload_n hF dX9_pack_29 rfl rfl ?_
      refine pp_ialoadJ hF vM_68 hi3 (Nat.zero_add _) dX9_pack_30 ?_
      refine pp_bipush hF dX9_pack_31 bc_6 ?_
      refine pp_icmp_ge (tgt := 42) hF dX9_pack_33 rfl (fun c6 => ?_) (fun c6 => ?_)
      · replace h := (if_pos c6).symm.trans h
        refine pp_aload_n hF dX9_pack_36 rfl rfl ?_
        refine pp_iconst hF dX9_pack_37 ic_2 ?_
        obtain ⟨x38, hx38, h⟩ := pp_bd h
        refine pp_callVi hF (c_X9_meets hx38) mV_X9_meets lk_X9_171 obM_40 rfl rfl ⟨by decide, by decide⟩ (Nat.le_of_ble_eq_true rfl) dX9_pack_38 ?_
        obtain ⟨rfl, rfl⟩ := pp_i2 h
        exact pp_ireturn hF hR dX9_pack_41
      · replace h := (if_neg c6).symm.trans h
        refine pp_iconst hF dX9_pack_42 ic_0 ?_
        refine pp_istore_n hF dX9_pack_43 rfl (by decide) (lv' := [(0, ppR 40 0 0), (1, ppI a1), (2, ppI (0 : Int32))]) rfl ?_
        exact e_X9_pack_44_L hF hR h
set_option maxRecDepth 20000 in
theorem c_X9_pack {r' : Int32} {σ' : pp_M} {σ : pp_M} {a1 : Int32} (h : f_X9_pack σ a1 = some (r', σ')) : pp_Ct yX9_pack cX9_pack 3 (some .int) 3 54 dsM [ppR 40 0 0, ppI a1] σ (some (ppI r')) σ' := pp_met pl_X9 rfl okM (Nat.le_of_ble_eq_true rfl) rfl (fun Γ hF hR => (e_X9_pack_0 hF hR h))
set_option maxRecDepth 20000 in
theorem e_X9_put_0 {Γ : pp_G} {r' : Int32} {σ' : pp_M} (hF : pp_Fx Γ dsM cX9_put 6 RX9 3 57) (hR : pp_Rt Γ dsM (some .int) (some (ppI r')) σ') {σ : pp_M} {a1 : Int32} {a2 : Int32} {a3 : Int32} {a4 : Int32} (h : f_X9_put σ a1 a2 a3 a4 = some (r', σ')) : pp_E Γ dsM cX9_put 6 0 [(0, ppR 40 0 0), (1, ppI a1), (2, ppI a2), (3, ppI a3), (4, ppI a4)] [] σ := by
  unfold f_X9_put at h
  refine pp_iload_n hF dX9_put_0 rfl rfl ?_
  obtain ⟨x1, hx1, h⟩ := pp_bd h
  refine pp_callSi hF (c_X9_isSheet hx1) mS_X9_isSheet lk_X9_165 rfl rfl ⟨by decide, by decide⟩ (Nat.le_of_ble_eq_true rfl) dX9_put_1 ?_
  refine pp_if_eq (tgt := 16) hF dX9_put_4 rfl (fun c2 => ?_) (fun c2 => ?_)
  · replace h := (if_pos c2).symm.trans h
    refine pp_bipush hF dX9_put_16 bc_n2 ?_
    obtain ⟨rfl, rfl⟩ := pp_i2 h
    exact pp_ireturn hF hR dX9_put_18
  · replace h := (if_neg c2).symm.trans h
    refine pp_iload_n hF dX9_put_7 rfl rfl ?_
    refine pp_iconst hF dX9_put_8 ic_0 ?_
    refine pp_iconst hF dX9_put_9 ic_2 ?_
    obtain ⟨x10, hx10, h⟩ := pp_bd h
    refine pp_callSi hF (c_X9_in hx10) mS_X9_in lk_X9_114 rfl rfl ⟨by decide, by decide⟩ (Nat.le_of_ble_eq_true rfl) dX9_put_10 ?_
    refine pp_if_ne (tgt := 19) hF dX9_put_13 rfl (fun c4 => ?_) (fun c4 => ?_)
    · replace h := (if_pos c4).symm.trans h
      refine pp_bipush hF dX9_put_16 bc_n2 ?_
      obtain ⟨rfl, rfl⟩ := pp_i2 h
      exact pp_ireturn hF hR dX9_put_18
    · replace h := (if_neg c4).symm.trans h
      refine pp_aload_n hF dX9_put_19 rfl rfl ?_
      refine pp_iload_n hF dX9_put_20 rfl rfl ?_
      refine pp_iload_n hF dX9_put_21 rfl rfl ?_
      refine pp_iload_n hF dX9_put_22 rfl rfl ?_
      obtain ⟨x23, hx23, h⟩ := pp_bd h
      refine pp_callVi hF (c_X9_lacks hx23) mV_X9_lacks lk_X9_302 obM_40 rfl rfl ⟨by decide, by decide⟩ (Nat.le_of_ble_eq_true rfl) dX9_put_23 ?_
      refine pp_istore hF dX9_put_26 (by decide) (lv' := [(0, ppR 40 0 0), (1, ppI a1), (2, ppI a2), (3, ppI a3), (4, ppI a4), (5, ppI x23.1)]) rfl ?_
      refine pp_iload hF dX9_put_28 rfl ?_
      refine pp_if_le (tgt := 40) hF dX9_put_30 rfl (fun c6 => ?_) (fun c6 => ?_)
      · replace h := (if_pos c6).symm.trans h
        refine pp_aload_n hF dX9_put_33 rfl rfl ?_
        refine pp_iload hF dX9_put_34 rfl ?_
        obtain ⟨x36, hx36, h⟩ := pp_bd h
        refine pp_callVi hF (c_X9_meets hx36) mV_X9_meets lk_X9_171 obM_40 rfl rfl ⟨by decide, by decide⟩ (Nat.le_of_ble_eq_true rfl) dX9_put_36 ?_
        obtain ⟨rfl, rfl⟩ := pp_i2 h
        exact pp_ireturn hF hR dX9_put_39
      · replace h := (if_neg c6).symm.trans h
        refine pp_aload_n hF dX9_put_40 rfl rfl ?_
        refine pp_iload_n hF dX9_put_41 rfl rfl ?_
        refine pp_iload_n hF dX9_put_42 rfl rfl ?_
        refine pp_iload hF dX9_put_43 rfl ?_
        obtain ⟨x45, hx45, h⟩ := pp_bd h
        refine pp_callVv hF (c_X9_keep hx45) mV_X9_keep lk_X9_305 obM_40 rfl rfl ⟨by decide, by decide⟩ (Nat.le_of_ble_eq_true rfl) dX9_put_45 ?_
        refine pp_iconst hF dX9_put_48 ic_1 ?_
        obtain ⟨rfl, rfl⟩ := pp_i2 h
        exact pp_ireturn hF hR dX9_put_49
set_option maxRecDepth 20000 in
theorem c_X9_put {r' : Int32} {σ' : pp_M} {σ : pp_M} {a1 : Int32} {a2 : Int32} {a3 : Int32} {a4 : Int32} (h : f_X9_put σ a1 a2 a3 a4 = some (r', σ')) : pp_Ct yX9_put cX9_put 6 (some .int) 3 57 dsM [ppR 40 0 0, ppI a1, ppI a2, ppI a3, ppI a4] σ (some (ppI r')) σ' := pp_met pl_X9 rfl okM (Nat.le_of_ble_eq_true rfl) rfl (fun Γ hF hR => (e_X9_put_0 hF hR h))
set_option maxRecDepth 20000 in
theorem e_X9_read_133 {Γ : pp_G} {r' : Int32} {σ' : pp_M} (hF : pp_Fx Γ dsM cX9_read 6 RX9 3 54) (hR : pp_Rt Γ dsM (some .int) (some (ppI r')) σ') {σ : pp_M} {a1 : Int32} {a2 : Int32} {a3 : Int32} {a4 : Int32} {a5 : Int32} {k34 : pp_M → Int32 → Int32 → Int32 → Option (Int32 × pp_M)} (hk34 : ∀ {σ : pp_M} {a1 : Int32} {a2 : Int32} {a3 : Int32}, k34 σ a1 a2 a3 = some (r', σ') → pp_E Γ dsM cX9_read 6 34 [(0, ppR 40 0 0), (1, ppI a1), (2, ppI a2), (3, ppI a3)] [] σ) {k133 : pp_M → Int32 → Int32 → Int32 → Int32 → Int32 → Option (Int32 × pp_M)} (hk133 : ∀ {σ : pp_M} {a1 : Int32} {a2 : Int32} {a3 : Int32} {a4 : Int32} {a5 : Int32}, k133 σ a1 a2 a3 a4 a5 = some (r', σ') → pp_E Γ dsM cX9_read 6 133 [(0, ppR 40 0 0), (1, ppI a1), (2, ppI a2), (3, ppI a3), (4, ppI a4), (5, ppI a5)] [] σ) (h : f_X9_read_133_B k34 k133 σ a1 a2 a3 a4 a5 = some (r', σ')) : pp_E Γ dsM cX9_read 6 133 [(0, ppR 40 0 0), (1, ppI a1), (2, ppI a2), (3, ppI a3), (4, ppI a4), (5, ppI a5)] [] σ := by
  unfold f_X9_read_133_B at h
  refine pp_iload hF dX9_read_133 rfl ?_
  refine pp_iconst hF dX9_read_135 ic_3 ?_
  refine pp_icmp_ge (tgt := 168) hF dX9_read_136 rfl (fun c1 => ?_) (fun c1 => ?_)
  · replace h := (if_pos c1).symm.trans h
    refine pp_aload_n hF dX9_read_139 rfl rfl ?_
    refine pp_getR hF fdM_X9_38 dX9_read_140 ?_
    refine pp_iload_n hF dX9_read_143 rfl rfl ?_
    refine pp_iload_n hF dX9_read_144 rfl rfl ?_
    obtain ⟨x145, hx145, h⟩ := pp_bd h
    refine pp_callSi hF (c_X9_place hx145) mS_X9_place lk_X9_162 rfl rfl ⟨by decide, by decide⟩ (Nat.le_of_ble_eq_true rfl) dX9_read_145 ?_
    refine pp_iload hF dX9_read_148 rfl ?_
    refine pp_iadd hF dX9_read_150 ?_
    refine pp_aload_n hF dX9_read_151 rfl rfl ?_
    refine pp_getR hF fdM_X9_106 dX9_read_152 ?_
    refine pp_iload hF dX9_read_155 rfl ?_
    refine pp_iload hF dX9_read_157 rfl ?_
    refine pp_iadd hF dX9_read_159 ?_
    obtain ⟨hi3, h⟩ := pp_ck h
    refine pp_ialoadJ hF vM_69 hi3 (Nat.zero_add _) dX9_read_160 ?_
    obtain ⟨hi4, h⟩ := pp_ck h
    refine pp_iastoreJ hF vM_47 hi4 (Nat.zero_add _) dX9_read_161 ?_
    refine pp_iinc hF dX9_read_162 rfl (congrArg (HAdd.hAdd _) ic_1) (by decide) (lv' := [(0, ppR 40 0 0), (1, ppI a1), (2, ppI a2), (3, ppI a3), (4, ppI a4), (5, ppI (a5 + (1 : Int32)))]) rfl ?_
    refine pp_goto (tgt := 133) hF dX9_read_165 rfl ?_
    exact hk133 h
  · replace h := (if_neg c1).symm.trans h
    refine pp_iinc hF dX9_read_168 rfl (congrArg (HAdd.hAdd _) ic_1) (by decide) (lv' := [(0, ppR 40 0 0), (1, ppI a1), (2, ppI a2), (3, ppI (a3 + (1 : Int32))), (4, ppI a4), (5, ppI a5)]) rfl ?_
    refine pp_goto (tgt := 34) hF dX9_read_171 rfl ?_
    refine pp_few [0, 1, 2, 3] (lv' := [(0, ppR 40 0 0), (1, ppI a1), (2, ppI a2), (3, ppI (a3 + (1 : Int32)))]) rfl ?_
    exact hk34 h
set_option maxRecDepth 20000 in
theorem e_X9_read_133_L {Γ : pp_G} {r' : Int32} {σ' : pp_M} (hF : pp_Fx Γ dsM cX9_read 6 RX9 3 54) (hR : pp_Rt Γ dsM (some .int) (some (ppI r')) σ') {k34 : pp_M → Int32 → Int32 → Int32 → Option (Int32 × pp_M)} (hk34 : ∀ {σ : pp_M} {a1 : Int32} {a2 : Int32} {a3 : Int32}, k34 σ a1 a2 a3 = some (r', σ') → pp_E Γ dsM cX9_read 6 34 [(0, ppR 40 0 0), (1, ppI a1), (2, ppI a2), (3, ppI a3)] [] σ) : ∀ {n : Nat} {σ : pp_M} {a1 : Int32} {a2 : Int32} {a3 : Int32} {a4 : Int32} {a5 : Int32}, f_X9_read_133 k34 n σ a1 a2 a3 a4 a5 = some (r', σ') → pp_E Γ dsM cX9_read 6 133 [(0, ppR 40 0 0), (1, ppI a1), (2, ppI a2), (3, ppI a3), (4, ppI a4), (5, ppI a5)] [] σ
  | 0, _, _, _, _, _, _ => fun h => by cases h
  | n + 1, _, _, _, _, _, _ => fun h => e_X9_read_133 hF hR hk34 (fun h => e_X9_read_133_L hF hR hk34 (n := n) h) h
set_option maxRecDepth 20000 in
theorem e_X9_read_34 {Γ : pp_G} {r' : Int32} {σ' : pp_M} (hF : pp_Fx Γ dsM cX9_read 6 RX9 3 54) (hR : pp_Rt Γ dsM (some .int) (some (ppI r')) σ') {σ : pp_M} {a1 : Int32} {a2 : Int32} {a3 : Int32} {k34 : pp_M → Int32 → Int32 → Int32 → Option (Int32 × pp_M)} (hk34 : ∀ {σ : pp_M} {a1 : Int32} {a2 : Int32} {a3 : Int32}, k34 σ a1 a2 a3 = some (r', σ') → pp_E Γ dsM cX9_read 6 34 [(0, ppR 40 0 0), (1, ppI a1), (2, ppI a2), (3, ppI a3)] [] σ) (h : f_X9_read_34_B k34 σ a1 a2 a3 = some (r', σ')) : pp_E Γ dsM cX9_read 6 34 [(0, ppR 40 0 0), (1, ppI a1), (2, ppI a2), (3, ppI a3)] [] σ := by
  unfold f_X9_read_34_B at h
  refine pp_iload_n hF dX9_read_34 rfl rfl ?_
  refine pp_bipush hF dX9_read_35 bc_6 ?_
  refine pp_icmp_ge (tgt := 174) hF dX9_read_37 rfl (fun c1 => ?_) (fun c1 => ?_)
  · replace h := (if_pos c1).symm.trans h
    refine pp_iconst hF dX9_read_40 ic_3 ?_
    refine pp_iload_n hF dX9_read_41 rfl rfl ?_
    refine pp_imul hF dX9_read_42 ?_
    refine pp_iconst hF dX9_read_43 ic_2 ?_
    refine pp_iadd hF dX9_read_44 ?_
    refine pp_aload_n hF dX9_read_45 rfl rfl ?_
    refine pp_getR hF fdM_X9_103 dX9_read_46 ?_
    refine pp_iload_n hF dX9_read_49 rfl rfl ?_
    obtain ⟨hi2, h⟩ := pp_ck h
    refine pp_ialoadJ hF vM_68 hi2 (Nat.zero_add _) dX9_read_50 ?_
    refine pp_icmp_ge (tgt := 174) hF dX9_read_51 rfl (fun c3 => ?_) (fun c3 => ?_)
    · replace h := (if_pos c3).symm.trans h
      refine pp_bipush hF dX9_read_54 bc_40 ?_
      refine pp_iload_n hF dX9_read_56 rfl rfl ?_
      refine pp_imul hF dX9_read_57 ?_
      refine pp_iconst hF dX9_read_58 ic_3 ?_
      refine pp_iload_n hF dX9_read_59 rfl rfl ?_
      refine pp_imul hF dX9_read_60 ?_
      refine pp_iadd hF dX9_read_61 ?_
      refine pp_istore hF dX9_read_62 (by decide) (lv' := [(0, ppR 40 0 0), (1, ppI a1), (2, ppI a2), (3, ppI a3), (4, ppI (((40 : Int32) * a1) + ((3 : Int32) * a3)))]) rfl ?_
      refine pp_aload_n hF dX9_read_64 rfl rfl ?_
      refine pp_getR hF fdM_X9_106 dX9_read_65 ?_
      refine pp_iload hF dX9_read_68 rfl ?_
      obtain ⟨hi4, h⟩ := pp_ck h
      refine pp_ialoadJ hF vM_69 hi4 (Nat.zero_add _) dX9_read_70 ?_
      refine pp_iconst hF dX9_read_71 ic_0 ?_
      refine pp_bipush hF dX9_read_72 bc_16 ?_
      obtain ⟨x74, hx74, h⟩ := pp_bd h
      refine pp_callSi hF (c_X9_in hx74) mS_X9_in lk_X9_114 rfl rfl ⟨by decide, by decide⟩ (Nat.le_of_ble_eq_true rfl) dX9_read_74 ?_
      refine pp_if_eq (tgt := 128) hF dX9_read_77 rfl (fun c6 => ?_) (fun c6 => ?_)
      · replace h := (if_pos c6).symm.trans h
        refine pp_iload_n hF dX9_read_128 rfl rfl ?_
        obtain ⟨rfl, rfl⟩ := pp_i2 h
        exact pp_ireturn hF hR dX9_read_129
      · replace h := (if_neg c6).symm.trans h
        refine pp_aload_n hF dX9_read_80 rfl rfl ?_
        refine pp_getR hF fdM_X9_106 dX9_read_81 ?_
        refine pp_iload hF dX9_read_84 rfl ?_
        refine pp_iconst hF dX9_read_86 ic_1 ?_
        refine pp_iadd hF dX9_read_87 ?_
        obtain ⟨hi7, h⟩ := pp_ck h
        refine pp_ialoadJ hF vM_69 hi7 (Nat.zero_add _) dX9_read_88 ?_
        refine pp_iconst hF dX9_read_89 ic_0 ?_
        refine pp_aload_n hF dX9_read_90 rfl rfl ?_
        refine pp_getR hF fdM_X9_106 dX9_read_91 ?_
        refine pp_iload hF dX9_read_94 rfl ?_
        refine pp_ialoadJ hF vM_69 hi4 (Nat.zero_add _) dX9_read_96 ?_
        obtain ⟨x97, hx97, h⟩ := pp_bd h
        refine pp_callSi hF (c_X9_in hx97) mS_X9_in lk_X9_114 rfl rfl ⟨by decide, by decide⟩ (Nat.le_of_ble_eq_true rfl) dX9_read_97 ?_
        refine pp_if_eq (tgt := 128) hF dX9_read_100 rfl (fun c9 => ?_) (fun c9 => ?_)
        · replace h := (if_pos c9).symm.trans h
          refine pp_iload_n hF dX9_read_128 rfl rfl ?_
          obtain ⟨rfl, rfl⟩ := pp_i2 h
          exact pp_ireturn hF hR dX9_read_129
        · replace h := (if_neg c9).symm.trans h
          refine pp_aload_n hF dX9_read_103 rfl rfl ?_
          refine pp_getR hF fdM_X9_106 dX9_read_104 ?_
          refine pp_iload hF dX9_read_107 rfl ?_
          refine pp_iconst hF dX9_read_109 ic_2 ?_
          refine pp_iadd hF dX9_read_110 ?_
          obtain ⟨hi10, h⟩ := pp_ck h
          refine pp_ialoadJ hF vM_69 hi10 (Nat.zero_add _) dX9_read_111 ?_
          refine pp_iconst hF dX9_read_112 ic_0 ?_
          refine pp_aload_n hF dX9_read_113 rfl rfl ?_
          refine pp_getR hF fdM_X9_106 dX9_read_114 ?_
          refine pp_iload hF dX9_read_117 rfl ?_
          refine pp_iconst hF dX9_read_119 ic_1 ?_
          refine pp_iadd hF dX9_read_120 ?_
          refine pp_ialoadJ hF vM_69 hi7 (Nat.zero_add _) dX9_read_121 ?_
          obtain ⟨x122, hx122, h⟩ := pp_bd h
          refine pp_callSi hF (c_X9_in hx122) mS_X9_in lk_X9_114 rfl rfl ⟨by decide, by decide⟩ (Nat.le_of_ble_eq_true rfl) dX9_read_122 ?_
          refine pp_if_ne (tgt := 130) hF dX9_read_125 rfl (fun c12 => ?_) (fun c12 => ?_)
          · replace h := (if_pos c12).symm.trans h
            refine pp_iload_n hF dX9_read_128 rfl rfl ?_
            obtain ⟨rfl, rfl⟩ := pp_i2 h
            exact pp_ireturn hF hR dX9_read_129
          · replace h := (if_neg c12).symm.trans h
            refine pp_iconst hF dX9_read_130 ic_0 ?_
            refine pp_istore hF dX9_read_131 (by decide) (lv' := [(0, ppR 40 0 0), (1, ppI a1), (2, ppI a2), (3, ppI a3), (4, ppI (((40 : Int32) * a1) + ((3 : Int32) * a3))), (5, ppI (0 : Int32))]) rfl ?_
            exact e_X9_read_133_L hF hR hk34 h
    · replace h := (if_neg c3).symm.trans h
      refine pp_iload_n hF dX9_read_174 rfl rfl ?_
      obtain ⟨rfl, rfl⟩ := pp_i2 h
      exact pp_ireturn hF hR dX9_read_175
  · replace h := (if_neg c1).symm.trans h
    refine pp_iload_n hF dX9_read_174 rfl rfl ?_
    obtain ⟨rfl, rfl⟩ := pp_i2 h
    exact pp_ireturn hF hR dX9_read_175
set_option maxRecDepth 20000 in
theorem e_X9_read_34_L {Γ : pp_G} {r' : Int32} {σ' : pp_M} (hF : pp_Fx Γ dsM cX9_read 6 RX9 3 54) (hR : pp_Rt Γ dsM (some .int) (some (ppI r')) σ') : ∀ {n : Nat} {σ : pp_M} {a1 : Int32} {a2 : Int32} {a3 : Int32}, f_X9_read_34 n σ a1 a2 a3 = some (r', σ') → pp_E Γ dsM cX9_read 6 34 [(0, ppR 40 0 0), (1, ppI a1), (2, ppI a2), (3, ppI a3)] [] σ
  | 0, _, _, _, _ => fun h => by cases h
  | n + 1, _, _, _, _ => fun h => e_X9_read_34 hF hR (fun h => e_X9_read_34_L hF hR (n := n) h) h
set_option maxRecDepth 20000 in
theorem e_X9_read_0 {Γ : pp_G} {r' : Int32} {σ' : pp_M} (hF : pp_Fx Γ dsM cX9_read 6 RX9 3 54) (hR : pp_Rt Γ dsM (some .int) (some (ppI r')) σ') {σ : pp_M} {a1 : Int32} {a2 : Int32} (h : f_X9_read σ a1 a2 = some (r', σ')) : pp_E Γ dsM cX9_read 6 0 [(0, ppR 40 0 0), (1, ppI a1), (2, ppI a2)] [] σ := by
  unfold f_X9_read at h
  refine pp_iload_n hF dX9_read_0 rfl rfl ?_
  obtain ⟨x1, hx1, h⟩ := pp_bd h
  refine pp_callSi hF (c_X9_isSheet hx1) mS_X9_isSheet lk_X9_165 rfl rfl ⟨by decide, by decide⟩ (Nat.le_of_ble_eq_true rfl) dX9_read_1 ?_
  refine pp_if_eq (tgt := 14) hF dX9_read_4 rfl (fun c2 => ?_) (fun c2 => ?_)
  · replace h := (if_pos c2).symm.trans h
    refine pp_bipush hF dX9_read_14 bc_n2 ?_
    obtain ⟨rfl, rfl⟩ := pp_i2 h
    exact pp_ireturn hF hR dX9_read_16
  · replace h := (if_neg c2).symm.trans h
    refine pp_iload_n hF dX9_read_7 rfl rfl ?_
    obtain ⟨x8, hx8, h⟩ := pp_bd h
    refine pp_callSi hF (c_X9_isFarm hx8) mS_X9_isFarm lk_X9_168 rfl rfl ⟨by decide, by decide⟩ (Nat.le_of_ble_eq_true rfl) dX9_read_8 ?_
    refine pp_if_ne (tgt := 17) hF dX9_read_11 rfl (fun c4 => ?_) (fun c4 => ?_)
    · replace h := (if_pos c4).symm.trans h
      refine pp_bipush hF dX9_read_14 bc_n2 ?_
      obtain ⟨rfl, rfl⟩ := pp_i2 h
      exact pp_ireturn hF hR dX9_read_16
    · replace h := (if_neg c4).symm.trans h
      refine pp_aload_n hF dX9_read_17 rfl rfl ?_
      refine pp_getR hF fdM_X9_96 dX9_read_18 ?_
      refine pp_iload_n hF dX9_read_21 rfl rfl ?_
      obtain ⟨hi5, h⟩ := pp_ck h
      refine pp_baloadJ hF vM_66 hi5 (Nat.zero_add _) dX9_read_22 ?_
      refine pp_if_ne (tgt := 32) hF dX9_read_23 rfl (fun c6 => ?_) (fun c6 => ?_)
      · replace h := (if_pos c6).symm.trans h
        refine pp_aload_n hF dX9_read_26 rfl rfl ?_
        refine pp_iconst hF dX9_read_27 ic_1 ?_
        obtain ⟨x28, hx28, h⟩ := pp_bd h
        refine pp_callVi hF (c_X9_meets hx28) mV_X9_meets lk_X9_171 obM_40 rfl rfl ⟨by decide, by decide⟩ (Nat.le_of_ble_eq_true rfl) dX9_read_28 ?_
        obtain ⟨rfl, rfl⟩ := pp_i2 h
        exact pp_ireturn hF hR dX9_read_31
      · replace h := (if_neg c6).symm.trans h
        refine pp_iconst hF dX9_read_32 ic_0 ?_
        refine pp_istore_n hF dX9_read_33 rfl (by decide) (lv' := [(0, ppR 40 0 0), (1, ppI a1), (2, ppI a2), (3, ppI (0 : Int32))]) rfl ?_
        exact e_X9_read_34_L hF hR h
set_option maxRecDepth 20000 in
theorem c_X9_read {r' : Int32} {σ' : pp_M} {σ : pp_M} {a1 : Int32} {a2 : Int32} (h : f_X9_read σ a1 a2 = some (r', σ')) : pp_Ct yX9_read cX9_read 6 (some .int) 3 54 dsM [ppR 40 0 0, ppI a1, ppI a2] σ (some (ppI r')) σ' := pp_met pl_X9 rfl okM (Nat.le_of_ble_eq_true rfl) rfl (fun Γ hF hR => (e_X9_read_0 hF hR h))
set_option maxRecDepth 20000 in
theorem e_X9_road_0 {Γ : pp_G} {r' : Int32} {σ' : pp_M} (hF : pp_Fx Γ dsM cX9_road 5 RX9 3 54) (hR : pp_Rt Γ dsM (some .int) (some (ppI r')) σ') {σ : pp_M} {a1 : Int32} {a2 : Int32} {a3 : Int32} (h : f_X9_road σ a1 a2 a3 = some (r', σ')) : pp_E Γ dsM cX9_road 5 0 [(0, ppR 40 0 0), (1, ppI a1), (2, ppI a2), (3, ppI a3)] [] σ := by
  unfold f_X9_road at h
  refine pp_iload_n hF dX9_road_0 rfl rfl ?_
  obtain ⟨x1, hx1, h⟩ := pp_bd h
  refine pp_callSi hF (c_X9_isPlace hx1) mS_X9_isPlace lk_X9_126 rfl rfl ⟨by decide, by decide⟩ (Nat.le_of_ble_eq_true rfl) dX9_road_1 ?_
  refine pp_if_eq (tgt := 29) hF dX9_road_4 rfl (fun c2 => ?_) (fun c2 => ?_)
  · replace h := (if_pos c2).symm.trans h
    refine pp_bipush hF dX9_road_29 bc_n2 ?_
    obtain ⟨rfl, rfl⟩ := pp_i2 h
    exact pp_ireturn hF hR dX9_road_31
  · replace h := (if_neg c2).symm.trans h
    refine pp_iload_n hF dX9_road_7 rfl rfl ?_
    obtain ⟨x8, hx8, h⟩ := pp_bd h
    refine pp_callSi hF (c_X9_isPlace hx8) mS_X9_isPlace lk_X9_126 rfl rfl ⟨by decide, by decide⟩ (Nat.le_of_ble_eq_true rfl) dX9_road_8 ?_
    refine pp_if_eq (tgt := 29) hF dX9_road_11 rfl (fun c4 => ?_) (fun c4 => ?_)
    · replace h := (if_pos c4).symm.trans h
      refine pp_bipush hF dX9_road_29 bc_n2 ?_
      obtain ⟨rfl, rfl⟩ := pp_i2 h
      exact pp_ireturn hF hR dX9_road_31
    · replace h := (if_neg c4).symm.trans h
      refine pp_iload_n hF dX9_road_14 rfl rfl ?_
      refine pp_iload_n hF dX9_road_15 rfl rfl ?_
      refine pp_icmp_eq (tgt := 29) hF dX9_road_16 rfl (fun c5 => ?_) (fun c5 => ?_)
      · replace h := (if_pos c5).symm.trans h
        refine pp_bipush hF dX9_road_29 bc_n2 ?_
        obtain ⟨rfl, rfl⟩ := pp_i2 h
        exact pp_ireturn hF hR dX9_road_31
      · replace h := (if_neg c5).symm.trans h
        refine pp_iload_n hF dX9_road_19 rfl rfl ?_
        refine pp_iconst hF dX9_road_20 ic_0 ?_
        refine pp_bipush hF dX9_road_21 bc_60 ?_
        obtain ⟨x23, hx23, h⟩ := pp_bd h
        refine pp_callSi hF (c_X9_in hx23) mS_X9_in lk_X9_114 rfl rfl ⟨by decide, by decide⟩ (Nat.le_of_ble_eq_true rfl) dX9_road_23 ?_
        refine pp_if_ne (tgt := 32) hF dX9_road_26 rfl (fun c7 => ?_) (fun c7 => ?_)
        · replace h := (if_pos c7).symm.trans h
          refine pp_bipush hF dX9_road_29 bc_n2 ?_
          obtain ⟨rfl, rfl⟩ := pp_i2 h
          exact pp_ireturn hF hR dX9_road_31
        · replace h := (if_neg c7).symm.trans h
          refine pp_aload_n hF dX9_road_32 rfl rfl ?_
          refine pp_getR hF fdM_X9_22 dX9_road_33 ?_
          refine pp_bipush hF dX9_road_36 bc_8 ?_
          refine pp_iload_n hF dX9_road_38 rfl rfl ?_
          refine pp_imul hF dX9_road_39 ?_
          refine pp_iload_n hF dX9_road_40 rfl rfl ?_
          refine pp_iadd hF dX9_road_41 ?_
          obtain ⟨hi8, h⟩ := pp_ck h
          refine pp_ialoadJ hF vM_45 hi8 (Nat.zero_add _) dX9_road_42 ?_
          refine pp_istore hF dX9_road_43 (by decide) (lv' := [(0, ppR 40 0 0), (1, ppI a1), (2, ppI a2), (3, ppI a3), (4, ppI (x23.2.1 45 (((8 : Int32) * a1) + a2).toNatClampNeg))]) rfl ?_
          refine pp_aload_n hF dX9_road_45 rfl rfl ?_
          refine pp_getR hF fdM_X9_22 dX9_road_46 ?_
          refine pp_bipush hF dX9_road_49 bc_8 ?_
          refine pp_iload_n hF dX9_road_51 rfl rfl ?_
          refine pp_imul hF dX9_road_52 ?_
          refine pp_iload_n hF dX9_road_53 rfl rfl ?_
          refine pp_iadd hF dX9_road_54 ?_
          refine pp_iload_n hF dX9_road_55 rfl rfl ?_
          refine pp_iastoreJ hF vM_45 hi8 (Nat.zero_add _) dX9_road_56 ?_
          refine pp_aload_n hF dX9_road_57 rfl rfl ?_
          refine pp_getR hF fdM_X9_22 dX9_road_58 ?_
          refine pp_bipush hF dX9_road_61 bc_8 ?_
          refine pp_iload_n hF dX9_road_63 rfl rfl ?_
          refine pp_imul hF dX9_road_64 ?_
          refine pp_iload_n hF dX9_road_65 rfl rfl ?_
          refine pp_iadd hF dX9_road_66 ?_
          refine pp_iload_n hF dX9_road_67 rfl rfl ?_
          obtain ⟨hi9, h⟩ := pp_ck h
          refine pp_iastoreJ hF vM_45 hi9 (Nat.zero_add _) dX9_road_68 ?_
          refine pp_iload hF dX9_road_69 rfl ?_
          obtain ⟨rfl, rfl⟩ := pp_i2 h
          exact pp_ireturn hF hR dX9_road_71
set_option maxRecDepth 20000 in
theorem c_X9_road {r' : Int32} {σ' : pp_M} {σ : pp_M} {a1 : Int32} {a2 : Int32} {a3 : Int32} (h : f_X9_road σ a1 a2 a3 = some (r', σ')) : pp_Ct yX9_road cX9_road 5 (some .int) 3 54 dsM [ppR 40 0 0, ppI a1, ppI a2, ppI a3] σ (some (ppI r')) σ' := pp_met pl_X9 rfl okM (Nat.le_of_ble_eq_true rfl) rfl (fun Γ hF hR => (e_X9_road_0 hF hR h))
set_option maxRecDepth 20000 in
theorem e_X9_round_0 {Γ : pp_G} {r' : Int32} {σ' : pp_M} (hF : pp_Fx Γ dsM cX9_round 2 RX9 6 145) (hR : pp_Rt Γ dsM (some .int) (some (ppI r')) σ') {σ : pp_M} {a1 : Int32} (h : f_X9_round σ a1 = some (r', σ')) : pp_E Γ dsM cX9_round 2 0 [(0, ppR 40 0 0), (1, ppI a1)] [] σ := by
  unfold f_X9_round at h
  refine pp_iload_n hF dX9_round_0 rfl rfl ?_
  refine pp_iconst hF dX9_round_1 ic_n1 ?_
  refine pp_icmp_ge (tgt := 8) hF dX9_round_2 rfl (fun c1 => ?_) (fun c1 => ?_)
  · replace h := (if_pos c1).symm.trans h
    refine pp_bipush hF dX9_round_5 bc_n2 ?_
    obtain ⟨rfl, rfl⟩ := pp_i2 h
    exact pp_ireturn hF hR dX9_round_7
  · replace h := (if_neg c1).symm.trans h
    refine pp_aload_n hF dX9_round_8 rfl rfl ?_
    obtain ⟨x9, hx9, h⟩ := pp_bd h
    refine pp_callVi hF (c_X9_gathers hx9) mV_X9_gathers lk_X9_274 obM_40 rfl rfl ⟨by decide, by decide⟩ (Nat.le_of_ble_eq_true rfl) dX9_round_9 ?_
    refine pp_if_ne (tgt := 18) hF dX9_round_12 rfl (fun c3 => ?_) (fun c3 => ?_)
    · replace h := (if_pos c3).symm.trans h
      refine pp_bipush hF dX9_round_15 bc_n4 ?_
      obtain ⟨rfl, rfl⟩ := pp_i2 h
      exact pp_ireturn hF hR dX9_round_17
    · replace h := (if_neg c3).symm.trans h
      refine pp_aload_n hF dX9_round_18 rfl rfl ?_
      obtain ⟨x19, hx19, h⟩ := pp_bd h
      refine pp_callVv hF (c_X9_goesRound hx19) mV_X9_goesRound lk_X9_278 obM_40 rfl rfl ⟨by decide, by decide⟩ (Nat.le_of_ble_eq_true rfl) dX9_round_19 ?_
      refine pp_iload_n hF dX9_round_22 rfl rfl ?_
      refine pp_iconst hF dX9_round_23 ic_n1 ?_
      refine pp_icmp_ne (tgt := 34) hF dX9_round_24 rfl (fun c5 => ?_) (fun c5 => ?_)
      · replace h := (if_pos c5).symm.trans h
        refine pp_aload_n hF dX9_round_27 rfl rfl ?_
        refine pp_getI hF fdM_X9_259 dX9_round_28 ?_
        refine pp_goto (tgt := 52) hF dX9_round_31 rfl ?_
        obtain ⟨rfl, rfl⟩ := pp_i2 h
        exact pp_ireturn hF hR dX9_round_52
      · replace h := (if_neg c5).symm.trans h
        refine pp_iload_n hF dX9_round_34 rfl rfl ?_
        refine pp_aload_n hF dX9_round_35 rfl rfl ?_
        refine pp_getI hF fdM_X9_259 dX9_round_36 ?_
        refine pp_icmp_ge (tgt := 51) hF dX9_round_39 rfl (fun c6 => ?_) (fun c6 => ?_)
        · replace h := (if_pos c6).symm.trans h
          refine pp_aload_n hF dX9_round_42 rfl rfl ?_
          refine pp_getR hF fdM_X9_87 dX9_round_43 ?_
          refine pp_iload_n hF dX9_round_46 rfl rfl ?_
          obtain ⟨hi7, h⟩ := pp_ck h
          refine pp_ialoadJ hF vM_63 hi7 (Nat.zero_add _) dX9_round_47 ?_
          refine pp_goto (tgt := 52) hF dX9_round_48 rfl ?_
          obtain ⟨rfl, rfl⟩ := pp_i2 h
          exact pp_ireturn hF hR dX9_round_52
        · replace h := (if_neg c6).symm.trans h
          refine pp_iconst hF dX9_round_51 ic_n1 ?_
          obtain ⟨rfl, rfl⟩ := pp_i2 h
          exact pp_ireturn hF hR dX9_round_52
set_option maxRecDepth 20000 in
theorem c_X9_round {r' : Int32} {σ' : pp_M} {σ : pp_M} {a1 : Int32} (h : f_X9_round σ a1 = some (r', σ')) : pp_Ct yX9_round cX9_round 2 (some .int) 6 145 dsM [ppR 40 0 0, ppI a1] σ (some (ppI r')) σ' := pp_met pl_X9 rfl okM (Nat.le_of_ble_eq_true rfl) rfl (fun Γ hF hR => (e_X9_round_0 hF hR h))
set_option maxRecDepth 20000 in
theorem e_X9_rounds_0 {Γ : pp_G} {r' : Int64} {σ' : pp_M} (hF : pp_Fx Γ dsM cX9_rounds 2 RX9 6 145) (hR : pp_Rt Γ dsM (some .long) (some (ppL r')) σ') {σ : pp_M} {a1 : Int32} (h : f_X9_rounds σ a1 = some (r', σ')) : pp_E Γ dsM cX9_rounds 2 0 [(0, ppR 40 0 0), (1, ppI a1)] [] σ := by
  unfold f_X9_rounds at h
  refine pp_iload_n hF dX9_rounds_0 rfl rfl ?_
  refine pp_iconst hF dX9_rounds_1 ic_0 ?_
  refine pp_iconst hF dX9_rounds_2 ic_1 ?_
  obtain ⟨x3, hx3, h⟩ := pp_bd h
  refine pp_callSi hF (c_X9_in hx3) mS_X9_in lk_X9_114 rfl rfl ⟨by decide, by decide⟩ (Nat.le_of_ble_eq_true rfl) dX9_rounds_3 ?_
  refine pp_if_ne (tgt := 15) hF dX9_rounds_6 rfl (fun c2 => ?_) (fun c2 => ?_)
  · replace h := (if_pos c2).symm.trans h
    refine pp_bipush hF dX9_rounds_9 bc_n2 ?_
    obtain ⟨x11, hx11, h⟩ := pp_bd h
    refine pp_callSl hF (c_X9_no hx11) mS_X9_no lk_X9_211 rfl rfl ⟨by decide, by decide⟩ (Nat.le_of_ble_eq_true rfl) dX9_rounds_11 ?_
    obtain ⟨rfl, rfl⟩ := pp_i2 h
    exact pp_lreturn hF hR dX9_rounds_14
  · replace h := (if_neg c2).symm.trans h
    refine pp_aload_n hF dX9_rounds_15 rfl rfl ?_
    obtain ⟨x16, hx16, h⟩ := pp_bd h
    refine pp_callVi hF (c_X9_gathers hx16) mV_X9_gathers lk_X9_274 obM_40 rfl rfl ⟨by decide, by decide⟩ (Nat.le_of_ble_eq_true rfl) dX9_rounds_16 ?_
    refine pp_if_ne (tgt := 28) hF dX9_rounds_19 rfl (fun c5 => ?_) (fun c5 => ?_)
    · replace h := (if_pos c5).symm.trans h
      refine pp_bipush hF dX9_rounds_22 bc_n4 ?_
      obtain ⟨x24, hx24, h⟩ := pp_bd h
      refine pp_callSl hF (c_X9_no hx24) mS_X9_no lk_X9_211 rfl rfl ⟨by decide, by decide⟩ (Nat.le_of_ble_eq_true rfl) dX9_rounds_24 ?_
      obtain ⟨rfl, rfl⟩ := pp_i2 h
      exact pp_lreturn hF hR dX9_rounds_27
    · replace h := (if_neg c5).symm.trans h
      refine pp_aload_n hF dX9_rounds_28 rfl rfl ?_
      obtain ⟨x29, hx29, h⟩ := pp_bd h
      refine pp_callVv hF (c_X9_goesRound hx29) mV_X9_goesRound lk_X9_278 obM_40 rfl rfl ⟨by decide, by decide⟩ (Nat.le_of_ble_eq_true rfl) dX9_rounds_29 ?_
      refine pp_aload_n hF dX9_rounds_32 rfl rfl ?_
      refine pp_getL hF fdM_X9_262 dX9_rounds_33 ?_
      refine pp_iconst hF dX9_rounds_36 ic_5 ?_
      obtain ⟨x37, hx37, h⟩ := pp_bd h
      refine pp_callSl hF (c_X9_sixteen hx37) mS_X9_sixteen lk_X9_193 rfl rfl ⟨by decide, by decide⟩ (Nat.le_of_ble_eq_true rfl) dX9_rounds_37 ?_
      refine pp_iload_n hF dX9_rounds_40 rfl rfl ?_
      obtain ⟨x41, hx41, h⟩ := pp_bd h
      refine pp_callSl hF (c_X9_lowest hx41) mS_X9_lowest lk_X9_214 rfl rfl ⟨by decide, by decide⟩ (Nat.le_of_ble_eq_true rfl) dX9_rounds_41 ?_
      obtain ⟨rfl, rfl⟩ := pp_i2 h
      exact pp_lreturn hF hR dX9_rounds_44
set_option maxRecDepth 20000 in
theorem c_X9_rounds {r' : Int64} {σ' : pp_M} {σ : pp_M} {a1 : Int32} (h : f_X9_rounds σ a1 = some (r', σ')) : pp_Ct yX9_rounds cX9_rounds 2 (some .long) 6 145 dsM [ppR 40 0 0, ppI a1] σ (some (ppL r')) σ' := pp_met pl_X9 rfl okM (Nat.le_of_ble_eq_true rfl) rfl (fun Γ hF hR => (e_X9_rounds_0 hF hR h))
set_option maxRecDepth 20000 in
theorem e_X9_row_98 {Γ : pp_G} {r' : Int32} {σ' : pp_M} (hF : pp_Fx Γ dsM cX9_row 5 RX9 3 54) (hR : pp_Rt Γ dsM (some .int) (some (ppI r')) σ') {σ : pp_M} {a1 : Int32} {a3 : Int32} {k98 : pp_M → Int32 → Int32 → Option (Int32 × pp_M)} (hk98 : ∀ {σ : pp_M} {a1 : Int32} {a3 : Int32}, k98 σ a1 a3 = some (r', σ') → pp_E Γ dsM cX9_row 5 98 [(0, ppR 40 0 0), (1, ppI a1), (3, ppI a3)] [] σ) (h : f_X9_row_98_B k98 σ a1 a3 = some (r', σ')) : pp_E Γ dsM cX9_row 5 98 [(0, ppR 40 0 0), (1, ppI a1), (3, ppI a3)] [] σ := by
  unfold f_X9_row_98_B at h
  refine pp_iload_n hF dX9_row_98 rfl rfl ?_
  refine pp_aload_n hF dX9_row_99 rfl rfl ?_
  refine pp_getI hF fdM_X9_178 dX9_row_100 ?_
  refine pp_icmp_ge (tgt := 129) hF dX9_row_103 rfl (fun c1 => ?_) (fun c1 => ?_)
  · replace h := (if_pos c1).symm.trans h
    refine pp_aload_n hF dX9_row_106 rfl rfl ?_
    refine pp_getR hF fdM_X9_56 dX9_row_107 ?_
    refine pp_iload_n hF dX9_row_110 rfl rfl ?_
    refine pp_aload_n hF dX9_row_111 rfl rfl ?_
    refine pp_getR hF fdM_X9_106 dX9_row_112 ?_
    refine pp_bipush hF dX9_row_115 bc_40 ?_
    refine pp_iload_n hF dX9_row_117 rfl rfl ?_
    refine pp_imul hF dX9_row_118 ?_
    refine pp_iload_n hF dX9_row_119 rfl rfl ?_
    refine pp_iadd hF dX9_row_120 ?_
    obtain ⟨hi2, h⟩ := pp_ck h
    refine pp_ialoadJ hF vM_69 hi2 (Nat.zero_add _) dX9_row_121 ?_
    obtain ⟨hi3, h⟩ := pp_ck h
    refine pp_iastoreJ hF vM_53 hi3 (Nat.zero_add _) dX9_row_122 ?_
    refine pp_iinc hF dX9_row_123 rfl (congrArg (HAdd.hAdd _) ic_1) (by decide) (lv' := [(0, ppR 40 0 0), (1, ppI a1), (3, ppI (a3 + (1 : Int32)))]) rfl ?_
    refine pp_goto (tgt := 98) hF dX9_row_126 rfl ?_
    exact hk98 h
  · replace h := (if_neg c1).symm.trans h
    refine pp_aload_n hF dX9_row_129 rfl rfl ?_
    refine pp_getI hF fdM_X9_178 dX9_row_130 ?_
    obtain ⟨rfl, rfl⟩ := pp_i2 h
    exact pp_ireturn hF hR dX9_row_133
set_option maxRecDepth 20000 in
theorem e_X9_row_98_L {Γ : pp_G} {r' : Int32} {σ' : pp_M} (hF : pp_Fx Γ dsM cX9_row 5 RX9 3 54) (hR : pp_Rt Γ dsM (some .int) (some (ppI r')) σ') : ∀ {n : Nat} {σ : pp_M} {a1 : Int32} {a3 : Int32}, f_X9_row_98 n σ a1 a3 = some (r', σ') → pp_E Γ dsM cX9_row 5 98 [(0, ppR 40 0 0), (1, ppI a1), (3, ppI a3)] [] σ
  | 0, _, _, _ => fun h => by cases h
  | n + 1, _, _, _ => fun h => e_X9_row_98 hF hR (fun h => e_X9_row_98_L hF hR (n := n) h) h
set_option maxRecDepth 20000 in
theorem e_X9_row_29 {Γ : pp_G} {r' : Int32} {σ' : pp_M} (hF : pp_Fx Γ dsM cX9_row 5 RX9 3 54) (hR : pp_Rt Γ dsM (some .int) (some (ppI r')) σ') {σ : pp_M} {a1 : Int32} {a2 : Int32} {a3 : Int32} {k29 : pp_M → Int32 → Int32 → Int32 → Option (Int32 × pp_M)} (hk29 : ∀ {σ : pp_M} {a1 : Int32} {a2 : Int32} {a3 : Int32}, k29 σ a1 a2 a3 = some (r', σ') → pp_E Γ dsM cX9_row 5 29 [(0, ppR 40 0 0), (1, ppI a1), (2, ppI a2), (3, ppI a3)] [] σ) (h : f_X9_row_29_B k29 σ a1 a2 a3 = some (r', σ')) : pp_E Γ dsM cX9_row 5 29 [(0, ppR 40 0 0), (1, ppI a1), (2, ppI a2), (3, ppI a3)] [] σ := by
  unfold f_X9_row_29_B at h
  refine pp_iload_n hF dX9_row_29 rfl rfl ?_
  refine pp_aload_n hF dX9_row_30 rfl rfl ?_
  refine pp_getR hF fdM_X9_103 dX9_row_31 ?_
  refine pp_iload_n hF dX9_row_34 rfl rfl ?_
  obtain ⟨hi1, h⟩ := pp_ck h
  refine pp_ialoadJ hF vM_68 hi1 (Nat.zero_add _) dX9_row_35 ?_
  refine pp_icmp_ge (tgt := 86) hF dX9_row_36 rfl (fun c2 => ?_) (fun c2 => ?_)
  · replace h := (if_pos c2).symm.trans h
    refine pp_aload_n hF dX9_row_39 rfl rfl ?_
    refine pp_getR hF fdM_X9_106 dX9_row_40 ?_
    refine pp_bipush hF dX9_row_43 bc_40 ?_
    refine pp_iload_n hF dX9_row_45 rfl rfl ?_
    refine pp_imul hF dX9_row_46 ?_
    refine pp_iload_n hF dX9_row_47 rfl rfl ?_
    refine pp_iadd hF dX9_row_48 ?_
    obtain ⟨hi3, h⟩ := pp_ck h
    refine pp_ialoadJ hF vM_69 hi3 (Nat.zero_add _) dX9_row_49 ?_
    refine pp_istore hF dX9_row_50 (by decide) (lv' := [(0, ppR 40 0 0), (1, ppI a1), (2, ppI a2), (3, ppI a3), (4, ppI (σ.1 69 (((40 : Int32) * a1) + a3).toNatClampNeg))]) rfl ?_
    refine pp_iload hF dX9_row_52 rfl ?_
    obtain ⟨x54, hx54, h⟩ := pp_bd h
    refine pp_callSi hF (c_X9_isFarm hx54) mS_X9_isFarm lk_X9_168 rfl rfl ⟨by decide, by decide⟩ (Nat.le_of_ble_eq_true rfl) dX9_row_54 ?_
    refine pp_if_eq (tgt := 70) hF dX9_row_57 rfl (fun c5 => ?_) (fun c5 => ?_)
    · replace h := (if_pos c5).symm.trans h
      refine pp_bipush hF dX9_row_70 bc_n3 ?_
      obtain ⟨rfl, rfl⟩ := pp_i2 h
      exact pp_ireturn hF hR dX9_row_72
    · replace h := (if_neg c5).symm.trans h
      refine pp_iload_n hF dX9_row_60 rfl rfl ?_
      refine pp_iload hF dX9_row_61 rfl ?_
      refine pp_ishr hF dX9_row_63 ?_
      refine pp_iconst hF dX9_row_64 ic_1 ?_
      refine pp_iand hF dX9_row_65 ?_
      refine pp_iconst hF dX9_row_66 ic_1 ?_
      refine pp_icmp_ne (tgt := 73) hF dX9_row_67 rfl (fun c6 => ?_) (fun c6 => ?_)
      · replace h := (if_pos c6).symm.trans h
        refine pp_bipush hF dX9_row_70 bc_n3 ?_
        obtain ⟨rfl, rfl⟩ := pp_i2 h
        exact pp_ireturn hF hR dX9_row_72
      · replace h := (if_neg c6).symm.trans h
        refine pp_iload_n hF dX9_row_73 rfl rfl ?_
        refine pp_iconst hF dX9_row_74 ic_1 ?_
        refine pp_iload hF dX9_row_75 rfl ?_
        refine pp_ishl hF dX9_row_77 ?_
        refine pp_ior hF dX9_row_78 ?_
        refine pp_istore_n hF dX9_row_79 rfl (by decide) (lv' := [(0, ppR 40 0 0), (1, ppI a1), (2, ppI (a2 ||| ((1 : Int32) <<< ((σ.1 69 (((40 : Int32) * a1) + a3).toNatClampNeg) &&& 31)))), (3, ppI a3), (4, ppI (σ.1 69 (((40 : Int32) * a1) + a3).toNatClampNeg))]) rfl ?_
        refine pp_iinc hF dX9_row_80 rfl (congrArg (HAdd.hAdd _) ic_1) (by decide) (lv' := [(0, ppR 40 0 0), (1, ppI a1), (2, ppI (a2 ||| ((1 : Int32) <<< ((σ.1 69 (((40 : Int32) * a1) + a3).toNatClampNeg) &&& 31)))), (3, ppI (a3 + (1 : Int32))), (4, ppI (σ.1 69 (((40 : Int32) * a1) + a3).toNatClampNeg))]) rfl ?_
        refine pp_goto (tgt := 29) hF dX9_row_83 rfl ?_
        refine pp_few [0, 1, 2, 3] (lv' := [(0, ppR 40 0 0), (1, ppI a1), (2, ppI (a2 ||| ((1 : Int32) <<< ((σ.1 69 (((40 : Int32) * a1) + a3).toNatClampNeg) &&& 31)))), (3, ppI (a3 + (1 : Int32)))]) rfl ?_
        exact hk29 h
  · replace h := (if_neg c2).symm.trans h
    refine pp_aload_n hF dX9_row_86 rfl rfl ?_
    refine pp_aload_n hF dX9_row_87 rfl rfl ?_
    refine pp_getR hF fdM_X9_103 dX9_row_88 ?_
    refine pp_iload_n hF dX9_row_91 rfl rfl ?_
    refine pp_ialoadJ hF vM_68 hi1 (Nat.zero_add _) dX9_row_92 ?_
    refine pp_putI hF fwM_X9_178 dX9_row_93 ?_
    refine pp_iconst hF dX9_row_96 ic_0 ?_
    refine pp_istore_n hF dX9_row_97 rfl (by decide) (lv' := [(0, ppR 40 0 0), (1, ppI a1), (2, ppI a2), (3, ppI (0 : Int32))]) rfl ?_
    refine pp_few [0, 1, 3] (lv' := [(0, ppR 40 0 0), (1, ppI a1), (3, ppI (0 : Int32))]) rfl ?_
    exact e_X9_row_98_L hF hR h
set_option maxRecDepth 20000 in
theorem e_X9_row_29_L {Γ : pp_G} {r' : Int32} {σ' : pp_M} (hF : pp_Fx Γ dsM cX9_row 5 RX9 3 54) (hR : pp_Rt Γ dsM (some .int) (some (ppI r')) σ') : ∀ {n : Nat} {σ : pp_M} {a1 : Int32} {a2 : Int32} {a3 : Int32}, f_X9_row_29 n σ a1 a2 a3 = some (r', σ') → pp_E Γ dsM cX9_row 5 29 [(0, ppR 40 0 0), (1, ppI a1), (2, ppI a2), (3, ppI a3)] [] σ
  | 0, _, _, _, _ => fun h => by cases h
  | n + 1, _, _, _, _ => fun h => e_X9_row_29 hF hR (fun h => e_X9_row_29_L hF hR (n := n) h) h
set_option maxRecDepth 20000 in
theorem e_X9_row_0 {Γ : pp_G} {r' : Int32} {σ' : pp_M} (hF : pp_Fx Γ dsM cX9_row 5 RX9 3 54) (hR : pp_Rt Γ dsM (some .int) (some (ppI r')) σ') {σ : pp_M} {a1 : Int32} (h : f_X9_row σ a1 = some (r', σ')) : pp_E Γ dsM cX9_row 5 0 [(0, ppR 40 0 0), (1, ppI a1)] [] σ := by
  unfold f_X9_row at h
  refine pp_iload_n hF dX9_row_0 rfl rfl ?_
  obtain ⟨x1, hx1, h⟩ := pp_bd h
  refine pp_callSi hF (c_X9_isSheet hx1) mS_X9_isSheet lk_X9_165 rfl rfl ⟨by decide, by decide⟩ (Nat.le_of_ble_eq_true rfl) dX9_row_1 ?_
  refine pp_if_ne (tgt := 10) hF dX9_row_4 rfl (fun c2 => ?_) (fun c2 => ?_)
  · replace h := (if_pos c2).symm.trans h
    refine pp_bipush hF dX9_row_7 bc_n2 ?_
    obtain ⟨rfl, rfl⟩ := pp_i2 h
    exact pp_ireturn hF hR dX9_row_9
  · replace h := (if_neg c2).symm.trans h
    refine pp_aload_n hF dX9_row_10 rfl rfl ?_
    refine pp_getR hF fdM_X9_96 dX9_row_11 ?_
    refine pp_iload_n hF dX9_row_14 rfl rfl ?_
    obtain ⟨hi3, h⟩ := pp_ck h
    refine pp_baloadJ hF vM_66 hi3 (Nat.zero_add _) dX9_row_15 ?_
    refine pp_if_ne (tgt := 25) hF dX9_row_16 rfl (fun c4 => ?_) (fun c4 => ?_)
    · replace h := (if_pos c4).symm.trans h
      refine pp_aload_n hF dX9_row_19 rfl rfl ?_
      refine pp_iconst hF dX9_row_20 ic_1 ?_
      obtain ⟨x21, hx21, h⟩ := pp_bd h
      refine pp_callVi hF (c_X9_meets hx21) mV_X9_meets lk_X9_171 obM_40 rfl rfl ⟨by decide, by decide⟩ (Nat.le_of_ble_eq_true rfl) dX9_row_21 ?_
      obtain ⟨rfl, rfl⟩ := pp_i2 h
      exact pp_ireturn hF hR dX9_row_24
    · replace h := (if_neg c4).symm.trans h
      refine pp_iconst hF dX9_row_25 ic_0 ?_
      refine pp_istore_n hF dX9_row_26 rfl (by decide) (lv' := [(0, ppR 40 0 0), (1, ppI a1), (2, ppI (0 : Int32))]) rfl ?_
      refine pp_iconst hF dX9_row_27 ic_0 ?_
      refine pp_istore_n hF dX9_row_28 rfl (by decide) (lv' := [(0, ppR 40 0 0), (1, ppI a1), (2, ppI (0 : Int32)), (3, ppI (0 : Int32))]) rfl ?_
      exact e_X9_row_29_L hF hR h
set_option maxRecDepth 20000 in
theorem c_X9_row {r' : Int32} {σ' : pp_M} {σ : pp_M} {a1 : Int32} (h : f_X9_row σ a1 = some (r', σ')) : pp_Ct yX9_row cX9_row 5 (some .int) 3 54 dsM [ppR 40 0 0, ppI a1] σ (some (ppI r')) σ' := pp_met pl_X9 rfl okM (Nat.le_of_ble_eq_true rfl) rfl (fun Γ hF hR => (e_X9_row_0 hF hR h))
set_option maxRecDepth 20000 in
theorem e_X9_set_109 {Γ : pp_G} {r' : Int32} {σ' : pp_M} (hF : pp_Fx Γ dsM cX9_set 4 RX9 2 34) (hR : pp_Rt Γ dsM (some .int) (some (ppI r')) σ') {σ : pp_M} {a1 : Int32} {a2 : Int32} {a3 : Int32} {b1 : Int32} (h : f_X9_set_109 σ a1 a2 a3 b1 = some (r', σ')) : pp_E Γ dsM cX9_set 4 109 [(0, ppR 40 0 0), (1, ppI a1), (2, ppI a2), (3, ppI a3)] [ppI b1, ppR 40 0 0] σ := by
  unfold f_X9_set_109 at h
  refine pp_putI hF fwM_X9_32 dX9_set_109 ?_
  refine pp_aload_n hF dX9_set_112 rfl rfl ?_
  refine pp_iload_n hF dX9_set_113 rfl rfl ?_
  refine pp_iconst hF dX9_set_114 ic_2 ?_
  refine pp_icmp_ne (tgt := 122) hF dX9_set_115 rfl (fun c1 => ?_) (fun c1 => ?_)
  · replace h := (if_pos c1).symm.trans h
    refine pp_iload_n hF dX9_set_118 rfl rfl ?_
    refine pp_goto (tgt := 126) hF dX9_set_119 rfl ?_
    refine pp_putI hF fwM_X9_35 dX9_set_126 ?_
    refine pp_iload_n hF dX9_set_129 rfl rfl ?_
    obtain ⟨rfl, rfl⟩ := pp_i2 h
    exact pp_ireturn hF hR dX9_set_130
  · replace h := (if_neg c1).symm.trans h
    refine pp_aload_n hF dX9_set_122 rfl rfl ?_
    refine pp_getI hF fdM_X9_35 dX9_set_123 ?_
    refine pp_putI hF fwM_X9_35 dX9_set_126 ?_
    refine pp_iload_n hF dX9_set_129 rfl rfl ?_
    obtain ⟨rfl, rfl⟩ := pp_i2 h
    exact pp_ireturn hF hR dX9_set_130
set_option maxRecDepth 20000 in
theorem e_X9_set_92 {Γ : pp_G} {r' : Int32} {σ' : pp_M} (hF : pp_Fx Γ dsM cX9_set 4 RX9 2 34) (hR : pp_Rt Γ dsM (some .int) (some (ppI r')) σ') {σ : pp_M} {a1 : Int32} {a2 : Int32} {a3 : Int32} {b1 : Int32} (h : f_X9_set_92 σ a1 a2 a3 b1 = some (r', σ')) : pp_E Γ dsM cX9_set 4 92 [(0, ppR 40 0 0), (1, ppI a1), (2, ppI a2), (3, ppI a3)] [ppI b1, ppR 40 0 0] σ := by
  unfold f_X9_set_92 at h
  refine pp_putI hF fwM_X9_28 dX9_set_92 ?_
  refine pp_aload_n hF dX9_set_95 rfl rfl ?_
  refine pp_iload_n hF dX9_set_96 rfl rfl ?_
  refine pp_iconst hF dX9_set_97 ic_1 ?_
  refine pp_icmp_ne (tgt := 105) hF dX9_set_98 rfl (fun c1 => ?_) (fun c1 => ?_)
  · replace h := (if_pos c1).symm.trans h
    refine pp_iload_n hF dX9_set_101 rfl rfl ?_
    refine pp_goto (tgt := 109) hF dX9_set_102 rfl ?_
    exact e_X9_set_109 hF hR h
  · replace h := (if_neg c1).symm.trans h
    refine pp_aload_n hF dX9_set_105 rfl rfl ?_
    refine pp_getI hF fdM_X9_32 dX9_set_106 ?_
    exact e_X9_set_109 hF hR h
set_option maxRecDepth 20000 in
theorem e_X9_set_78 {Γ : pp_G} {r' : Int32} {σ' : pp_M} (hF : pp_Fx Γ dsM cX9_set 4 RX9 2 34) (hR : pp_Rt Γ dsM (some .int) (some (ppI r')) σ') {σ : pp_M} {a1 : Int32} {a2 : Int32} {b0 : Int32} (h : f_X9_set_78 σ a1 a2 b0 = some (r', σ')) : pp_E Γ dsM cX9_set 4 78 [(0, ppR 40 0 0), (1, ppI a1), (2, ppI a2)] [ppI b0] σ := by
  unfold f_X9_set_78 at h
  refine pp_istore_n hF dX9_set_78 rfl (by decide) (lv' := [(0, ppR 40 0 0), (1, ppI a1), (2, ppI a2), (3, ppI b0)]) rfl ?_
  refine pp_aload_n hF dX9_set_79 rfl rfl ?_
  refine pp_iload_n hF dX9_set_80 rfl rfl ?_
  refine pp_if_ne (tgt := 88) hF dX9_set_81 rfl (fun c1 => ?_) (fun c1 => ?_)
  · replace h := (if_pos c1).symm.trans h
    refine pp_iload_n hF dX9_set_84 rfl rfl ?_
    refine pp_goto (tgt := 92) hF dX9_set_85 rfl ?_
    exact e_X9_set_92 hF hR h
  · replace h := (if_neg c1).symm.trans h
    refine pp_aload_n hF dX9_set_88 rfl rfl ?_
    refine pp_getI hF fdM_X9_28 dX9_set_89 ?_
    exact e_X9_set_92 hF hR h
set_option maxRecDepth 20000 in
theorem e_X9_set_42 {Γ : pp_G} {r' : Int32} {σ' : pp_M} (hF : pp_Fx Γ dsM cX9_set 4 RX9 2 34) (hR : pp_Rt Γ dsM (some .int) (some (ppI r')) σ') {σ : pp_M} {a1 : Int32} {a2 : Int32} {b0 : Int32} {b1 : Int32} {b2 : Int32} (h : f_X9_set_42 σ a1 a2 b0 b1 b2 = some (r', σ')) : pp_E Γ dsM cX9_set 4 42 [(0, ppR 40 0 0), (1, ppI a1), (2, ppI a2)] [ppI b2, ppI b1, ppI b0] σ := by
  unfold f_X9_set_42 at h
  obtain ⟨x42, hx42, h⟩ := pp_bd h
  refine pp_callSi hF (c_X9_in hx42) mS_X9_in lk_X9_114 rfl rfl ⟨by decide, by decide⟩ (Nat.le_of_ble_eq_true rfl) dX9_set_42 ?_
  refine pp_if_ne (tgt := 51) hF dX9_set_45 rfl (fun c2 => ?_) (fun c2 => ?_)
  · replace h := (if_pos c2).symm.trans h
    refine pp_bipush hF dX9_set_48 bc_n2 ?_
    obtain ⟨rfl, rfl⟩ := pp_i2 h
    exact pp_ireturn hF hR dX9_set_50
  · replace h := (if_neg c2).symm.trans h
    refine pp_iload_n hF dX9_set_51 rfl rfl ?_
    refine pp_if_ne (tgt := 62) hF dX9_set_52 rfl (fun c3 => ?_) (fun c3 => ?_)
    · replace h := (if_pos c3).symm.trans h
      refine pp_aload_n hF dX9_set_55 rfl rfl ?_
      refine pp_getI hF fdM_X9_28 dX9_set_56 ?_
      refine pp_goto (tgt := 78) hF dX9_set_59 rfl ?_
      exact e_X9_set_78 hF hR h
    · replace h := (if_neg c3).symm.trans h
      refine pp_iload_n hF dX9_set_62 rfl rfl ?_
      refine pp_iconst hF dX9_set_63 ic_1 ?_
      refine pp_icmp_ne (tgt := 74) hF dX9_set_64 rfl (fun c4 => ?_) (fun c4 => ?_)
      · replace h := (if_pos c4).symm.trans h
        refine pp_aload_n hF dX9_set_67 rfl rfl ?_
        refine pp_getI hF fdM_X9_32 dX9_set_68 ?_
        refine pp_goto (tgt := 78) hF dX9_set_71 rfl ?_
        exact e_X9_set_78 hF hR h
      · replace h := (if_neg c4).symm.trans h
        refine pp_aload_n hF dX9_set_74 rfl rfl ?_
        refine pp_getI hF fdM_X9_35 dX9_set_75 ?_
        exact e_X9_set_78 hF hR h
set_option maxRecDepth 20000 in
theorem e_X9_set_20 {Γ : pp_G} {r' : Int32} {σ' : pp_M} (hF : pp_Fx Γ dsM cX9_set 4 RX9 2 34) (hR : pp_Rt Γ dsM (some .int) (some (ppI r')) σ') {σ : pp_M} {a1 : Int32} {a2 : Int32} {b0 : Int32} {b1 : Int32} (h : f_X9_set_20 σ a1 a2 b0 b1 = some (r', σ')) : pp_E Γ dsM cX9_set 4 20 [(0, ppR 40 0 0), (1, ppI a1), (2, ppI a2)] [ppI b1, ppI b0] σ := by
  unfold f_X9_set_20 at h
  refine pp_iload_n hF dX9_set_20 rfl rfl ?_
  refine pp_if_ne (tgt := 30) hF dX9_set_21 rfl (fun c1 => ?_) (fun c1 => ?_)
  · replace h := (if_pos c1).symm.trans h
    refine pp_sipush hF dX9_set_24 sc_200 ?_
    refine pp_goto (tgt := 42) hF dX9_set_27 rfl ?_
    exact e_X9_set_42 hF hR h
  · replace h := (if_neg c1).symm.trans h
    refine pp_iload_n hF dX9_set_30 rfl rfl ?_
    refine pp_iconst hF dX9_set_31 ic_1 ?_
    refine pp_icmp_ne (tgt := 40) hF dX9_set_32 rfl (fun c2 => ?_) (fun c2 => ?_)
    · replace h := (if_pos c2).symm.trans h
      refine pp_bipush hF dX9_set_35 bc_100 ?_
      refine pp_goto (tgt := 42) hF dX9_set_37 rfl ?_
      exact e_X9_set_42 hF hR h
    · replace h := (if_neg c2).symm.trans h
      refine pp_bipush hF dX9_set_40 bc_127 ?_
      exact e_X9_set_42 hF hR h
set_option maxRecDepth 20000 in
theorem e_X9_set_0 {Γ : pp_G} {r' : Int32} {σ' : pp_M} (hF : pp_Fx Γ dsM cX9_set 4 RX9 2 34) (hR : pp_Rt Γ dsM (some .int) (some (ppI r')) σ') {σ : pp_M} {a1 : Int32} {a2 : Int32} (h : f_X9_set σ a1 a2 = some (r', σ')) : pp_E Γ dsM cX9_set 4 0 [(0, ppR 40 0 0), (1, ppI a1), (2, ppI a2)] [] σ := by
  unfold f_X9_set at h
  refine pp_iload_n hF dX9_set_0 rfl rfl ?_
  refine pp_iconst hF dX9_set_1 ic_0 ?_
  refine pp_iconst hF dX9_set_2 ic_2 ?_
  obtain ⟨x3, hx3, h⟩ := pp_bd h
  refine pp_callSi hF (c_X9_in hx3) mS_X9_in lk_X9_114 rfl rfl ⟨by decide, by decide⟩ (Nat.le_of_ble_eq_true rfl) dX9_set_3 ?_
  refine pp_if_eq (tgt := 48) hF dX9_set_6 rfl (fun c2 => ?_) (fun c2 => ?_)
  · replace h := (if_pos c2).symm.trans h
    refine pp_bipush hF dX9_set_48 bc_n2 ?_
    obtain ⟨rfl, rfl⟩ := pp_i2 h
    exact pp_ireturn hF hR dX9_set_50
  · replace h := (if_neg c2).symm.trans h
    refine pp_iload_n hF dX9_set_9 rfl rfl ?_
    refine pp_iload_n hF dX9_set_10 rfl rfl ?_
    refine pp_iconst hF dX9_set_11 ic_2 ?_
    refine pp_icmp_ne (tgt := 19) hF dX9_set_12 rfl (fun c3 => ?_) (fun c3 => ?_)
    · replace h := (if_pos c3).symm.trans h
      refine pp_iconst hF dX9_set_15 ic_0 ?_
      refine pp_goto (tgt := 20) hF dX9_set_16 rfl ?_
      exact e_X9_set_20 hF hR h
    · replace h := (if_neg c3).symm.trans h
      refine pp_iconst hF dX9_set_19 ic_1 ?_
      exact e_X9_set_20 hF hR h
set_option maxRecDepth 20000 in
theorem c_X9_set {r' : Int32} {σ' : pp_M} {σ : pp_M} {a1 : Int32} {a2 : Int32} (h : f_X9_set σ a1 a2 = some (r', σ')) : pp_Ct yX9_set cX9_set 4 (some .int) 2 34 dsM [ppR 40 0 0, ppI a1, ppI a2] σ (some (ppI r')) σ' := pp_met pl_X9 rfl okM (Nat.le_of_ble_eq_true rfl) rfl (fun Γ hF hR => (e_X9_set_0 hF hR h))
set_option maxRecDepth 20000 in
theorem e_X9_sheet_59 {Γ : pp_G} {r' : Int32} {σ' : pp_M} (hF : pp_Fx Γ dsM cX9_sheet 5 RX9 3 54) (hR : pp_Rt Γ dsM (some .int) (some (ppI r')) σ') {σ : pp_M} {a1 : Int32} {a3 : Int32} {a4 : Int32} {k59 : pp_M → Int32 → Int32 → Int32 → Option (Int32 × pp_M)} (hk59 : ∀ {σ : pp_M} {a1 : Int32} {a3 : Int32} {a4 : Int32}, k59 σ a1 a3 a4 = some (r', σ') → pp_E Γ dsM cX9_sheet 5 59 [(0, ppR 40 0 0), (1, ppI a1), (3, ppI a3), (4, ppI a4)] [] σ) (h : f_X9_sheet_59_B k59 σ a1 a3 a4 = some (r', σ')) : pp_E Γ dsM cX9_sheet 5 59 [(0, ppR 40 0 0), (1, ppI a1), (3, ppI a3), (4, ppI a4)] [] σ := by
  unfold f_X9_sheet_59_B at h
  refine pp_iload hF dX9_sheet_59 rfl ?_
  refine pp_bipush hF dX9_sheet_61 bc_40 ?_
  refine pp_icmp_ge (tgt := 85) hF dX9_sheet_63 rfl (fun c1 => ?_) (fun c1 => ?_)
  · replace h := (if_pos c1).symm.trans h
    refine pp_aload_n hF dX9_sheet_66 rfl rfl ?_
    refine pp_getR hF fdM_X9_106 dX9_sheet_67 ?_
    refine pp_bipush hF dX9_sheet_70 bc_40 ?_
    refine pp_iload_n hF dX9_sheet_72 rfl rfl ?_
    refine pp_imul hF dX9_sheet_73 ?_
    refine pp_iload hF dX9_sheet_74 rfl ?_
    refine pp_iadd hF dX9_sheet_76 ?_
    refine pp_iconst hF dX9_sheet_77 ic_0 ?_
    obtain ⟨hi2, h⟩ := pp_ck h
    refine pp_iastoreJ hF vM_69 hi2 (Nat.zero_add _) dX9_sheet_78 ?_
    refine pp_iinc hF dX9_sheet_79 rfl (congrArg (HAdd.hAdd _) ic_1) (by decide) (lv' := [(0, ppR 40 0 0), (1, ppI a1), (3, ppI a3), (4, ppI (a4 + (1 : Int32)))]) rfl ?_
    refine pp_goto (tgt := 59) hF dX9_sheet_82 rfl ?_
    exact hk59 h
  · replace h := (if_neg c1).symm.trans h
    refine pp_iload_n hF dX9_sheet_85 rfl rfl ?_
    obtain ⟨rfl, rfl⟩ := pp_i2 h
    exact pp_ireturn hF hR dX9_sheet_86
set_option maxRecDepth 20000 in
theorem e_X9_sheet_59_L {Γ : pp_G} {r' : Int32} {σ' : pp_M} (hF : pp_Fx Γ dsM cX9_sheet 5 RX9 3 54) (hR : pp_Rt Γ dsM (some .int) (some (ppI r')) σ') : ∀ {n : Nat} {σ : pp_M} {a1 : Int32} {a3 : Int32} {a4 : Int32}, f_X9_sheet_59 n σ a1 a3 a4 = some (r', σ') → pp_E Γ dsM cX9_sheet 5 59 [(0, ppR 40 0 0), (1, ppI a1), (3, ppI a3), (4, ppI a4)] [] σ
  | 0, _, _, _, _ => fun h => by cases h
  | n + 1, _, _, _, _ => fun h => e_X9_sheet_59 hF hR (fun h => e_X9_sheet_59_L hF hR (n := n) h) h
set_option maxRecDepth 20000 in
theorem e_X9_sheet_0 {Γ : pp_G} {r' : Int32} {σ' : pp_M} (hF : pp_Fx Γ dsM cX9_sheet 5 RX9 3 54) (hR : pp_Rt Γ dsM (some .int) (some (ppI r')) σ') {σ : pp_M} {a1 : Int32} {a2 : Int32} {a3 : Int32} (h : f_X9_sheet σ a1 a2 a3 = some (r', σ')) : pp_E Γ dsM cX9_sheet 5 0 [(0, ppR 40 0 0), (1, ppI a1), (2, ppI a2), (3, ppI a3)] [] σ := by
  unfold f_X9_sheet at h
  refine pp_iload_n hF dX9_sheet_0 rfl rfl ?_
  obtain ⟨x1, hx1, h⟩ := pp_bd h
  refine pp_callSi hF (c_X9_isSheet hx1) mS_X9_isSheet lk_X9_165 rfl rfl ⟨by decide, by decide⟩ (Nat.le_of_ble_eq_true rfl) dX9_sheet_1 ?_
  refine pp_if_eq (tgt := 22) hF dX9_sheet_4 rfl (fun c2 => ?_) (fun c2 => ?_)
  · replace h := (if_pos c2).symm.trans h
    refine pp_bipush hF dX9_sheet_22 bc_n2 ?_
    obtain ⟨rfl, rfl⟩ := pp_i2 h
    exact pp_ireturn hF hR dX9_sheet_24
  · replace h := (if_neg c2).symm.trans h
    refine pp_iload_n hF dX9_sheet_7 rfl rfl ?_
    refine pp_iconst hF dX9_sheet_8 ic_0 ?_
    refine pp_iconst hF dX9_sheet_9 ic_2 ?_
    obtain ⟨x10, hx10, h⟩ := pp_bd h
    refine pp_callSi hF (c_X9_in hx10) mS_X9_in lk_X9_114 rfl rfl ⟨by decide, by decide⟩ (Nat.le_of_ble_eq_true rfl) dX9_sheet_10 ?_
    refine pp_if_eq (tgt := 22) hF dX9_sheet_13 rfl (fun c4 => ?_) (fun c4 => ?_)
    · replace h := (if_pos c4).symm.trans h
      refine pp_bipush hF dX9_sheet_22 bc_n2 ?_
      obtain ⟨rfl, rfl⟩ := pp_i2 h
      exact pp_ireturn hF hR dX9_sheet_24
    · replace h := (if_neg c4).symm.trans h
      refine pp_iload_n hF dX9_sheet_16 rfl rfl ?_
      refine pp_bipush hF dX9_sheet_17 bc_40 ?_
      refine pp_icmp_le (tgt := 25) hF dX9_sheet_19 rfl (fun c5 => ?_) (fun c5 => ?_)
      · replace h := (if_pos c5).symm.trans h
        refine pp_bipush hF dX9_sheet_22 bc_n2 ?_
        obtain ⟨rfl, rfl⟩ := pp_i2 h
        exact pp_ireturn hF hR dX9_sheet_24
      · replace h := (if_neg c5).symm.trans h
        refine pp_iload_n hF dX9_sheet_25 rfl rfl ?_
        refine pp_if_ge (tgt := 35) hF dX9_sheet_26 rfl (fun c6 => ?_) (fun c6 => ?_)
        · replace h := (if_pos c6).symm.trans h
          refine pp_aload_n hF dX9_sheet_29 rfl rfl ?_
          refine pp_iconst hF dX9_sheet_30 ic_5 ?_
          obtain ⟨x31, hx31, h⟩ := pp_bd h
          refine pp_callVi hF (c_X9_meets hx31) mV_X9_meets lk_X9_171 obM_40 rfl rfl ⟨by decide, by decide⟩ (Nat.le_of_ble_eq_true rfl) dX9_sheet_31 ?_
          obtain ⟨rfl, rfl⟩ := pp_i2 h
          exact pp_ireturn hF hR dX9_sheet_34
        · replace h := (if_neg c6).symm.trans h
          refine pp_aload_n hF dX9_sheet_35 rfl rfl ?_
          refine pp_getR hF fdM_X9_96 dX9_sheet_36 ?_
          refine pp_iload_n hF dX9_sheet_39 rfl rfl ?_
          refine pp_iconst hF dX9_sheet_40 ic_1 ?_
          obtain ⟨hi8, h⟩ := pp_ck h
          refine pp_bastoreJ hF vM_66 hi8 rfl (Nat.zero_add _) dX9_sheet_41 ?_
          refine pp_aload_n hF dX9_sheet_42 rfl rfl ?_
          refine pp_getR hF fdM_X9_100 dX9_sheet_43 ?_
          refine pp_iload_n hF dX9_sheet_46 rfl rfl ?_
          refine pp_iload_n hF dX9_sheet_47 rfl rfl ?_
          refine pp_iastoreJ hF vM_67 hi8 (Nat.zero_add _) dX9_sheet_48 ?_
          refine pp_aload_n hF dX9_sheet_49 rfl rfl ?_
          refine pp_getR hF fdM_X9_103 dX9_sheet_50 ?_
          refine pp_iload_n hF dX9_sheet_53 rfl rfl ?_
          refine pp_iload_n hF dX9_sheet_54 rfl rfl ?_
          refine pp_iastoreJ hF vM_68 hi8 (Nat.zero_add _) dX9_sheet_55 ?_
          refine pp_iconst hF dX9_sheet_56 ic_0 ?_
          refine pp_istore hF dX9_sheet_57 (by decide) (lv' := [(0, ppR 40 0 0), (1, ppI a1), (2, ppI a2), (3, ppI a3), (4, ppI (0 : Int32))]) rfl ?_
          refine pp_few [0, 1, 3, 4] (lv' := [(0, ppR 40 0 0), (1, ppI a1), (3, ppI a3), (4, ppI (0 : Int32))]) rfl ?_
          exact e_X9_sheet_59_L hF hR h
set_option maxRecDepth 20000 in
theorem c_X9_sheet {r' : Int32} {σ' : pp_M} {σ : pp_M} {a1 : Int32} {a2 : Int32} {a3 : Int32} (h : f_X9_sheet σ a1 a2 a3 = some (r', σ')) : pp_Ct yX9_sheet cX9_sheet 5 (some .int) 3 54 dsM [ppR 40 0 0, ppI a1, ppI a2, ppI a3] σ (some (ppI r')) σ' := pp_met pl_X9 rfl okM (Nat.le_of_ble_eq_true rfl) rfl (fun Γ hF hR => (e_X9_sheet_0 hF hR h))
set_option maxRecDepth 20000 in
theorem e_X9_shop_0 {Γ : pp_G} {r' : Int32} {σ' : pp_M} (hF : pp_Fx Γ dsM cX9_shop 4 RX9 3 54) (hR : pp_Rt Γ dsM (some .int) (some (ppI r')) σ') {σ : pp_M} {a1 : Int32} {a2 : Int32} (h : f_X9_shop σ a1 a2 = some (r', σ')) : pp_E Γ dsM cX9_shop 4 0 [(0, ppR 40 0 0), (1, ppI a1), (2, ppI a2)] [] σ := by
  unfold f_X9_shop at h
  refine pp_iload_n hF dX9_shop_0 rfl rfl ?_
  obtain ⟨x1, hx1, h⟩ := pp_bd h
  refine pp_callSi hF (c_X9_isThing hx1) mS_X9_isThing lk_X9_118 rfl rfl ⟨by decide, by decide⟩ (Nat.le_of_ble_eq_true rfl) dX9_shop_1 ?_
  refine pp_if_eq (tgt := 17) hF dX9_shop_4 rfl (fun c2 => ?_) (fun c2 => ?_)
  · replace h := (if_pos c2).symm.trans h
    refine pp_bipush hF dX9_shop_17 bc_n2 ?_
    obtain ⟨rfl, rfl⟩ := pp_i2 h
    exact pp_ireturn hF hR dX9_shop_19
  · replace h := (if_neg c2).symm.trans h
    refine pp_iload_n hF dX9_shop_7 rfl rfl ?_
    refine pp_iconst hF dX9_shop_8 ic_0 ?_
    refine pp_bipush hF dX9_shop_9 bc_16 ?_
    obtain ⟨x11, hx11, h⟩ := pp_bd h
    refine pp_callSi hF (c_X9_in hx11) mS_X9_in lk_X9_114 rfl rfl ⟨by decide, by decide⟩ (Nat.le_of_ble_eq_true rfl) dX9_shop_11 ?_
    refine pp_if_ne (tgt := 20) hF dX9_shop_14 rfl (fun c4 => ?_) (fun c4 => ?_)
    · replace h := (if_pos c4).symm.trans h
      refine pp_bipush hF dX9_shop_17 bc_n2 ?_
      obtain ⟨rfl, rfl⟩ := pp_i2 h
      exact pp_ireturn hF hR dX9_shop_19
    · replace h := (if_neg c4).symm.trans h
      refine pp_aload_n hF dX9_shop_20 rfl rfl ?_
      refine pp_getR hF fdM_X9_41 dX9_shop_21 ?_
      refine pp_iload_n hF dX9_shop_24 rfl rfl ?_
      obtain ⟨hi5, h⟩ := pp_ck h
      refine pp_ialoadJ hF vM_48 hi5 (Nat.zero_add _) dX9_shop_25 ?_
      refine pp_istore_n hF dX9_shop_26 rfl (by decide) (lv' := [(0, ppR 40 0 0), (1, ppI a1), (2, ppI a2), (3, ppI (x11.2.1 48 a1.toNatClampNeg))]) rfl ?_
      refine pp_aload_n hF dX9_shop_27 rfl rfl ?_
      refine pp_getR hF fdM_X9_41 dX9_shop_28 ?_
      refine pp_iload_n hF dX9_shop_31 rfl rfl ?_
      refine pp_iload_n hF dX9_shop_32 rfl rfl ?_
      refine pp_iastoreJ hF vM_48 hi5 (Nat.zero_add _) dX9_shop_33 ?_
      refine pp_iload_n hF dX9_shop_34 rfl rfl ?_
      obtain ⟨rfl, rfl⟩ := pp_i2 h
      exact pp_ireturn hF hR dX9_shop_35
set_option maxRecDepth 20000 in
theorem c_X9_shop {r' : Int32} {σ' : pp_M} {σ : pp_M} {a1 : Int32} {a2 : Int32} (h : f_X9_shop σ a1 a2 = some (r', σ')) : pp_Ct yX9_shop cX9_shop 4 (some .int) 3 54 dsM [ppR 40 0 0, ppI a1, ppI a2] σ (some (ppI r')) σ' := pp_met pl_X9 rfl okM (Nat.le_of_ble_eq_true rfl) rfl (fun Γ hF hR => (e_X9_shop_0 hF hR h))
set_option maxRecDepth 20000 in
theorem e_X9_sold_252 {Γ : pp_G} {r' : Int64} {σ' : pp_M} (hF : pp_Fx Γ dsM cX9_sold 12 RX9 3 57) (hR : pp_Rt Γ dsM (some .long) (some (ppL r')) σ') {σ : pp_M} {a5 : Int32} {b0 : Int64} (h : f_X9_sold_252 σ a5 b0 = some (r', σ')) : pp_E Γ dsM cX9_sold 12 252 [(0, ppR 40 0 0), (5, ppI a5)] [ppL b0] σ := by
  unfold f_X9_sold_252 at h
  refine pp_aload_n hF dX9_sold_252 rfl rfl ?_
  refine pp_getI hF fdM_X9_178 dX9_sold_253 ?_
  obtain ⟨x256, hx256, h⟩ := pp_bd h
  refine pp_callSl hF (c_X9_sixteen hx256) mS_X9_sixteen lk_X9_193 rfl rfl ⟨by decide, by decide⟩ (Nat.le_of_ble_eq_true rfl) dX9_sold_256 ?_
  refine pp_iload hF dX9_sold_259 rfl ?_
  obtain ⟨x261, hx261, h⟩ := pp_bd h
  refine pp_callSl hF (c_X9_lowest hx261) mS_X9_lowest lk_X9_214 rfl rfl ⟨by decide, by decide⟩ (Nat.le_of_ble_eq_true rfl) dX9_sold_261 ?_
  obtain ⟨rfl, rfl⟩ := pp_i2 h
  exact pp_lreturn hF hR dX9_sold_264
set_option maxRecDepth 20000 in
theorem e_X9_sold_206 {Γ : pp_G} {r' : Int64} {σ' : pp_M} (hF : pp_Fx Γ dsM cX9_sold 12 RX9 3 57) (hR : pp_Rt Γ dsM (some .long) (some (ppL r')) σ') {σ : pp_M} {a4 : Int32} {a5 : Int32} {a6 : Int64} {a8 : Int32} {k206 : pp_M → Int32 → Int32 → Int64 → Int32 → Option (Int64 × pp_M)} (hk206 : ∀ {σ : pp_M} {a4 : Int32} {a5 : Int32} {a6 : Int64} {a8 : Int32}, k206 σ a4 a5 a6 a8 = some (r', σ') → pp_E Γ dsM cX9_sold 12 206 [(0, ppR 40 0 0), (4, ppI a4), (5, ppI a5), (6, ppL a6), (8, ppI a8)] [] σ) (h : f_X9_sold_206_B k206 σ a4 a5 a6 a8 = some (r', σ')) : pp_E Γ dsM cX9_sold 12 206 [(0, ppR 40 0 0), (4, ppI a4), (5, ppI a5), (6, ppL a6), (8, ppI a8)] [] σ := by
  unfold f_X9_sold_206_B at h
  refine pp_iload hF dX9_sold_206 rfl ?_
  refine pp_iconst hF dX9_sold_208 ic_5 ?_
  refine pp_icmp_ge (tgt := 234) hF dX9_sold_209 rfl (fun c1 => ?_) (fun c1 => ?_)
  · replace h := (if_pos c1).symm.trans h
    refine pp_lload hF dX9_sold_212 rfl ?_
    refine pp_iload hF dX9_sold_214 rfl ?_
    refine pp_i2l hF dX9_sold_216 ?_
    refine pp_aload_n hF dX9_sold_217 rfl rfl ?_
    refine pp_getR hF fdM_X9_72 dX9_sold_218 ?_
    refine pp_iload hF dX9_sold_221 rfl ?_
    obtain ⟨hi2, h⟩ := pp_ck h
    refine pp_laloadJ hF vM_58 hi2 (Nat.zero_add _) dX9_sold_223 ?_
    refine pp_lmul hF dX9_sold_224 ?_
    refine pp_ladd hF dX9_sold_225 ?_
    refine pp_lstore hF dX9_sold_226 (by decide) (lv' := [(0, ppR 40 0 0), (4, ppI a4), (5, ppI a5), (6, ppL (a6 + ((a8.toInt64) * (σ.2 58 a8.toNatClampNeg)))), (8, ppI a8)]) rfl ?_
    refine pp_iinc hF dX9_sold_228 rfl (congrArg (HAdd.hAdd _) ic_1) (by decide) (lv' := [(0, ppR 40 0 0), (4, ppI a4), (5, ppI a5), (6, ppL (a6 + ((a8.toInt64) * (σ.2 58 a8.toNatClampNeg)))), (8, ppI (a8 + (1 : Int32)))]) rfl ?_
    refine pp_goto (tgt := 206) hF dX9_sold_231 rfl ?_
    exact hk206 h
  · replace h := (if_neg c1).symm.trans h
    refine pp_iload hF dX9_sold_234 rfl ?_
    refine pp_iconst hF dX9_sold_236 ic_n1 ?_
    refine pp_icmp_ne (tgt := 245) hF dX9_sold_237 rfl (fun c3 => ?_) (fun c3 => ?_)
    · replace h := (if_pos c3).symm.trans h
      refine pp_lload hF dX9_sold_240 rfl ?_
      refine pp_goto (tgt := 252) hF dX9_sold_242 rfl ?_
      refine pp_few [0, 2] (lv' := [(0, ppR 40 0 0), (5, ppI a5)]) rfl ?_
      exact e_X9_sold_252 hF hR h
    · replace h := (if_neg c3).symm.trans h
      refine pp_aload_n hF dX9_sold_245 rfl rfl ?_
      refine pp_getR hF fdM_X9_72 dX9_sold_246 ?_
      refine pp_iload hF dX9_sold_249 rfl ?_
      obtain ⟨hi4, h⟩ := pp_ck h
      refine pp_laloadJ hF vM_58 hi4 (Nat.zero_add _) dX9_sold_251 ?_
      refine pp_few [0, 2] (lv' := [(0, ppR 40 0 0), (5, ppI a5)]) rfl ?_
      exact e_X9_sold_252 hF hR h
set_option maxRecDepth 20000 in
theorem e_X9_sold_206_L {Γ : pp_G} {r' : Int64} {σ' : pp_M} (hF : pp_Fx Γ dsM cX9_sold 12 RX9 3 57) (hR : pp_Rt Γ dsM (some .long) (some (ppL r')) σ') : ∀ {n : Nat} {σ : pp_M} {a4 : Int32} {a5 : Int32} {a6 : Int64} {a8 : Int32}, f_X9_sold_206 n σ a4 a5 a6 a8 = some (r', σ') → pp_E Γ dsM cX9_sold 12 206 [(0, ppR 40 0 0), (4, ppI a4), (5, ppI a5), (6, ppL a6), (8, ppI a8)] [] σ
  | 0, _, _, _, _, _ => fun h => by cases h
  | n + 1, _, _, _, _, _ => fun h => e_X9_sold_206 hF hR (fun h => e_X9_sold_206_L hF hR (n := n) h) h
set_option maxRecDepth 20000 in
theorem e_X9_sold_187 {Γ : pp_G} {r' : Int64} {σ' : pp_M} (hF : pp_Fx Γ dsM cX9_sold 12 RX9 3 57) (hR : pp_Rt Γ dsM (some .long) (some (ppL r')) σ') {σ : pp_M} {a1 : Int32} {a2 : Int32} {a3 : Int32} {a4 : Int32} {a5 : Int32} {a6 : Int32} {a7 : Int64} {a9 : Int32} {b1 : Int32} {b2 : Int64} {k86 : pp_M → Int32 → Int32 → Int32 → Int32 → Int32 → Int32 → Option (Int64 × pp_M)} (hk86 : ∀ {σ : pp_M} {a1 : Int32} {a2 : Int32} {a3 : Int32} {a4 : Int32} {a5 : Int32} {a6 : Int32}, k86 σ a1 a2 a3 a4 a5 a6 = some (r', σ') → pp_E Γ dsM cX9_sold 12 86 [(0, ppR 40 0 0), (1, ppI a1), (2, ppI a2), (3, ppI a3), (4, ppI a4), (5, ppI a5), (6, ppI a6)] [] σ) {k114 : pp_M → Int32 → Int32 → Int32 → Int32 → Int32 → Int32 → Int64 → Int32 → Option (Int64 × pp_M)} (hk114 : ∀ {σ : pp_M} {a1 : Int32} {a2 : Int32} {a3 : Int32} {a4 : Int32} {a5 : Int32} {a6 : Int32} {a7 : Int64} {a9 : Int32}, k114 σ a1 a2 a3 a4 a5 a6 a7 a9 = some (r', σ') → pp_E Γ dsM cX9_sold 12 114 [(0, ppR 40 0 0), (1, ppI a1), (2, ppI a2), (3, ppI a3), (4, ppI a4), (5, ppI a5), (6, ppI a6), (7, ppL a7), (9, ppI a9)] [] σ) (h : f_X9_sold_187 k86 k114 σ a1 a2 a3 a4 a5 a6 a7 a9 b1 b2 = some (r', σ')) : pp_E Γ dsM cX9_sold 12 187 [(0, ppR 40 0 0), (1, ppI a1), (2, ppI a2), (3, ppI a3), (4, ppI a4), (5, ppI a5), (6, ppI a6), (7, ppL a7), (9, ppI a9)] [ppL b2, ppI b1, ppR 58 0 5] σ := by
  unfold f_X9_sold_187 at h
  obtain ⟨hi1, h⟩ := pp_ck h
  refine pp_lastoreJ hF vM_58 hi1 (Nat.zero_add _) dX9_sold_187 ?_
  refine pp_iinc hF dX9_sold_188 rfl (congrArg (HAdd.hAdd _) ic_n1) (by decide) (lv' := [(0, ppR 40 0 0), (1, ppI a1), (2, ppI a2), (3, ppI a3), (4, ppI a4), (5, ppI a5), (6, ppI a6), (7, ppL a7), (9, ppI (a9 + (-1 : Int32)))]) rfl ?_
  refine pp_goto (tgt := 114) hF dX9_sold_191 rfl ?_
  exact hk114 h
set_option maxRecDepth 20000 in
theorem e_X9_sold_186 {Γ : pp_G} {r' : Int64} {σ' : pp_M} (hF : pp_Fx Γ dsM cX9_sold 12 RX9 3 57) (hR : pp_Rt Γ dsM (some .long) (some (ppL r')) σ') {σ : pp_M} {a1 : Int32} {a2 : Int32} {a3 : Int32} {a4 : Int32} {a5 : Int32} {a6 : Int32} {a7 : Int64} {a9 : Int32} {b1 : Int32} {b2 : Int64} {b3 : Int64} {k86 : pp_M → Int32 → Int32 → Int32 → Int32 → Int32 → Int32 → Option (Int64 × pp_M)} (hk86 : ∀ {σ : pp_M} {a1 : Int32} {a2 : Int32} {a3 : Int32} {a4 : Int32} {a5 : Int32} {a6 : Int32}, k86 σ a1 a2 a3 a4 a5 a6 = some (r', σ') → pp_E Γ dsM cX9_sold 12 86 [(0, ppR 40 0 0), (1, ppI a1), (2, ppI a2), (3, ppI a3), (4, ppI a4), (5, ppI a5), (6, ppI a6)] [] σ) {k114 : pp_M → Int32 → Int32 → Int32 → Int32 → Int32 → Int32 → Int64 → Int32 → Option (Int64 × pp_M)} (hk114 : ∀ {σ : pp_M} {a1 : Int32} {a2 : Int32} {a3 : Int32} {a4 : Int32} {a5 : Int32} {a6 : Int32} {a7 : Int64} {a9 : Int32}, k114 σ a1 a2 a3 a4 a5 a6 a7 a9 = some (r', σ') → pp_E Γ dsM cX9_sold 12 114 [(0, ppR 40 0 0), (1, ppI a1), (2, ppI a2), (3, ppI a3), (4, ppI a4), (5, ppI a5), (6, ppI a6), (7, ppL a7), (9, ppI a9)] [] σ) (h : f_X9_sold_186 k86 k114 σ a1 a2 a3 a4 a5 a6 a7 a9 b1 b2 b3 = some (r', σ')) : pp_E Γ dsM cX9_sold 12 186 [(0, ppR 40 0 0), (1, ppI a1), (2, ppI a2), (3, ppI a3), (4, ppI a4), (5, ppI a5), (6, ppI a6), (7, ppL a7), (9, ppI a9)] [ppL b3, ppL b2, ppI b1, ppR 58 0 5] σ := by
  unfold f_X9_sold_186 at h
  refine pp_ladd hF dX9_sold_186 ?_
  exact e_X9_sold_187 hF hR hk86 hk114 h
set_option maxRecDepth 20000 in
theorem e_X9_sold_137 {Γ : pp_G} {r' : Int64} {σ' : pp_M} (hF : pp_Fx Γ dsM cX9_sold 12 RX9 3 57) (hR : pp_Rt Γ dsM (some .long) (some (ppL r')) σ') {σ : pp_M} {a1 : Int32} {a2 : Int32} {a3 : Int32} {a4 : Int32} {a5 : Int32} {a6 : Int32} {a7 : Int64} {a9 : Int32} {b0 : Int64} {k86 : pp_M → Int32 → Int32 → Int32 → Int32 → Int32 → Int32 → Option (Int64 × pp_M)} (hk86 : ∀ {σ : pp_M} {a1 : Int32} {a2 : Int32} {a3 : Int32} {a4 : Int32} {a5 : Int32} {a6 : Int32}, k86 σ a1 a2 a3 a4 a5 a6 = some (r', σ') → pp_E Γ dsM cX9_sold 12 86 [(0, ppR 40 0 0), (1, ppI a1), (2, ppI a2), (3, ppI a3), (4, ppI a4), (5, ppI a5), (6, ppI a6)] [] σ) {k114 : pp_M → Int32 → Int32 → Int32 → Int32 → Int32 → Int32 → Int64 → Int32 → Option (Int64 × pp_M)} (hk114 : ∀ {σ : pp_M} {a1 : Int32} {a2 : Int32} {a3 : Int32} {a4 : Int32} {a5 : Int32} {a6 : Int32} {a7 : Int64} {a9 : Int32}, k114 σ a1 a2 a3 a4 a5 a6 a7 a9 = some (r', σ') → pp_E Γ dsM cX9_sold 12 114 [(0, ppR 40 0 0), (1, ppI a1), (2, ppI a2), (3, ppI a3), (4, ppI a4), (5, ppI a5), (6, ppI a6), (7, ppL a7), (9, ppI a9)] [] σ) (h : f_X9_sold_137 k86 k114 σ a1 a2 a3 a4 a5 a6 a7 a9 b0 = some (r', σ')) : pp_E Γ dsM cX9_sold 12 137 [(0, ppR 40 0 0), (1, ppI a1), (2, ppI a2), (3, ppI a3), (4, ppI a4), (5, ppI a5), (6, ppI a6), (7, ppL a7), (9, ppI a9)] [ppL b0] σ := by
  unfold f_X9_sold_137 at h
  refine pp_lstore hF dX9_sold_137 (by decide) (lv' := [(0, ppR 40 0 0), (1, ppI a1), (2, ppI a2), (3, ppI a3), (4, ppI a4), (5, ppI a5), (6, ppI a6), (7, ppL a7), (9, ppI a9), (10, ppL b0)]) rfl ?_
  refine pp_aload_n hF dX9_sold_139 rfl rfl ?_
  refine pp_getR hF fdM_X9_72 dX9_sold_140 ?_
  refine pp_iload hF dX9_sold_143 rfl ?_
  refine pp_iload hF dX9_sold_145 rfl ?_
  refine pp_iload_n hF dX9_sold_147 rfl rfl ?_
  refine pp_icmp_le (tgt := 155) hF dX9_sold_148 rfl (fun c1 => ?_) (fun c1 => ?_)
  · replace h := (if_pos c1).symm.trans h
    refine pp_lconst hF dX9_sold_151 lc_0 ?_
    refine pp_goto (tgt := 187) hF dX9_sold_152 rfl ?_
    refine pp_few [0, 1, 2, 3, 4, 5, 6, 7, 8] (lv' := [(0, ppR 40 0 0), (1, ppI a1), (2, ppI a2), (3, ppI a3), (4, ppI a4), (5, ppI a5), (6, ppI a6), (7, ppL a7), (9, ppI a9)]) rfl ?_
    exact e_X9_sold_187 hF hR hk86 hk114 h
  · replace h := (if_neg c1).symm.trans h
    refine pp_aload_n hF dX9_sold_155 rfl rfl ?_
    refine pp_getR hF fdM_X9_72 dX9_sold_156 ?_
    refine pp_iload hF dX9_sold_159 rfl ?_
    obtain ⟨hi2, h⟩ := pp_ck h
    refine pp_laloadJ hF vM_58 hi2 (Nat.zero_add _) dX9_sold_161 ?_
    refine pp_lload hF dX9_sold_162 rfl ?_
    refine pp_lmul hF dX9_sold_164 ?_
    refine pp_iload hF dX9_sold_165 rfl ?_
    refine pp_if_le (tgt := 185) hF dX9_sold_167 rfl (fun c3 => ?_) (fun c3 => ?_)
    · replace h := (if_pos c3).symm.trans h
      refine pp_aload_n hF dX9_sold_170 rfl rfl ?_
      refine pp_getR hF fdM_X9_72 dX9_sold_171 ?_
      refine pp_iload hF dX9_sold_174 rfl ?_
      refine pp_iconst hF dX9_sold_176 ic_1 ?_
      refine pp_isub hF dX9_sold_177 ?_
      obtain ⟨hi4, h⟩ := pp_ck h
      refine pp_laloadJ hF vM_58 hi4 (Nat.zero_add _) dX9_sold_178 ?_
      refine pp_lload hF dX9_sold_179 rfl ?_
      refine pp_lmul hF dX9_sold_181 ?_
      refine pp_goto (tgt := 186) hF dX9_sold_182 rfl ?_
      refine pp_few [0, 1, 2, 3, 4, 5, 6, 7, 8] (lv' := [(0, ppR 40 0 0), (1, ppI a1), (2, ppI a2), (3, ppI a3), (4, ppI a4), (5, ppI a5), (6, ppI a6), (7, ppL a7), (9, ppI a9)]) rfl ?_
      exact e_X9_sold_186 hF hR hk86 hk114 h
    · replace h := (if_neg c3).symm.trans h
      refine pp_lconst hF dX9_sold_185 lc_0 ?_
      refine pp_few [0, 1, 2, 3, 4, 5, 6, 7, 8] (lv' := [(0, ppR 40 0 0), (1, ppI a1), (2, ppI a2), (3, ppI a3), (4, ppI a4), (5, ppI a5), (6, ppI a6), (7, ppL a7), (9, ppI a9)]) rfl ?_
      exact e_X9_sold_186 hF hR hk86 hk114 h
set_option maxRecDepth 20000 in
theorem e_X9_sold_114 {Γ : pp_G} {r' : Int64} {σ' : pp_M} (hF : pp_Fx Γ dsM cX9_sold 12 RX9 3 57) (hR : pp_Rt Γ dsM (some .long) (some (ppL r')) σ') {σ : pp_M} {a1 : Int32} {a2 : Int32} {a3 : Int32} {a4 : Int32} {a5 : Int32} {a6 : Int32} {a7 : Int64} {a9 : Int32} {k86 : pp_M → Int32 → Int32 → Int32 → Int32 → Int32 → Int32 → Option (Int64 × pp_M)} (hk86 : ∀ {σ : pp_M} {a1 : Int32} {a2 : Int32} {a3 : Int32} {a4 : Int32} {a5 : Int32} {a6 : Int32}, k86 σ a1 a2 a3 a4 a5 a6 = some (r', σ') → pp_E Γ dsM cX9_sold 12 86 [(0, ppR 40 0 0), (1, ppI a1), (2, ppI a2), (3, ppI a3), (4, ppI a4), (5, ppI a5), (6, ppI a6)] [] σ) {k114 : pp_M → Int32 → Int32 → Int32 → Int32 → Int32 → Int32 → Int64 → Int32 → Option (Int64 × pp_M)} (hk114 : ∀ {σ : pp_M} {a1 : Int32} {a2 : Int32} {a3 : Int32} {a4 : Int32} {a5 : Int32} {a6 : Int32} {a7 : Int64} {a9 : Int32}, k114 σ a1 a2 a3 a4 a5 a6 a7 a9 = some (r', σ') → pp_E Γ dsM cX9_sold 12 114 [(0, ppR 40 0 0), (1, ppI a1), (2, ppI a2), (3, ppI a3), (4, ppI a4), (5, ppI a5), (6, ppI a6), (7, ppL a7), (9, ppI a9)] [] σ) (h : f_X9_sold_114_B k86 k114 σ a1 a2 a3 a4 a5 a6 a7 a9 = some (r', σ')) : pp_E Γ dsM cX9_sold 12 114 [(0, ppR 40 0 0), (1, ppI a1), (2, ppI a2), (3, ppI a3), (4, ppI a4), (5, ppI a5), (6, ppI a6), (7, ppL a7), (9, ppI a9)] [] σ := by
  unfold f_X9_sold_114_B at h
  refine pp_iload hF dX9_sold_114 rfl ?_
  refine pp_if_lt (tgt := 194) hF dX9_sold_116 rfl (fun c1 => ?_) (fun c1 => ?_)
  · replace h := (if_pos c1).symm.trans h
    refine pp_iinc hF dX9_sold_194 rfl (congrArg (HAdd.hAdd _) ic_1) (by decide) (lv' := [(0, ppR 40 0 0), (1, ppI a1), (2, ppI a2), (3, ppI a3), (4, ppI a4), (5, ppI a5), (6, ppI (a6 + (1 : Int32))), (7, ppL a7), (9, ppI a9)]) rfl ?_
    refine pp_goto (tgt := 86) hF dX9_sold_197 rfl ?_
    refine pp_few [0, 1, 2, 3, 4, 5, 6] (lv' := [(0, ppR 40 0 0), (1, ppI a1), (2, ppI a2), (3, ppI a3), (4, ppI a4), (5, ppI a5), (6, ppI (a6 + (1 : Int32)))]) rfl ?_
    exact hk86 h
  · replace h := (if_neg c1).symm.trans h
    refine pp_iload hF dX9_sold_119 rfl ?_
    refine pp_iload_n hF dX9_sold_121 rfl rfl ?_
    refine pp_icmp_ne (tgt := 131) hF dX9_sold_122 rfl (fun c2 => ?_) (fun c2 => ?_)
    · replace h := (if_pos c2).symm.trans h
      refine pp_ldc2 hF wm_1111 dX9_sold_125 ?_
      refine pp_goto (tgt := 137) hF dX9_sold_128 rfl ?_
      exact e_X9_sold_137 hF hR hk86 hk114 h
    · replace h := (if_neg c2).symm.trans h
      refine pp_ldc2 hF wm_1111 dX9_sold_131 ?_
      refine pp_lload hF dX9_sold_134 rfl ?_
      refine pp_lsub hF dX9_sold_136 ?_
      exact e_X9_sold_137 hF hR hk86 hk114 h
set_option maxRecDepth 20000 in
theorem e_X9_sold_114_L {Γ : pp_G} {r' : Int64} {σ' : pp_M} (hF : pp_Fx Γ dsM cX9_sold 12 RX9 3 57) (hR : pp_Rt Γ dsM (some .long) (some (ppL r')) σ') {k86 : pp_M → Int32 → Int32 → Int32 → Int32 → Int32 → Int32 → Option (Int64 × pp_M)} (hk86 : ∀ {σ : pp_M} {a1 : Int32} {a2 : Int32} {a3 : Int32} {a4 : Int32} {a5 : Int32} {a6 : Int32}, k86 σ a1 a2 a3 a4 a5 a6 = some (r', σ') → pp_E Γ dsM cX9_sold 12 86 [(0, ppR 40 0 0), (1, ppI a1), (2, ppI a2), (3, ppI a3), (4, ppI a4), (5, ppI a5), (6, ppI a6)] [] σ) : ∀ {n : Nat} {σ : pp_M} {a1 : Int32} {a2 : Int32} {a3 : Int32} {a4 : Int32} {a5 : Int32} {a6 : Int32} {a7 : Int64} {a9 : Int32}, f_X9_sold_114 k86 n σ a1 a2 a3 a4 a5 a6 a7 a9 = some (r', σ') → pp_E Γ dsM cX9_sold 12 114 [(0, ppR 40 0 0), (1, ppI a1), (2, ppI a2), (3, ppI a3), (4, ppI a4), (5, ppI a5), (6, ppI a6), (7, ppL a7), (9, ppI a9)] [] σ
  | 0, _, _, _, _, _, _, _, _, _ => fun h => by cases h
  | n + 1, _, _, _, _, _, _, _, _, _ => fun h => e_X9_sold_114 hF hR hk86 (fun h => e_X9_sold_114_L hF hR hk86 (n := n) h) h
set_option maxRecDepth 20000 in
theorem e_X9_sold_86 {Γ : pp_G} {r' : Int64} {σ' : pp_M} (hF : pp_Fx Γ dsM cX9_sold 12 RX9 3 57) (hR : pp_Rt Γ dsM (some .long) (some (ppL r')) σ') {σ : pp_M} {a1 : Int32} {a2 : Int32} {a3 : Int32} {a4 : Int32} {a5 : Int32} {a6 : Int32} {k86 : pp_M → Int32 → Int32 → Int32 → Int32 → Int32 → Int32 → Option (Int64 × pp_M)} (hk86 : ∀ {σ : pp_M} {a1 : Int32} {a2 : Int32} {a3 : Int32} {a4 : Int32} {a5 : Int32} {a6 : Int32}, k86 σ a1 a2 a3 a4 a5 a6 = some (r', σ') → pp_E Γ dsM cX9_sold 12 86 [(0, ppR 40 0 0), (1, ppI a1), (2, ppI a2), (3, ppI a3), (4, ppI a4), (5, ppI a5), (6, ppI a6)] [] σ) (h : f_X9_sold_86_B k86 σ a1 a2 a3 a4 a5 a6 = some (r', σ')) : pp_E Γ dsM cX9_sold 12 86 [(0, ppR 40 0 0), (1, ppI a1), (2, ppI a2), (3, ppI a3), (4, ppI a4), (5, ppI a5), (6, ppI a6)] [] σ := by
  unfold f_X9_sold_86_B at h
  refine pp_iload hF dX9_sold_86 rfl ?_
  refine pp_aload_n hF dX9_sold_88 rfl rfl ?_
  refine pp_getI hF fdM_X9_178 dX9_sold_89 ?_
  refine pp_icmp_ge (tgt := 200) hF dX9_sold_92 rfl (fun c1 => ?_) (fun c1 => ?_)
  · replace h := (if_pos c1).symm.trans h
    refine pp_aload_n hF dX9_sold_95 rfl rfl ?_
    refine pp_aload_n hF dX9_sold_96 rfl rfl ?_
    refine pp_getR hF fdM_X9_56 dX9_sold_97 ?_
    refine pp_iload hF dX9_sold_100 rfl ?_
    obtain ⟨hi2, h⟩ := pp_ck h
    refine pp_ialoadJ hF vM_53 hi2 (Nat.zero_add _) dX9_sold_102 ?_
    refine pp_iload_n hF dX9_sold_103 rfl rfl ?_
    refine pp_iload_n hF dX9_sold_104 rfl rfl ?_
    obtain ⟨x105, hx105, h⟩ := pp_bd h
    refine pp_callVi hF (c_X9_chanceNow hx105) mV_X9_chanceNow lk_X9_175 obM_40 rfl rfl ⟨by decide, by decide⟩ (Nat.le_of_ble_eq_true rfl) dX9_sold_105 ?_
    refine pp_i2l hF dX9_sold_108 ?_
    refine pp_lstore hF dX9_sold_109 (by decide) (lv' := [(0, ppR 40 0 0), (1, ppI a1), (2, ppI a2), (3, ppI a3), (4, ppI a4), (5, ppI a5), (6, ppI a6), (7, ppL (x105.1.toInt64))]) rfl ?_
    refine pp_iconst hF dX9_sold_111 ic_4 ?_
    refine pp_istore hF dX9_sold_112 (by decide) (lv' := [(0, ppR 40 0 0), (1, ppI a1), (2, ppI a2), (3, ppI a3), (4, ppI a4), (5, ppI a5), (6, ppI a6), (7, ppL (x105.1.toInt64)), (9, ppI (4 : Int32))]) rfl ?_
    exact e_X9_sold_114_L hF hR hk86 h
  · replace h := (if_neg c1).symm.trans h
    refine pp_lconst hF dX9_sold_200 lc_0 ?_
    refine pp_lstore hF dX9_sold_201 (by decide) (lv' := [(0, ppR 40 0 0), (1, ppI a1), (2, ppI a2), (3, ppI a3), (4, ppI a4), (5, ppI a5), (6, ppL (0 : Int64))]) rfl ?_
    refine pp_iconst hF dX9_sold_203 ic_1 ?_
    refine pp_istore hF dX9_sold_204 (by decide) (lv' := [(0, ppR 40 0 0), (1, ppI a1), (2, ppI a2), (3, ppI a3), (4, ppI a4), (5, ppI a5), (6, ppL (0 : Int64)), (8, ppI (1 : Int32))]) rfl ?_
    refine pp_few [0, 4, 5, 6, 7] (lv' := [(0, ppR 40 0 0), (4, ppI a4), (5, ppI a5), (6, ppL (0 : Int64)), (8, ppI (1 : Int32))]) rfl ?_
    exact e_X9_sold_206_L hF hR h
set_option maxRecDepth 20000 in
theorem e_X9_sold_86_L {Γ : pp_G} {r' : Int64} {σ' : pp_M} (hF : pp_Fx Γ dsM cX9_sold 12 RX9 3 57) (hR : pp_Rt Γ dsM (some .long) (some (ppL r')) σ') : ∀ {n : Nat} {σ : pp_M} {a1 : Int32} {a2 : Int32} {a3 : Int32} {a4 : Int32} {a5 : Int32} {a6 : Int32}, f_X9_sold_86 n σ a1 a2 a3 a4 a5 a6 = some (r', σ') → pp_E Γ dsM cX9_sold 12 86 [(0, ppR 40 0 0), (1, ppI a1), (2, ppI a2), (3, ppI a3), (4, ppI a4), (5, ppI a5), (6, ppI a6)] [] σ
  | 0, _, _, _, _, _, _, _ => fun h => by cases h
  | n + 1, _, _, _, _, _, _, _ => fun h => e_X9_sold_86 hF hR (fun h => e_X9_sold_86_L hF hR (n := n) h) h
set_option maxRecDepth 20000 in
theorem e_X9_sold_76 {Γ : pp_G} {r' : Int64} {σ' : pp_M} (hF : pp_Fx Γ dsM cX9_sold 12 RX9 3 57) (hR : pp_Rt Γ dsM (some .long) (some (ppL r')) σ') {σ : pp_M} {a1 : Int32} {a2 : Int32} {a3 : Int32} {a4 : Int32} {a5 : Int32} {a6 : Int32} {b1 : Int32} {b2 : Int64} {k54 : pp_M → Int32 → Int32 → Int32 → Int32 → Int32 → Int32 → Option (Int64 × pp_M)} (hk54 : ∀ {σ : pp_M} {a1 : Int32} {a2 : Int32} {a3 : Int32} {a4 : Int32} {a5 : Int32} {a6 : Int32}, k54 σ a1 a2 a3 a4 a5 a6 = some (r', σ') → pp_E Γ dsM cX9_sold 12 54 [(0, ppR 40 0 0), (1, ppI a1), (2, ppI a2), (3, ppI a3), (4, ppI a4), (5, ppI a5), (6, ppI a6)] [] σ) (h : f_X9_sold_76 k54 σ a1 a2 a3 a4 a5 a6 b1 b2 = some (r', σ')) : pp_E Γ dsM cX9_sold 12 76 [(0, ppR 40 0 0), (1, ppI a1), (2, ppI a2), (3, ppI a3), (4, ppI a4), (5, ppI a5), (6, ppI a6)] [ppL b2, ppI b1, ppR 58 0 5] σ := by
  unfold f_X9_sold_76 at h
  obtain ⟨hi1, h⟩ := pp_ck h
  refine pp_lastoreJ hF vM_58 hi1 (Nat.zero_add _) dX9_sold_76 ?_
  refine pp_iinc hF dX9_sold_77 rfl (congrArg (HAdd.hAdd _) ic_1) (by decide) (lv' := [(0, ppR 40 0 0), (1, ppI a1), (2, ppI a2), (3, ppI a3), (4, ppI a4), (5, ppI a5), (6, ppI (a6 + (1 : Int32)))]) rfl ?_
  refine pp_goto (tgt := 54) hF dX9_sold_80 rfl ?_
  exact hk54 h
set_option maxRecDepth 20000 in
theorem e_X9_sold_54 {Γ : pp_G} {r' : Int64} {σ' : pp_M} (hF : pp_Fx Γ dsM cX9_sold 12 RX9 3 57) (hR : pp_Rt Γ dsM (some .long) (some (ppL r')) σ') {σ : pp_M} {a1 : Int32} {a2 : Int32} {a3 : Int32} {a4 : Int32} {a5 : Int32} {a6 : Int32} {k54 : pp_M → Int32 → Int32 → Int32 → Int32 → Int32 → Int32 → Option (Int64 × pp_M)} (hk54 : ∀ {σ : pp_M} {a1 : Int32} {a2 : Int32} {a3 : Int32} {a4 : Int32} {a5 : Int32} {a6 : Int32}, k54 σ a1 a2 a3 a4 a5 a6 = some (r', σ') → pp_E Γ dsM cX9_sold 12 54 [(0, ppR 40 0 0), (1, ppI a1), (2, ppI a2), (3, ppI a3), (4, ppI a4), (5, ppI a5), (6, ppI a6)] [] σ) (h : f_X9_sold_54_B k54 σ a1 a2 a3 a4 a5 a6 = some (r', σ')) : pp_E Γ dsM cX9_sold 12 54 [(0, ppR 40 0 0), (1, ppI a1), (2, ppI a2), (3, ppI a3), (4, ppI a4), (5, ppI a5), (6, ppI a6)] [] σ := by
  unfold f_X9_sold_54_B at h
  refine pp_iload hF dX9_sold_54 rfl ?_
  refine pp_iconst hF dX9_sold_56 ic_5 ?_
  refine pp_icmp_ge (tgt := 83) hF dX9_sold_57 rfl (fun c1 => ?_) (fun c1 => ?_)
  · replace h := (if_pos c1).symm.trans h
    refine pp_aload_n hF dX9_sold_60 rfl rfl ?_
    refine pp_getR hF fdM_X9_72 dX9_sold_61 ?_
    refine pp_iload hF dX9_sold_64 rfl ?_
    refine pp_iload hF dX9_sold_66 rfl ?_
    refine pp_if_ne (tgt := 75) hF dX9_sold_68 rfl (fun c2 => ?_) (fun c2 => ?_)
    · replace h := (if_pos c2).symm.trans h
      refine pp_lconst hF dX9_sold_71 lc_1 ?_
      refine pp_goto (tgt := 76) hF dX9_sold_72 rfl ?_
      exact e_X9_sold_76 hF hR hk54 h
    · replace h := (if_neg c2).symm.trans h
      refine pp_lconst hF dX9_sold_75 lc_0 ?_
      exact e_X9_sold_76 hF hR hk54 h
  · replace h := (if_neg c1).symm.trans h
    refine pp_iconst hF dX9_sold_83 ic_0 ?_
    refine pp_istore hF dX9_sold_84 (by decide) (lv' := [(0, ppR 40 0 0), (1, ppI a1), (2, ppI a2), (3, ppI a3), (4, ppI a4), (5, ppI a5), (6, ppI (0 : Int32))]) rfl ?_
    exact e_X9_sold_86_L hF hR h
set_option maxRecDepth 20000 in
theorem e_X9_sold_54_L {Γ : pp_G} {r' : Int64} {σ' : pp_M} (hF : pp_Fx Γ dsM cX9_sold 12 RX9 3 57) (hR : pp_Rt Γ dsM (some .long) (some (ppL r')) σ') : ∀ {n : Nat} {σ : pp_M} {a1 : Int32} {a2 : Int32} {a3 : Int32} {a4 : Int32} {a5 : Int32} {a6 : Int32}, f_X9_sold_54 n σ a1 a2 a3 a4 a5 a6 = some (r', σ') → pp_E Γ dsM cX9_sold 12 54 [(0, ppR 40 0 0), (1, ppI a1), (2, ppI a2), (3, ppI a3), (4, ppI a4), (5, ppI a5), (6, ppI a6)] [] σ
  | 0, _, _, _, _, _, _, _ => fun h => by cases h
  | n + 1, _, _, _, _, _, _, _ => fun h => e_X9_sold_54 hF hR (fun h => e_X9_sold_54_L hF hR (n := n) h) h
set_option maxRecDepth 20000 in
theorem e_X9_sold_45 {Γ : pp_G} {r' : Int64} {σ' : pp_M} (hF : pp_Fx Γ dsM cX9_sold 12 RX9 3 57) (hR : pp_Rt Γ dsM (some .long) (some (ppL r')) σ') {σ : pp_M}  (h : f_X9_sold_45 σ  = some (r', σ')) : pp_E Γ dsM cX9_sold 12 45 [] [] σ := by
  unfold f_X9_sold_45 at h
  refine pp_bipush hF dX9_sold_45 bc_n2 ?_
  obtain ⟨x47, hx47, h⟩ := pp_bd h
  refine pp_callSl hF (c_X9_no hx47) mS_X9_no lk_X9_211 rfl rfl ⟨by decide, by decide⟩ (Nat.le_of_ble_eq_true rfl) dX9_sold_47 ?_
  obtain ⟨rfl, rfl⟩ := pp_i2 h
  exact pp_lreturn hF hR dX9_sold_50
set_option maxRecDepth 20000 in
theorem e_X9_sold_0 {Γ : pp_G} {r' : Int64} {σ' : pp_M} (hF : pp_Fx Γ dsM cX9_sold 12 RX9 3 57) (hR : pp_Rt Γ dsM (some .long) (some (ppL r')) σ') {σ : pp_M} {a1 : Int32} {a2 : Int32} {a3 : Int32} {a4 : Int32} {a5 : Int32} (h : f_X9_sold σ a1 a2 a3 a4 a5 = some (r', σ')) : pp_E Γ dsM cX9_sold 12 0 [(0, ppR 40 0 0), (1, ppI a1), (2, ppI a2), (3, ppI a3), (4, ppI a4), (5, ppI a5)] [] σ := by
  unfold f_X9_sold at h
  refine pp_iload_n hF dX9_sold_0 rfl rfl ?_
  obtain ⟨x1, hx1, h⟩ := pp_bd h
  refine pp_callSi hF (c_X9_isThing hx1) mS_X9_isThing lk_X9_118 rfl rfl ⟨by decide, by decide⟩ (Nat.le_of_ble_eq_true rfl) dX9_sold_1 ?_
  refine pp_if_eq (tgt := 45) hF dX9_sold_4 rfl (fun c2 => ?_) (fun c2 => ?_)
  · replace h := (if_pos c2).symm.trans h
    refine pp_few [] (lv' := []) rfl ?_
    exact e_X9_sold_45 hF hR h
  · replace h := (if_neg c2).symm.trans h
    refine pp_iload_n hF dX9_sold_7 rfl rfl ?_
    refine pp_iconst hF dX9_sold_8 ic_0 ?_
    refine pp_iconst hF dX9_sold_9 ic_4 ?_
    obtain ⟨x10, hx10, h⟩ := pp_bd h
    refine pp_callSi hF (c_X9_in hx10) mS_X9_in lk_X9_114 rfl rfl ⟨by decide, by decide⟩ (Nat.le_of_ble_eq_true rfl) dX9_sold_10 ?_
    refine pp_if_eq (tgt := 45) hF dX9_sold_13 rfl (fun c4 => ?_) (fun c4 => ?_)
    · replace h := (if_pos c4).symm.trans h
      refine pp_few [] (lv' := []) rfl ?_
      exact e_X9_sold_45 hF hR h
    · replace h := (if_neg c4).symm.trans h
      refine pp_iload_n hF dX9_sold_16 rfl rfl ?_
      refine pp_iconst hF dX9_sold_17 ic_0 ?_
      refine pp_iconst hF dX9_sold_18 ic_2 ?_
      obtain ⟨x19, hx19, h⟩ := pp_bd h
      refine pp_callSi hF (c_X9_in hx19) mS_X9_in lk_X9_114 rfl rfl ⟨by decide, by decide⟩ (Nat.le_of_ble_eq_true rfl) dX9_sold_19 ?_
      refine pp_if_eq (tgt := 45) hF dX9_sold_22 rfl (fun c6 => ?_) (fun c6 => ?_)
      · replace h := (if_pos c6).symm.trans h
        refine pp_few [] (lv' := []) rfl ?_
        exact e_X9_sold_45 hF hR h
      · replace h := (if_neg c6).symm.trans h
        refine pp_iload hF dX9_sold_25 rfl ?_
        refine pp_iconst hF dX9_sold_27 ic_n1 ?_
        refine pp_iconst hF dX9_sold_28 ic_4 ?_
        obtain ⟨x29, hx29, h⟩ := pp_bd h
        refine pp_callSi hF (c_X9_in hx29) mS_X9_in lk_X9_114 rfl rfl ⟨by decide, by decide⟩ (Nat.le_of_ble_eq_true rfl) dX9_sold_29 ?_
        refine pp_if_eq (tgt := 45) hF dX9_sold_32 rfl (fun c8 => ?_) (fun c8 => ?_)
        · replace h := (if_pos c8).symm.trans h
          refine pp_few [] (lv' := []) rfl ?_
          exact e_X9_sold_45 hF hR h
        · replace h := (if_neg c8).symm.trans h
          refine pp_iload hF dX9_sold_35 rfl ?_
          refine pp_iconst hF dX9_sold_37 ic_0 ?_
          refine pp_iconst hF dX9_sold_38 ic_1 ?_
          obtain ⟨x39, hx39, h⟩ := pp_bd h
          refine pp_callSi hF (c_X9_in hx39) mS_X9_in lk_X9_114 rfl rfl ⟨by decide, by decide⟩ (Nat.le_of_ble_eq_true rfl) dX9_sold_39 ?_
          refine pp_if_ne (tgt := 51) hF dX9_sold_42 rfl (fun c10 => ?_) (fun c10 => ?_)
          · replace h := (if_pos c10).symm.trans h
            refine pp_few [] (lv' := []) rfl ?_
            exact e_X9_sold_45 hF hR h
          · replace h := (if_neg c10).symm.trans h
            refine pp_iconst hF dX9_sold_51 ic_0 ?_
            refine pp_istore hF dX9_sold_52 (by decide) (lv' := [(0, ppR 40 0 0), (1, ppI a1), (2, ppI a2), (3, ppI a3), (4, ppI a4), (5, ppI a5), (6, ppI (0 : Int32))]) rfl ?_
            exact e_X9_sold_54_L hF hR h
set_option maxRecDepth 20000 in
theorem c_X9_sold {r' : Int64} {σ' : pp_M} {σ : pp_M} {a1 : Int32} {a2 : Int32} {a3 : Int32} {a4 : Int32} {a5 : Int32} (h : f_X9_sold σ a1 a2 a3 a4 a5 = some (r', σ')) : pp_Ct yX9_sold cX9_sold 12 (some .long) 3 57 dsM [ppR 40 0 0, ppI a1, ppI a2, ppI a3, ppI a4, ppI a5] σ (some (ppL r')) σ' := pp_met pl_X9 rfl okM (Nat.le_of_ble_eq_true rfl) rfl (fun Γ hF hR => (e_X9_sold_0 hF hR h))
set_option maxRecDepth 20000 in
theorem e_X9_straps_0 {Γ : pp_G} {r' : Int32} {σ' : pp_M} (hF : pp_Fx Γ dsM cX9_straps 1 RX9 6 141) (hR : pp_Rt Γ dsM (some .int) (some (ppI r')) σ') {σ : pp_M}  (h : f_X9_straps σ  = some (r', σ')) : pp_E Γ dsM cX9_straps 1 0 [(0, ppR 40 0 0)] [] σ := by
  unfold f_X9_straps at h
  refine pp_aload_n hF dX9_straps_0 rfl rfl ?_
  obtain ⟨x1, hx1, h⟩ := pp_bd h
  refine pp_callVi hF (c_X9_strapsNow hx1) mV_X9_strapsNow lk_X9_296 obM_40 rfl rfl ⟨by decide, by decide⟩ (Nat.le_of_ble_eq_true rfl) dX9_straps_1 ?_
  obtain ⟨rfl, rfl⟩ := pp_i2 h
  exact pp_ireturn hF hR dX9_straps_4
set_option maxRecDepth 20000 in
theorem c_X9_straps {r' : Int32} {σ' : pp_M} {σ : pp_M}  (h : f_X9_straps σ  = some (r', σ')) : pp_Ct yX9_straps cX9_straps 1 (some .int) 6 141 dsM [ppR 40 0 0] σ (some (ppI r')) σ' := pp_met pl_X9 rfl okM (Nat.le_of_ble_eq_true rfl) rfl (fun Γ hF hR => (e_X9_straps_0 hF hR h))
set_option maxRecDepth 20000 in
theorem e_X9_thing_173 {Γ : pp_G} {r' : Int32} {σ' : pp_M} (hF : pp_Fx Γ dsM cX9_thing 7 RX9 3 54) (hR : pp_Rt Γ dsM (some .int) (some (ppI r')) σ') {σ : pp_M} {a1 : Int32} {a2 : Int32} {a3 : Int32} {a6 : Int32} {b1 : Int32} {b2 : Int32} (h : f_X9_thing_173 σ a1 a2 a3 a6 b1 b2 = some (r', σ')) : pp_E Γ dsM cX9_thing 7 173 [(0, ppR 40 0 0), (1, ppI a1), (2, ppI a2), (3, ppI a3), (6, ppI a6)] [ppI b2, ppI b1, ppR 43 0 6] σ := by
  unfold f_X9_thing_173 at h
  obtain ⟨hi1, h⟩ := pp_ck h
  refine pp_iastoreJ hF vM_43 hi1 (Nat.zero_add _) dX9_thing_173 ?_
  refine pp_iload_n hF dX9_thing_174 rfl rfl ?_
  refine pp_iconst hF dX9_thing_175 ic_2 ?_
  refine pp_icmp_le (tgt := 192) hF dX9_thing_176 rfl (fun c2 => ?_) (fun c2 => ?_)
  · replace h := (if_pos c2).symm.trans h
    refine pp_aload_n hF dX9_thing_179 rfl rfl ?_
    refine pp_getR hF fdM_X9_19 dX9_thing_180 ?_
    refine pp_iconst hF dX9_thing_183 ic_3 ?_
    refine pp_iload_n hF dX9_thing_184 rfl rfl ?_
    refine pp_imul hF dX9_thing_185 ?_
    refine pp_iload_n hF dX9_thing_186 rfl rfl ?_
    refine pp_iadd hF dX9_thing_187 ?_
    refine pp_iconst hF dX9_thing_188 ic_3 ?_
    refine pp_isub hF dX9_thing_189 ?_
    refine pp_iload_n hF dX9_thing_190 rfl rfl ?_
    obtain ⟨hi3, h⟩ := pp_ck h
    refine pp_iastoreJ hF vM_44 hi3 (Nat.zero_add _) dX9_thing_191 ?_
    refine pp_iload hF dX9_thing_192 rfl ?_
    obtain ⟨rfl, rfl⟩ := pp_i2 h
    exact pp_ireturn hF hR dX9_thing_194
  · replace h := (if_neg c2).symm.trans h
    refine pp_iload hF dX9_thing_192 rfl ?_
    obtain ⟨rfl, rfl⟩ := pp_i2 h
    exact pp_ireturn hF hR dX9_thing_194
set_option maxRecDepth 20000 in
theorem e_X9_thing_152 {Γ : pp_G} {r' : Int32} {σ' : pp_M} (hF : pp_Fx Γ dsM cX9_thing 7 RX9 3 54) (hR : pp_Rt Γ dsM (some .int) (some (ppI r')) σ') {σ : pp_M} {a1 : Int32} {a2 : Int32} {a3 : Int32} {a6 : Int32} {b1 : Int32} {b2 : Int32} (h : f_X9_thing_152 σ a1 a2 a3 a6 b1 b2 = some (r', σ')) : pp_E Γ dsM cX9_thing 7 152 [(0, ppR 40 0 0), (1, ppI a1), (2, ppI a2), (3, ppI a3), (6, ppI a6)] [ppI b2, ppI b1, ppR 42 0 6] σ := by
  unfold f_X9_thing_152 at h
  obtain ⟨hi1, h⟩ := pp_ck h
  refine pp_iastoreJ hF vM_42 hi1 (Nat.zero_add _) dX9_thing_152 ?_
  refine pp_aload_n hF dX9_thing_153 rfl rfl ?_
  refine pp_getR hF fdM_X9_16 dX9_thing_154 ?_
  refine pp_iload_n hF dX9_thing_157 rfl rfl ?_
  refine pp_iload_n hF dX9_thing_158 rfl rfl ?_
  refine pp_iconst hF dX9_thing_159 ic_2 ?_
  refine pp_icmp_ne (tgt := 167) hF dX9_thing_160 rfl (fun c2 => ?_) (fun c2 => ?_)
  · replace h := (if_pos c2).symm.trans h
    refine pp_iload_n hF dX9_thing_163 rfl rfl ?_
    refine pp_goto (tgt := 173) hF dX9_thing_164 rfl ?_
    exact e_X9_thing_173 hF hR h
  · replace h := (if_neg c2).symm.trans h
    refine pp_aload_n hF dX9_thing_167 rfl rfl ?_
    refine pp_getR hF fdM_X9_16 dX9_thing_168 ?_
    refine pp_iload_n hF dX9_thing_171 rfl rfl ?_
    obtain ⟨hi3, h⟩ := pp_ck h
    refine pp_ialoadJ hF vM_43 hi3 (Nat.zero_add _) dX9_thing_172 ?_
    exact e_X9_thing_173 hF hR h
set_option maxRecDepth 20000 in
theorem e_X9_thing_131 {Γ : pp_G} {r' : Int32} {σ' : pp_M} (hF : pp_Fx Γ dsM cX9_thing 7 RX9 3 54) (hR : pp_Rt Γ dsM (some .int) (some (ppI r')) σ') {σ : pp_M} {a1 : Int32} {a2 : Int32} {a3 : Int32} {a6 : Int32} {b1 : Int32} {b2 : Int32} (h : f_X9_thing_131 σ a1 a2 a3 a6 b1 b2 = some (r', σ')) : pp_E Γ dsM cX9_thing 7 131 [(0, ppR 40 0 0), (1, ppI a1), (2, ppI a2), (3, ppI a3), (6, ppI a6)] [ppI b2, ppI b1, ppR 41 0 6] σ := by
  unfold f_X9_thing_131 at h
  obtain ⟨hi1, h⟩ := pp_ck h
  refine pp_iastoreJ hF vM_41 hi1 (Nat.zero_add _) dX9_thing_131 ?_
  refine pp_aload_n hF dX9_thing_132 rfl rfl ?_
  refine pp_getR hF fdM_X9_13 dX9_thing_133 ?_
  refine pp_iload_n hF dX9_thing_136 rfl rfl ?_
  refine pp_iload_n hF dX9_thing_137 rfl rfl ?_
  refine pp_iconst hF dX9_thing_138 ic_1 ?_
  refine pp_icmp_ne (tgt := 146) hF dX9_thing_139 rfl (fun c2 => ?_) (fun c2 => ?_)
  · replace h := (if_pos c2).symm.trans h
    refine pp_iload_n hF dX9_thing_142 rfl rfl ?_
    refine pp_goto (tgt := 152) hF dX9_thing_143 rfl ?_
    exact e_X9_thing_152 hF hR h
  · replace h := (if_neg c2).symm.trans h
    refine pp_aload_n hF dX9_thing_146 rfl rfl ?_
    refine pp_getR hF fdM_X9_13 dX9_thing_147 ?_
    refine pp_iload_n hF dX9_thing_150 rfl rfl ?_
    obtain ⟨hi3, h⟩ := pp_ck h
    refine pp_ialoadJ hF vM_42 hi3 (Nat.zero_add _) dX9_thing_151 ?_
    exact e_X9_thing_152 hF hR h
set_option maxRecDepth 20000 in
theorem e_X9_thing_88 {Γ : pp_G} {r' : Int32} {σ' : pp_M} (hF : pp_Fx Γ dsM cX9_thing 7 RX9 3 54) (hR : pp_Rt Γ dsM (some .int) (some (ppI r')) σ') {σ : pp_M} {a1 : Int32} {a2 : Int32} {a3 : Int32} {a4 : Int32} {b0 : Int32} (h : f_X9_thing_88 σ a1 a2 a3 a4 b0 = some (r', σ')) : pp_E Γ dsM cX9_thing 7 88 [(0, ppR 40 0 0), (1, ppI a1), (2, ppI a2), (3, ppI a3), (4, ppI a4)] [ppI b0] σ := by
  unfold f_X9_thing_88 at h
  refine pp_istore hF dX9_thing_88 (by decide) (lv' := [(0, ppR 40 0 0), (1, ppI a1), (2, ppI a2), (3, ppI a3), (4, ppI a4), (5, ppI b0)]) rfl ?_
  refine pp_iload_n hF dX9_thing_90 rfl rfl ?_
  refine pp_iload hF dX9_thing_91 rfl ?_
  refine pp_iload hF dX9_thing_93 rfl ?_
  obtain ⟨x95, hx95, h⟩ := pp_bd h
  refine pp_callSi hF (c_X9_in hx95) mS_X9_in lk_X9_114 rfl rfl ⟨by decide, by decide⟩ (Nat.le_of_ble_eq_true rfl) dX9_thing_95 ?_
  refine pp_if_ne (tgt := 104) hF dX9_thing_98 rfl (fun c2 => ?_) (fun c2 => ?_)
  · replace h := (if_pos c2).symm.trans h
    refine pp_bipush hF dX9_thing_101 bc_n2 ?_
    obtain ⟨rfl, rfl⟩ := pp_i2 h
    exact pp_ireturn hF hR dX9_thing_103
  · replace h := (if_neg c2).symm.trans h
    refine pp_aload_n hF dX9_thing_104 rfl rfl ?_
    refine pp_iload_n hF dX9_thing_105 rfl rfl ?_
    refine pp_iload_n hF dX9_thing_106 rfl rfl ?_
    obtain ⟨x107, hx107, h⟩ := pp_bd h
    refine pp_callVi hF (c_X9_thingNow hx107) mV_X9_thingNow lk_X9_122 obM_40 rfl rfl ⟨by decide, by decide⟩ (Nat.le_of_ble_eq_true rfl) dX9_thing_107 ?_
    refine pp_istore hF dX9_thing_110 (by decide) (lv' := [(0, ppR 40 0 0), (1, ppI a1), (2, ppI a2), (3, ppI a3), (4, ppI a4), (5, ppI b0), (6, ppI x107.1)]) rfl ?_
    refine pp_aload_n hF dX9_thing_112 rfl rfl ?_
    refine pp_getR hF fdM_X9_7 dX9_thing_113 ?_
    refine pp_iload_n hF dX9_thing_116 rfl rfl ?_
    refine pp_iload_n hF dX9_thing_117 rfl rfl ?_
    refine pp_if_ne (tgt := 125) hF dX9_thing_118 rfl (fun c4 => ?_) (fun c4 => ?_)
    · replace h := (if_pos c4).symm.trans h
      refine pp_iload_n hF dX9_thing_121 rfl rfl ?_
      refine pp_goto (tgt := 131) hF dX9_thing_122 rfl ?_
      refine pp_few [0, 1, 2, 3, 6] (lv' := [(0, ppR 40 0 0), (1, ppI a1), (2, ppI a2), (3, ppI a3), (6, ppI x107.1)]) rfl ?_
      exact e_X9_thing_131 hF hR h
    · replace h := (if_neg c4).symm.trans h
      refine pp_aload_n hF dX9_thing_125 rfl rfl ?_
      refine pp_getR hF fdM_X9_7 dX9_thing_126 ?_
      refine pp_iload_n hF dX9_thing_129 rfl rfl ?_
      obtain ⟨hi5, h⟩ := pp_ck h
      refine pp_ialoadJ hF vM_41 hi5 (Nat.zero_add _) dX9_thing_130 ?_
      refine pp_few [0, 1, 2, 3, 6] (lv' := [(0, ppR 40 0 0), (1, ppI a1), (2, ppI a2), (3, ppI a3), (6, ppI x107.1)]) rfl ?_
      exact e_X9_thing_131 hF hR h
set_option maxRecDepth 20000 in
theorem e_X9_thing_86 {Γ : pp_G} {r' : Int32} {σ' : pp_M} (hF : pp_Fx Γ dsM cX9_thing 7 RX9 3 54) (hR : pp_Rt Γ dsM (some .int) (some (ppI r')) σ') {σ : pp_M} {a1 : Int32} {a2 : Int32} {a3 : Int32} {a4 : Int32} (h : f_X9_thing_86 σ a1 a2 a3 a4 = some (r', σ')) : pp_E Γ dsM cX9_thing 7 86 [(0, ppR 40 0 0), (1, ppI a1), (2, ppI a2), (3, ppI a3), (4, ppI a4)] [] σ := by
  unfold f_X9_thing_86 at h
  refine pp_bipush hF dX9_thing_86 bc_99 ?_
  exact e_X9_thing_88 hF hR h
set_option maxRecDepth 20000 in
theorem e_X9_thing_49 {Γ : pp_G} {r' : Int32} {σ' : pp_M} (hF : pp_Fx Γ dsM cX9_thing 7 RX9 3 54) (hR : pp_Rt Γ dsM (some .int) (some (ppI r')) σ') {σ : pp_M} {a1 : Int32} {a2 : Int32} {a3 : Int32} {b0 : Int32} (h : f_X9_thing_49 σ a1 a2 a3 b0 = some (r', σ')) : pp_E Γ dsM cX9_thing 7 49 [(0, ppR 40 0 0), (1, ppI a1), (2, ppI a2), (3, ppI a3)] [ppI b0] σ := by
  unfold f_X9_thing_49 at h
  refine pp_istore hF dX9_thing_49 (by decide) (lv' := [(0, ppR 40 0 0), (1, ppI a1), (2, ppI a2), (3, ppI a3), (4, ppI b0)]) rfl ?_
  refine pp_iload_n hF dX9_thing_51 rfl rfl ?_
  refine pp_iconst hF dX9_thing_52 ic_1 ?_
  refine pp_icmp_ne (tgt := 61) hF dX9_thing_53 rfl (fun c1 => ?_) (fun c1 => ?_)
  · replace h := (if_pos c1).symm.trans h
    refine pp_bipush hF dX9_thing_56 bc_20 ?_
    refine pp_goto (tgt := 88) hF dX9_thing_58 rfl ?_
    exact e_X9_thing_88 hF hR h
  · replace h := (if_neg c1).symm.trans h
    refine pp_iload_n hF dX9_thing_61 rfl rfl ?_
    refine pp_iconst hF dX9_thing_62 ic_2 ?_
    refine pp_icmp_le (tgt := 86) hF dX9_thing_63 rfl (fun c2 => ?_) (fun c2 => ?_)
    · replace h := (if_pos c2).symm.trans h
      refine pp_iload_n hF dX9_thing_66 rfl rfl ?_
      refine pp_iconst hF dX9_thing_67 ic_5 ?_
      refine pp_icmp_ge (tgt := 86) hF dX9_thing_68 rfl (fun c3 => ?_) (fun c3 => ?_)
      · replace h := (if_pos c3).symm.trans h
        refine pp_aload_n hF dX9_thing_71 rfl rfl ?_
        refine pp_getR hF fdM_X9_19 dX9_thing_72 ?_
        refine pp_iconst hF dX9_thing_75 ic_3 ?_
        refine pp_iload_n hF dX9_thing_76 rfl rfl ?_
        refine pp_imul hF dX9_thing_77 ?_
        refine pp_iload_n hF dX9_thing_78 rfl rfl ?_
        refine pp_iadd hF dX9_thing_79 ?_
        refine pp_iconst hF dX9_thing_80 ic_2 ?_
        refine pp_isub hF dX9_thing_81 ?_
        obtain ⟨hi4, h⟩ := pp_ck h
        refine pp_ialoadJ hF vM_44 hi4 (Nat.zero_add _) dX9_thing_82 ?_
        refine pp_goto (tgt := 88) hF dX9_thing_83 rfl ?_
        exact e_X9_thing_88 hF hR h
      · replace h := (if_neg c3).symm.trans h
        exact e_X9_thing_86 hF hR h
    · replace h := (if_neg c2).symm.trans h
      exact e_X9_thing_86 hF hR h
set_option maxRecDepth 20000 in
theorem e_X9_thing_0 {Γ : pp_G} {r' : Int32} {σ' : pp_M} (hF : pp_Fx Γ dsM cX9_thing 7 RX9 3 54) (hR : pp_Rt Γ dsM (some .int) (some (ppI r')) σ') {σ : pp_M} {a1 : Int32} {a2 : Int32} {a3 : Int32} (h : f_X9_thing σ a1 a2 a3 = some (r', σ')) : pp_E Γ dsM cX9_thing 7 0 [(0, ppR 40 0 0), (1, ppI a1), (2, ppI a2), (3, ppI a3)] [] σ := by
  unfold f_X9_thing at h
  refine pp_iload_n hF dX9_thing_0 rfl rfl ?_
  obtain ⟨x1, hx1, h⟩ := pp_bd h
  refine pp_callSi hF (c_X9_isThing hx1) mS_X9_isThing lk_X9_118 rfl rfl ⟨by decide, by decide⟩ (Nat.le_of_ble_eq_true rfl) dX9_thing_1 ?_
  refine pp_if_eq (tgt := 16) hF dX9_thing_4 rfl (fun c2 => ?_) (fun c2 => ?_)
  · replace h := (if_pos c2).symm.trans h
    refine pp_bipush hF dX9_thing_16 bc_n2 ?_
    obtain ⟨rfl, rfl⟩ := pp_i2 h
    exact pp_ireturn hF hR dX9_thing_18
  · replace h := (if_neg c2).symm.trans h
    refine pp_iload_n hF dX9_thing_7 rfl rfl ?_
    refine pp_iconst hF dX9_thing_8 ic_0 ?_
    refine pp_iconst hF dX9_thing_9 ic_5 ?_
    obtain ⟨x10, hx10, h⟩ := pp_bd h
    refine pp_callSi hF (c_X9_in hx10) mS_X9_in lk_X9_114 rfl rfl ⟨by decide, by decide⟩ (Nat.le_of_ble_eq_true rfl) dX9_thing_10 ?_
    refine pp_if_ne (tgt := 19) hF dX9_thing_13 rfl (fun c4 => ?_) (fun c4 => ?_)
    · replace h := (if_pos c4).symm.trans h
      refine pp_bipush hF dX9_thing_16 bc_n2 ?_
      obtain ⟨rfl, rfl⟩ := pp_i2 h
      exact pp_ireturn hF hR dX9_thing_18
    · replace h := (if_neg c4).symm.trans h
      refine pp_iload_n hF dX9_thing_19 rfl rfl ?_
      refine pp_iconst hF dX9_thing_20 ic_1 ?_
      refine pp_icmp_ne (tgt := 28) hF dX9_thing_21 rfl (fun c5 => ?_) (fun c5 => ?_)
      · replace h := (if_pos c5).symm.trans h
        refine pp_iconst hF dX9_thing_24 ic_1 ?_
        refine pp_goto (tgt := 49) hF dX9_thing_25 rfl ?_
        exact e_X9_thing_49 hF hR h
      · replace h := (if_neg c5).symm.trans h
        refine pp_iload_n hF dX9_thing_28 rfl rfl ?_
        refine pp_iconst hF dX9_thing_29 ic_3 ?_
        refine pp_icmp_le (tgt := 48) hF dX9_thing_30 rfl (fun c6 => ?_) (fun c6 => ?_)
        · replace h := (if_pos c6).symm.trans h
          refine pp_aload_n hF dX9_thing_33 rfl rfl ?_
          refine pp_getR hF fdM_X9_19 dX9_thing_34 ?_
          refine pp_iconst hF dX9_thing_37 ic_3 ?_
          refine pp_iload_n hF dX9_thing_38 rfl rfl ?_
          refine pp_imul hF dX9_thing_39 ?_
          refine pp_iload_n hF dX9_thing_40 rfl rfl ?_
          refine pp_iadd hF dX9_thing_41 ?_
          refine pp_iconst hF dX9_thing_42 ic_4 ?_
          refine pp_isub hF dX9_thing_43 ?_
          obtain ⟨hi7, h⟩ := pp_ck h
          refine pp_ialoadJ hF vM_44 hi7 (Nat.zero_add _) dX9_thing_44 ?_
          refine pp_goto (tgt := 49) hF dX9_thing_45 rfl ?_
          exact e_X9_thing_49 hF hR h
        · replace h := (if_neg c6).symm.trans h
          refine pp_iconst hF dX9_thing_48 ic_0 ?_
          exact e_X9_thing_49 hF hR h
set_option maxRecDepth 20000 in
theorem c_X9_thing {r' : Int32} {σ' : pp_M} {σ : pp_M} {a1 : Int32} {a2 : Int32} {a3 : Int32} (h : f_X9_thing σ a1 a2 a3 = some (r', σ')) : pp_Ct yX9_thing cX9_thing 7 (some .int) 3 54 dsM [ppR 40 0 0, ppI a1, ppI a2, ppI a3] σ (some (ppI r')) σ' := pp_met pl_X9 rfl okM (Nat.le_of_ble_eq_true rfl) rfl (fun Γ hF hR => (e_X9_thing_0 hF hR h))
set_option maxRecDepth 20000 in
theorem e_X9_trust_0 {Γ : pp_G} {r' : Int32} {σ' : pp_M} (hF : pp_Fx Γ dsM cX9_trust 8 RX9 5 115) (hR : pp_Rt Γ dsM (some .int) (some (ppI r')) σ') {σ : pp_M} {a1 : Int32} {a2 : Int32} {a3 : Int32} {a4 : Int32} {a5 : Int32} (h : f_X9_trust σ a1 a2 a3 a4 a5 = some (r', σ')) : pp_E Γ dsM cX9_trust 8 0 [(0, ppR 40 0 0), (1, ppI a1), (2, ppI a2), (3, ppI a3), (4, ppI a4), (5, ppI a5)] [] σ := by
  unfold f_X9_trust at h
  refine pp_iload_n hF dX9_trust_0 rfl rfl ?_
  obtain ⟨x1, hx1, h⟩ := pp_bd h
  refine pp_callSi hF (c_X9_isThing hx1) mS_X9_isThing lk_X9_118 rfl rfl ⟨by decide, by decide⟩ (Nat.le_of_ble_eq_true rfl) dX9_trust_1 ?_
  refine pp_if_eq (tgt := 51) hF dX9_trust_4 rfl (fun c2 => ?_) (fun c2 => ?_)
  · replace h := (if_pos c2).symm.trans h
    refine pp_bipush hF dX9_trust_51 bc_n2 ?_
    obtain ⟨rfl, rfl⟩ := pp_i2 h
    exact pp_ireturn hF hR dX9_trust_53
  · replace h := (if_neg c2).symm.trans h
    refine pp_iload_n hF dX9_trust_7 rfl rfl ?_
    refine pp_iconst hF dX9_trust_8 ic_0 ?_
    refine pp_aload_n hF dX9_trust_9 rfl rfl ?_
    refine pp_getI hF fdM_X9_178 dX9_trust_10 ?_
    refine pp_iconst hF dX9_trust_13 ic_1 ?_
    refine pp_isub hF dX9_trust_14 ?_
    obtain ⟨x15, hx15, h⟩ := pp_bd h
    refine pp_callSi hF (c_X9_in hx15) mS_X9_in lk_X9_114 rfl rfl ⟨by decide, by decide⟩ (Nat.le_of_ble_eq_true rfl) dX9_trust_15 ?_
    refine pp_if_eq (tgt := 51) hF dX9_trust_18 rfl (fun c4 => ?_) (fun c4 => ?_)
    · replace h := (if_pos c4).symm.trans h
      refine pp_bipush hF dX9_trust_51 bc_n2 ?_
      obtain ⟨rfl, rfl⟩ := pp_i2 h
      exact pp_ireturn hF hR dX9_trust_53
    · replace h := (if_neg c4).symm.trans h
      refine pp_iload_n hF dX9_trust_21 rfl rfl ?_
      refine pp_iconst hF dX9_trust_22 ic_1 ?_
      refine pp_iconst hF dX9_trust_23 ic_4 ?_
      obtain ⟨x24, hx24, h⟩ := pp_bd h
      refine pp_callSi hF (c_X9_in hx24) mS_X9_in lk_X9_114 rfl rfl ⟨by decide, by decide⟩ (Nat.le_of_ble_eq_true rfl) dX9_trust_24 ?_
      refine pp_if_eq (tgt := 51) hF dX9_trust_27 rfl (fun c6 => ?_) (fun c6 => ?_)
      · replace h := (if_pos c6).symm.trans h
        refine pp_bipush hF dX9_trust_51 bc_n2 ?_
        obtain ⟨rfl, rfl⟩ := pp_i2 h
        exact pp_ireturn hF hR dX9_trust_53
      · replace h := (if_neg c6).symm.trans h
        refine pp_iload hF dX9_trust_30 rfl ?_
        refine pp_iconst hF dX9_trust_32 ic_0 ?_
        refine pp_iconst hF dX9_trust_33 ic_2 ?_
        obtain ⟨x34, hx34, h⟩ := pp_bd h
        refine pp_callSi hF (c_X9_in hx34) mS_X9_in lk_X9_114 rfl rfl ⟨by decide, by decide⟩ (Nat.le_of_ble_eq_true rfl) dX9_trust_34 ?_
        refine pp_if_eq (tgt := 51) hF dX9_trust_37 rfl (fun c8 => ?_) (fun c8 => ?_)
        · replace h := (if_pos c8).symm.trans h
          refine pp_bipush hF dX9_trust_51 bc_n2 ?_
          obtain ⟨rfl, rfl⟩ := pp_i2 h
          exact pp_ireturn hF hR dX9_trust_53
        · replace h := (if_neg c8).symm.trans h
          refine pp_iload hF dX9_trust_40 rfl ?_
          refine pp_iconst hF dX9_trust_42 ic_0 ?_
          refine pp_bipush hF dX9_trust_43 bc_16 ?_
          obtain ⟨x45, hx45, h⟩ := pp_bd h
          refine pp_callSi hF (c_X9_in hx45) mS_X9_in lk_X9_114 rfl rfl ⟨by decide, by decide⟩ (Nat.le_of_ble_eq_true rfl) dX9_trust_45 ?_
          refine pp_if_ne (tgt := 54) hF dX9_trust_48 rfl (fun c10 => ?_) (fun c10 => ?_)
          · replace h := (if_pos c10).symm.trans h
            refine pp_bipush hF dX9_trust_51 bc_n2 ?_
            obtain ⟨rfl, rfl⟩ := pp_i2 h
            exact pp_ireturn hF hR dX9_trust_53
          · replace h := (if_neg c10).symm.trans h
            refine pp_aload_n hF dX9_trust_54 rfl rfl ?_
            obtain ⟨x55, hx55, h⟩ := pp_bd h
            refine pp_callVv hF (c_X9_looksAtRow hx55) mV_X9_looksAtRow lk_X9_199 obM_40 rfl rfl ⟨by decide, by decide⟩ (Nat.le_of_ble_eq_true rfl) dX9_trust_55 ?_
            refine pp_iload hF dX9_trust_58 rfl ?_
            refine pp_i2l hF dX9_trust_60 ?_
            refine pp_aload_n hF dX9_trust_61 rfl rfl ?_
            refine pp_getR hF fdM_X9_19 dX9_trust_62 ?_
            refine pp_iconst hF dX9_trust_65 ic_3 ?_
            refine pp_iload_n hF dX9_trust_66 rfl rfl ?_
            refine pp_imul hF dX9_trust_67 ?_
            refine pp_iload hF dX9_trust_68 rfl ?_
            refine pp_iadd hF dX9_trust_70 ?_
            obtain ⟨hi12, h⟩ := pp_ck h
            refine pp_ialoadJ hF vM_44 hi12 (Nat.zero_add _) dX9_trust_71 ?_
            refine pp_i2l hF dX9_trust_72 ?_
            refine pp_aload_n hF dX9_trust_73 rfl rfl ?_
            refine pp_getI hF fdM_X9_178 dX9_trust_74 ?_
            refine pp_iconst hF dX9_trust_77 ic_1 ?_
            refine pp_isub hF dX9_trust_78 ?_
            refine pp_iload_n hF dX9_trust_79 rfl rfl ?_
            refine pp_isub hF dX9_trust_80 ?_
            obtain ⟨x81, hx81, h⟩ := pp_bd h
            refine pp_callSl hF (c_X9_sixteen hx81) mS_X9_sixteen lk_X9_193 rfl rfl ⟨by decide, by decide⟩ (Nat.le_of_ble_eq_true rfl) dX9_trust_81 ?_
            refine pp_lmul hF dX9_trust_84 ?_
            refine pp_lmul hF dX9_trust_85 ?_
            refine pp_ldc2 hF wm_1111 dX9_trust_86 ?_
            refine pp_aload_n hF dX9_trust_89 rfl rfl ?_
            refine pp_getR hF fdM_X9_65 dX9_trust_90 ?_
            refine pp_iload_n hF dX9_trust_93 rfl rfl ?_
            refine pp_iload_n hF dX9_trust_94 rfl rfl ?_
            refine pp_iconst hF dX9_trust_95 ic_1 ?_
            refine pp_iadd hF dX9_trust_96 ?_
            refine pp_iload_n hF dX9_trust_97 rfl rfl ?_
            refine pp_iconst hF dX9_trust_98 ic_1 ?_
            refine pp_isub hF dX9_trust_99 ?_
            obtain ⟨x100, hx100, h⟩ := pp_bd h
            refine pp_callSi hF (c_X9_spot hx100) mS_X9_spot lk_X9_190 rfl rfl ⟨by decide, by decide⟩ (Nat.le_of_ble_eq_true rfl) dX9_trust_100 ?_
            obtain ⟨hi15, h⟩ := pp_ck h
            refine pp_laloadJ hF vM_56 hi15 (Nat.zero_add _) dX9_trust_103 ?_
            refine pp_lmul hF dX9_trust_104 ?_
            refine pp_ladd hF dX9_trust_105 ?_
            refine pp_lstore hF dX9_trust_106 (by decide) (lv' := [(0, ppR 40 0 0), (1, ppI a1), (2, ppI a2), (3, ppI a3), (4, ppI a4), (5, ppI a5), (6, ppL (((a5.toInt64) * ((((x55.1 44 (((3 : Int32) * a1) + a4).toNatClampNeg)).toInt64) * x81.1)) + ((16 : Int64) * (x100.2.2 56 x100.1.toNatClampNeg))))]) rfl ?_
            refine pp_lload hF dX9_trust_108 rfl ?_
            refine pp_aload_n hF dX9_trust_110 rfl rfl ?_
            refine pp_getR hF fdM_X9_65 dX9_trust_111 ?_
            refine pp_iload_n hF dX9_trust_114 rfl rfl ?_
            refine pp_iload_n hF dX9_trust_115 rfl rfl ?_
            refine pp_iload_n hF dX9_trust_116 rfl rfl ?_
            obtain ⟨x117, hx117, h⟩ := pp_bd h
            refine pp_callSi hF (c_X9_spot hx117) mS_X9_spot lk_X9_190 rfl rfl ⟨by decide, by decide⟩ (Nat.le_of_ble_eq_true rfl) dX9_trust_117 ?_
            obtain ⟨hi17, h⟩ := pp_ck h
            refine pp_laloadJ hF vM_56 hi17 (Nat.zero_add _) dX9_trust_120 ?_
            refine pp_lcmp_le (tgt := 129) hF dX9_trust_121 dX9_trust_122 rfl (fun c18 => ?_) (fun c18 => ?_)
            · replace h := (if_pos c18).symm.trans h
              refine pp_iconst hF dX9_trust_125 ic_1 ?_
              refine pp_goto (tgt := 130) hF dX9_trust_126 rfl ?_
              obtain ⟨rfl, rfl⟩ := pp_i2 h
              exact pp_ireturn hF hR dX9_trust_130
            · replace h := (if_neg c18).symm.trans h
              refine pp_iconst hF dX9_trust_129 ic_0 ?_
              obtain ⟨rfl, rfl⟩ := pp_i2 h
              exact pp_ireturn hF hR dX9_trust_130
set_option maxRecDepth 20000 in
theorem c_X9_trust {r' : Int32} {σ' : pp_M} {σ : pp_M} {a1 : Int32} {a2 : Int32} {a3 : Int32} {a4 : Int32} {a5 : Int32} (h : f_X9_trust σ a1 a2 a3 a4 a5 = some (r', σ')) : pp_Ct yX9_trust cX9_trust 8 (some .int) 5 115 dsM [ppR 40 0 0, ppI a1, ppI a2, ppI a3, ppI a4, ppI a5] σ (some (ppI r')) σ' := pp_met pl_X9 rfl okM (Nat.le_of_ble_eq_true rfl) rfl (fun Γ hF hR => (e_X9_trust_0 hF hR h))
set_option maxRecDepth 20000 in
theorem e_X9_two_82 {Γ : pp_G} {r' : Int32} {σ' : pp_M} (hF : pp_Fx Γ dsM cX9_two 5 RX9 7 167) (hR : pp_Rt Γ dsM (some .int) (some (ppI r')) σ') {σ : pp_M} {a2 : Int32} {a4 : Int32} {b0 : Int32} {b1 : Int32} {k47 : pp_M → Int32 → Int32 → Int32 → Option (Int32 × pp_M)} (hk47 : ∀ {σ : pp_M} {a2 : Int32} {a3 : Int32} {a4 : Int32}, k47 σ a2 a3 a4 = some (r', σ') → pp_E Γ dsM cX9_two 5 47 [(0, ppR 40 0 0), (2, ppI a2), (3, ppI a3), (4, ppI a4)] [] σ) (h : f_X9_two_82 k47 σ a2 a4 b0 b1 = some (r', σ')) : pp_E Γ dsM cX9_two 5 82 [(0, ppR 40 0 0), (2, ppI a2), (4, ppI a4)] [ppI b1, ppI b0] σ := by
  unfold f_X9_two_82 at h
  refine pp_ior hF dX9_two_82 ?_
  refine pp_istore_n hF dX9_two_83 rfl (by decide) (lv' := [(0, ppR 40 0 0), (2, ppI a2), (3, ppI (b0 ||| b1)), (4, ppI a4)]) rfl ?_
  refine pp_iinc hF dX9_two_84 rfl (congrArg (HAdd.hAdd _) ic_1) (by decide) (lv' := [(0, ppR 40 0 0), (2, ppI a2), (3, ppI (b0 ||| b1)), (4, ppI (a4 + (1 : Int32)))]) rfl ?_
  refine pp_goto (tgt := 47) hF dX9_two_87 rfl ?_
  exact hk47 h
set_option maxRecDepth 20000 in
theorem e_X9_two_47 {Γ : pp_G} {r' : Int32} {σ' : pp_M} (hF : pp_Fx Γ dsM cX9_two 5 RX9 7 167) (hR : pp_Rt Γ dsM (some .int) (some (ppI r')) σ') {σ : pp_M} {a2 : Int32} {a3 : Int32} {a4 : Int32} {k47 : pp_M → Int32 → Int32 → Int32 → Option (Int32 × pp_M)} (hk47 : ∀ {σ : pp_M} {a2 : Int32} {a3 : Int32} {a4 : Int32}, k47 σ a2 a3 a4 = some (r', σ') → pp_E Γ dsM cX9_two 5 47 [(0, ppR 40 0 0), (2, ppI a2), (3, ppI a3), (4, ppI a4)] [] σ) (h : f_X9_two_47_B k47 σ a2 a3 a4 = some (r', σ')) : pp_E Γ dsM cX9_two 5 47 [(0, ppR 40 0 0), (2, ppI a2), (3, ppI a3), (4, ppI a4)] [] σ := by
  unfold f_X9_two_47_B at h
  refine pp_iload hF dX9_two_47 rfl ?_
  refine pp_aload_n hF dX9_two_49 rfl rfl ?_
  refine pp_getI hF fdM_X9_256 dX9_two_50 ?_
  refine pp_icmp_ge (tgt := 90) hF dX9_two_53 rfl (fun c1 => ?_) (fun c1 => ?_)
  · replace h := (if_pos c1).symm.trans h
    refine pp_iload_n hF dX9_two_56 rfl rfl ?_
    refine pp_iload_n hF dX9_two_57 rfl rfl ?_
    refine pp_iload hF dX9_two_58 rfl ?_
    refine pp_ishr hF dX9_two_60 ?_
    refine pp_iconst hF dX9_two_61 ic_1 ?_
    refine pp_iand hF dX9_two_62 ?_
    refine pp_iconst hF dX9_two_63 ic_1 ?_
    refine pp_icmp_ne (tgt := 81) hF dX9_two_64 rfl (fun c2 => ?_) (fun c2 => ?_)
    · replace h := (if_pos c2).symm.trans h
      refine pp_iconst hF dX9_two_67 ic_1 ?_
      refine pp_aload_n hF dX9_two_68 rfl rfl ?_
      refine pp_getR hF fdM_X9_81 dX9_two_69 ?_
      refine pp_iload hF dX9_two_72 rfl ?_
      obtain ⟨hi3, h⟩ := pp_ck h
      refine pp_ialoadJ hF vM_61 hi3 (Nat.zero_add _) dX9_two_74 ?_
      refine pp_iconst hF dX9_two_75 ic_1 ?_
      refine pp_isub hF dX9_two_76 ?_
      refine pp_ishl hF dX9_two_77 ?_
      refine pp_goto (tgt := 82) hF dX9_two_78 rfl ?_
      refine pp_few [0, 1, 3] (lv' := [(0, ppR 40 0 0), (2, ppI a2), (4, ppI a4)]) rfl ?_
      exact e_X9_two_82 hF hR hk47 h
    · replace h := (if_neg c2).symm.trans h
      refine pp_iconst hF dX9_two_81 ic_0 ?_
      refine pp_few [0, 1, 3] (lv' := [(0, ppR 40 0 0), (2, ppI a2), (4, ppI a4)]) rfl ?_
      exact e_X9_two_82 hF hR hk47 h
  · replace h := (if_neg c1).symm.trans h
    refine pp_iload_n hF dX9_two_90 rfl rfl ?_
    obtain ⟨rfl, rfl⟩ := pp_i2 h
    exact pp_ireturn hF hR dX9_two_91
set_option maxRecDepth 20000 in
theorem e_X9_two_47_L {Γ : pp_G} {r' : Int32} {σ' : pp_M} (hF : pp_Fx Γ dsM cX9_two 5 RX9 7 167) (hR : pp_Rt Γ dsM (some .int) (some (ppI r')) σ') : ∀ {n : Nat} {σ : pp_M} {a2 : Int32} {a3 : Int32} {a4 : Int32}, f_X9_two_47 n σ a2 a3 a4 = some (r', σ') → pp_E Γ dsM cX9_two 5 47 [(0, ppR 40 0 0), (2, ppI a2), (3, ppI a3), (4, ppI a4)] [] σ
  | 0, _, _, _, _ => fun h => by cases h
  | n + 1, _, _, _, _ => fun h => e_X9_two_47 hF hR (fun h => e_X9_two_47_L hF hR (n := n) h) h
set_option maxRecDepth 20000 in
theorem e_X9_two_41 {Γ : pp_G} {r' : Int32} {σ' : pp_M} (hF : pp_Fx Γ dsM cX9_two 5 RX9 7 167) (hR : pp_Rt Γ dsM (some .int) (some (ppI r')) σ') {σ : pp_M} {b0 : Int32} (h : f_X9_two_41 σ b0 = some (r', σ')) : pp_E Γ dsM cX9_two 5 41 [(0, ppR 40 0 0)] [ppI b0] σ := by
  unfold f_X9_two_41 at h
  refine pp_istore_n hF dX9_two_41 rfl (by decide) (lv' := [(0, ppR 40 0 0), (2, ppI b0)]) rfl ?_
  refine pp_iconst hF dX9_two_42 ic_0 ?_
  refine pp_istore_n hF dX9_two_43 rfl (by decide) (lv' := [(0, ppR 40 0 0), (2, ppI b0), (3, ppI (0 : Int32))]) rfl ?_
  refine pp_iconst hF dX9_two_44 ic_0 ?_
  refine pp_istore hF dX9_two_45 (by decide) (lv' := [(0, ppR 40 0 0), (2, ppI b0), (3, ppI (0 : Int32)), (4, ppI (0 : Int32))]) rfl ?_
  exact e_X9_two_47_L hF hR h
set_option maxRecDepth 20000 in
theorem e_X9_two_0 {Γ : pp_G} {r' : Int32} {σ' : pp_M} (hF : pp_Fx Γ dsM cX9_two 5 RX9 7 167) (hR : pp_Rt Γ dsM (some .int) (some (ppI r')) σ') {σ : pp_M} {a1 : Int32} (h : f_X9_two σ a1 = some (r', σ')) : pp_E Γ dsM cX9_two 5 0 [(0, ppR 40 0 0), (1, ppI a1)] [] σ := by
  unfold f_X9_two at h
  refine pp_iload_n hF dX9_two_0 rfl rfl ?_
  refine pp_iconst hF dX9_two_1 ic_0 ?_
  refine pp_iconst hF dX9_two_2 ic_1 ?_
  obtain ⟨x3, hx3, h⟩ := pp_bd h
  refine pp_callSi hF (c_X9_in hx3) mS_X9_in lk_X9_114 rfl rfl ⟨by decide, by decide⟩ (Nat.le_of_ble_eq_true rfl) dX9_two_3 ?_
  refine pp_if_ne (tgt := 12) hF dX9_two_6 rfl (fun c2 => ?_) (fun c2 => ?_)
  · replace h := (if_pos c2).symm.trans h
    refine pp_bipush hF dX9_two_9 bc_n2 ?_
    obtain ⟨rfl, rfl⟩ := pp_i2 h
    exact pp_ireturn hF hR dX9_two_11
  · replace h := (if_neg c2).symm.trans h
    refine pp_aload_n hF dX9_two_12 rfl rfl ?_
    obtain ⟨x13, hx13, h⟩ := pp_bd h
    refine pp_callVi hF (c_X9_gathers hx13) mV_X9_gathers lk_X9_274 obM_40 rfl rfl ⟨by decide, by decide⟩ (Nat.le_of_ble_eq_true rfl) dX9_two_13 ?_
    refine pp_if_ne (tgt := 22) hF dX9_two_16 rfl (fun c4 => ?_) (fun c4 => ?_)
    · replace h := (if_pos c4).symm.trans h
      refine pp_bipush hF dX9_two_19 bc_n4 ?_
      obtain ⟨rfl, rfl⟩ := pp_i2 h
      exact pp_ireturn hF hR dX9_two_21
    · replace h := (if_neg c4).symm.trans h
      refine pp_aload_n hF dX9_two_22 rfl rfl ?_
      obtain ⟨x23, hx23, h⟩ := pp_bd h
      refine pp_callVv hF (c_X9_parted hx23) mV_X9_parted lk_X9_290 obM_40 rfl rfl ⟨by decide, by decide⟩ (Nat.le_of_ble_eq_true rfl) dX9_two_23 ?_
      refine pp_iload_n hF dX9_two_26 rfl rfl ?_
      refine pp_if_ne (tgt := 37) hF dX9_two_27 rfl (fun c6 => ?_) (fun c6 => ?_)
      · replace h := (if_pos c6).symm.trans h
        refine pp_aload_n hF dX9_two_30 rfl rfl ?_
        refine pp_getI hF fdM_X9_284 dX9_two_31 ?_
        refine pp_goto (tgt := 41) hF dX9_two_34 rfl ?_
        refine pp_few [0] (lv' := [(0, ppR 40 0 0)]) rfl ?_
        exact e_X9_two_41 hF hR h
      · replace h := (if_neg c6).symm.trans h
        refine pp_aload_n hF dX9_two_37 rfl rfl ?_
        refine pp_getI hF fdM_X9_287 dX9_two_38 ?_
        refine pp_few [0] (lv' := [(0, ppR 40 0 0)]) rfl ?_
        exact e_X9_two_41 hF hR h
set_option maxRecDepth 20000 in
theorem c_X9_two {r' : Int32} {σ' : pp_M} {σ : pp_M} {a1 : Int32} (h : f_X9_two σ a1 = some (r', σ')) : pp_Ct yX9_two cX9_two 5 (some .int) 7 167 dsM [ppR 40 0 0, ppI a1] σ (some (ppI r')) σ' := pp_met pl_X9 rfl okM (Nat.le_of_ble_eq_true rfl) rfl (fun Γ hF hR => (e_X9_two_0 hF hR h))
set_option maxRecDepth 20000 in
theorem e_X9_type_0 {Γ : pp_G} {r' : Int32} {σ' : pp_M} (hF : pp_Fx Γ dsM cX9_type 2 RX9 2 34) (hR : pp_Rt Γ dsM (some .int) (some (ppI r')) σ') {σ : pp_M} {a1 : Int32} (h : f_X9_type σ a1 = some (r', σ')) : pp_E Γ dsM cX9_type 2 0 [(0, ppR 40 0 0), (1, ppI a1)] [] σ := by
  unfold f_X9_type at h
  refine pp_iload_n hF dX9_type_0 rfl rfl ?_
  refine pp_iconst hF dX9_type_1 ic_0 ?_
  refine pp_sipush hF dX9_type_2 sc_255 ?_
  obtain ⟨x5, hx5, h⟩ := pp_bd h
  refine pp_callSi hF (c_X9_in hx5) mS_X9_in lk_X9_114 rfl rfl ⟨by decide, by decide⟩ (Nat.le_of_ble_eq_true rfl) dX9_type_5 ?_
  refine pp_if_ne (tgt := 14) hF dX9_type_8 rfl (fun c2 => ?_) (fun c2 => ?_)
  · replace h := (if_pos c2).symm.trans h
    refine pp_bipush hF dX9_type_11 bc_n2 ?_
    obtain ⟨rfl, rfl⟩ := pp_i2 h
    exact pp_ireturn hF hR dX9_type_13
  · replace h := (if_neg c2).symm.trans h
    refine pp_aload_n hF dX9_type_14 rfl rfl ?_
    refine pp_getI hF fdM_X9_132 dX9_type_15 ?_
    refine pp_bipush hF dX9_type_18 bc_40 ?_
    refine pp_icmp_ne (tgt := 26) hF dX9_type_20 rfl (fun c3 => ?_) (fun c3 => ?_)
    · replace h := (if_pos c3).symm.trans h
      refine pp_bipush hF dX9_type_23 bc_n4 ?_
      obtain ⟨rfl, rfl⟩ := pp_i2 h
      exact pp_ireturn hF hR dX9_type_25
    · replace h := (if_neg c3).symm.trans h
      refine pp_aload_n hF dX9_type_26 rfl rfl ?_
      refine pp_getR hF fdM_X9_44 dX9_type_27 ?_
      refine pp_aload_n hF dX9_type_30 rfl rfl ?_
      refine pp_getI hF fdM_X9_132 dX9_type_31 ?_
      refine pp_iload_n hF dX9_type_34 rfl rfl ?_
      obtain ⟨hi4, h⟩ := pp_ck h
      refine pp_iastoreJ hF vM_49 hi4 (Nat.zero_add _) dX9_type_35 ?_
      refine pp_aload_n hF dX9_type_36 rfl rfl ?_
      refine pp_dupR hF dX9_type_37 ?_
      refine pp_getI hF fdM_X9_132 dX9_type_38 ?_
      refine pp_iconst hF dX9_type_41 ic_1 ?_
      refine pp_iadd hF dX9_type_42 ?_
      refine pp_putI hF fwM_X9_132 dX9_type_43 ?_
      refine pp_aload_n hF dX9_type_46 rfl rfl ?_
      refine pp_getI hF fdM_X9_132 dX9_type_47 ?_
      obtain ⟨rfl, rfl⟩ := pp_i2 h
      exact pp_ireturn hF hR dX9_type_50
set_option maxRecDepth 20000 in
theorem c_X9_type {r' : Int32} {σ' : pp_M} {σ : pp_M} {a1 : Int32} (h : f_X9_type σ a1 = some (r', σ')) : pp_Ct yX9_type cX9_type 2 (some .int) 2 34 dsM [ppR 40 0 0, ppI a1] σ (some (ppI r')) σ' := pp_met pl_X9 rfl okM (Nat.le_of_ble_eq_true rfl) rfl (fun Γ hF hR => (e_X9_type_0 hF hR h))
set_option maxRecDepth 20000 in
theorem e_X9_value_38 {Γ : pp_G} {r' : Int64} {σ' : pp_M} (hF : pp_Fx Γ dsM cX9_value 5 RX9 5 115) (hR : pp_Rt Γ dsM (some .long) (some (ppL r')) σ') {σ : pp_M}  (h : f_X9_value_38 σ  = some (r', σ')) : pp_E Γ dsM cX9_value 5 38 [] [] σ := by
  unfold f_X9_value_38 at h
  refine pp_bipush hF dX9_value_38 bc_n2 ?_
  obtain ⟨x40, hx40, h⟩ := pp_bd h
  refine pp_callSl hF (c_X9_no hx40) mS_X9_no lk_X9_211 rfl rfl ⟨by decide, by decide⟩ (Nat.le_of_ble_eq_true rfl) dX9_value_40 ?_
  obtain ⟨rfl, rfl⟩ := pp_i2 h
  exact pp_lreturn hF hR dX9_value_43
set_option maxRecDepth 20000 in
theorem e_X9_value_0 {Γ : pp_G} {r' : Int64} {σ' : pp_M} (hF : pp_Fx Γ dsM cX9_value 5 RX9 5 115) (hR : pp_Rt Γ dsM (some .long) (some (ppL r')) σ') {σ : pp_M} {a1 : Int32} {a2 : Int32} {a3 : Int32} {a4 : Int32} (h : f_X9_value σ a1 a2 a3 a4 = some (r', σ')) : pp_E Γ dsM cX9_value 5 0 [(0, ppR 40 0 0), (1, ppI a1), (2, ppI a2), (3, ppI a3), (4, ppI a4)] [] σ := by
  unfold f_X9_value at h
  refine pp_iload_n hF dX9_value_0 rfl rfl ?_
  obtain ⟨x1, hx1, h⟩ := pp_bd h
  refine pp_callSi hF (c_X9_isThing hx1) mS_X9_isThing lk_X9_118 rfl rfl ⟨by decide, by decide⟩ (Nat.le_of_ble_eq_true rfl) dX9_value_1 ?_
  refine pp_if_eq (tgt := 38) hF dX9_value_4 rfl (fun c2 => ?_) (fun c2 => ?_)
  · replace h := (if_pos c2).symm.trans h
    refine pp_few [] (lv' := []) rfl ?_
    exact e_X9_value_38 hF hR h
  · replace h := (if_neg c2).symm.trans h
    refine pp_iload_n hF dX9_value_7 rfl rfl ?_
    refine pp_iconst hF dX9_value_8 ic_0 ?_
    refine pp_aload_n hF dX9_value_9 rfl rfl ?_
    refine pp_getI hF fdM_X9_178 dX9_value_10 ?_
    obtain ⟨x13, hx13, h⟩ := pp_bd h
    refine pp_callSi hF (c_X9_in hx13) mS_X9_in lk_X9_114 rfl rfl ⟨by decide, by decide⟩ (Nat.le_of_ble_eq_true rfl) dX9_value_13 ?_
    refine pp_if_eq (tgt := 38) hF dX9_value_16 rfl (fun c4 => ?_) (fun c4 => ?_)
    · replace h := (if_pos c4).symm.trans h
      refine pp_few [] (lv' := []) rfl ?_
      exact e_X9_value_38 hF hR h
    · replace h := (if_neg c4).symm.trans h
      refine pp_iload_n hF dX9_value_19 rfl rfl ?_
      refine pp_iconst hF dX9_value_20 ic_0 ?_
      refine pp_iconst hF dX9_value_21 ic_4 ?_
      obtain ⟨x22, hx22, h⟩ := pp_bd h
      refine pp_callSi hF (c_X9_in hx22) mS_X9_in lk_X9_114 rfl rfl ⟨by decide, by decide⟩ (Nat.le_of_ble_eq_true rfl) dX9_value_22 ?_
      refine pp_if_eq (tgt := 38) hF dX9_value_25 rfl (fun c6 => ?_) (fun c6 => ?_)
      · replace h := (if_pos c6).symm.trans h
        refine pp_few [] (lv' := []) rfl ?_
        exact e_X9_value_38 hF hR h
      · replace h := (if_neg c6).symm.trans h
        refine pp_iload hF dX9_value_28 rfl ?_
        refine pp_iconst hF dX9_value_30 ic_0 ?_
        refine pp_iconst hF dX9_value_31 ic_1 ?_
        obtain ⟨x32, hx32, h⟩ := pp_bd h
        refine pp_callSi hF (c_X9_in hx32) mS_X9_in lk_X9_114 rfl rfl ⟨by decide, by decide⟩ (Nat.le_of_ble_eq_true rfl) dX9_value_32 ?_
        refine pp_if_ne (tgt := 44) hF dX9_value_35 rfl (fun c8 => ?_) (fun c8 => ?_)
        · replace h := (if_pos c8).symm.trans h
          refine pp_few [] (lv' := []) rfl ?_
          exact e_X9_value_38 hF hR h
        · replace h := (if_neg c8).symm.trans h
          refine pp_aload_n hF dX9_value_44 rfl rfl ?_
          obtain ⟨x45, hx45, h⟩ := pp_bd h
          refine pp_callVv hF (c_X9_looksAtRow hx45) mV_X9_looksAtRow lk_X9_199 obM_40 rfl rfl ⟨by decide, by decide⟩ (Nat.le_of_ble_eq_true rfl) dX9_value_45 ?_
          refine pp_aload_n hF dX9_value_48 rfl rfl ?_
          refine pp_getR hF fdM_X9_65 dX9_value_49 ?_
          refine pp_iload_n hF dX9_value_52 rfl rfl ?_
          refine pp_iload_n hF dX9_value_53 rfl rfl ?_
          refine pp_iload_n hF dX9_value_54 rfl rfl ?_
          obtain ⟨x55, hx55, h⟩ := pp_bd h
          refine pp_callSi hF (c_X9_spot hx55) mS_X9_spot lk_X9_190 rfl rfl ⟨by decide, by decide⟩ (Nat.le_of_ble_eq_true rfl) dX9_value_55 ?_
          obtain ⟨hi11, h⟩ := pp_ck h
          refine pp_laloadJ hF vM_56 hi11 (Nat.zero_add _) dX9_value_58 ?_
          refine pp_aload_n hF dX9_value_59 rfl rfl ?_
          refine pp_getI hF fdM_X9_178 dX9_value_60 ?_
          refine pp_iload_n hF dX9_value_63 rfl rfl ?_
          refine pp_isub hF dX9_value_64 ?_
          obtain ⟨x65, hx65, h⟩ := pp_bd h
          refine pp_callSl hF (c_X9_sixteen hx65) mS_X9_sixteen lk_X9_193 rfl rfl ⟨by decide, by decide⟩ (Nat.le_of_ble_eq_true rfl) dX9_value_65 ?_
          refine pp_iload hF dX9_value_68 rfl ?_
          obtain ⟨x70, hx70, h⟩ := pp_bd h
          refine pp_callSl hF (c_X9_lowest hx70) mS_X9_lowest lk_X9_214 rfl rfl ⟨by decide, by decide⟩ (Nat.le_of_ble_eq_true rfl) dX9_value_70 ?_
          obtain ⟨rfl, rfl⟩ := pp_i2 h
          exact pp_lreturn hF hR dX9_value_73
set_option maxRecDepth 20000 in
theorem c_X9_value {r' : Int64} {σ' : pp_M} {σ : pp_M} {a1 : Int32} {a2 : Int32} {a3 : Int32} {a4 : Int32} (h : f_X9_value σ a1 a2 a3 a4 = some (r', σ')) : pp_Ct yX9_value cX9_value 5 (some .long) 5 115 dsM [ppR 40 0 0, ppI a1, ppI a2, ppI a3, ppI a4] σ (some (ppL r')) σ' := pp_met pl_X9 rfl okM (Nat.le_of_ble_eq_true rfl) rfl (fun Γ hF hR => (e_X9_value_0 hF hR h))
set_option maxRecDepth 20000 in
theorem e_X9_wants_23 {Γ : pp_G} {r' : Int32} {σ' : pp_M} (hF : pp_Fx Γ dsM cX9_wants 3 RX9 5 104) (hR : pp_Rt Γ dsM (some .int) (some (ppI r')) σ') {σ : pp_M} {a1 : Int32} {a2 : Int32} {k13 : pp_M → Int32 → Option (Int32 × pp_M)} (hk13 : ∀ {σ : pp_M} {a1 : Int32}, k13 σ a1 = some (r', σ') → pp_E Γ dsM cX9_wants 3 13 [(0, ppR 40 0 0), (1, ppI a1)] [] σ) {k23 : pp_M → Int32 → Int32 → Option (Int32 × pp_M)} (hk23 : ∀ {σ : pp_M} {a1 : Int32} {a2 : Int32}, k23 σ a1 a2 = some (r', σ') → pp_E Γ dsM cX9_wants 3 23 [(0, ppR 40 0 0), (1, ppI a1), (2, ppI a2)] [] σ) (h : f_X9_wants_23_B k13 k23 σ a1 a2 = some (r', σ')) : pp_E Γ dsM cX9_wants 3 23 [(0, ppR 40 0 0), (1, ppI a1), (2, ppI a2)] [] σ := by
  unfold f_X9_wants_23_B at h
  refine pp_iload_n hF dX9_wants_23 rfl rfl ?_
  refine pp_iconst hF dX9_wants_24 ic_3 ?_
  refine pp_icmp_ge (tgt := 66) hF dX9_wants_25 rfl (fun c1 => ?_) (fun c1 => ?_)
  · replace h := (if_pos c1).symm.trans h
    refine pp_aload_n hF dX9_wants_28 rfl rfl ?_
    refine pp_getR hF fdM_X9_38 dX9_wants_29 ?_
    refine pp_aload_n hF dX9_wants_32 rfl rfl ?_
    refine pp_getR hF fdM_X9_47 dX9_wants_33 ?_
    refine pp_iload_n hF dX9_wants_36 rfl rfl ?_
    obtain ⟨hi2, h⟩ := pp_ck h
    refine pp_ialoadJ hF vM_50 hi2 (Nat.zero_add _) dX9_wants_37 ?_
    refine pp_aload_n hF dX9_wants_38 rfl rfl ?_
    refine pp_getR hF fdM_X9_50 dX9_wants_39 ?_
    refine pp_iload_n hF dX9_wants_42 rfl rfl ?_
    refine pp_ialoadJ hF vM_51 hi2 (Nat.zero_add _) dX9_wants_43 ?_
    obtain ⟨x44, hx44, h⟩ := pp_bd h
    refine pp_callSi hF (c_X9_place hx44) mS_X9_place lk_X9_162 rfl rfl ⟨by decide, by decide⟩ (Nat.le_of_ble_eq_true rfl) dX9_wants_44 ?_
    refine pp_iload_n hF dX9_wants_47 rfl rfl ?_
    refine pp_iadd hF dX9_wants_48 ?_
    refine pp_aload_n hF dX9_wants_49 rfl rfl ?_
    refine pp_getR hF fdM_X9_53 dX9_wants_50 ?_
    refine pp_iconst hF dX9_wants_53 ic_3 ?_
    refine pp_iload_n hF dX9_wants_54 rfl rfl ?_
    refine pp_imul hF dX9_wants_55 ?_
    refine pp_iload_n hF dX9_wants_56 rfl rfl ?_
    refine pp_iadd hF dX9_wants_57 ?_
    obtain ⟨hi4, h⟩ := pp_ck h
    refine pp_ialoadJ hF vM_52 hi4 (Nat.zero_add _) dX9_wants_58 ?_
    obtain ⟨hi5, h⟩ := pp_ck h
    refine pp_iastoreJ hF vM_47 hi5 (Nat.zero_add _) dX9_wants_59 ?_
    refine pp_iinc hF dX9_wants_60 rfl (congrArg (HAdd.hAdd _) ic_1) (by decide) (lv' := [(0, ppR 40 0 0), (1, ppI a1), (2, ppI (a2 + (1 : Int32)))]) rfl ?_
    refine pp_goto (tgt := 23) hF dX9_wants_63 rfl ?_
    exact hk23 h
  · replace h := (if_neg c1).symm.trans h
    refine pp_iinc hF dX9_wants_66 rfl (congrArg (HAdd.hAdd _) ic_1) (by decide) (lv' := [(0, ppR 40 0 0), (1, ppI (a1 + (1 : Int32))), (2, ppI a2)]) rfl ?_
    refine pp_goto (tgt := 13) hF dX9_wants_69 rfl ?_
    refine pp_few [0, 1] (lv' := [(0, ppR 40 0 0), (1, ppI (a1 + (1 : Int32)))]) rfl ?_
    exact hk13 h
set_option maxRecDepth 20000 in
theorem e_X9_wants_23_L {Γ : pp_G} {r' : Int32} {σ' : pp_M} (hF : pp_Fx Γ dsM cX9_wants 3 RX9 5 104) (hR : pp_Rt Γ dsM (some .int) (some (ppI r')) σ') {k13 : pp_M → Int32 → Option (Int32 × pp_M)} (hk13 : ∀ {σ : pp_M} {a1 : Int32}, k13 σ a1 = some (r', σ') → pp_E Γ dsM cX9_wants 3 13 [(0, ppR 40 0 0), (1, ppI a1)] [] σ) : ∀ {n : Nat} {σ : pp_M} {a1 : Int32} {a2 : Int32}, f_X9_wants_23 k13 n σ a1 a2 = some (r', σ') → pp_E Γ dsM cX9_wants 3 23 [(0, ppR 40 0 0), (1, ppI a1), (2, ppI a2)] [] σ
  | 0, _, _, _ => fun h => by cases h
  | n + 1, _, _, _ => fun h => e_X9_wants_23 hF hR hk13 (fun h => e_X9_wants_23_L hF hR hk13 (n := n) h) h
set_option maxRecDepth 20000 in
theorem e_X9_wants_13 {Γ : pp_G} {r' : Int32} {σ' : pp_M} (hF : pp_Fx Γ dsM cX9_wants 3 RX9 5 104) (hR : pp_Rt Γ dsM (some .int) (some (ppI r')) σ') {σ : pp_M} {a1 : Int32} {k13 : pp_M → Int32 → Option (Int32 × pp_M)} (hk13 : ∀ {σ : pp_M} {a1 : Int32}, k13 σ a1 = some (r', σ') → pp_E Γ dsM cX9_wants 3 13 [(0, ppR 40 0 0), (1, ppI a1)] [] σ) (h : f_X9_wants_13_B k13 σ a1 = some (r', σ')) : pp_E Γ dsM cX9_wants 3 13 [(0, ppR 40 0 0), (1, ppI a1)] [] σ := by
  unfold f_X9_wants_13_B at h
  refine pp_iload_n hF dX9_wants_13 rfl rfl ?_
  refine pp_aload_n hF dX9_wants_14 rfl rfl ?_
  refine pp_getI hF fdM_X9_153 dX9_wants_15 ?_
  refine pp_icmp_ge (tgt := 72) hF dX9_wants_18 rfl (fun c1 => ?_) (fun c1 => ?_)
  · replace h := (if_pos c1).symm.trans h
    refine pp_iconst hF dX9_wants_21 ic_0 ?_
    refine pp_istore_n hF dX9_wants_22 rfl (by decide) (lv' := [(0, ppR 40 0 0), (1, ppI a1), (2, ppI (0 : Int32))]) rfl ?_
    exact e_X9_wants_23_L hF hR hk13 h
  · replace h := (if_neg c1).symm.trans h
    refine pp_aload_n hF dX9_wants_72 rfl rfl ?_
    refine pp_iconst hF dX9_wants_73 ic_0 ?_
    refine pp_putI hF fwM_X9_132 dX9_wants_74 ?_
    refine pp_aload_n hF dX9_wants_77 rfl rfl ?_
    refine pp_getI hF fdM_X9_153 dX9_wants_78 ?_
    obtain ⟨rfl, rfl⟩ := pp_i2 h
    exact pp_ireturn hF hR dX9_wants_81
set_option maxRecDepth 20000 in
theorem e_X9_wants_13_L {Γ : pp_G} {r' : Int32} {σ' : pp_M} (hF : pp_Fx Γ dsM cX9_wants 3 RX9 5 104) (hR : pp_Rt Γ dsM (some .int) (some (ppI r')) σ') : ∀ {n : Nat} {σ : pp_M} {a1 : Int32}, f_X9_wants_13 n σ a1 = some (r', σ') → pp_E Γ dsM cX9_wants 3 13 [(0, ppR 40 0 0), (1, ppI a1)] [] σ
  | 0, _, _ => fun h => by cases h
  | n + 1, _, _ => fun h => e_X9_wants_13 hF hR (fun h => e_X9_wants_13_L hF hR (n := n) h) h
set_option maxRecDepth 20000 in
theorem e_X9_wants_0 {Γ : pp_G} {r' : Int32} {σ' : pp_M} (hF : pp_Fx Γ dsM cX9_wants 3 RX9 5 104) (hR : pp_Rt Γ dsM (some .int) (some (ppI r')) σ') {σ : pp_M}  (h : f_X9_wants σ  = some (r', σ')) : pp_E Γ dsM cX9_wants 3 0 [(0, ppR 40 0 0)] [] σ := by
  unfold f_X9_wants at h
  refine pp_aload_n hF dX9_wants_0 rfl rfl ?_
  obtain ⟨x1, hx1, h⟩ := pp_bd h
  refine pp_callVi hF (c_X9_faultNow hx1) mV_X9_faultNow lk_X9_159 obM_40 rfl rfl ⟨by decide, by decide⟩ (Nat.le_of_ble_eq_true rfl) dX9_wants_1 ?_
  refine pp_iconst hF dX9_wants_4 ic_n1 ?_
  refine pp_icmp_eq (tgt := 11) hF dX9_wants_5 rfl (fun c2 => ?_) (fun c2 => ?_)
  · replace h := (if_pos c2).symm.trans h
    refine pp_iconst hF dX9_wants_11 ic_0 ?_
    refine pp_istore_n hF dX9_wants_12 rfl (by decide) (lv' := [(0, ppR 40 0 0), (1, ppI (0 : Int32))]) rfl ?_
    exact e_X9_wants_13_L hF hR h
  · replace h := (if_neg c2).symm.trans h
    refine pp_bipush hF dX9_wants_8 bc_n3 ?_
    obtain ⟨rfl, rfl⟩ := pp_i2 h
    exact pp_ireturn hF hR dX9_wants_10
set_option maxRecDepth 20000 in
theorem c_X9_wants {r' : Int32} {σ' : pp_M} {σ : pp_M}  (h : f_X9_wants σ  = some (r', σ')) : pp_Ct yX9_wants cX9_wants 3 (some .int) 5 104 dsM [ppR 40 0 0] σ (some (ppI r')) σ' := pp_met pl_X9 rfl okM (Nat.le_of_ble_eq_true rfl) rfl (fun Γ hF hR => (e_X9_wants_0 hF hR h))
set_option maxRecDepth 20000 in
theorem e_X9_way_0 {Γ : pp_G} {r' : Int32} {σ' : pp_M} (hF : pp_Fx Γ dsM cX9_way 3 RX9 3 54) (hR : pp_Rt Γ dsM (some .int) (some (ppI r')) σ') {σ : pp_M} {a1 : Int32} {a2 : Int32} (h : f_X9_way σ a1 a2 = some (r', σ')) : pp_E Γ dsM cX9_way 3 0 [(0, ppR 40 0 0), (1, ppI a1), (2, ppI a2)] [] σ := by
  unfold f_X9_way at h
  refine pp_iload_n hF dX9_way_0 rfl rfl ?_
  obtain ⟨x1, hx1, h⟩ := pp_bd h
  refine pp_callSi hF (c_X9_isPlace hx1) mS_X9_isPlace lk_X9_126 rfl rfl ⟨by decide, by decide⟩ (Nat.le_of_ble_eq_true rfl) dX9_way_1 ?_
  refine pp_if_eq (tgt := 14) hF dX9_way_4 rfl (fun c2 => ?_) (fun c2 => ?_)
  · replace h := (if_pos c2).symm.trans h
    refine pp_bipush hF dX9_way_14 bc_n2 ?_
    obtain ⟨rfl, rfl⟩ := pp_i2 h
    exact pp_ireturn hF hR dX9_way_16
  · replace h := (if_neg c2).symm.trans h
    refine pp_iload_n hF dX9_way_7 rfl rfl ?_
    obtain ⟨x8, hx8, h⟩ := pp_bd h
    refine pp_callSi hF (c_X9_isPlace hx8) mS_X9_isPlace lk_X9_126 rfl rfl ⟨by decide, by decide⟩ (Nat.le_of_ble_eq_true rfl) dX9_way_8 ?_
    refine pp_if_ne (tgt := 17) hF dX9_way_11 rfl (fun c4 => ?_) (fun c4 => ?_)
    · replace h := (if_pos c4).symm.trans h
      refine pp_bipush hF dX9_way_14 bc_n2 ?_
      obtain ⟨rfl, rfl⟩ := pp_i2 h
      exact pp_ireturn hF hR dX9_way_16
    · replace h := (if_neg c4).symm.trans h
      refine pp_aload_n hF dX9_way_17 rfl rfl ?_
      obtain ⟨x18, hx18, h⟩ := pp_bd h
      refine pp_callVv hF (c_X9_laysWays hx18) mV_X9_laysWays lk_X9_129 obM_40 rfl rfl ⟨by decide, by decide⟩ (Nat.le_of_ble_eq_true rfl) dX9_way_18 ?_
      refine pp_aload_n hF dX9_way_21 rfl rfl ?_
      refine pp_getR hF fdM_X9_25 dX9_way_22 ?_
      refine pp_bipush hF dX9_way_25 bc_8 ?_
      refine pp_iload_n hF dX9_way_27 rfl rfl ?_
      refine pp_imul hF dX9_way_28 ?_
      refine pp_iload_n hF dX9_way_29 rfl rfl ?_
      refine pp_iadd hF dX9_way_30 ?_
      obtain ⟨hi6, h⟩ := pp_ck h
      refine pp_ialoadJ hF vM_46 hi6 (Nat.zero_add _) dX9_way_31 ?_
      obtain ⟨rfl, rfl⟩ := pp_i2 h
      exact pp_ireturn hF hR dX9_way_32
set_option maxRecDepth 20000 in
theorem c_X9_way {r' : Int32} {σ' : pp_M} {σ : pp_M} {a1 : Int32} {a2 : Int32} (h : f_X9_way σ a1 a2 = some (r', σ')) : pp_Ct yX9_way cX9_way 3 (some .int) 3 54 dsM [ppR 40 0 0, ppI a1, ppI a2] σ (some (ppI r')) σ' := pp_met pl_X9 rfl okM (Nat.le_of_ble_eq_true rfl) rfl (fun Γ hF hR => (e_X9_way_0 hF hR h))
set_option maxRecDepth 20000 in
theorem e_X9_wipe_0 {Γ : pp_G} {r' : Int32} {σ' : pp_M} (hF : pp_Fx Γ dsM cX9_wipe 2 RX9 1 12) (hR : pp_Rt Γ dsM (some .int) (some (ppI r')) σ') {σ : pp_M}  (h : f_X9_wipe σ  = some (r', σ')) : pp_E Γ dsM cX9_wipe 2 0 [(0, ppR 40 0 0)] [] σ := by
  unfold f_X9_wipe at h
  refine pp_aload_n hF dX9_wipe_0 rfl rfl ?_
  refine pp_getI hF fdM_X9_132 dX9_wipe_1 ?_
  refine pp_istore_n hF dX9_wipe_4 rfl (by decide) (lv' := [(0, ppR 40 0 0), (1, ppI (σ.1 40 11))]) rfl ?_
  refine pp_aload_n hF dX9_wipe_5 rfl rfl ?_
  refine pp_iconst hF dX9_wipe_6 ic_0 ?_
  refine pp_putI hF fwM_X9_132 dX9_wipe_7 ?_
  refine pp_iload_n hF dX9_wipe_10 rfl rfl ?_
  obtain ⟨rfl, rfl⟩ := pp_i2 h
  exact pp_ireturn hF hR dX9_wipe_11
set_option maxRecDepth 20000 in
theorem c_X9_wipe {r' : Int32} {σ' : pp_M} {σ : pp_M}  (h : f_X9_wipe σ  = some (r', σ')) : pp_Ct yX9_wipe cX9_wipe 2 (some .int) 1 12 dsM [ppR 40 0 0] σ (some (ppI r')) σ' := pp_met pl_X9 rfl okM (Nat.le_of_ble_eq_true rfl) rfl (fun Γ hF hR => (e_X9_wipe_0 hF hR h))
set_option maxRecDepth 20000 in
theorem e_X9_write_36 {Γ : pp_G} {r' : Int32} {σ' : pp_M} (hF : pp_Fx Γ dsM cX9_write 3 RX9 5 115) (hR : pp_Rt Γ dsM (some .int) (some (ppI r')) σ') {σ : pp_M} {a1 : Int32} {a2 : Int32} {k36 : pp_M → Int32 → Int32 → Option (Int32 × pp_M)} (hk36 : ∀ {σ : pp_M} {a1 : Int32} {a2 : Int32}, k36 σ a1 a2 = some (r', σ') → pp_E Γ dsM cX9_write 3 36 [(0, ppR 40 0 0), (1, ppI a1), (2, ppI a2)] [] σ) (h : f_X9_write_36_B k36 σ a1 a2 = some (r', σ')) : pp_E Γ dsM cX9_write 3 36 [(0, ppR 40 0 0), (1, ppI a1), (2, ppI a2)] [] σ := by
  unfold f_X9_write_36_B at h
  refine pp_iload_n hF dX9_write_36 rfl rfl ?_
  refine pp_bipush hF dX9_write_37 bc_6 ?_
  refine pp_icmp_ge (tgt := 70) hF dX9_write_39 rfl (fun c1 => ?_) (fun c1 => ?_)
  · replace h := (if_pos c1).symm.trans h
    refine pp_iload_n hF dX9_write_42 rfl rfl ?_
    refine pp_aload_n hF dX9_write_43 rfl rfl ?_
    refine pp_getR hF fdM_X9_103 dX9_write_44 ?_
    refine pp_iload_n hF dX9_write_47 rfl rfl ?_
    obtain ⟨hi2, h⟩ := pp_ck h
    refine pp_ialoadJ hF vM_68 hi2 (Nat.zero_add _) dX9_write_48 ?_
    refine pp_icmp_ge (tgt := 70) hF dX9_write_49 rfl (fun c3 => ?_) (fun c3 => ?_)
    · replace h := (if_pos c3).symm.trans h
      refine pp_aload_n hF dX9_write_52 rfl rfl ?_
      refine pp_iload_n hF dX9_write_53 rfl rfl ?_
      refine pp_iload_n hF dX9_write_54 rfl rfl ?_
      refine pp_aload_n hF dX9_write_55 rfl rfl ?_
      refine pp_getR hF fdM_X9_75 dX9_write_56 ?_
      refine pp_iload_n hF dX9_write_59 rfl rfl ?_
      obtain ⟨hi4, h⟩ := pp_ck h
      refine pp_ialoadJ hF vM_59 hi4 (Nat.zero_add _) dX9_write_60 ?_
      obtain ⟨x61, hx61, h⟩ := pp_bd h
      refine pp_callVv hF (c_X9_keep hx61) mV_X9_keep lk_X9_305 obM_40 rfl rfl ⟨by decide, by decide⟩ (Nat.le_of_ble_eq_true rfl) dX9_write_61 ?_
      refine pp_iinc hF dX9_write_64 rfl (congrArg (HAdd.hAdd _) ic_1) (by decide) (lv' := [(0, ppR 40 0 0), (1, ppI a1), (2, ppI (a2 + (1 : Int32)))]) rfl ?_
      refine pp_goto (tgt := 36) hF dX9_write_67 rfl ?_
      exact hk36 h
    · replace h := (if_neg c3).symm.trans h
      refine pp_iload_n hF dX9_write_70 rfl rfl ?_
      obtain ⟨rfl, rfl⟩ := pp_i2 h
      exact pp_ireturn hF hR dX9_write_71
  · replace h := (if_neg c1).symm.trans h
    refine pp_iload_n hF dX9_write_70 rfl rfl ?_
    obtain ⟨rfl, rfl⟩ := pp_i2 h
    exact pp_ireturn hF hR dX9_write_71
set_option maxRecDepth 20000 in
theorem e_X9_write_36_L {Γ : pp_G} {r' : Int32} {σ' : pp_M} (hF : pp_Fx Γ dsM cX9_write 3 RX9 5 115) (hR : pp_Rt Γ dsM (some .int) (some (ppI r')) σ') : ∀ {n : Nat} {σ : pp_M} {a1 : Int32} {a2 : Int32}, f_X9_write_36 n σ a1 a2 = some (r', σ') → pp_E Γ dsM cX9_write 3 36 [(0, ppR 40 0 0), (1, ppI a1), (2, ppI a2)] [] σ
  | 0, _, _, _ => fun h => by cases h
  | n + 1, _, _, _ => fun h => e_X9_write_36 hF hR (fun h => e_X9_write_36_L hF hR (n := n) h) h
set_option maxRecDepth 20000 in
theorem e_X9_write_0 {Γ : pp_G} {r' : Int32} {σ' : pp_M} (hF : pp_Fx Γ dsM cX9_write 3 RX9 5 115) (hR : pp_Rt Γ dsM (some .int) (some (ppI r')) σ') {σ : pp_M} {a1 : Int32} (h : f_X9_write σ a1 = some (r', σ')) : pp_E Γ dsM cX9_write 3 0 [(0, ppR 40 0 0), (1, ppI a1)] [] σ := by
  unfold f_X9_write at h
  refine pp_iload_n hF dX9_write_0 rfl rfl ?_
  obtain ⟨x1, hx1, h⟩ := pp_bd h
  refine pp_callSi hF (c_X9_isSheet hx1) mS_X9_isSheet lk_X9_165 rfl rfl ⟨by decide, by decide⟩ (Nat.le_of_ble_eq_true rfl) dX9_write_1 ?_
  refine pp_if_ne (tgt := 10) hF dX9_write_4 rfl (fun c2 => ?_) (fun c2 => ?_)
  · replace h := (if_pos c2).symm.trans h
    refine pp_bipush hF dX9_write_7 bc_n2 ?_
    obtain ⟨rfl, rfl⟩ := pp_i2 h
    exact pp_ireturn hF hR dX9_write_9
  · replace h := (if_neg c2).symm.trans h
    refine pp_aload_n hF dX9_write_10 rfl rfl ?_
    refine pp_getR hF fdM_X9_96 dX9_write_11 ?_
    refine pp_iload_n hF dX9_write_14 rfl rfl ?_
    obtain ⟨hi3, h⟩ := pp_ck h
    refine pp_baloadJ hF vM_66 hi3 (Nat.zero_add _) dX9_write_15 ?_
    refine pp_if_ne (tgt := 25) hF dX9_write_16 rfl (fun c4 => ?_) (fun c4 => ?_)
    · replace h := (if_pos c4).symm.trans h
      refine pp_aload_n hF dX9_write_19 rfl rfl ?_
      refine pp_iconst hF dX9_write_20 ic_1 ?_
      obtain ⟨x21, hx21, h⟩ := pp_bd h
      refine pp_callVi hF (c_X9_meets hx21) mV_X9_meets lk_X9_171 obM_40 rfl rfl ⟨by decide, by decide⟩ (Nat.le_of_ble_eq_true rfl) dX9_write_21 ?_
      obtain ⟨rfl, rfl⟩ := pp_i2 h
      exact pp_ireturn hF hR dX9_write_24
    · replace h := (if_neg c4).symm.trans h
      refine pp_aload_n hF dX9_write_25 rfl rfl ?_
      obtain ⟨x26, hx26, h⟩ := pp_bd h
      refine pp_callVv hF (c_X9_looksAtRow hx26) mV_X9_looksAtRow lk_X9_199 obM_40 rfl rfl ⟨by decide, by decide⟩ (Nat.le_of_ble_eq_true rfl) dX9_write_26 ?_
      refine pp_aload_n hF dX9_write_29 rfl rfl ?_
      refine pp_iconst hF dX9_write_30 ic_n1 ?_
      obtain ⟨x31, hx31, h⟩ := pp_bd h
      refine pp_callVv hF (c_X9_packs hx31) mV_X9_packs lk_X9_232 obM_40 rfl rfl ⟨by decide, by decide⟩ (Nat.le_of_ble_eq_true rfl) dX9_write_31 ?_
      refine pp_iconst hF dX9_write_34 ic_0 ?_
      refine pp_istore_n hF dX9_write_35 rfl (by decide) (lv' := [(0, ppR 40 0 0), (1, ppI a1), (2, ppI (0 : Int32))]) rfl ?_
      exact e_X9_write_36_L hF hR h
set_option maxRecDepth 20000 in
theorem c_X9_write {r' : Int32} {σ' : pp_M} {σ : pp_M} {a1 : Int32} (h : f_X9_write σ a1 = some (r', σ')) : pp_Ct yX9_write cX9_write 3 (some .int) 5 115 dsM [ppR 40 0 0, ppI a1] σ (some (ppI r')) σ' := pp_met pl_X9 rfl okM (Nat.le_of_ble_eq_true rfl) rfl (fun Γ hF hR => (e_X9_write_0 hF hR h))
set_option maxRecDepth 20000 in
theorem eN_X2_findWays_88 {Γ : pp_G} {σ' : pp_M} (hF : pp_Fx Γ dsN cX2_findWays 4 RX2 1 100) (hR : pp_Rt Γ dsN none none σ') {σ : pp_M} {a1 : Int32} {a2 : Int32} {a3 : Int32} {k72 : pp_M → Int32 → Option (pp_M)} (hk72 : ∀ {σ : pp_M} {a1 : Int32}, k72 σ a1 = some σ' → pp_E Γ dsN cX2_findWays 4 72 [(0, ppR 4 0 0), (1, ppI a1)] [] σ) {k80 : pp_M → Int32 → Int32 → Option (pp_M)} (hk80 : ∀ {σ : pp_M} {a1 : Int32} {a2 : Int32}, k80 σ a1 a2 = some σ' → pp_E Γ dsN cX2_findWays 4 80 [(0, ppR 4 0 0), (1, ppI a1), (2, ppI a2)] [] σ) {k88 : pp_M → Int32 → Int32 → Int32 → Option (pp_M)} (hk88 : ∀ {σ : pp_M} {a1 : Int32} {a2 : Int32} {a3 : Int32}, k88 σ a1 a2 a3 = some σ' → pp_E Γ dsN cX2_findWays 4 88 [(0, ppR 4 0 0), (1, ppI a1), (2, ppI a2), (3, ppI a3)] [] σ) (h : f_X2_findWays_88_B k72 k80 k88 σ a1 a2 a3 = some σ') : pp_E Γ dsN cX2_findWays 4 88 [(0, ppR 4 0 0), (1, ppI a1), (2, ppI a2), (3, ppI a3)] [] σ := by
  unfold f_X2_findWays_88_B at h
  refine pp_iload_n hF dX2_findWays_88 rfl rfl ?_
  refine pp_bipush hF dX2_findWays_89 bc_8 ?_
  refine pp_icmp_ge (tgt := 136) hF dX2_findWays_91 rfl (fun c1 => ?_) (fun c1 => ?_)
  · replace h := (if_pos c1).symm.trans h
    refine pp_aload_n hF dX2_findWays_94 rfl rfl ?_
    refine pp_getR hF fdN_X2_16 dX2_findWays_95 ?_
    refine pp_iload_n hF dX2_findWays_98 rfl rfl ?_
    obtain ⟨hi2, h⟩ := pp_ck h
    refine pp_aaloadI hF vN_7 hi2 dX2_findWays_99 ?_
    refine pp_iload_n hF dX2_findWays_100 rfl rfl ?_
    refine pp_aload_n hF dX2_findWays_101 rfl rfl ?_
    refine pp_getR hF fdN_X2_16 dX2_findWays_102 ?_
    refine pp_iload_n hF dX2_findWays_105 rfl rfl ?_
    refine pp_aaloadI hF vN_7 hi2 dX2_findWays_106 ?_
    refine pp_iload_n hF dX2_findWays_107 rfl rfl ?_
    obtain ⟨hi3, h⟩ := pp_ck h
    refine pp_ialoadJ hF (vN_8 _ (vp_lt hi2)) hi3 rfl dX2_findWays_108 ?_
    refine pp_aload_n hF dX2_findWays_109 rfl rfl ?_
    refine pp_getR hF fdN_X2_16 dX2_findWays_110 ?_
    refine pp_iload_n hF dX2_findWays_113 rfl rfl ?_
    refine pp_aaloadI hF vN_7 hi2 dX2_findWays_114 ?_
    refine pp_iload_n hF dX2_findWays_115 rfl rfl ?_
    obtain ⟨hi4, h⟩ := pp_ck h
    refine pp_ialoadJ hF (vN_8 _ (vp_lt hi2)) hi4 rfl dX2_findWays_116 ?_
    refine pp_aload_n hF dX2_findWays_117 rfl rfl ?_
    refine pp_getR hF fdN_X2_16 dX2_findWays_118 ?_
    refine pp_iload_n hF dX2_findWays_121 rfl rfl ?_
    refine pp_aaloadI hF vN_7 hi4 dX2_findWays_122 ?_
    refine pp_iload_n hF dX2_findWays_123 rfl rfl ?_
    refine pp_ialoadJ hF (vN_8 _ (vp_lt hi4)) hi3 rfl dX2_findWays_124 ?_
    refine pp_iadd hF dX2_findWays_125 ?_
    refine pp_mmin hF wm_105 wm_106 wm_60 wq_min ⟨by decide, by decide⟩ (Nat.le_of_ble_eq_true rfl) dX2_findWays_126 ?_
    refine pp_iastoreJ hF (vN_8 _ (vp_lt hi2)) hi3 rfl dX2_findWays_129 ?_
    refine pp_iinc hF dX2_findWays_130 rfl (congrArg (HAdd.hAdd _) ic_1) (by decide) (lv' := [(0, ppR 4 0 0), (1, ppI a1), (2, ppI a2), (3, ppI (a3 + (1 : Int32)))]) rfl ?_
    refine pp_goto (tgt := 88) hF dX2_findWays_133 rfl ?_
    exact hk88 h
  · replace h := (if_neg c1).symm.trans h
    refine pp_iinc hF dX2_findWays_136 rfl (congrArg (HAdd.hAdd _) ic_1) (by decide) (lv' := [(0, ppR 4 0 0), (1, ppI a1), (2, ppI (a2 + (1 : Int32))), (3, ppI a3)]) rfl ?_
    refine pp_goto (tgt := 80) hF dX2_findWays_139 rfl ?_
    refine pp_few [0, 1, 2] (lv' := [(0, ppR 4 0 0), (1, ppI a1), (2, ppI (a2 + (1 : Int32)))]) rfl ?_
    exact hk80 h
set_option maxRecDepth 20000 in
theorem eN_X2_findWays_88_L {Γ : pp_G} {σ' : pp_M} (hF : pp_Fx Γ dsN cX2_findWays 4 RX2 1 100) (hR : pp_Rt Γ dsN none none σ') {k72 : pp_M → Int32 → Option (pp_M)} (hk72 : ∀ {σ : pp_M} {a1 : Int32}, k72 σ a1 = some σ' → pp_E Γ dsN cX2_findWays 4 72 [(0, ppR 4 0 0), (1, ppI a1)] [] σ) {k80 : pp_M → Int32 → Int32 → Option (pp_M)} (hk80 : ∀ {σ : pp_M} {a1 : Int32} {a2 : Int32}, k80 σ a1 a2 = some σ' → pp_E Γ dsN cX2_findWays 4 80 [(0, ppR 4 0 0), (1, ppI a1), (2, ppI a2)] [] σ) : ∀ {n : Nat} {σ : pp_M} {a1 : Int32} {a2 : Int32} {a3 : Int32}, f_X2_findWays_88 k72 k80 n σ a1 a2 a3 = some σ' → pp_E Γ dsN cX2_findWays 4 88 [(0, ppR 4 0 0), (1, ppI a1), (2, ppI a2), (3, ppI a3)] [] σ
  | 0, _, _, _, _ => fun h => by cases h
  | n + 1, _, _, _, _ => fun h => eN_X2_findWays_88 hF hR hk72 hk80 (fun h => eN_X2_findWays_88_L hF hR hk72 hk80 (n := n) h) h
set_option maxRecDepth 20000 in
theorem eN_X2_findWays_80 {Γ : pp_G} {σ' : pp_M} (hF : pp_Fx Γ dsN cX2_findWays 4 RX2 1 100) (hR : pp_Rt Γ dsN none none σ') {σ : pp_M} {a1 : Int32} {a2 : Int32} {k72 : pp_M → Int32 → Option (pp_M)} (hk72 : ∀ {σ : pp_M} {a1 : Int32}, k72 σ a1 = some σ' → pp_E Γ dsN cX2_findWays 4 72 [(0, ppR 4 0 0), (1, ppI a1)] [] σ) {k80 : pp_M → Int32 → Int32 → Option (pp_M)} (hk80 : ∀ {σ : pp_M} {a1 : Int32} {a2 : Int32}, k80 σ a1 a2 = some σ' → pp_E Γ dsN cX2_findWays 4 80 [(0, ppR 4 0 0), (1, ppI a1), (2, ppI a2)] [] σ) (h : f_X2_findWays_80_B k72 k80 σ a1 a2 = some σ') : pp_E Γ dsN cX2_findWays 4 80 [(0, ppR 4 0 0), (1, ppI a1), (2, ppI a2)] [] σ := by
  unfold f_X2_findWays_80_B at h
  refine pp_iload_n hF dX2_findWays_80 rfl rfl ?_
  refine pp_bipush hF dX2_findWays_81 bc_8 ?_
  refine pp_icmp_ge (tgt := 142) hF dX2_findWays_83 rfl (fun c1 => ?_) (fun c1 => ?_)
  · replace h := (if_pos c1).symm.trans h
    refine pp_iconst hF dX2_findWays_86 ic_0 ?_
    refine pp_istore_n hF dX2_findWays_87 rfl (by decide) (lv' := [(0, ppR 4 0 0), (1, ppI a1), (2, ppI a2), (3, ppI (0 : Int32))]) rfl ?_
    exact eN_X2_findWays_88_L hF hR hk72 hk80 h
  · replace h := (if_neg c1).symm.trans h
    refine pp_iinc hF dX2_findWays_142 rfl (congrArg (HAdd.hAdd _) ic_1) (by decide) (lv' := [(0, ppR 4 0 0), (1, ppI (a1 + (1 : Int32))), (2, ppI a2)]) rfl ?_
    refine pp_goto (tgt := 72) hF dX2_findWays_145 rfl ?_
    refine pp_few [0, 1] (lv' := [(0, ppR 4 0 0), (1, ppI (a1 + (1 : Int32)))]) rfl ?_
    exact hk72 h
set_option maxRecDepth 20000 in
theorem eN_X2_findWays_80_L {Γ : pp_G} {σ' : pp_M} (hF : pp_Fx Γ dsN cX2_findWays 4 RX2 1 100) (hR : pp_Rt Γ dsN none none σ') {k72 : pp_M → Int32 → Option (pp_M)} (hk72 : ∀ {σ : pp_M} {a1 : Int32}, k72 σ a1 = some σ' → pp_E Γ dsN cX2_findWays 4 72 [(0, ppR 4 0 0), (1, ppI a1)] [] σ) : ∀ {n : Nat} {σ : pp_M} {a1 : Int32} {a2 : Int32}, f_X2_findWays_80 k72 n σ a1 a2 = some σ' → pp_E Γ dsN cX2_findWays 4 80 [(0, ppR 4 0 0), (1, ppI a1), (2, ppI a2)] [] σ
  | 0, _, _, _ => fun h => by cases h
  | n + 1, _, _, _ => fun h => eN_X2_findWays_80 hF hR hk72 (fun h => eN_X2_findWays_80_L hF hR hk72 (n := n) h) h
set_option maxRecDepth 20000 in
theorem eN_X2_findWays_72 {Γ : pp_G} {σ' : pp_M} (hF : pp_Fx Γ dsN cX2_findWays 4 RX2 1 100) (hR : pp_Rt Γ dsN none none σ') {σ : pp_M} {a1 : Int32} {k72 : pp_M → Int32 → Option (pp_M)} (hk72 : ∀ {σ : pp_M} {a1 : Int32}, k72 σ a1 = some σ' → pp_E Γ dsN cX2_findWays 4 72 [(0, ppR 4 0 0), (1, ppI a1)] [] σ) (h : f_X2_findWays_72_B k72 σ a1 = some σ') : pp_E Γ dsN cX2_findWays 4 72 [(0, ppR 4 0 0), (1, ppI a1)] [] σ := by
  unfold f_X2_findWays_72_B at h
  refine pp_iload_n hF dX2_findWays_72 rfl rfl ?_
  refine pp_bipush hF dX2_findWays_73 bc_8 ?_
  refine pp_icmp_ge (tgt := 148) hF dX2_findWays_75 rfl (fun c1 => ?_) (fun c1 => ?_)
  · replace h := (if_pos c1).symm.trans h
    refine pp_iconst hF dX2_findWays_78 ic_0 ?_
    refine pp_istore_n hF dX2_findWays_79 rfl (by decide) (lv' := [(0, ppR 4 0 0), (1, ppI a1), (2, ppI (0 : Int32))]) rfl ?_
    exact eN_X2_findWays_80_L hF hR hk72 h
  · replace h := (if_neg c1).symm.trans h
    obtain rfl := (Option.some.inj h).symm
    exact pp_return hF hR dX2_findWays_148
set_option maxRecDepth 20000 in
theorem eN_X2_findWays_72_L {Γ : pp_G} {σ' : pp_M} (hF : pp_Fx Γ dsN cX2_findWays 4 RX2 1 100) (hR : pp_Rt Γ dsN none none σ') : ∀ {n : Nat} {σ : pp_M} {a1 : Int32}, f_X2_findWays_72 n σ a1 = some σ' → pp_E Γ dsN cX2_findWays 4 72 [(0, ppR 4 0 0), (1, ppI a1)] [] σ
  | 0, _, _ => fun h => by cases h
  | n + 1, _, _ => fun h => eN_X2_findWays_72 hF hR (fun h => eN_X2_findWays_72_L hF hR (n := n) h) h
set_option maxRecDepth 20000 in
theorem eN_X2_findWays_57 {Γ : pp_G} {σ' : pp_M} (hF : pp_Fx Γ dsN cX2_findWays 4 RX2 1 100) (hR : pp_Rt Γ dsN none none σ') {σ : pp_M} {a1 : Int32} {a2 : Int32} {b0o : Nat} {b1 : Int32} {b2 : Int32} {k2 : pp_M → Int32 → Option (pp_M)} (hk2 : ∀ {σ : pp_M} {a1 : Int32}, k2 σ a1 = some σ' → pp_E Γ dsN cX2_findWays 4 2 [(0, ppR 4 0 0), (1, ppI a1)] [] σ) {k10 : pp_M → Int32 → Int32 → Option (pp_M)} (hk10 : ∀ {σ : pp_M} {a1 : Int32} {a2 : Int32}, k10 σ a1 a2 = some σ' → pp_E Γ dsN cX2_findWays 4 10 [(0, ppR 4 0 0), (1, ppI a1), (2, ppI a2)] [] σ) (hb0 : pp_ai dsN 8 b0o 8) (h : f_X2_findWays_57 k2 k10 σ a1 a2 b0o b1 b2 = some σ') : pp_E Γ dsN cX2_findWays 4 57 [(0, ppR 4 0 0), (1, ppI a1), (2, ppI a2)] [ppI b2, ppI b1, ppR 8 b0o 8] σ := by
  unfold f_X2_findWays_57 at h
  obtain ⟨hi1, h⟩ := pp_ck h
  refine pp_iastoreJ hF hb0 hi1 rfl dX2_findWays_57 ?_
  refine pp_iinc hF dX2_findWays_58 rfl (congrArg (HAdd.hAdd _) ic_1) (by decide) (lv' := [(0, ppR 4 0 0), (1, ppI a1), (2, ppI (a2 + (1 : Int32)))]) rfl ?_
  refine pp_goto (tgt := 10) hF dX2_findWays_61 rfl ?_
  exact hk10 h
set_option maxRecDepth 20000 in
theorem eN_X2_findWays_10 {Γ : pp_G} {σ' : pp_M} (hF : pp_Fx Γ dsN cX2_findWays 4 RX2 1 100) (hR : pp_Rt Γ dsN none none σ') {σ : pp_M} {a1 : Int32} {a2 : Int32} {k2 : pp_M → Int32 → Option (pp_M)} (hk2 : ∀ {σ : pp_M} {a1 : Int32}, k2 σ a1 = some σ' → pp_E Γ dsN cX2_findWays 4 2 [(0, ppR 4 0 0), (1, ppI a1)] [] σ) {k10 : pp_M → Int32 → Int32 → Option (pp_M)} (hk10 : ∀ {σ : pp_M} {a1 : Int32} {a2 : Int32}, k10 σ a1 a2 = some σ' → pp_E Γ dsN cX2_findWays 4 10 [(0, ppR 4 0 0), (1, ppI a1), (2, ppI a2)] [] σ) (h : f_X2_findWays_10_B k2 k10 σ a1 a2 = some σ') : pp_E Γ dsN cX2_findWays 4 10 [(0, ppR 4 0 0), (1, ppI a1), (2, ppI a2)] [] σ := by
  unfold f_X2_findWays_10_B at h
  refine pp_iload_n hF dX2_findWays_10 rfl rfl ?_
  refine pp_bipush hF dX2_findWays_11 bc_8 ?_
  refine pp_icmp_ge (tgt := 64) hF dX2_findWays_13 rfl (fun c1 => ?_) (fun c1 => ?_)
  · replace h := (if_pos c1).symm.trans h
    refine pp_aload_n hF dX2_findWays_16 rfl rfl ?_
    refine pp_getR hF fdN_X2_16 dX2_findWays_17 ?_
    refine pp_iload_n hF dX2_findWays_20 rfl rfl ?_
    obtain ⟨hi2, h⟩ := pp_ck h
    refine pp_aaloadI hF vN_7 hi2 dX2_findWays_21 ?_
    refine pp_iload_n hF dX2_findWays_22 rfl rfl ?_
    refine pp_iload_n hF dX2_findWays_23 rfl rfl ?_
    refine pp_iload_n hF dX2_findWays_24 rfl rfl ?_
    refine pp_icmp_ne (tgt := 32) hF dX2_findWays_25 rfl (fun c3 => ?_) (fun c3 => ?_)
    · replace h := (if_pos c3).symm.trans h
      refine pp_iconst hF dX2_findWays_28 ic_0 ?_
      refine pp_goto (tgt := 57) hF dX2_findWays_29 rfl ?_
      exact eN_X2_findWays_57 hF hR hk2 hk10 (vN_8 _ (vp_lt hi2)) h
    · replace h := (if_neg c3).symm.trans h
      refine pp_aload_n hF dX2_findWays_32 rfl rfl ?_
      refine pp_getR hF fdN_X2_11 dX2_findWays_33 ?_
      refine pp_iload_n hF dX2_findWays_36 rfl rfl ?_
      refine pp_aaloadI hF vN_5 hi2 dX2_findWays_37 ?_
      refine pp_iload_n hF dX2_findWays_38 rfl rfl ?_
      obtain ⟨hi4, h⟩ := pp_ck h
      refine pp_ialoadJ hF (vN_6 _ (vp_lt hi2)) hi4 rfl dX2_findWays_39 ?_
      refine pp_if_le (tgt := 54) hF dX2_findWays_40 rfl (fun c5 => ?_) (fun c5 => ?_)
      · replace h := (if_pos c5).symm.trans h
        refine pp_aload_n hF dX2_findWays_43 rfl rfl ?_
        refine pp_getR hF fdN_X2_11 dX2_findWays_44 ?_
        refine pp_iload_n hF dX2_findWays_47 rfl rfl ?_
        refine pp_aaloadI hF vN_5 hi2 dX2_findWays_48 ?_
        refine pp_iload_n hF dX2_findWays_49 rfl rfl ?_
        refine pp_ialoadJ hF (vN_6 _ (vp_lt hi2)) hi4 rfl dX2_findWays_50 ?_
        refine pp_goto (tgt := 57) hF dX2_findWays_51 rfl ?_
        exact eN_X2_findWays_57 hF hR hk2 hk10 (vN_8 _ (vp_lt hi2)) h
      · replace h := (if_neg c5).symm.trans h
        refine pp_sipush hF dX2_findWays_54 sc_1000 ?_
        exact eN_X2_findWays_57 hF hR hk2 hk10 (vN_8 _ (vp_lt hi2)) h
  · replace h := (if_neg c1).symm.trans h
    refine pp_iinc hF dX2_findWays_64 rfl (congrArg (HAdd.hAdd _) ic_1) (by decide) (lv' := [(0, ppR 4 0 0), (1, ppI (a1 + (1 : Int32))), (2, ppI a2)]) rfl ?_
    refine pp_goto (tgt := 2) hF dX2_findWays_67 rfl ?_
    refine pp_few [0, 1] (lv' := [(0, ppR 4 0 0), (1, ppI (a1 + (1 : Int32)))]) rfl ?_
    exact hk2 h
set_option maxRecDepth 20000 in
theorem eN_X2_findWays_10_L {Γ : pp_G} {σ' : pp_M} (hF : pp_Fx Γ dsN cX2_findWays 4 RX2 1 100) (hR : pp_Rt Γ dsN none none σ') {k2 : pp_M → Int32 → Option (pp_M)} (hk2 : ∀ {σ : pp_M} {a1 : Int32}, k2 σ a1 = some σ' → pp_E Γ dsN cX2_findWays 4 2 [(0, ppR 4 0 0), (1, ppI a1)] [] σ) : ∀ {n : Nat} {σ : pp_M} {a1 : Int32} {a2 : Int32}, f_X2_findWays_10 k2 n σ a1 a2 = some σ' → pp_E Γ dsN cX2_findWays 4 10 [(0, ppR 4 0 0), (1, ppI a1), (2, ppI a2)] [] σ
  | 0, _, _, _ => fun h => by cases h
  | n + 1, _, _, _ => fun h => eN_X2_findWays_10 hF hR hk2 (fun h => eN_X2_findWays_10_L hF hR hk2 (n := n) h) h
set_option maxRecDepth 20000 in
theorem eN_X2_findWays_2 {Γ : pp_G} {σ' : pp_M} (hF : pp_Fx Γ dsN cX2_findWays 4 RX2 1 100) (hR : pp_Rt Γ dsN none none σ') {σ : pp_M} {a1 : Int32} {k2 : pp_M → Int32 → Option (pp_M)} (hk2 : ∀ {σ : pp_M} {a1 : Int32}, k2 σ a1 = some σ' → pp_E Γ dsN cX2_findWays 4 2 [(0, ppR 4 0 0), (1, ppI a1)] [] σ) (h : f_X2_findWays_2_B k2 σ a1 = some σ') : pp_E Γ dsN cX2_findWays 4 2 [(0, ppR 4 0 0), (1, ppI a1)] [] σ := by
  unfold f_X2_findWays_2_B at h
  refine pp_iload_n hF dX2_findWays_2 rfl rfl ?_
  refine pp_bipush hF dX2_findWays_3 bc_8 ?_
  refine pp_icmp_ge (tgt := 70) hF dX2_findWays_5 rfl (fun c1 => ?_) (fun c1 => ?_)
  · replace h := (if_pos c1).symm.trans h
    refine pp_iconst hF dX2_findWays_8 ic_0 ?_
    refine pp_istore_n hF dX2_findWays_9 rfl (by decide) (lv' := [(0, ppR 4 0 0), (1, ppI a1), (2, ppI (0 : Int32))]) rfl ?_
    exact eN_X2_findWays_10_L hF hR hk2 h
  · replace h := (if_neg c1).symm.trans h
    refine pp_iconst hF dX2_findWays_70 ic_0 ?_
    refine pp_istore_n hF dX2_findWays_71 rfl (by decide) (lv' := [(0, ppR 4 0 0), (1, ppI (0 : Int32))]) rfl ?_
    exact eN_X2_findWays_72_L hF hR h
set_option maxRecDepth 20000 in
theorem eN_X2_findWays_2_L {Γ : pp_G} {σ' : pp_M} (hF : pp_Fx Γ dsN cX2_findWays 4 RX2 1 100) (hR : pp_Rt Γ dsN none none σ') : ∀ {n : Nat} {σ : pp_M} {a1 : Int32}, f_X2_findWays_2 n σ a1 = some σ' → pp_E Γ dsN cX2_findWays 4 2 [(0, ppR 4 0 0), (1, ppI a1)] [] σ
  | 0, _, _ => fun h => by cases h
  | n + 1, _, _ => fun h => eN_X2_findWays_2 hF hR (fun h => eN_X2_findWays_2_L hF hR (n := n) h) h
set_option maxRecDepth 20000 in
theorem eN_X2_findWays_0 {Γ : pp_G} {σ' : pp_M} (hF : pp_Fx Γ dsN cX2_findWays 4 RX2 1 100) (hR : pp_Rt Γ dsN none none σ') {σ : pp_M}  (h : f_X2_findWays σ  = some σ') : pp_E Γ dsN cX2_findWays 4 0 [(0, ppR 4 0 0)] [] σ := by
  unfold f_X2_findWays at h
  refine pp_iconst hF dX2_findWays_0 ic_0 ?_
  refine pp_istore_n hF dX2_findWays_1 rfl (by decide) (lv' := [(0, ppR 4 0 0), (1, ppI (0 : Int32))]) rfl ?_
  exact eN_X2_findWays_2_L hF hR h
set_option maxRecDepth 20000 in
theorem cN_X2_findWays {σ' : pp_M} {σ : pp_M}  (h : f_X2_findWays σ  = some σ') : pp_Ct yX2_findWays cX2_findWays 4 none 1 100 dsN [ppR 4 0 0] σ none σ' := pp_met pl_X2 rfl okN (Nat.le_of_ble_eq_true rfl) rfl (fun Γ hF hR => (eN_X2_findWays_0 hF hR h))
