/-! what stage II gives: every call of the class is answered as the reference answers it -/
def pp_H (Rel : pp_M → pp_M → Prop) : Prop :=
  (∀ (σ μ : pp_M) (a1 a2 a3 : Int32), Rel σ μ → ∃ (r : Int32) (σ' μ' : pp_M), f_X8_thing σ a1 a2 a3 = some (r, σ') ∧ f_X9_thing μ a1 a2 a3 = some (r, μ') ∧ Rel σ' μ') ∧
  (∀ (σ μ : pp_M) (a1 a2 a3 : Int32), Rel σ μ → ∃ (r : Int32) (σ' μ' : pp_M), f_X8_road σ a1 a2 a3 = some (r, σ') ∧ f_X9_road μ a1 a2 a3 = some (r, μ') ∧ Rel σ' μ') ∧
  (∀ (σ μ : pp_M) (a1 a2 : Int32), Rel σ μ → ∃ (r : Int32) (σ' μ' : pp_M), f_X8_way σ a1 a2 = some (r, σ') ∧ f_X9_way μ a1 a2 = some (r, μ') ∧ Rel σ' μ') ∧
  (∀ (σ μ : pp_M) (a1 a2 : Int32), Rel σ μ → ∃ (r : Int32) (σ' μ' : pp_M), f_X8_set σ a1 a2 = some (r, σ') ∧ f_X9_set μ a1 a2 = some (r, μ') ∧ Rel σ' μ') ∧
  (∀ (σ μ : pp_M) (a1 : Int32), Rel σ μ → ∃ (r : Int32) (σ' μ' : pp_M), f_X8_type σ a1 = some (r, σ') ∧ f_X9_type μ a1 = some (r, μ') ∧ Rel σ' μ') ∧
  (∀ (σ μ : pp_M), Rel σ μ → ∃ (r : Int32) (σ' μ' : pp_M), f_X8_wipe σ  = some (r, σ') ∧ f_X9_wipe μ  = some (r, μ') ∧ Rel σ' μ') ∧
  (∀ (σ μ : pp_M), Rel σ μ → ∃ (r : Int32) (σ' μ' : pp_M), f_X8_fault σ  = some (r, σ') ∧ f_X9_fault μ  = some (r, μ') ∧ Rel σ' μ') ∧
  (∀ (σ μ : pp_M), Rel σ μ → ∃ (r : Int32) (σ' μ' : pp_M), f_X8_wants σ  = some (r, σ') ∧ f_X9_wants μ  = some (r, μ') ∧ Rel σ' μ') ∧
  (∀ (σ μ : pp_M) (a1 a2 : Int32), Rel σ μ → ∃ (r : Int32) (σ' μ' : pp_M), f_X8_read σ a1 a2 = some (r, σ') ∧ f_X9_read μ a1 a2 = some (r, μ') ∧ Rel σ' μ') ∧
  (∀ (σ μ : pp_M) (a1 a2 a3 : Int32), Rel σ μ → ∃ (r : Int32) (σ' μ' : pp_M), f_X8_chance σ a1 a2 a3 = some (r, σ') ∧ f_X9_chance μ a1 a2 a3 = some (r, μ') ∧ Rel σ' μ') ∧
  (∀ (σ μ : pp_M) (a1 a2 : Int32), Rel σ μ → ∃ (r : Int32) (σ' μ' : pp_M), f_X8_shop σ a1 a2 = some (r, σ') ∧ f_X9_shop μ a1 a2 = some (r, μ') ∧ Rel σ' μ') ∧
  (∀ (σ μ : pp_M) (a1 : Int32), Rel σ μ → ∃ (r : Int32) (σ' μ' : pp_M), f_X8_row σ a1 = some (r, σ') ∧ f_X9_row μ a1 = some (r, μ') ∧ Rel σ' μ') ∧
  (∀ (σ μ : pp_M) (a1 : Int32), Rel σ μ → ∃ (r : Int32) (σ' μ' : pp_M), f_X8_pack σ a1 = some (r, σ') ∧ f_X9_pack μ a1 = some (r, μ') ∧ Rel σ' μ') ∧
  (∀ (σ μ : pp_M), Rel σ μ → ∃ (r : Int32) (σ' μ' : pp_M), f_X8_judged σ  = some (r, σ') ∧ f_X9_judged μ  = some (r, μ') ∧ Rel σ' μ') ∧
  (∀ (σ μ : pp_M), Rel σ μ → ∃ (r : Int32) (σ' μ' : pp_M), f_X8_hours σ  = some (r, σ') ∧ f_X9_hours μ  = some (r, μ') ∧ Rel σ' μ') ∧
  (∀ (σ μ : pp_M) (a1 a2 a3 a4 a5 : Int32), Rel σ μ → ∃ (r : Int64) (σ' μ' : pp_M), f_X8_sold σ a1 a2 a3 a4 a5 = some (r, σ') ∧ f_X9_sold μ a1 a2 a3 a4 a5 = some (r, μ') ∧ Rel σ' μ') ∧
  (∀ (σ μ : pp_M) (a1 a2 a3 : Int32), Rel σ μ → ∃ (r : Int32) (σ' μ' : pp_M), f_X8_ask σ a1 a2 a3 = some (r, σ') ∧ f_X9_ask μ a1 a2 a3 = some (r, μ') ∧ Rel σ' μ') ∧
  (∀ (σ μ : pp_M) (a1 a2 a3 a4 : Int32), Rel σ μ → ∃ (r : Int64) (σ' μ' : pp_M), f_X8_value σ a1 a2 a3 a4 = some (r, σ') ∧ f_X9_value μ a1 a2 a3 a4 = some (r, μ') ∧ Rel σ' μ') ∧
  (∀ (σ μ : pp_M) (a1 : Int32), Rel σ μ → ∃ (r : Int64) (σ' μ' : pp_M), f_X8_gain σ a1 = some (r, σ') ∧ f_X9_gain μ a1 = some (r, μ') ∧ Rel σ' μ') ∧
  (∀ (σ μ : pp_M) (a1 : Int32), Rel σ μ → ∃ (r : Int32) (σ' μ' : pp_M), f_X8_best σ a1 = some (r, σ') ∧ f_X9_best μ a1 = some (r, μ') ∧ Rel σ' μ') ∧
  (∀ (σ μ : pp_M) (a1 a2 : Int32), Rel σ μ → ∃ (r : Int64) (σ' μ' : pp_M), f_X8_load σ a1 a2 = some (r, σ') ∧ f_X9_load μ a1 a2 = some (r, μ') ∧ Rel σ' μ') ∧
  (∀ (σ μ : pp_M) (a1 : Int32), Rel σ μ → ∃ (r : Int32) (σ' μ' : pp_M), f_X8_loaded σ a1 = some (r, σ') ∧ f_X9_loaded μ a1 = some (r, μ') ∧ Rel σ' μ') ∧
  (∀ (σ μ : pp_M) (a1 : Int32), Rel σ μ → ∃ (r : Int32) (σ' μ' : pp_M), f_X8_round σ a1 = some (r, σ') ∧ f_X9_round μ a1 = some (r, μ') ∧ Rel σ' μ') ∧
  (∀ (σ μ : pp_M) (a1 : Int32), Rel σ μ → ∃ (r : Int64) (σ' μ' : pp_M), f_X8_rounds σ a1 = some (r, σ') ∧ f_X9_rounds μ a1 = some (r, μ') ∧ Rel σ' μ') ∧
  (∀ (σ μ : pp_M) (a1 a2 : Int32), Rel σ μ → ∃ (r : Int32) (σ' μ' : pp_M), f_X8_onward σ a1 a2 = some (r, σ') ∧ f_X9_onward μ a1 a2 = some (r, μ') ∧ Rel σ' μ') ∧
  (∀ (σ μ : pp_M) (a1 a2 a3 a4 a5 : Int32), Rel σ μ → ∃ (r : Int32) (σ' μ' : pp_M), f_X8_trust σ a1 a2 a3 a4 a5 = some (r, σ') ∧ f_X9_trust μ a1 a2 a3 a4 a5 = some (r, μ') ∧ Rel σ' μ') ∧
  (∀ (σ μ : pp_M) (a1 : Int32), Rel σ μ → ∃ (r : Int32) (σ' μ' : pp_M), f_X8_two σ a1 = some (r, σ') ∧ f_X9_two μ a1 = some (r, μ') ∧ Rel σ' μ') ∧
  (∀ (σ μ : pp_M) (a1 : Int32), Rel σ μ → ∃ (r : Int64) (σ' μ' : pp_M), f_X8_both σ a1 = some (r, σ') ∧ f_X9_both μ a1 = some (r, μ') ∧ Rel σ' μ') ∧
  (∀ (σ μ : pp_M) (a1 a2 : Int32), Rel σ μ → ∃ (r : Int64) (σ' μ' : pp_M), f_X8_brings σ a1 a2 = some (r, σ') ∧ f_X9_brings μ a1 a2 = some (r, μ') ∧ Rel σ' μ') ∧
  (∀ (σ μ : pp_M), Rel σ μ → ∃ (r : Int32) (σ' μ' : pp_M), f_X8_straps σ  = some (r, σ') ∧ f_X9_straps μ  = some (r, μ') ∧ Rel σ' μ') ∧
  (∀ (σ μ : pp_M) (a1 a2 a3 : Int32), Rel σ μ → ∃ (r : Int32) (σ' μ' : pp_M), f_X8_sheet σ a1 a2 a3 = some (r, σ') ∧ f_X9_sheet μ a1 a2 a3 = some (r, μ') ∧ Rel σ' μ') ∧
  (∀ (σ μ : pp_M) (a1 : Int32), Rel σ μ → ∃ (r : Int32) (σ' μ' : pp_M), f_X8_lose σ a1 = some (r, σ') ∧ f_X9_lose μ a1 = some (r, μ') ∧ Rel σ' μ') ∧
  (∀ (σ μ : pp_M) (a1 a2 a3 a4 : Int32), Rel σ μ → ∃ (r : Int32) (σ' μ' : pp_M), f_X8_put σ a1 a2 a3 a4 = some (r, σ') ∧ f_X9_put μ a1 a2 a3 a4 = some (r, μ') ∧ Rel σ' μ') ∧
  (∀ (σ μ : pp_M) (a1 a2 a3 : Int32), Rel σ μ → ∃ (r : Int32) (σ' μ' : pp_M), f_X8_get σ a1 a2 a3 = some (r, σ') ∧ f_X9_get μ a1 a2 a3 = some (r, μ') ∧ Rel σ' μ') ∧
  (∀ (σ μ : pp_M) (a1 a2 a3 a4 a5 : Int32), Rel σ μ → ∃ (r : Int32) (σ' μ' : pp_M), f_X8_copy σ a1 a2 a3 a4 a5 = some (r, σ') ∧ f_X9_copy μ a1 a2 a3 a4 a5 = some (r, μ') ∧ Rel σ' μ') ∧
  (∀ (σ μ : pp_M) (a1 : Int32), Rel σ μ → ∃ (r : Int32) (σ' μ' : pp_M), f_X8_write σ a1 = some (r, σ') ∧ f_X9_write μ a1 = some (r, μ') ∧ Rel σ' μ') ∧
  (∀ (σ μ : pp_M) (a1 : Int32), Rel σ μ → ∃ (r : Int32) (σ' μ' : pp_M), f_X8_count σ a1 = some (r, σ') ∧ f_X9_count μ a1 = some (r, μ') ∧ Rel σ' μ') ∧
  (∀ (σ μ : pp_M), Rel σ μ → ∃ (r : Int64) (σ' μ' : pp_M), f_X8_digest σ  = some (r, σ') ∧ f_X9_digest μ  = some (r, μ') ∧ Rel σ' μ')
set_option maxRecDepth 20000 in
theorem law_0 {Γ : pp_G} {Rel : pp_M → pp_M → Prop} {LL : Nat} {xs : Nat → Int32} {i : Int32} {σ μ : pp_M} (hF : pp_Fx Γ dsA cL_law 4 RL 43 1500) (hX : pp_Sx Γ LL xs) (h1 : vp_in (i + 1) LL) (h2 : vp_in (i + 2) LL) (h3 : vp_in (i + 3) LL) (h4 : vp_in (i + 4) LL) (h5 : vp_in (i + 5) LL) (H : (∀ (σ μ : pp_M) (a1 a2 a3 : Int32), Rel σ μ → ∃ (r : Int32) (σ' μ' : pp_M), f_X8_thing σ a1 a2 a3 = some (r, σ') ∧ f_X9_thing μ a1 a2 a3 = some (r, μ') ∧ Rel σ' μ')) (hR : Rel σ μ) (kk : ∀ σ' μ', Rel σ' μ' → pp_E Γ dsA cL_law 4 1382 [(0, ppR 99 0 0), (1, ppR 0 0 0), (2, ppR 40 0 0), (3, ppI i)] [] (pp_2 σ' μ')) : pp_E Γ dsA cL_law 4 200 [(0, ppR 99 0 0), (1, ppR 0 0 0), (2, ppR 40 0 0), (3, ppI i)] [] (pp_2 σ μ) := by
  obtain ⟨r, σ', μ', e1, e2, hR'⟩ := H σ μ (xs (i + 1).toNatClampNeg) (xs (i + 2).toNatClampNeg) (xs (i + 3).toNatClampNeg) hR
  refine pp_aload_n hF dL_law_200 rfl rfl ?_
  refine pp_aload_n hF dL_law_201 rfl rfl ?_
  refine pp_iload_n hF dL_law_202 rfl rfl ?_
  refine pp_iconst hF dL_law_203 ic_1 ?_
  refine pp_iadd hF dL_law_204 ?_
  refine pl_sld hF hX h1 dL_law_205 ?_
  refine pp_aload_n hF dL_law_206 rfl rfl ?_
  refine pp_iload_n hF dL_law_207 rfl rfl ?_
  refine pp_iconst hF dL_law_208 ic_2 ?_
  refine pp_iadd hF dL_law_209 ?_
  refine pl_sld hF hX h2 dL_law_210 ?_
  refine pp_aload_n hF dL_law_211 rfl rfl ?_
  refine pp_iload_n hF dL_law_212 rfl rfl ?_
  refine pp_iconst hF dL_law_213 ic_3 ?_
  refine pp_iadd hF dL_law_214 ?_
  refine pl_sld hF hX h3 dL_law_215 ?_
  refine pl_K hF (c_X8_thing e1) mV_X8_thing lk_L_13 obK_0 rfl rfl ⟨by decide, by decide⟩ (Nat.le_of_ble_eq_true rfl) dL_law_216 ?_
  refine pp_aload_n hF dL_law_219 rfl rfl ?_
  refine pp_aload_n hF dL_law_220 rfl rfl ?_
  refine pp_iload_n hF dL_law_221 rfl rfl ?_
  refine pp_iconst hF dL_law_222 ic_1 ?_
  refine pp_iadd hF dL_law_223 ?_
  refine pl_sld hF hX h1 dL_law_224 ?_
  refine pp_aload_n hF dL_law_225 rfl rfl ?_
  refine pp_iload_n hF dL_law_226 rfl rfl ?_
  refine pp_iconst hF dL_law_227 ic_2 ?_
  refine pp_iadd hF dL_law_228 ?_
  refine pl_sld hF hX h2 dL_law_229 ?_
  refine pp_aload_n hF dL_law_230 rfl rfl ?_
  refine pp_iload_n hF dL_law_231 rfl rfl ?_
  refine pp_iconst hF dL_law_232 ic_3 ?_
  refine pp_iadd hF dL_law_233 ?_
  refine pl_sld hF hX h3 dL_law_234 ?_
  refine pl_M hF (c_X9_thing e2) mV_X9_thing lk_L_17 obM_40 rfl rfl ⟨by decide, by decide⟩ (Nat.le_of_ble_eq_true rfl) dL_law_235 ?_
  refine pp_icmp_eq (tgt := 1382) hF dL_law_238 rfl (fun _ => ?_) (fun c => absurd rfl c)
  exact kk σ' μ' hR'
set_option maxRecDepth 20000 in
theorem law_1 {Γ : pp_G} {Rel : pp_M → pp_M → Prop} {LL : Nat} {xs : Nat → Int32} {i : Int32} {σ μ : pp_M} (hF : pp_Fx Γ dsA cL_law 4 RL 43 1500) (hX : pp_Sx Γ LL xs) (h1 : vp_in (i + 1) LL) (h2 : vp_in (i + 2) LL) (h3 : vp_in (i + 3) LL) (h4 : vp_in (i + 4) LL) (h5 : vp_in (i + 5) LL) (H : (∀ (σ μ : pp_M) (a1 a2 a3 : Int32), Rel σ μ → ∃ (r : Int32) (σ' μ' : pp_M), f_X8_road σ a1 a2 a3 = some (r, σ') ∧ f_X9_road μ a1 a2 a3 = some (r, μ') ∧ Rel σ' μ')) (hR : Rel σ μ) (kk : ∀ σ' μ', Rel σ' μ' → pp_E Γ dsA cL_law 4 1382 [(0, ppR 99 0 0), (1, ppR 0 0 0), (2, ppR 40 0 0), (3, ppI i)] [] (pp_2 σ' μ')) : pp_E Γ dsA cL_law 4 243 [(0, ppR 99 0 0), (1, ppR 0 0 0), (2, ppR 40 0 0), (3, ppI i)] [] (pp_2 σ μ) := by
  obtain ⟨r, σ', μ', e1, e2, hR'⟩ := H σ μ (xs (i + 1).toNatClampNeg) (xs (i + 2).toNatClampNeg) (xs (i + 3).toNatClampNeg) hR
  refine pp_aload_n hF dL_law_243 rfl rfl ?_
  refine pp_aload_n hF dL_law_244 rfl rfl ?_
  refine pp_iload_n hF dL_law_245 rfl rfl ?_
  refine pp_iconst hF dL_law_246 ic_1 ?_
  refine pp_iadd hF dL_law_247 ?_
  refine pl_sld hF hX h1 dL_law_248 ?_
  refine pp_aload_n hF dL_law_249 rfl rfl ?_
  refine pp_iload_n hF dL_law_250 rfl rfl ?_
  refine pp_iconst hF dL_law_251 ic_2 ?_
  refine pp_iadd hF dL_law_252 ?_
  refine pl_sld hF hX h2 dL_law_253 ?_
  refine pp_aload_n hF dL_law_254 rfl rfl ?_
  refine pp_iload_n hF dL_law_255 rfl rfl ?_
  refine pp_iconst hF dL_law_256 ic_3 ?_
  refine pp_iadd hF dL_law_257 ?_
  refine pl_sld hF hX h3 dL_law_258 ?_
  refine pl_K hF (c_X8_road e1) mV_X8_road lk_L_18 obK_0 rfl rfl ⟨by decide, by decide⟩ (Nat.le_of_ble_eq_true rfl) dL_law_259 ?_
  refine pp_aload_n hF dL_law_262 rfl rfl ?_
  refine pp_aload_n hF dL_law_263 rfl rfl ?_
  refine pp_iload_n hF dL_law_264 rfl rfl ?_
  refine pp_iconst hF dL_law_265 ic_1 ?_
  refine pp_iadd hF dL_law_266 ?_
  refine pl_sld hF hX h1 dL_law_267 ?_
  refine pp_aload_n hF dL_law_268 rfl rfl ?_
  refine pp_iload_n hF dL_law_269 rfl rfl ?_
  refine pp_iconst hF dL_law_270 ic_2 ?_
  refine pp_iadd hF dL_law_271 ?_
  refine pl_sld hF hX h2 dL_law_272 ?_
  refine pp_aload_n hF dL_law_273 rfl rfl ?_
  refine pp_iload_n hF dL_law_274 rfl rfl ?_
  refine pp_iconst hF dL_law_275 ic_3 ?_
  refine pp_iadd hF dL_law_276 ?_
  refine pl_sld hF hX h3 dL_law_277 ?_
  refine pl_M hF (c_X9_road e2) mV_X9_road lk_L_21 obM_40 rfl rfl ⟨by decide, by decide⟩ (Nat.le_of_ble_eq_true rfl) dL_law_278 ?_
  refine pp_icmp_eq (tgt := 1382) hF dL_law_281 rfl (fun _ => ?_) (fun c => absurd rfl c)
  exact kk σ' μ' hR'
set_option maxRecDepth 20000 in
theorem law_2 {Γ : pp_G} {Rel : pp_M → pp_M → Prop} {LL : Nat} {xs : Nat → Int32} {i : Int32} {σ μ : pp_M} (hF : pp_Fx Γ dsA cL_law 4 RL 43 1500) (hX : pp_Sx Γ LL xs) (h1 : vp_in (i + 1) LL) (h2 : vp_in (i + 2) LL) (h3 : vp_in (i + 3) LL) (h4 : vp_in (i + 4) LL) (h5 : vp_in (i + 5) LL) (H : (∀ (σ μ : pp_M) (a1 a2 : Int32), Rel σ μ → ∃ (r : Int32) (σ' μ' : pp_M), f_X8_way σ a1 a2 = some (r, σ') ∧ f_X9_way μ a1 a2 = some (r, μ') ∧ Rel σ' μ')) (hR : Rel σ μ) (kk : ∀ σ' μ', Rel σ' μ' → pp_E Γ dsA cL_law 4 1382 [(0, ppR 99 0 0), (1, ppR 0 0 0), (2, ppR 40 0 0), (3, ppI i)] [] (pp_2 σ' μ')) : pp_E Γ dsA cL_law 4 286 [(0, ppR 99 0 0), (1, ppR 0 0 0), (2, ppR 40 0 0), (3, ppI i)] [] (pp_2 σ μ) := by
  obtain ⟨r, σ', μ', e1, e2, hR'⟩ := H σ μ (xs (i + 1).toNatClampNeg) (xs (i + 2).toNatClampNeg) hR
  refine pp_aload_n hF dL_law_286 rfl rfl ?_
  refine pp_aload_n hF dL_law_287 rfl rfl ?_
  refine pp_iload_n hF dL_law_288 rfl rfl ?_
  refine pp_iconst hF dL_law_289 ic_1 ?_
  refine pp_iadd hF dL_law_290 ?_
  refine pl_sld hF hX h1 dL_law_291 ?_
  refine pp_aload_n hF dL_law_292 rfl rfl ?_
  refine pp_iload_n hF dL_law_293 rfl rfl ?_
  refine pp_iconst hF dL_law_294 ic_2 ?_
  refine pp_iadd hF dL_law_295 ?_
  refine pl_sld hF hX h2 dL_law_296 ?_
  refine pl_K hF (c_X8_way e1) mV_X8_way lk_L_22 obK_0 rfl rfl ⟨by decide, by decide⟩ (Nat.le_of_ble_eq_true rfl) dL_law_297 ?_
  refine pp_aload_n hF dL_law_300 rfl rfl ?_
  refine pp_aload_n hF dL_law_301 rfl rfl ?_
  refine pp_iload_n hF dL_law_302 rfl rfl ?_
  refine pp_iconst hF dL_law_303 ic_1 ?_
  refine pp_iadd hF dL_law_304 ?_
  refine pl_sld hF hX h1 dL_law_305 ?_
  refine pp_aload_n hF dL_law_306 rfl rfl ?_
  refine pp_iload_n hF dL_law_307 rfl rfl ?_
  refine pp_iconst hF dL_law_308 ic_2 ?_
  refine pp_iadd hF dL_law_309 ?_
  refine pl_sld hF hX h2 dL_law_310 ?_
  refine pl_M hF (c_X9_way e2) mV_X9_way lk_L_26 obM_40 rfl rfl ⟨by decide, by decide⟩ (Nat.le_of_ble_eq_true rfl) dL_law_311 ?_
  refine pp_icmp_eq (tgt := 1382) hF dL_law_314 rfl (fun _ => ?_) (fun c => absurd rfl c)
  exact kk σ' μ' hR'
set_option maxRecDepth 20000 in
theorem law_3 {Γ : pp_G} {Rel : pp_M → pp_M → Prop} {LL : Nat} {xs : Nat → Int32} {i : Int32} {σ μ : pp_M} (hF : pp_Fx Γ dsA cL_law 4 RL 43 1500) (hX : pp_Sx Γ LL xs) (h1 : vp_in (i + 1) LL) (h2 : vp_in (i + 2) LL) (h3 : vp_in (i + 3) LL) (h4 : vp_in (i + 4) LL) (h5 : vp_in (i + 5) LL) (H : (∀ (σ μ : pp_M) (a1 a2 : Int32), Rel σ μ → ∃ (r : Int32) (σ' μ' : pp_M), f_X8_set σ a1 a2 = some (r, σ') ∧ f_X9_set μ a1 a2 = some (r, μ') ∧ Rel σ' μ')) (hR : Rel σ μ) (kk : ∀ σ' μ', Rel σ' μ' → pp_E Γ dsA cL_law 4 1382 [(0, ppR 99 0 0), (1, ppR 0 0 0), (2, ppR 40 0 0), (3, ppI i)] [] (pp_2 σ' μ')) : pp_E Γ dsA cL_law 4 319 [(0, ppR 99 0 0), (1, ppR 0 0 0), (2, ppR 40 0 0), (3, ppI i)] [] (pp_2 σ μ) := by
  obtain ⟨r, σ', μ', e1, e2, hR'⟩ := H σ μ (xs (i + 1).toNatClampNeg) (xs (i + 2).toNatClampNeg) hR
  refine pp_aload_n hF dL_law_319 rfl rfl ?_
  refine pp_aload_n hF dL_law_320 rfl rfl ?_
  refine pp_iload_n hF dL_law_321 rfl rfl ?_
  refine pp_iconst hF dL_law_322 ic_1 ?_
  refine pp_iadd hF dL_law_323 ?_
  refine pl_sld hF hX h1 dL_law_324 ?_
  refine pp_aload_n hF dL_law_325 rfl rfl ?_
  refine pp_iload_n hF dL_law_326 rfl rfl ?_
  refine pp_iconst hF dL_law_327 ic_2 ?_
  refine pp_iadd hF dL_law_328 ?_
  refine pl_sld hF hX h2 dL_law_329 ?_
  refine pl_K hF (c_X8_set e1) mV_X8_set lk_L_27 obK_0 rfl rfl ⟨by decide, by decide⟩ (Nat.le_of_ble_eq_true rfl) dL_law_330 ?_
  refine pp_aload_n hF dL_law_333 rfl rfl ?_
  refine pp_aload_n hF dL_law_334 rfl rfl ?_
  refine pp_iload_n hF dL_law_335 rfl rfl ?_
  refine pp_iconst hF dL_law_336 ic_1 ?_
  refine pp_iadd hF dL_law_337 ?_
  refine pl_sld hF hX h1 dL_law_338 ?_
  refine pp_aload_n hF dL_law_339 rfl rfl ?_
  refine pp_iload_n hF dL_law_340 rfl rfl ?_
  refine pp_iconst hF dL_law_341 ic_2 ?_
  refine pp_iadd hF dL_law_342 ?_
  refine pl_sld hF hX h2 dL_law_343 ?_
  refine pl_M hF (c_X9_set e2) mV_X9_set lk_L_30 obM_40 rfl rfl ⟨by decide, by decide⟩ (Nat.le_of_ble_eq_true rfl) dL_law_344 ?_
  refine pp_icmp_eq (tgt := 1382) hF dL_law_347 rfl (fun _ => ?_) (fun c => absurd rfl c)
  exact kk σ' μ' hR'
set_option maxRecDepth 20000 in
theorem law_4 {Γ : pp_G} {Rel : pp_M → pp_M → Prop} {LL : Nat} {xs : Nat → Int32} {i : Int32} {σ μ : pp_M} (hF : pp_Fx Γ dsA cL_law 4 RL 43 1500) (hX : pp_Sx Γ LL xs) (h1 : vp_in (i + 1) LL) (h2 : vp_in (i + 2) LL) (h3 : vp_in (i + 3) LL) (h4 : vp_in (i + 4) LL) (h5 : vp_in (i + 5) LL) (H : (∀ (σ μ : pp_M) (a1 : Int32), Rel σ μ → ∃ (r : Int32) (σ' μ' : pp_M), f_X8_type σ a1 = some (r, σ') ∧ f_X9_type μ a1 = some (r, μ') ∧ Rel σ' μ')) (hR : Rel σ μ) (kk : ∀ σ' μ', Rel σ' μ' → pp_E Γ dsA cL_law 4 1382 [(0, ppR 99 0 0), (1, ppR 0 0 0), (2, ppR 40 0 0), (3, ppI i)] [] (pp_2 σ' μ')) : pp_E Γ dsA cL_law 4 352 [(0, ppR 99 0 0), (1, ppR 0 0 0), (2, ppR 40 0 0), (3, ppI i)] [] (pp_2 σ μ) := by
  obtain ⟨r, σ', μ', e1, e2, hR'⟩ := H σ μ (xs (i + 1).toNatClampNeg) hR
  refine pp_aload_n hF dL_law_352 rfl rfl ?_
  refine pp_aload_n hF dL_law_353 rfl rfl ?_
  refine pp_iload_n hF dL_law_354 rfl rfl ?_
  refine pp_iconst hF dL_law_355 ic_1 ?_
  refine pp_iadd hF dL_law_356 ?_
  refine pl_sld hF hX h1 dL_law_357 ?_
  refine pl_K hF (c_X8_type e1) mV_X8_type lk_L_31 obK_0 rfl rfl ⟨by decide, by decide⟩ (Nat.le_of_ble_eq_true rfl) dL_law_358 ?_
  refine pp_aload_n hF dL_law_361 rfl rfl ?_
  refine pp_aload_n hF dL_law_362 rfl rfl ?_
  refine pp_iload_n hF dL_law_363 rfl rfl ?_
  refine pp_iconst hF dL_law_364 ic_1 ?_
  refine pp_iadd hF dL_law_365 ?_
  refine pl_sld hF hX h1 dL_law_366 ?_
  refine pl_M hF (c_X9_type e2) mV_X9_type lk_L_35 obM_40 rfl rfl ⟨by decide, by decide⟩ (Nat.le_of_ble_eq_true rfl) dL_law_367 ?_
  refine pp_icmp_eq (tgt := 1382) hF dL_law_370 rfl (fun _ => ?_) (fun c => absurd rfl c)
  exact kk σ' μ' hR'
set_option maxRecDepth 20000 in
theorem law_5 {Γ : pp_G} {Rel : pp_M → pp_M → Prop} {LL : Nat} {xs : Nat → Int32} {i : Int32} {σ μ : pp_M} (hF : pp_Fx Γ dsA cL_law 4 RL 43 1500) (hX : pp_Sx Γ LL xs) (h1 : vp_in (i + 1) LL) (h2 : vp_in (i + 2) LL) (h3 : vp_in (i + 3) LL) (h4 : vp_in (i + 4) LL) (h5 : vp_in (i + 5) LL) (H : (∀ (σ μ : pp_M), Rel σ μ → ∃ (r : Int32) (σ' μ' : pp_M), f_X8_wipe σ  = some (r, σ') ∧ f_X9_wipe μ  = some (r, μ') ∧ Rel σ' μ')) (hR : Rel σ μ) (kk : ∀ σ' μ', Rel σ' μ' → pp_E Γ dsA cL_law 4 1382 [(0, ppR 99 0 0), (1, ppR 0 0 0), (2, ppR 40 0 0), (3, ppI i)] [] (pp_2 σ' μ')) : pp_E Γ dsA cL_law 4 375 [(0, ppR 99 0 0), (1, ppR 0 0 0), (2, ppR 40 0 0), (3, ppI i)] [] (pp_2 σ μ) := by
  obtain ⟨r, σ', μ', e1, e2, hR'⟩ := H σ μ hR
  refine pp_aload_n hF dL_law_375 rfl rfl ?_
  refine pl_K hF (c_X8_wipe e1) mV_X8_wipe lk_L_36 obK_0 rfl rfl ⟨by decide, by decide⟩ (Nat.le_of_ble_eq_true rfl) dL_law_376 ?_
  refine pp_aload_n hF dL_law_379 rfl rfl ?_
  refine pl_M hF (c_X9_wipe e2) mV_X9_wipe lk_L_40 obM_40 rfl rfl ⟨by decide, by decide⟩ (Nat.le_of_ble_eq_true rfl) dL_law_380 ?_
  refine pp_icmp_eq (tgt := 1382) hF dL_law_383 rfl (fun _ => ?_) (fun c => absurd rfl c)
  exact kk σ' μ' hR'
set_option maxRecDepth 20000 in
theorem law_6 {Γ : pp_G} {Rel : pp_M → pp_M → Prop} {LL : Nat} {xs : Nat → Int32} {i : Int32} {σ μ : pp_M} (hF : pp_Fx Γ dsA cL_law 4 RL 43 1500) (hX : pp_Sx Γ LL xs) (h1 : vp_in (i + 1) LL) (h2 : vp_in (i + 2) LL) (h3 : vp_in (i + 3) LL) (h4 : vp_in (i + 4) LL) (h5 : vp_in (i + 5) LL) (H : (∀ (σ μ : pp_M), Rel σ μ → ∃ (r : Int32) (σ' μ' : pp_M), f_X8_fault σ  = some (r, σ') ∧ f_X9_fault μ  = some (r, μ') ∧ Rel σ' μ')) (hR : Rel σ μ) (kk : ∀ σ' μ', Rel σ' μ' → pp_E Γ dsA cL_law 4 1382 [(0, ppR 99 0 0), (1, ppR 0 0 0), (2, ppR 40 0 0), (3, ppI i)] [] (pp_2 σ' μ')) : pp_E Γ dsA cL_law 4 388 [(0, ppR 99 0 0), (1, ppR 0 0 0), (2, ppR 40 0 0), (3, ppI i)] [] (pp_2 σ μ) := by
  obtain ⟨r, σ', μ', e1, e2, hR'⟩ := H σ μ hR
  refine pp_aload_n hF dL_law_388 rfl rfl ?_
  refine pl_K hF (c_X8_fault e1) mV_X8_fault lk_L_41 obK_0 rfl rfl ⟨by decide, by decide⟩ (Nat.le_of_ble_eq_true rfl) dL_law_389 ?_
  refine pp_aload_n hF dL_law_392 rfl rfl ?_
  refine pl_M hF (c_X9_fault e2) mV_X9_fault lk_L_44 obM_40 rfl rfl ⟨by decide, by decide⟩ (Nat.le_of_ble_eq_true rfl) dL_law_393 ?_
  refine pp_icmp_eq (tgt := 1382) hF dL_law_396 rfl (fun _ => ?_) (fun c => absurd rfl c)
  exact kk σ' μ' hR'
set_option maxRecDepth 20000 in
theorem law_7 {Γ : pp_G} {Rel : pp_M → pp_M → Prop} {LL : Nat} {xs : Nat → Int32} {i : Int32} {σ μ : pp_M} (hF : pp_Fx Γ dsA cL_law 4 RL 43 1500) (hX : pp_Sx Γ LL xs) (h1 : vp_in (i + 1) LL) (h2 : vp_in (i + 2) LL) (h3 : vp_in (i + 3) LL) (h4 : vp_in (i + 4) LL) (h5 : vp_in (i + 5) LL) (H : (∀ (σ μ : pp_M), Rel σ μ → ∃ (r : Int32) (σ' μ' : pp_M), f_X8_wants σ  = some (r, σ') ∧ f_X9_wants μ  = some (r, μ') ∧ Rel σ' μ')) (hR : Rel σ μ) (kk : ∀ σ' μ', Rel σ' μ' → pp_E Γ dsA cL_law 4 1382 [(0, ppR 99 0 0), (1, ppR 0 0 0), (2, ppR 40 0 0), (3, ppI i)] [] (pp_2 σ' μ')) : pp_E Γ dsA cL_law 4 401 [(0, ppR 99 0 0), (1, ppR 0 0 0), (2, ppR 40 0 0), (3, ppI i)] [] (pp_2 σ μ) := by
  obtain ⟨r, σ', μ', e1, e2, hR'⟩ := H σ μ hR
  refine pp_aload_n hF dL_law_401 rfl rfl ?_
  refine pl_K hF (c_X8_wants e1) mV_X8_wants lk_L_45 obK_0 rfl rfl ⟨by decide, by decide⟩ (Nat.le_of_ble_eq_true rfl) dL_law_402 ?_
  refine pp_aload_n hF dL_law_405 rfl rfl ?_
  refine pl_M hF (c_X9_wants e2) mV_X9_wants lk_L_48 obM_40 rfl rfl ⟨by decide, by decide⟩ (Nat.le_of_ble_eq_true rfl) dL_law_406 ?_
  refine pp_icmp_eq (tgt := 1382) hF dL_law_409 rfl (fun _ => ?_) (fun c => absurd rfl c)
  exact kk σ' μ' hR'
set_option maxRecDepth 20000 in
theorem law_8 {Γ : pp_G} {Rel : pp_M → pp_M → Prop} {LL : Nat} {xs : Nat → Int32} {i : Int32} {σ μ : pp_M} (hF : pp_Fx Γ dsA cL_law 4 RL 43 1500) (hX : pp_Sx Γ LL xs) (h1 : vp_in (i + 1) LL) (h2 : vp_in (i + 2) LL) (h3 : vp_in (i + 3) LL) (h4 : vp_in (i + 4) LL) (h5 : vp_in (i + 5) LL) (H : (∀ (σ μ : pp_M) (a1 a2 : Int32), Rel σ μ → ∃ (r : Int32) (σ' μ' : pp_M), f_X8_read σ a1 a2 = some (r, σ') ∧ f_X9_read μ a1 a2 = some (r, μ') ∧ Rel σ' μ')) (hR : Rel σ μ) (kk : ∀ σ' μ', Rel σ' μ' → pp_E Γ dsA cL_law 4 1382 [(0, ppR 99 0 0), (1, ppR 0 0 0), (2, ppR 40 0 0), (3, ppI i)] [] (pp_2 σ' μ')) : pp_E Γ dsA cL_law 4 414 [(0, ppR 99 0 0), (1, ppR 0 0 0), (2, ppR 40 0 0), (3, ppI i)] [] (pp_2 σ μ) := by
  obtain ⟨r, σ', μ', e1, e2, hR'⟩ := H σ μ (xs (i + 1).toNatClampNeg) (xs (i + 2).toNatClampNeg) hR
  refine pp_aload_n hF dL_law_414 rfl rfl ?_
  refine pp_aload_n hF dL_law_415 rfl rfl ?_
  refine pp_iload_n hF dL_law_416 rfl rfl ?_
  refine pp_iconst hF dL_law_417 ic_1 ?_
  refine pp_iadd hF dL_law_418 ?_
  refine pl_sld hF hX h1 dL_law_419 ?_
  refine pp_aload_n hF dL_law_420 rfl rfl ?_
  refine pp_iload_n hF dL_law_421 rfl rfl ?_
  refine pp_iconst hF dL_law_422 ic_2 ?_
  refine pp_iadd hF dL_law_423 ?_
  refine pl_sld hF hX h2 dL_law_424 ?_
  refine pl_K hF (c_X8_read e1) mV_X8_read lk_L_49 obK_0 rfl rfl ⟨by decide, by decide⟩ (Nat.le_of_ble_eq_true rfl) dL_law_425 ?_
  refine pp_aload_n hF dL_law_428 rfl rfl ?_
  refine pp_aload_n hF dL_law_429 rfl rfl ?_
  refine pp_iload_n hF dL_law_430 rfl rfl ?_
  refine pp_iconst hF dL_law_431 ic_1 ?_
  refine pp_iadd hF dL_law_432 ?_
  refine pl_sld hF hX h1 dL_law_433 ?_
  refine pp_aload_n hF dL_law_434 rfl rfl ?_
  refine pp_iload_n hF dL_law_435 rfl rfl ?_
  refine pp_iconst hF dL_law_436 ic_2 ?_
  refine pp_iadd hF dL_law_437 ?_
  refine pl_sld hF hX h2 dL_law_438 ?_
  refine pl_M hF (c_X9_read e2) mV_X9_read lk_L_52 obM_40 rfl rfl ⟨by decide, by decide⟩ (Nat.le_of_ble_eq_true rfl) dL_law_439 ?_
  refine pp_icmp_eq (tgt := 1382) hF dL_law_442 rfl (fun _ => ?_) (fun c => absurd rfl c)
  exact kk σ' μ' hR'
set_option maxRecDepth 20000 in
theorem law_9 {Γ : pp_G} {Rel : pp_M → pp_M → Prop} {LL : Nat} {xs : Nat → Int32} {i : Int32} {σ μ : pp_M} (hF : pp_Fx Γ dsA cL_law 4 RL 43 1500) (hX : pp_Sx Γ LL xs) (h1 : vp_in (i + 1) LL) (h2 : vp_in (i + 2) LL) (h3 : vp_in (i + 3) LL) (h4 : vp_in (i + 4) LL) (h5 : vp_in (i + 5) LL) (H : (∀ (σ μ : pp_M) (a1 a2 a3 : Int32), Rel σ μ → ∃ (r : Int32) (σ' μ' : pp_M), f_X8_chance σ a1 a2 a3 = some (r, σ') ∧ f_X9_chance μ a1 a2 a3 = some (r, μ') ∧ Rel σ' μ')) (hR : Rel σ μ) (kk : ∀ σ' μ', Rel σ' μ' → pp_E Γ dsA cL_law 4 1382 [(0, ppR 99 0 0), (1, ppR 0 0 0), (2, ppR 40 0 0), (3, ppI i)] [] (pp_2 σ' μ')) : pp_E Γ dsA cL_law 4 447 [(0, ppR 99 0 0), (1, ppR 0 0 0), (2, ppR 40 0 0), (3, ppI i)] [] (pp_2 σ μ) := by
  obtain ⟨r, σ', μ', e1, e2, hR'⟩ := H σ μ (xs (i + 1).toNatClampNeg) (xs (i + 2).toNatClampNeg) (xs (i + 3).toNatClampNeg) hR
  refine pp_aload_n hF dL_law_447 rfl rfl ?_
  refine pp_aload_n hF dL_law_448 rfl rfl ?_
  refine pp_iload_n hF dL_law_449 rfl rfl ?_
  refine pp_iconst hF dL_law_450 ic_1 ?_
  refine pp_iadd hF dL_law_451 ?_
  refine pl_sld hF hX h1 dL_law_452 ?_
  refine pp_aload_n hF dL_law_453 rfl rfl ?_
  refine pp_iload_n hF dL_law_454 rfl rfl ?_
  refine pp_iconst hF dL_law_455 ic_2 ?_
  refine pp_iadd hF dL_law_456 ?_
  refine pl_sld hF hX h2 dL_law_457 ?_
  refine pp_aload_n hF dL_law_458 rfl rfl ?_
  refine pp_iload_n hF dL_law_459 rfl rfl ?_
  refine pp_iconst hF dL_law_460 ic_3 ?_
  refine pp_iadd hF dL_law_461 ?_
  refine pl_sld hF hX h3 dL_law_462 ?_
  refine pl_K hF (c_X8_chance e1) mV_X8_chance lk_L_53 obK_0 rfl rfl ⟨by decide, by decide⟩ (Nat.le_of_ble_eq_true rfl) dL_law_463 ?_
  refine pp_aload_n hF dL_law_466 rfl rfl ?_
  refine pp_aload_n hF dL_law_467 rfl rfl ?_
  refine pp_iload_n hF dL_law_468 rfl rfl ?_
  refine pp_iconst hF dL_law_469 ic_1 ?_
  refine pp_iadd hF dL_law_470 ?_
  refine pl_sld hF hX h1 dL_law_471 ?_
  refine pp_aload_n hF dL_law_472 rfl rfl ?_
  refine pp_iload_n hF dL_law_473 rfl rfl ?_
  refine pp_iconst hF dL_law_474 ic_2 ?_
  refine pp_iadd hF dL_law_475 ?_
  refine pl_sld hF hX h2 dL_law_476 ?_
  refine pp_aload_n hF dL_law_477 rfl rfl ?_
  refine pp_iload_n hF dL_law_478 rfl rfl ?_
  refine pp_iconst hF dL_law_479 ic_3 ?_
  refine pp_iadd hF dL_law_480 ?_
  refine pl_sld hF hX h3 dL_law_481 ?_
  refine pl_M hF (c_X9_chance e2) mV_X9_chance lk_L_56 obM_40 rfl rfl ⟨by decide, by decide⟩ (Nat.le_of_ble_eq_true rfl) dL_law_482 ?_
  refine pp_icmp_eq (tgt := 1382) hF dL_law_485 rfl (fun _ => ?_) (fun c => absurd rfl c)
  exact kk σ' μ' hR'
set_option maxRecDepth 20000 in
theorem law_10 {Γ : pp_G} {Rel : pp_M → pp_M → Prop} {LL : Nat} {xs : Nat → Int32} {i : Int32} {σ μ : pp_M} (hF : pp_Fx Γ dsA cL_law 4 RL 43 1500) (hX : pp_Sx Γ LL xs) (h1 : vp_in (i + 1) LL) (h2 : vp_in (i + 2) LL) (h3 : vp_in (i + 3) LL) (h4 : vp_in (i + 4) LL) (h5 : vp_in (i + 5) LL) (H : (∀ (σ μ : pp_M) (a1 a2 : Int32), Rel σ μ → ∃ (r : Int32) (σ' μ' : pp_M), f_X8_shop σ a1 a2 = some (r, σ') ∧ f_X9_shop μ a1 a2 = some (r, μ') ∧ Rel σ' μ')) (hR : Rel σ μ) (kk : ∀ σ' μ', Rel σ' μ' → pp_E Γ dsA cL_law 4 1382 [(0, ppR 99 0 0), (1, ppR 0 0 0), (2, ppR 40 0 0), (3, ppI i)] [] (pp_2 σ' μ')) : pp_E Γ dsA cL_law 4 490 [(0, ppR 99 0 0), (1, ppR 0 0 0), (2, ppR 40 0 0), (3, ppI i)] [] (pp_2 σ μ) := by
  obtain ⟨r, σ', μ', e1, e2, hR'⟩ := H σ μ (xs (i + 1).toNatClampNeg) (xs (i + 2).toNatClampNeg) hR
  refine pp_aload_n hF dL_law_490 rfl rfl ?_
  refine pp_aload_n hF dL_law_491 rfl rfl ?_
  refine pp_iload_n hF dL_law_492 rfl rfl ?_
  refine pp_iconst hF dL_law_493 ic_1 ?_
  refine pp_iadd hF dL_law_494 ?_
  refine pl_sld hF hX h1 dL_law_495 ?_
  refine pp_aload_n hF dL_law_496 rfl rfl ?_
  refine pp_iload_n hF dL_law_497 rfl rfl ?_
  refine pp_iconst hF dL_law_498 ic_2 ?_
  refine pp_iadd hF dL_law_499 ?_
  refine pl_sld hF hX h2 dL_law_500 ?_
  refine pl_K hF (c_X8_shop e1) mV_X8_shop lk_L_57 obK_0 rfl rfl ⟨by decide, by decide⟩ (Nat.le_of_ble_eq_true rfl) dL_law_501 ?_
  refine pp_aload_n hF dL_law_504 rfl rfl ?_
  refine pp_aload_n hF dL_law_505 rfl rfl ?_
  refine pp_iload_n hF dL_law_506 rfl rfl ?_
  refine pp_iconst hF dL_law_507 ic_1 ?_
  refine pp_iadd hF dL_law_508 ?_
  refine pl_sld hF hX h1 dL_law_509 ?_
  refine pp_aload_n hF dL_law_510 rfl rfl ?_
  refine pp_iload_n hF dL_law_511 rfl rfl ?_
  refine pp_iconst hF dL_law_512 ic_2 ?_
  refine pp_iadd hF dL_law_513 ?_
  refine pl_sld hF hX h2 dL_law_514 ?_
  refine pl_M hF (c_X9_shop e2) mV_X9_shop lk_L_60 obM_40 rfl rfl ⟨by decide, by decide⟩ (Nat.le_of_ble_eq_true rfl) dL_law_515 ?_
  refine pp_icmp_eq (tgt := 1382) hF dL_law_518 rfl (fun _ => ?_) (fun c => absurd rfl c)
  exact kk σ' μ' hR'
set_option maxRecDepth 20000 in
theorem law_11 {Γ : pp_G} {Rel : pp_M → pp_M → Prop} {LL : Nat} {xs : Nat → Int32} {i : Int32} {σ μ : pp_M} (hF : pp_Fx Γ dsA cL_law 4 RL 43 1500) (hX : pp_Sx Γ LL xs) (h1 : vp_in (i + 1) LL) (h2 : vp_in (i + 2) LL) (h3 : vp_in (i + 3) LL) (h4 : vp_in (i + 4) LL) (h5 : vp_in (i + 5) LL) (H : (∀ (σ μ : pp_M) (a1 : Int32), Rel σ μ → ∃ (r : Int32) (σ' μ' : pp_M), f_X8_row σ a1 = some (r, σ') ∧ f_X9_row μ a1 = some (r, μ') ∧ Rel σ' μ')) (hR : Rel σ μ) (kk : ∀ σ' μ', Rel σ' μ' → pp_E Γ dsA cL_law 4 1382 [(0, ppR 99 0 0), (1, ppR 0 0 0), (2, ppR 40 0 0), (3, ppI i)] [] (pp_2 σ' μ')) : pp_E Γ dsA cL_law 4 523 [(0, ppR 99 0 0), (1, ppR 0 0 0), (2, ppR 40 0 0), (3, ppI i)] [] (pp_2 σ μ) := by
  obtain ⟨r, σ', μ', e1, e2, hR'⟩ := H σ μ (xs (i + 1).toNatClampNeg) hR
  refine pp_aload_n hF dL_law_523 rfl rfl ?_
  refine pp_aload_n hF dL_law_524 rfl rfl ?_
  refine pp_iload_n hF dL_law_525 rfl rfl ?_
  refine pp_iconst hF dL_law_526 ic_1 ?_
  refine pp_iadd hF dL_law_527 ?_
  refine pl_sld hF hX h1 dL_law_528 ?_
  refine pl_K hF (c_X8_row e1) mV_X8_row lk_L_61 obK_0 rfl rfl ⟨by decide, by decide⟩ (Nat.le_of_ble_eq_true rfl) dL_law_529 ?_
  refine pp_aload_n hF dL_law_532 rfl rfl ?_
  refine pp_aload_n hF dL_law_533 rfl rfl ?_
  refine pp_iload_n hF dL_law_534 rfl rfl ?_
  refine pp_iconst hF dL_law_535 ic_1 ?_
  refine pp_iadd hF dL_law_536 ?_
  refine pl_sld hF hX h1 dL_law_537 ?_
  refine pl_M hF (c_X9_row e2) mV_X9_row lk_L_64 obM_40 rfl rfl ⟨by decide, by decide⟩ (Nat.le_of_ble_eq_true rfl) dL_law_538 ?_
  refine pp_icmp_eq (tgt := 1382) hF dL_law_541 rfl (fun _ => ?_) (fun c => absurd rfl c)
  exact kk σ' μ' hR'
set_option maxRecDepth 20000 in
theorem law_12 {Γ : pp_G} {Rel : pp_M → pp_M → Prop} {LL : Nat} {xs : Nat → Int32} {i : Int32} {σ μ : pp_M} (hF : pp_Fx Γ dsA cL_law 4 RL 43 1500) (hX : pp_Sx Γ LL xs) (h1 : vp_in (i + 1) LL) (h2 : vp_in (i + 2) LL) (h3 : vp_in (i + 3) LL) (h4 : vp_in (i + 4) LL) (h5 : vp_in (i + 5) LL) (H : (∀ (σ μ : pp_M) (a1 : Int32), Rel σ μ → ∃ (r : Int32) (σ' μ' : pp_M), f_X8_pack σ a1 = some (r, σ') ∧ f_X9_pack μ a1 = some (r, μ') ∧ Rel σ' μ')) (hR : Rel σ μ) (kk : ∀ σ' μ', Rel σ' μ' → pp_E Γ dsA cL_law 4 1382 [(0, ppR 99 0 0), (1, ppR 0 0 0), (2, ppR 40 0 0), (3, ppI i)] [] (pp_2 σ' μ')) : pp_E Γ dsA cL_law 4 546 [(0, ppR 99 0 0), (1, ppR 0 0 0), (2, ppR 40 0 0), (3, ppI i)] [] (pp_2 σ μ) := by
  obtain ⟨r, σ', μ', e1, e2, hR'⟩ := H σ μ (xs (i + 1).toNatClampNeg) hR
  refine pp_aload_n hF dL_law_546 rfl rfl ?_
  refine pp_aload_n hF dL_law_547 rfl rfl ?_
  refine pp_iload_n hF dL_law_548 rfl rfl ?_
  refine pp_iconst hF dL_law_549 ic_1 ?_
  refine pp_iadd hF dL_law_550 ?_
  refine pl_sld hF hX h1 dL_law_551 ?_
  refine pl_K hF (c_X8_pack e1) mV_X8_pack lk_L_65 obK_0 rfl rfl ⟨by decide, by decide⟩ (Nat.le_of_ble_eq_true rfl) dL_law_552 ?_
  refine pp_aload_n hF dL_law_555 rfl rfl ?_
  refine pp_aload_n hF dL_law_556 rfl rfl ?_
  refine pp_iload_n hF dL_law_557 rfl rfl ?_
  refine pp_iconst hF dL_law_558 ic_1 ?_
  refine pp_iadd hF dL_law_559 ?_
  refine pl_sld hF hX h1 dL_law_560 ?_
  refine pl_M hF (c_X9_pack e2) mV_X9_pack lk_L_68 obM_40 rfl rfl ⟨by decide, by decide⟩ (Nat.le_of_ble_eq_true rfl) dL_law_561 ?_
  refine pp_icmp_eq (tgt := 1382) hF dL_law_564 rfl (fun _ => ?_) (fun c => absurd rfl c)
  exact kk σ' μ' hR'
set_option maxRecDepth 20000 in
theorem law_13 {Γ : pp_G} {Rel : pp_M → pp_M → Prop} {LL : Nat} {xs : Nat → Int32} {i : Int32} {σ μ : pp_M} (hF : pp_Fx Γ dsA cL_law 4 RL 43 1500) (hX : pp_Sx Γ LL xs) (h1 : vp_in (i + 1) LL) (h2 : vp_in (i + 2) LL) (h3 : vp_in (i + 3) LL) (h4 : vp_in (i + 4) LL) (h5 : vp_in (i + 5) LL) (H : (∀ (σ μ : pp_M), Rel σ μ → ∃ (r : Int32) (σ' μ' : pp_M), f_X8_judged σ  = some (r, σ') ∧ f_X9_judged μ  = some (r, μ') ∧ Rel σ' μ')) (hR : Rel σ μ) (kk : ∀ σ' μ', Rel σ' μ' → pp_E Γ dsA cL_law 4 1382 [(0, ppR 99 0 0), (1, ppR 0 0 0), (2, ppR 40 0 0), (3, ppI i)] [] (pp_2 σ' μ')) : pp_E Γ dsA cL_law 4 569 [(0, ppR 99 0 0), (1, ppR 0 0 0), (2, ppR 40 0 0), (3, ppI i)] [] (pp_2 σ μ) := by
  obtain ⟨r, σ', μ', e1, e2, hR'⟩ := H σ μ hR
  refine pp_aload_n hF dL_law_569 rfl rfl ?_
  refine pl_K hF (c_X8_judged e1) mV_X8_judged lk_L_69 obK_0 rfl rfl ⟨by decide, by decide⟩ (Nat.le_of_ble_eq_true rfl) dL_law_570 ?_
  refine pp_aload_n hF dL_law_573 rfl rfl ?_
  refine pl_M hF (c_X9_judged e2) mV_X9_judged lk_L_72 obM_40 rfl rfl ⟨by decide, by decide⟩ (Nat.le_of_ble_eq_true rfl) dL_law_574 ?_
  refine pp_icmp_eq (tgt := 1382) hF dL_law_577 rfl (fun _ => ?_) (fun c => absurd rfl c)
  exact kk σ' μ' hR'
set_option maxRecDepth 20000 in
theorem law_14 {Γ : pp_G} {Rel : pp_M → pp_M → Prop} {LL : Nat} {xs : Nat → Int32} {i : Int32} {σ μ : pp_M} (hF : pp_Fx Γ dsA cL_law 4 RL 43 1500) (hX : pp_Sx Γ LL xs) (h1 : vp_in (i + 1) LL) (h2 : vp_in (i + 2) LL) (h3 : vp_in (i + 3) LL) (h4 : vp_in (i + 4) LL) (h5 : vp_in (i + 5) LL) (H : (∀ (σ μ : pp_M), Rel σ μ → ∃ (r : Int32) (σ' μ' : pp_M), f_X8_hours σ  = some (r, σ') ∧ f_X9_hours μ  = some (r, μ') ∧ Rel σ' μ')) (hR : Rel σ μ) (kk : ∀ σ' μ', Rel σ' μ' → pp_E Γ dsA cL_law 4 1382 [(0, ppR 99 0 0), (1, ppR 0 0 0), (2, ppR 40 0 0), (3, ppI i)] [] (pp_2 σ' μ')) : pp_E Γ dsA cL_law 4 582 [(0, ppR 99 0 0), (1, ppR 0 0 0), (2, ppR 40 0 0), (3, ppI i)] [] (pp_2 σ μ) := by
  obtain ⟨r, σ', μ', e1, e2, hR'⟩ := H σ μ hR
  refine pp_aload_n hF dL_law_582 rfl rfl ?_
  refine pl_K hF (c_X8_hours e1) mV_X8_hours lk_L_73 obK_0 rfl rfl ⟨by decide, by decide⟩ (Nat.le_of_ble_eq_true rfl) dL_law_583 ?_
  refine pp_aload_n hF dL_law_586 rfl rfl ?_
  refine pl_M hF (c_X9_hours e2) mV_X9_hours lk_L_76 obM_40 rfl rfl ⟨by decide, by decide⟩ (Nat.le_of_ble_eq_true rfl) dL_law_587 ?_
  refine pp_icmp_eq (tgt := 1382) hF dL_law_590 rfl (fun _ => ?_) (fun c => absurd rfl c)
  exact kk σ' μ' hR'
set_option maxRecDepth 20000 in
theorem law_15 {Γ : pp_G} {Rel : pp_M → pp_M → Prop} {LL : Nat} {xs : Nat → Int32} {i : Int32} {σ μ : pp_M} (hF : pp_Fx Γ dsA cL_law 4 RL 43 1500) (hX : pp_Sx Γ LL xs) (h1 : vp_in (i + 1) LL) (h2 : vp_in (i + 2) LL) (h3 : vp_in (i + 3) LL) (h4 : vp_in (i + 4) LL) (h5 : vp_in (i + 5) LL) (H : (∀ (σ μ : pp_M) (a1 a2 a3 a4 a5 : Int32), Rel σ μ → ∃ (r : Int64) (σ' μ' : pp_M), f_X8_sold σ a1 a2 a3 a4 a5 = some (r, σ') ∧ f_X9_sold μ a1 a2 a3 a4 a5 = some (r, μ') ∧ Rel σ' μ')) (hR : Rel σ μ) (kk : ∀ σ' μ', Rel σ' μ' → pp_E Γ dsA cL_law 4 1382 [(0, ppR 99 0 0), (1, ppR 0 0 0), (2, ppR 40 0 0), (3, ppI i)] [] (pp_2 σ' μ')) : pp_E Γ dsA cL_law 4 595 [(0, ppR 99 0 0), (1, ppR 0 0 0), (2, ppR 40 0 0), (3, ppI i)] [] (pp_2 σ μ) := by
  obtain ⟨r, σ', μ', e1, e2, hR'⟩ := H σ μ (xs (i + 1).toNatClampNeg) (xs (i + 2).toNatClampNeg) (xs (i + 3).toNatClampNeg) (xs (i + 4).toNatClampNeg) (xs (i + 5).toNatClampNeg) hR
  refine pp_aload_n hF dL_law_595 rfl rfl ?_
  refine pp_aload_n hF dL_law_596 rfl rfl ?_
  refine pp_iload_n hF dL_law_597 rfl rfl ?_
  refine pp_iconst hF dL_law_598 ic_1 ?_
  refine pp_iadd hF dL_law_599 ?_
  refine pl_sld hF hX h1 dL_law_600 ?_
  refine pp_aload_n hF dL_law_601 rfl rfl ?_
  refine pp_iload_n hF dL_law_602 rfl rfl ?_
  refine pp_iconst hF dL_law_603 ic_2 ?_
  refine pp_iadd hF dL_law_604 ?_
  refine pl_sld hF hX h2 dL_law_605 ?_
  refine pp_aload_n hF dL_law_606 rfl rfl ?_
  refine pp_iload_n hF dL_law_607 rfl rfl ?_
  refine pp_iconst hF dL_law_608 ic_3 ?_
  refine pp_iadd hF dL_law_609 ?_
  refine pl_sld hF hX h3 dL_law_610 ?_
  refine pp_aload_n hF dL_law_611 rfl rfl ?_
  refine pp_iload_n hF dL_law_612 rfl rfl ?_
  refine pp_iconst hF dL_law_613 ic_4 ?_
  refine pp_iadd hF dL_law_614 ?_
  refine pl_sld hF hX h4 dL_law_615 ?_
  refine pp_aload_n hF dL_law_616 rfl rfl ?_
  refine pp_iload_n hF dL_law_617 rfl rfl ?_
  refine pp_iconst hF dL_law_618 ic_5 ?_
  refine pp_iadd hF dL_law_619 ?_
  refine pl_sld hF hX h5 dL_law_620 ?_
  refine pl_K hF (c_X8_sold e1) mV_X8_sold lk_L_77 obK_0 rfl rfl ⟨by decide, by decide⟩ (Nat.le_of_ble_eq_true rfl) dL_law_621 ?_
  refine pp_aload_n hF dL_law_624 rfl rfl ?_
  refine pp_aload_n hF dL_law_625 rfl rfl ?_
  refine pp_iload_n hF dL_law_626 rfl rfl ?_
  refine pp_iconst hF dL_law_627 ic_1 ?_
  refine pp_iadd hF dL_law_628 ?_
  refine pl_sld hF hX h1 dL_law_629 ?_
  refine pp_aload_n hF dL_law_630 rfl rfl ?_
  refine pp_iload_n hF dL_law_631 rfl rfl ?_
  refine pp_iconst hF dL_law_632 ic_2 ?_
  refine pp_iadd hF dL_law_633 ?_
  refine pl_sld hF hX h2 dL_law_634 ?_
  refine pp_aload_n hF dL_law_635 rfl rfl ?_
  refine pp_iload_n hF dL_law_636 rfl rfl ?_
  refine pp_iconst hF dL_law_637 ic_3 ?_
  refine pp_iadd hF dL_law_638 ?_
  refine pl_sld hF hX h3 dL_law_639 ?_
  refine pp_aload_n hF dL_law_640 rfl rfl ?_
  refine pp_iload_n hF dL_law_641 rfl rfl ?_
  refine pp_iconst hF dL_law_642 ic_4 ?_
  refine pp_iadd hF dL_law_643 ?_
  refine pl_sld hF hX h4 dL_law_644 ?_
  refine pp_aload_n hF dL_law_645 rfl rfl ?_
  refine pp_iload_n hF dL_law_646 rfl rfl ?_
  refine pp_iconst hF dL_law_647 ic_5 ?_
  refine pp_iadd hF dL_law_648 ?_
  refine pl_sld hF hX h5 dL_law_649 ?_
  refine pl_M hF (c_X9_sold e2) mV_X9_sold lk_L_81 obM_40 rfl rfl ⟨by decide, by decide⟩ (Nat.le_of_ble_eq_true rfl) dL_law_650 ?_
  refine pp_lcmp_eq (tgt := 1382) hF dL_law_653 dL_law_654 rfl (fun _ => ?_) (fun c => absurd rfl c)
  exact kk σ' μ' hR'
set_option maxRecDepth 20000 in
theorem law_16 {Γ : pp_G} {Rel : pp_M → pp_M → Prop} {LL : Nat} {xs : Nat → Int32} {i : Int32} {σ μ : pp_M} (hF : pp_Fx Γ dsA cL_law 4 RL 43 1500) (hX : pp_Sx Γ LL xs) (h1 : vp_in (i + 1) LL) (h2 : vp_in (i + 2) LL) (h3 : vp_in (i + 3) LL) (h4 : vp_in (i + 4) LL) (h5 : vp_in (i + 5) LL) (H : (∀ (σ μ : pp_M) (a1 a2 a3 : Int32), Rel σ μ → ∃ (r : Int32) (σ' μ' : pp_M), f_X8_ask σ a1 a2 a3 = some (r, σ') ∧ f_X9_ask μ a1 a2 a3 = some (r, μ') ∧ Rel σ' μ')) (hR : Rel σ μ) (kk : ∀ σ' μ', Rel σ' μ' → pp_E Γ dsA cL_law 4 1382 [(0, ppR 99 0 0), (1, ppR 0 0 0), (2, ppR 40 0 0), (3, ppI i)] [] (pp_2 σ' μ')) : pp_E Γ dsA cL_law 4 659 [(0, ppR 99 0 0), (1, ppR 0 0 0), (2, ppR 40 0 0), (3, ppI i)] [] (pp_2 σ μ) := by
  obtain ⟨r, σ', μ', e1, e2, hR'⟩ := H σ μ (xs (i + 1).toNatClampNeg) (xs (i + 2).toNatClampNeg) (xs (i + 3).toNatClampNeg) hR
  refine pp_aload_n hF dL_law_659 rfl rfl ?_
  refine pp_aload_n hF dL_law_660 rfl rfl ?_
  refine pp_iload_n hF dL_law_661 rfl rfl ?_
  refine pp_iconst hF dL_law_662 ic_1 ?_
  refine pp_iadd hF dL_law_663 ?_
  refine pl_sld hF hX h1 dL_law_664 ?_
  refine pp_aload_n hF dL_law_665 rfl rfl ?_
  refine pp_iload_n hF dL_law_666 rfl rfl ?_
  refine pp_iconst hF dL_law_667 ic_2 ?_
  refine pp_iadd hF dL_law_668 ?_
  refine pl_sld hF hX h2 dL_law_669 ?_
  refine pp_aload_n hF dL_law_670 rfl rfl ?_
  refine pp_iload_n hF dL_law_671 rfl rfl ?_
  refine pp_iconst hF dL_law_672 ic_3 ?_
  refine pp_iadd hF dL_law_673 ?_
  refine pl_sld hF hX h3 dL_law_674 ?_
  refine pl_K hF (c_X8_ask e1) mV_X8_ask lk_L_82 obK_0 rfl rfl ⟨by decide, by decide⟩ (Nat.le_of_ble_eq_true rfl) dL_law_675 ?_
  refine pp_aload_n hF dL_law_678 rfl rfl ?_
  refine pp_aload_n hF dL_law_679 rfl rfl ?_
  refine pp_iload_n hF dL_law_680 rfl rfl ?_
  refine pp_iconst hF dL_law_681 ic_1 ?_
  refine pp_iadd hF dL_law_682 ?_
  refine pl_sld hF hX h1 dL_law_683 ?_
  refine pp_aload_n hF dL_law_684 rfl rfl ?_
  refine pp_iload_n hF dL_law_685 rfl rfl ?_
  refine pp_iconst hF dL_law_686 ic_2 ?_
  refine pp_iadd hF dL_law_687 ?_
  refine pl_sld hF hX h2 dL_law_688 ?_
  refine pp_aload_n hF dL_law_689 rfl rfl ?_
  refine pp_iload_n hF dL_law_690 rfl rfl ?_
  refine pp_iconst hF dL_law_691 ic_3 ?_
  refine pp_iadd hF dL_law_692 ?_
  refine pl_sld hF hX h3 dL_law_693 ?_
  refine pl_M hF (c_X9_ask e2) mV_X9_ask lk_L_85 obM_40 rfl rfl ⟨by decide, by decide⟩ (Nat.le_of_ble_eq_true rfl) dL_law_694 ?_
  refine pp_icmp_eq (tgt := 1382) hF dL_law_697 rfl (fun _ => ?_) (fun c => absurd rfl c)
  exact kk σ' μ' hR'
set_option maxRecDepth 20000 in
theorem law_17 {Γ : pp_G} {Rel : pp_M → pp_M → Prop} {LL : Nat} {xs : Nat → Int32} {i : Int32} {σ μ : pp_M} (hF : pp_Fx Γ dsA cL_law 4 RL 43 1500) (hX : pp_Sx Γ LL xs) (h1 : vp_in (i + 1) LL) (h2 : vp_in (i + 2) LL) (h3 : vp_in (i + 3) LL) (h4 : vp_in (i + 4) LL) (h5 : vp_in (i + 5) LL) (H : (∀ (σ μ : pp_M) (a1 a2 a3 a4 : Int32), Rel σ μ → ∃ (r : Int64) (σ' μ' : pp_M), f_X8_value σ a1 a2 a3 a4 = some (r, σ') ∧ f_X9_value μ a1 a2 a3 a4 = some (r, μ') ∧ Rel σ' μ')) (hR : Rel σ μ) (kk : ∀ σ' μ', Rel σ' μ' → pp_E Γ dsA cL_law 4 1382 [(0, ppR 99 0 0), (1, ppR 0 0 0), (2, ppR 40 0 0), (3, ppI i)] [] (pp_2 σ' μ')) : pp_E Γ dsA cL_law 4 702 [(0, ppR 99 0 0), (1, ppR 0 0 0), (2, ppR 40 0 0), (3, ppI i)] [] (pp_2 σ μ) := by
  obtain ⟨r, σ', μ', e1, e2, hR'⟩ := H σ μ (xs (i + 1).toNatClampNeg) (xs (i + 2).toNatClampNeg) (xs (i + 3).toNatClampNeg) (xs (i + 4).toNatClampNeg) hR
  refine pp_aload_n hF dL_law_702 rfl rfl ?_
  refine pp_aload_n hF dL_law_703 rfl rfl ?_
  refine pp_iload_n hF dL_law_704 rfl rfl ?_
  refine pp_iconst hF dL_law_705 ic_1 ?_
  refine pp_iadd hF dL_law_706 ?_
  refine pl_sld hF hX h1 dL_law_707 ?_
  refine pp_aload_n hF dL_law_708 rfl rfl ?_
  refine pp_iload_n hF dL_law_709 rfl rfl ?_
  refine pp_iconst hF dL_law_710 ic_2 ?_
  refine pp_iadd hF dL_law_711 ?_
  refine pl_sld hF hX h2 dL_law_712 ?_
  refine pp_aload_n hF dL_law_713 rfl rfl ?_
  refine pp_iload_n hF dL_law_714 rfl rfl ?_
  refine pp_iconst hF dL_law_715 ic_3 ?_
  refine pp_iadd hF dL_law_716 ?_
  refine pl_sld hF hX h3 dL_law_717 ?_
  refine pp_aload_n hF dL_law_718 rfl rfl ?_
  refine pp_iload_n hF dL_law_719 rfl rfl ?_
  refine pp_iconst hF dL_law_720 ic_4 ?_
  refine pp_iadd hF dL_law_721 ?_
  refine pl_sld hF hX h4 dL_law_722 ?_
  refine pl_K hF (c_X8_value e1) mV_X8_value lk_L_86 obK_0 rfl rfl ⟨by decide, by decide⟩ (Nat.le_of_ble_eq_true rfl) dL_law_723 ?_
  refine pp_aload_n hF dL_law_726 rfl rfl ?_
  refine pp_aload_n hF dL_law_727 rfl rfl ?_
  refine pp_iload_n hF dL_law_728 rfl rfl ?_
  refine pp_iconst hF dL_law_729 ic_1 ?_
  refine pp_iadd hF dL_law_730 ?_
  refine pl_sld hF hX h1 dL_law_731 ?_
  refine pp_aload_n hF dL_law_732 rfl rfl ?_
  refine pp_iload_n hF dL_law_733 rfl rfl ?_
  refine pp_iconst hF dL_law_734 ic_2 ?_
  refine pp_iadd hF dL_law_735 ?_
  refine pl_sld hF hX h2 dL_law_736 ?_
  refine pp_aload_n hF dL_law_737 rfl rfl ?_
  refine pp_iload_n hF dL_law_738 rfl rfl ?_
  refine pp_iconst hF dL_law_739 ic_3 ?_
  refine pp_iadd hF dL_law_740 ?_
  refine pl_sld hF hX h3 dL_law_741 ?_
  refine pp_aload_n hF dL_law_742 rfl rfl ?_
  refine pp_iload_n hF dL_law_743 rfl rfl ?_
  refine pp_iconst hF dL_law_744 ic_4 ?_
  refine pp_iadd hF dL_law_745 ?_
  refine pl_sld hF hX h4 dL_law_746 ?_
  refine pl_M hF (c_X9_value e2) mV_X9_value lk_L_90 obM_40 rfl rfl ⟨by decide, by decide⟩ (Nat.le_of_ble_eq_true rfl) dL_law_747 ?_
  refine pp_lcmp_eq (tgt := 1382) hF dL_law_750 dL_law_751 rfl (fun _ => ?_) (fun c => absurd rfl c)
  exact kk σ' μ' hR'
set_option maxRecDepth 20000 in
theorem law_18 {Γ : pp_G} {Rel : pp_M → pp_M → Prop} {LL : Nat} {xs : Nat → Int32} {i : Int32} {σ μ : pp_M} (hF : pp_Fx Γ dsA cL_law 4 RL 43 1500) (hX : pp_Sx Γ LL xs) (h1 : vp_in (i + 1) LL) (h2 : vp_in (i + 2) LL) (h3 : vp_in (i + 3) LL) (h4 : vp_in (i + 4) LL) (h5 : vp_in (i + 5) LL) (H : (∀ (σ μ : pp_M) (a1 : Int32), Rel σ μ → ∃ (r : Int64) (σ' μ' : pp_M), f_X8_gain σ a1 = some (r, σ') ∧ f_X9_gain μ a1 = some (r, μ') ∧ Rel σ' μ')) (hR : Rel σ μ) (kk : ∀ σ' μ', Rel σ' μ' → pp_E Γ dsA cL_law 4 1382 [(0, ppR 99 0 0), (1, ppR 0 0 0), (2, ppR 40 0 0), (3, ppI i)] [] (pp_2 σ' μ')) : pp_E Γ dsA cL_law 4 756 [(0, ppR 99 0 0), (1, ppR 0 0 0), (2, ppR 40 0 0), (3, ppI i)] [] (pp_2 σ μ) := by
  obtain ⟨r, σ', μ', e1, e2, hR'⟩ := H σ μ (xs (i + 1).toNatClampNeg) hR
  refine pp_aload_n hF dL_law_756 rfl rfl ?_
  refine pp_aload_n hF dL_law_757 rfl rfl ?_
  refine pp_iload_n hF dL_law_758 rfl rfl ?_
  refine pp_iconst hF dL_law_759 ic_1 ?_
  refine pp_iadd hF dL_law_760 ?_
  refine pl_sld hF hX h1 dL_law_761 ?_
  refine pl_K hF (c_X8_gain e1) mV_X8_gain lk_L_91 obK_0 rfl rfl ⟨by decide, by decide⟩ (Nat.le_of_ble_eq_true rfl) dL_law_762 ?_
  refine pp_aload_n hF dL_law_765 rfl rfl ?_
  refine pp_aload_n hF dL_law_766 rfl rfl ?_
  refine pp_iload_n hF dL_law_767 rfl rfl ?_
  refine pp_iconst hF dL_law_768 ic_1 ?_
  refine pp_iadd hF dL_law_769 ?_
  refine pl_sld hF hX h1 dL_law_770 ?_
  refine pl_M hF (c_X9_gain e2) mV_X9_gain lk_L_95 obM_40 rfl rfl ⟨by decide, by decide⟩ (Nat.le_of_ble_eq_true rfl) dL_law_771 ?_
  refine pp_lcmp_eq (tgt := 1382) hF dL_law_774 dL_law_775 rfl (fun _ => ?_) (fun c => absurd rfl c)
  exact kk σ' μ' hR'
set_option maxRecDepth 20000 in
theorem law_19 {Γ : pp_G} {Rel : pp_M → pp_M → Prop} {LL : Nat} {xs : Nat → Int32} {i : Int32} {σ μ : pp_M} (hF : pp_Fx Γ dsA cL_law 4 RL 43 1500) (hX : pp_Sx Γ LL xs) (h1 : vp_in (i + 1) LL) (h2 : vp_in (i + 2) LL) (h3 : vp_in (i + 3) LL) (h4 : vp_in (i + 4) LL) (h5 : vp_in (i + 5) LL) (H : (∀ (σ μ : pp_M) (a1 : Int32), Rel σ μ → ∃ (r : Int32) (σ' μ' : pp_M), f_X8_best σ a1 = some (r, σ') ∧ f_X9_best μ a1 = some (r, μ') ∧ Rel σ' μ')) (hR : Rel σ μ) (kk : ∀ σ' μ', Rel σ' μ' → pp_E Γ dsA cL_law 4 1382 [(0, ppR 99 0 0), (1, ppR 0 0 0), (2, ppR 40 0 0), (3, ppI i)] [] (pp_2 σ' μ')) : pp_E Γ dsA cL_law 4 780 [(0, ppR 99 0 0), (1, ppR 0 0 0), (2, ppR 40 0 0), (3, ppI i)] [] (pp_2 σ μ) := by
  obtain ⟨r, σ', μ', e1, e2, hR'⟩ := H σ μ (xs (i + 1).toNatClampNeg) hR
  refine pp_aload_n hF dL_law_780 rfl rfl ?_
  refine pp_aload_n hF dL_law_781 rfl rfl ?_
  refine pp_iload_n hF dL_law_782 rfl rfl ?_
  refine pp_iconst hF dL_law_783 ic_1 ?_
  refine pp_iadd hF dL_law_784 ?_
  refine pl_sld hF hX h1 dL_law_785 ?_
  refine pl_K hF (c_X8_best e1) mV_X8_best lk_L_96 obK_0 rfl rfl ⟨by decide, by decide⟩ (Nat.le_of_ble_eq_true rfl) dL_law_786 ?_
  refine pp_aload_n hF dL_law_789 rfl rfl ?_
  refine pp_aload_n hF dL_law_790 rfl rfl ?_
  refine pp_iload_n hF dL_law_791 rfl rfl ?_
  refine pp_iconst hF dL_law_792 ic_1 ?_
  refine pp_iadd hF dL_law_793 ?_
  refine pl_sld hF hX h1 dL_law_794 ?_
  refine pl_M hF (c_X9_best e2) mV_X9_best lk_L_99 obM_40 rfl rfl ⟨by decide, by decide⟩ (Nat.le_of_ble_eq_true rfl) dL_law_795 ?_
  refine pp_icmp_eq (tgt := 1382) hF dL_law_798 rfl (fun _ => ?_) (fun c => absurd rfl c)
  exact kk σ' μ' hR'
set_option maxRecDepth 20000 in
theorem law_20 {Γ : pp_G} {Rel : pp_M → pp_M → Prop} {LL : Nat} {xs : Nat → Int32} {i : Int32} {σ μ : pp_M} (hF : pp_Fx Γ dsA cL_law 4 RL 43 1500) (hX : pp_Sx Γ LL xs) (h1 : vp_in (i + 1) LL) (h2 : vp_in (i + 2) LL) (h3 : vp_in (i + 3) LL) (h4 : vp_in (i + 4) LL) (h5 : vp_in (i + 5) LL) (H : (∀ (σ μ : pp_M) (a1 a2 : Int32), Rel σ μ → ∃ (r : Int64) (σ' μ' : pp_M), f_X8_load σ a1 a2 = some (r, σ') ∧ f_X9_load μ a1 a2 = some (r, μ') ∧ Rel σ' μ')) (hR : Rel σ μ) (kk : ∀ σ' μ', Rel σ' μ' → pp_E Γ dsA cL_law 4 1382 [(0, ppR 99 0 0), (1, ppR 0 0 0), (2, ppR 40 0 0), (3, ppI i)] [] (pp_2 σ' μ')) : pp_E Γ dsA cL_law 4 803 [(0, ppR 99 0 0), (1, ppR 0 0 0), (2, ppR 40 0 0), (3, ppI i)] [] (pp_2 σ μ) := by
  obtain ⟨r, σ', μ', e1, e2, hR'⟩ := H σ μ (xs (i + 1).toNatClampNeg) (xs (i + 2).toNatClampNeg) hR
  refine pp_aload_n hF dL_law_803 rfl rfl ?_
  refine pp_aload_n hF dL_law_804 rfl rfl ?_
  refine pp_iload_n hF dL_law_805 rfl rfl ?_
  refine pp_iconst hF dL_law_806 ic_1 ?_
  refine pp_iadd hF dL_law_807 ?_
  refine pl_sld hF hX h1 dL_law_808 ?_
  refine pp_aload_n hF dL_law_809 rfl rfl ?_
  refine pp_iload_n hF dL_law_810 rfl rfl ?_
  refine pp_iconst hF dL_law_811 ic_2 ?_
  refine pp_iadd hF dL_law_812 ?_
  refine pl_sld hF hX h2 dL_law_813 ?_
  refine pl_K hF (c_X8_load e1) mV_X8_load lk_L_100 obK_0 rfl rfl ⟨by decide, by decide⟩ (Nat.le_of_ble_eq_true rfl) dL_law_814 ?_
  refine pp_aload_n hF dL_law_817 rfl rfl ?_
  refine pp_aload_n hF dL_law_818 rfl rfl ?_
  refine pp_iload_n hF dL_law_819 rfl rfl ?_
  refine pp_iconst hF dL_law_820 ic_1 ?_
  refine pp_iadd hF dL_law_821 ?_
  refine pl_sld hF hX h1 dL_law_822 ?_
  refine pp_aload_n hF dL_law_823 rfl rfl ?_
  refine pp_iload_n hF dL_law_824 rfl rfl ?_
  refine pp_iconst hF dL_law_825 ic_2 ?_
  refine pp_iadd hF dL_law_826 ?_
  refine pl_sld hF hX h2 dL_law_827 ?_
  refine pl_M hF (c_X9_load e2) mV_X9_load lk_L_104 obM_40 rfl rfl ⟨by decide, by decide⟩ (Nat.le_of_ble_eq_true rfl) dL_law_828 ?_
  refine pp_lcmp_eq (tgt := 1382) hF dL_law_831 dL_law_832 rfl (fun _ => ?_) (fun c => absurd rfl c)
  exact kk σ' μ' hR'
set_option maxRecDepth 20000 in
theorem law_21 {Γ : pp_G} {Rel : pp_M → pp_M → Prop} {LL : Nat} {xs : Nat → Int32} {i : Int32} {σ μ : pp_M} (hF : pp_Fx Γ dsA cL_law 4 RL 43 1500) (hX : pp_Sx Γ LL xs) (h1 : vp_in (i + 1) LL) (h2 : vp_in (i + 2) LL) (h3 : vp_in (i + 3) LL) (h4 : vp_in (i + 4) LL) (h5 : vp_in (i + 5) LL) (H : (∀ (σ μ : pp_M) (a1 : Int32), Rel σ μ → ∃ (r : Int32) (σ' μ' : pp_M), f_X8_loaded σ a1 = some (r, σ') ∧ f_X9_loaded μ a1 = some (r, μ') ∧ Rel σ' μ')) (hR : Rel σ μ) (kk : ∀ σ' μ', Rel σ' μ' → pp_E Γ dsA cL_law 4 1382 [(0, ppR 99 0 0), (1, ppR 0 0 0), (2, ppR 40 0 0), (3, ppI i)] [] (pp_2 σ' μ')) : pp_E Γ dsA cL_law 4 837 [(0, ppR 99 0 0), (1, ppR 0 0 0), (2, ppR 40 0 0), (3, ppI i)] [] (pp_2 σ μ) := by
  obtain ⟨r, σ', μ', e1, e2, hR'⟩ := H σ μ (xs (i + 1).toNatClampNeg) hR
  refine pp_aload_n hF dL_law_837 rfl rfl ?_
  refine pp_aload_n hF dL_law_838 rfl rfl ?_
  refine pp_iload_n hF dL_law_839 rfl rfl ?_
  refine pp_iconst hF dL_law_840 ic_1 ?_
  refine pp_iadd hF dL_law_841 ?_
  refine pl_sld hF hX h1 dL_law_842 ?_
  refine pl_K hF (c_X8_loaded e1) mV_X8_loaded lk_L_105 obK_0 rfl rfl ⟨by decide, by decide⟩ (Nat.le_of_ble_eq_true rfl) dL_law_843 ?_
  refine pp_aload_n hF dL_law_846 rfl rfl ?_
  refine pp_aload_n hF dL_law_847 rfl rfl ?_
  refine pp_iload_n hF dL_law_848 rfl rfl ?_
  refine pp_iconst hF dL_law_849 ic_1 ?_
  refine pp_iadd hF dL_law_850 ?_
  refine pl_sld hF hX h1 dL_law_851 ?_
  refine pl_M hF (c_X9_loaded e2) mV_X9_loaded lk_L_108 obM_40 rfl rfl ⟨by decide, by decide⟩ (Nat.le_of_ble_eq_true rfl) dL_law_852 ?_
  refine pp_icmp_eq (tgt := 1382) hF dL_law_855 rfl (fun _ => ?_) (fun c => absurd rfl c)
  exact kk σ' μ' hR'
set_option maxRecDepth 20000 in
theorem law_22 {Γ : pp_G} {Rel : pp_M → pp_M → Prop} {LL : Nat} {xs : Nat → Int32} {i : Int32} {σ μ : pp_M} (hF : pp_Fx Γ dsA cL_law 4 RL 43 1500) (hX : pp_Sx Γ LL xs) (h1 : vp_in (i + 1) LL) (h2 : vp_in (i + 2) LL) (h3 : vp_in (i + 3) LL) (h4 : vp_in (i + 4) LL) (h5 : vp_in (i + 5) LL) (H : (∀ (σ μ : pp_M) (a1 : Int32), Rel σ μ → ∃ (r : Int32) (σ' μ' : pp_M), f_X8_round σ a1 = some (r, σ') ∧ f_X9_round μ a1 = some (r, μ') ∧ Rel σ' μ')) (hR : Rel σ μ) (kk : ∀ σ' μ', Rel σ' μ' → pp_E Γ dsA cL_law 4 1382 [(0, ppR 99 0 0), (1, ppR 0 0 0), (2, ppR 40 0 0), (3, ppI i)] [] (pp_2 σ' μ')) : pp_E Γ dsA cL_law 4 860 [(0, ppR 99 0 0), (1, ppR 0 0 0), (2, ppR 40 0 0), (3, ppI i)] [] (pp_2 σ μ) := by
  obtain ⟨r, σ', μ', e1, e2, hR'⟩ := H σ μ (xs (i + 1).toNatClampNeg) hR
  refine pp_aload_n hF dL_law_860 rfl rfl ?_
  refine pp_aload_n hF dL_law_861 rfl rfl ?_
  refine pp_iload_n hF dL_law_862 rfl rfl ?_
  refine pp_iconst hF dL_law_863 ic_1 ?_
  refine pp_iadd hF dL_law_864 ?_
  refine pl_sld hF hX h1 dL_law_865 ?_
  refine pl_K hF (c_X8_round e1) mV_X8_round lk_L_109 obK_0 rfl rfl ⟨by decide, by decide⟩ (Nat.le_of_ble_eq_true rfl) dL_law_866 ?_
  refine pp_aload_n hF dL_law_869 rfl rfl ?_
  refine pp_aload_n hF dL_law_870 rfl rfl ?_
  refine pp_iload_n hF dL_law_871 rfl rfl ?_
  refine pp_iconst hF dL_law_872 ic_1 ?_
  refine pp_iadd hF dL_law_873 ?_
  refine pl_sld hF hX h1 dL_law_874 ?_
  refine pl_M hF (c_X9_round e2) mV_X9_round lk_L_112 obM_40 rfl rfl ⟨by decide, by decide⟩ (Nat.le_of_ble_eq_true rfl) dL_law_875 ?_
  refine pp_icmp_eq (tgt := 1382) hF dL_law_878 rfl (fun _ => ?_) (fun c => absurd rfl c)
  exact kk σ' μ' hR'
set_option maxRecDepth 20000 in
theorem law_23 {Γ : pp_G} {Rel : pp_M → pp_M → Prop} {LL : Nat} {xs : Nat → Int32} {i : Int32} {σ μ : pp_M} (hF : pp_Fx Γ dsA cL_law 4 RL 43 1500) (hX : pp_Sx Γ LL xs) (h1 : vp_in (i + 1) LL) (h2 : vp_in (i + 2) LL) (h3 : vp_in (i + 3) LL) (h4 : vp_in (i + 4) LL) (h5 : vp_in (i + 5) LL) (H : (∀ (σ μ : pp_M) (a1 : Int32), Rel σ μ → ∃ (r : Int64) (σ' μ' : pp_M), f_X8_rounds σ a1 = some (r, σ') ∧ f_X9_rounds μ a1 = some (r, μ') ∧ Rel σ' μ')) (hR : Rel σ μ) (kk : ∀ σ' μ', Rel σ' μ' → pp_E Γ dsA cL_law 4 1382 [(0, ppR 99 0 0), (1, ppR 0 0 0), (2, ppR 40 0 0), (3, ppI i)] [] (pp_2 σ' μ')) : pp_E Γ dsA cL_law 4 883 [(0, ppR 99 0 0), (1, ppR 0 0 0), (2, ppR 40 0 0), (3, ppI i)] [] (pp_2 σ μ) := by
  obtain ⟨r, σ', μ', e1, e2, hR'⟩ := H σ μ (xs (i + 1).toNatClampNeg) hR
  refine pp_aload_n hF dL_law_883 rfl rfl ?_
  refine pp_aload_n hF dL_law_884 rfl rfl ?_
  refine pp_iload_n hF dL_law_885 rfl rfl ?_
  refine pp_iconst hF dL_law_886 ic_1 ?_
  refine pp_iadd hF dL_law_887 ?_
  refine pl_sld hF hX h1 dL_law_888 ?_
  refine pl_K hF (c_X8_rounds e1) mV_X8_rounds lk_L_113 obK_0 rfl rfl ⟨by decide, by decide⟩ (Nat.le_of_ble_eq_true rfl) dL_law_889 ?_
  refine pp_aload_n hF dL_law_892 rfl rfl ?_
  refine pp_aload_n hF dL_law_893 rfl rfl ?_
  refine pp_iload_n hF dL_law_894 rfl rfl ?_
  refine pp_iconst hF dL_law_895 ic_1 ?_
  refine pp_iadd hF dL_law_896 ?_
  refine pl_sld hF hX h1 dL_law_897 ?_
  refine pl_M hF (c_X9_rounds e2) mV_X9_rounds lk_L_116 obM_40 rfl rfl ⟨by decide, by decide⟩ (Nat.le_of_ble_eq_true rfl) dL_law_898 ?_
  refine pp_lcmp_eq (tgt := 1382) hF dL_law_901 dL_law_902 rfl (fun _ => ?_) (fun c => absurd rfl c)
  exact kk σ' μ' hR'
set_option maxRecDepth 20000 in
theorem law_24 {Γ : pp_G} {Rel : pp_M → pp_M → Prop} {LL : Nat} {xs : Nat → Int32} {i : Int32} {σ μ : pp_M} (hF : pp_Fx Γ dsA cL_law 4 RL 43 1500) (hX : pp_Sx Γ LL xs) (h1 : vp_in (i + 1) LL) (h2 : vp_in (i + 2) LL) (h3 : vp_in (i + 3) LL) (h4 : vp_in (i + 4) LL) (h5 : vp_in (i + 5) LL) (H : (∀ (σ μ : pp_M) (a1 a2 : Int32), Rel σ μ → ∃ (r : Int32) (σ' μ' : pp_M), f_X8_onward σ a1 a2 = some (r, σ') ∧ f_X9_onward μ a1 a2 = some (r, μ') ∧ Rel σ' μ')) (hR : Rel σ μ) (kk : ∀ σ' μ', Rel σ' μ' → pp_E Γ dsA cL_law 4 1382 [(0, ppR 99 0 0), (1, ppR 0 0 0), (2, ppR 40 0 0), (3, ppI i)] [] (pp_2 σ' μ')) : pp_E Γ dsA cL_law 4 907 [(0, ppR 99 0 0), (1, ppR 0 0 0), (2, ppR 40 0 0), (3, ppI i)] [] (pp_2 σ μ) := by
  obtain ⟨r, σ', μ', e1, e2, hR'⟩ := H σ μ (xs (i + 1).toNatClampNeg) (xs (i + 2).toNatClampNeg) hR
  refine pp_aload_n hF dL_law_907 rfl rfl ?_
  refine pp_aload_n hF dL_law_908 rfl rfl ?_
  refine pp_iload_n hF dL_law_909 rfl rfl ?_
  refine pp_iconst hF dL_law_910 ic_1 ?_
  refine pp_iadd hF dL_law_911 ?_
  refine pl_sld hF hX h1 dL_law_912 ?_
  refine pp_aload_n hF dL_law_913 rfl rfl ?_
  refine pp_iload_n hF dL_law_914 rfl rfl ?_
  refine pp_iconst hF dL_law_915 ic_2 ?_
  refine pp_iadd hF dL_law_916 ?_
  refine pl_sld hF hX h2 dL_law_917 ?_
  refine pl_K hF (c_X8_onward e1) mV_X8_onward lk_L_117 obK_0 rfl rfl ⟨by decide, by decide⟩ (Nat.le_of_ble_eq_true rfl) dL_law_918 ?_
  refine pp_aload_n hF dL_law_921 rfl rfl ?_
  refine pp_aload_n hF dL_law_922 rfl rfl ?_
  refine pp_iload_n hF dL_law_923 rfl rfl ?_
  refine pp_iconst hF dL_law_924 ic_1 ?_
  refine pp_iadd hF dL_law_925 ?_
  refine pl_sld hF hX h1 dL_law_926 ?_
  refine pp_aload_n hF dL_law_927 rfl rfl ?_
  refine pp_iload_n hF dL_law_928 rfl rfl ?_
  refine pp_iconst hF dL_law_929 ic_2 ?_
  refine pp_iadd hF dL_law_930 ?_
  refine pl_sld hF hX h2 dL_law_931 ?_
  refine pl_M hF (c_X9_onward e2) mV_X9_onward lk_L_120 obM_40 rfl rfl ⟨by decide, by decide⟩ (Nat.le_of_ble_eq_true rfl) dL_law_932 ?_
  refine pp_icmp_eq (tgt := 1382) hF dL_law_935 rfl (fun _ => ?_) (fun c => absurd rfl c)
  exact kk σ' μ' hR'
set_option maxRecDepth 20000 in
theorem law_25 {Γ : pp_G} {Rel : pp_M → pp_M → Prop} {LL : Nat} {xs : Nat → Int32} {i : Int32} {σ μ : pp_M} (hF : pp_Fx Γ dsA cL_law 4 RL 43 1500) (hX : pp_Sx Γ LL xs) (h1 : vp_in (i + 1) LL) (h2 : vp_in (i + 2) LL) (h3 : vp_in (i + 3) LL) (h4 : vp_in (i + 4) LL) (h5 : vp_in (i + 5) LL) (H : (∀ (σ μ : pp_M) (a1 a2 a3 a4 a5 : Int32), Rel σ μ → ∃ (r : Int32) (σ' μ' : pp_M), f_X8_trust σ a1 a2 a3 a4 a5 = some (r, σ') ∧ f_X9_trust μ a1 a2 a3 a4 a5 = some (r, μ') ∧ Rel σ' μ')) (hR : Rel σ μ) (kk : ∀ σ' μ', Rel σ' μ' → pp_E Γ dsA cL_law 4 1382 [(0, ppR 99 0 0), (1, ppR 0 0 0), (2, ppR 40 0 0), (3, ppI i)] [] (pp_2 σ' μ')) : pp_E Γ dsA cL_law 4 940 [(0, ppR 99 0 0), (1, ppR 0 0 0), (2, ppR 40 0 0), (3, ppI i)] [] (pp_2 σ μ) := by
  obtain ⟨r, σ', μ', e1, e2, hR'⟩ := H σ μ (xs (i + 1).toNatClampNeg) (xs (i + 2).toNatClampNeg) (xs (i + 3).toNatClampNeg) (xs (i + 4).toNatClampNeg) (xs (i + 5).toNatClampNeg) hR
  refine pp_aload_n hF dL_law_940 rfl rfl ?_
  refine pp_aload_n hF dL_law_941 rfl rfl ?_
  refine pp_iload_n hF dL_law_942 rfl rfl ?_
  refine pp_iconst hF dL_law_943 ic_1 ?_
  refine pp_iadd hF dL_law_944 ?_
  refine pl_sld hF hX h1 dL_law_945 ?_
  refine pp_aload_n hF dL_law_946 rfl rfl ?_
  refine pp_iload_n hF dL_law_947 rfl rfl ?_
  refine pp_iconst hF dL_law_948 ic_2 ?_
  refine pp_iadd hF dL_law_949 ?_
  refine pl_sld hF hX h2 dL_law_950 ?_
  refine pp_aload_n hF dL_law_951 rfl rfl ?_
  refine pp_iload_n hF dL_law_952 rfl rfl ?_
  refine pp_iconst hF dL_law_953 ic_3 ?_
  refine pp_iadd hF dL_law_954 ?_
  refine pl_sld hF hX h3 dL_law_955 ?_
  refine pp_aload_n hF dL_law_956 rfl rfl ?_
  refine pp_iload_n hF dL_law_957 rfl rfl ?_
  refine pp_iconst hF dL_law_958 ic_4 ?_
  refine pp_iadd hF dL_law_959 ?_
  refine pl_sld hF hX h4 dL_law_960 ?_
  refine pp_aload_n hF dL_law_961 rfl rfl ?_
  refine pp_iload_n hF dL_law_962 rfl rfl ?_
  refine pp_iconst hF dL_law_963 ic_5 ?_
  refine pp_iadd hF dL_law_964 ?_
  refine pl_sld hF hX h5 dL_law_965 ?_
  refine pl_K hF (c_X8_trust e1) mV_X8_trust lk_L_121 obK_0 rfl rfl ⟨by decide, by decide⟩ (Nat.le_of_ble_eq_true rfl) dL_law_966 ?_
  refine pp_aload_n hF dL_law_969 rfl rfl ?_
  refine pp_aload_n hF dL_law_970 rfl rfl ?_
  refine pp_iload_n hF dL_law_971 rfl rfl ?_
  refine pp_iconst hF dL_law_972 ic_1 ?_
  refine pp_iadd hF dL_law_973 ?_
  refine pl_sld hF hX h1 dL_law_974 ?_
  refine pp_aload_n hF dL_law_975 rfl rfl ?_
  refine pp_iload_n hF dL_law_976 rfl rfl ?_
  refine pp_iconst hF dL_law_977 ic_2 ?_
  refine pp_iadd hF dL_law_978 ?_
  refine pl_sld hF hX h2 dL_law_979 ?_
  refine pp_aload_n hF dL_law_980 rfl rfl ?_
  refine pp_iload_n hF dL_law_981 rfl rfl ?_
  refine pp_iconst hF dL_law_982 ic_3 ?_
  refine pp_iadd hF dL_law_983 ?_
  refine pl_sld hF hX h3 dL_law_984 ?_
  refine pp_aload_n hF dL_law_985 rfl rfl ?_
  refine pp_iload_n hF dL_law_986 rfl rfl ?_
  refine pp_iconst hF dL_law_987 ic_4 ?_
  refine pp_iadd hF dL_law_988 ?_
  refine pl_sld hF hX h4 dL_law_989 ?_
  refine pp_aload_n hF dL_law_990 rfl rfl ?_
  refine pp_iload_n hF dL_law_991 rfl rfl ?_
  refine pp_iconst hF dL_law_992 ic_5 ?_
  refine pp_iadd hF dL_law_993 ?_
  refine pl_sld hF hX h5 dL_law_994 ?_
  refine pl_M hF (c_X9_trust e2) mV_X9_trust lk_L_125 obM_40 rfl rfl ⟨by decide, by decide⟩ (Nat.le_of_ble_eq_true rfl) dL_law_995 ?_
  refine pp_icmp_eq (tgt := 1382) hF dL_law_998 rfl (fun _ => ?_) (fun c => absurd rfl c)
  exact kk σ' μ' hR'
set_option maxRecDepth 20000 in
theorem law_26 {Γ : pp_G} {Rel : pp_M → pp_M → Prop} {LL : Nat} {xs : Nat → Int32} {i : Int32} {σ μ : pp_M} (hF : pp_Fx Γ dsA cL_law 4 RL 43 1500) (hX : pp_Sx Γ LL xs) (h1 : vp_in (i + 1) LL) (h2 : vp_in (i + 2) LL) (h3 : vp_in (i + 3) LL) (h4 : vp_in (i + 4) LL) (h5 : vp_in (i + 5) LL) (H : (∀ (σ μ : pp_M) (a1 : Int32), Rel σ μ → ∃ (r : Int32) (σ' μ' : pp_M), f_X8_two σ a1 = some (r, σ') ∧ f_X9_two μ a1 = some (r, μ') ∧ Rel σ' μ')) (hR : Rel σ μ) (kk : ∀ σ' μ', Rel σ' μ' → pp_E Γ dsA cL_law 4 1382 [(0, ppR 99 0 0), (1, ppR 0 0 0), (2, ppR 40 0 0), (3, ppI i)] [] (pp_2 σ' μ')) : pp_E Γ dsA cL_law 4 1003 [(0, ppR 99 0 0), (1, ppR 0 0 0), (2, ppR 40 0 0), (3, ppI i)] [] (pp_2 σ μ) := by
  obtain ⟨r, σ', μ', e1, e2, hR'⟩ := H σ μ (xs (i + 1).toNatClampNeg) hR
  refine pp_aload_n hF dL_law_1003 rfl rfl ?_
  refine pp_aload_n hF dL_law_1004 rfl rfl ?_
  refine pp_iload_n hF dL_law_1005 rfl rfl ?_
  refine pp_iconst hF dL_law_1006 ic_1 ?_
  refine pp_iadd hF dL_law_1007 ?_
  refine pl_sld hF hX h1 dL_law_1008 ?_
  refine pl_K hF (c_X8_two e1) mV_X8_two lk_L_126 obK_0 rfl rfl ⟨by decide, by decide⟩ (Nat.le_of_ble_eq_true rfl) dL_law_1009 ?_
  refine pp_aload_n hF dL_law_1012 rfl rfl ?_
  refine pp_aload_n hF dL_law_1013 rfl rfl ?_
  refine pp_iload_n hF dL_law_1014 rfl rfl ?_
  refine pp_iconst hF dL_law_1015 ic_1 ?_
  refine pp_iadd hF dL_law_1016 ?_
  refine pl_sld hF hX h1 dL_law_1017 ?_
  refine pl_M hF (c_X9_two e2) mV_X9_two lk_L_129 obM_40 rfl rfl ⟨by decide, by decide⟩ (Nat.le_of_ble_eq_true rfl) dL_law_1018 ?_
  refine pp_icmp_eq (tgt := 1382) hF dL_law_1021 rfl (fun _ => ?_) (fun c => absurd rfl c)
  exact kk σ' μ' hR'
set_option maxRecDepth 20000 in
theorem law_27 {Γ : pp_G} {Rel : pp_M → pp_M → Prop} {LL : Nat} {xs : Nat → Int32} {i : Int32} {σ μ : pp_M} (hF : pp_Fx Γ dsA cL_law 4 RL 43 1500) (hX : pp_Sx Γ LL xs) (h1 : vp_in (i + 1) LL) (h2 : vp_in (i + 2) LL) (h3 : vp_in (i + 3) LL) (h4 : vp_in (i + 4) LL) (h5 : vp_in (i + 5) LL) (H : (∀ (σ μ : pp_M) (a1 : Int32), Rel σ μ → ∃ (r : Int64) (σ' μ' : pp_M), f_X8_both σ a1 = some (r, σ') ∧ f_X9_both μ a1 = some (r, μ') ∧ Rel σ' μ')) (hR : Rel σ μ) (kk : ∀ σ' μ', Rel σ' μ' → pp_E Γ dsA cL_law 4 1382 [(0, ppR 99 0 0), (1, ppR 0 0 0), (2, ppR 40 0 0), (3, ppI i)] [] (pp_2 σ' μ')) : pp_E Γ dsA cL_law 4 1026 [(0, ppR 99 0 0), (1, ppR 0 0 0), (2, ppR 40 0 0), (3, ppI i)] [] (pp_2 σ μ) := by
  obtain ⟨r, σ', μ', e1, e2, hR'⟩ := H σ μ (xs (i + 1).toNatClampNeg) hR
  refine pp_aload_n hF dL_law_1026 rfl rfl ?_
  refine pp_aload_n hF dL_law_1027 rfl rfl ?_
  refine pp_iload_n hF dL_law_1028 rfl rfl ?_
  refine pp_iconst hF dL_law_1029 ic_1 ?_
  refine pp_iadd hF dL_law_1030 ?_
  refine pl_sld hF hX h1 dL_law_1031 ?_
  refine pl_K hF (c_X8_both e1) mV_X8_both lk_L_130 obK_0 rfl rfl ⟨by decide, by decide⟩ (Nat.le_of_ble_eq_true rfl) dL_law_1032 ?_
  refine pp_aload_n hF dL_law_1035 rfl rfl ?_
  refine pp_aload_n hF dL_law_1036 rfl rfl ?_
  refine pp_iload_n hF dL_law_1037 rfl rfl ?_
  refine pp_iconst hF dL_law_1038 ic_1 ?_
  refine pp_iadd hF dL_law_1039 ?_
  refine pl_sld hF hX h1 dL_law_1040 ?_
  refine pl_M hF (c_X9_both e2) mV_X9_both lk_L_133 obM_40 rfl rfl ⟨by decide, by decide⟩ (Nat.le_of_ble_eq_true rfl) dL_law_1041 ?_
  refine pp_lcmp_eq (tgt := 1382) hF dL_law_1044 dL_law_1045 rfl (fun _ => ?_) (fun c => absurd rfl c)
  exact kk σ' μ' hR'
set_option maxRecDepth 20000 in
theorem law_28 {Γ : pp_G} {Rel : pp_M → pp_M → Prop} {LL : Nat} {xs : Nat → Int32} {i : Int32} {σ μ : pp_M} (hF : pp_Fx Γ dsA cL_law 4 RL 43 1500) (hX : pp_Sx Γ LL xs) (h1 : vp_in (i + 1) LL) (h2 : vp_in (i + 2) LL) (h3 : vp_in (i + 3) LL) (h4 : vp_in (i + 4) LL) (h5 : vp_in (i + 5) LL) (H : (∀ (σ μ : pp_M) (a1 a2 : Int32), Rel σ μ → ∃ (r : Int64) (σ' μ' : pp_M), f_X8_brings σ a1 a2 = some (r, σ') ∧ f_X9_brings μ a1 a2 = some (r, μ') ∧ Rel σ' μ')) (hR : Rel σ μ) (kk : ∀ σ' μ', Rel σ' μ' → pp_E Γ dsA cL_law 4 1382 [(0, ppR 99 0 0), (1, ppR 0 0 0), (2, ppR 40 0 0), (3, ppI i)] [] (pp_2 σ' μ')) : pp_E Γ dsA cL_law 4 1050 [(0, ppR 99 0 0), (1, ppR 0 0 0), (2, ppR 40 0 0), (3, ppI i)] [] (pp_2 σ μ) := by
  obtain ⟨r, σ', μ', e1, e2, hR'⟩ := H σ μ (xs (i + 1).toNatClampNeg) (xs (i + 2).toNatClampNeg) hR
  refine pp_aload_n hF dL_law_1050 rfl rfl ?_
  refine pp_aload_n hF dL_law_1051 rfl rfl ?_
  refine pp_iload_n hF dL_law_1052 rfl rfl ?_
  refine pp_iconst hF dL_law_1053 ic_1 ?_
  refine pp_iadd hF dL_law_1054 ?_
  refine pl_sld hF hX h1 dL_law_1055 ?_
  refine pp_aload_n hF dL_law_1056 rfl rfl ?_
  refine pp_iload_n hF dL_law_1057 rfl rfl ?_
  refine pp_iconst hF dL_law_1058 ic_2 ?_
  refine pp_iadd hF dL_law_1059 ?_
  refine pl_sld hF hX h2 dL_law_1060 ?_
  refine pl_K hF (c_X8_brings e1) mV_X8_brings lk_L_134 obK_0 rfl rfl ⟨by decide, by decide⟩ (Nat.le_of_ble_eq_true rfl) dL_law_1061 ?_
  refine pp_aload_n hF dL_law_1064 rfl rfl ?_
  refine pp_aload_n hF dL_law_1065 rfl rfl ?_
  refine pp_iload_n hF dL_law_1066 rfl rfl ?_
  refine pp_iconst hF dL_law_1067 ic_1 ?_
  refine pp_iadd hF dL_law_1068 ?_
  refine pl_sld hF hX h1 dL_law_1069 ?_
  refine pp_aload_n hF dL_law_1070 rfl rfl ?_
  refine pp_iload_n hF dL_law_1071 rfl rfl ?_
  refine pp_iconst hF dL_law_1072 ic_2 ?_
  refine pp_iadd hF dL_law_1073 ?_
  refine pl_sld hF hX h2 dL_law_1074 ?_
  refine pl_M hF (c_X9_brings e2) mV_X9_brings lk_L_137 obM_40 rfl rfl ⟨by decide, by decide⟩ (Nat.le_of_ble_eq_true rfl) dL_law_1075 ?_
  refine pp_lcmp_eq (tgt := 1382) hF dL_law_1078 dL_law_1079 rfl (fun _ => ?_) (fun c => absurd rfl c)
  exact kk σ' μ' hR'
set_option maxRecDepth 20000 in
theorem law_29 {Γ : pp_G} {Rel : pp_M → pp_M → Prop} {LL : Nat} {xs : Nat → Int32} {i : Int32} {σ μ : pp_M} (hF : pp_Fx Γ dsA cL_law 4 RL 43 1500) (hX : pp_Sx Γ LL xs) (h1 : vp_in (i + 1) LL) (h2 : vp_in (i + 2) LL) (h3 : vp_in (i + 3) LL) (h4 : vp_in (i + 4) LL) (h5 : vp_in (i + 5) LL) (H : (∀ (σ μ : pp_M), Rel σ μ → ∃ (r : Int32) (σ' μ' : pp_M), f_X8_straps σ  = some (r, σ') ∧ f_X9_straps μ  = some (r, μ') ∧ Rel σ' μ')) (hR : Rel σ μ) (kk : ∀ σ' μ', Rel σ' μ' → pp_E Γ dsA cL_law 4 1382 [(0, ppR 99 0 0), (1, ppR 0 0 0), (2, ppR 40 0 0), (3, ppI i)] [] (pp_2 σ' μ')) : pp_E Γ dsA cL_law 4 1084 [(0, ppR 99 0 0), (1, ppR 0 0 0), (2, ppR 40 0 0), (3, ppI i)] [] (pp_2 σ μ) := by
  obtain ⟨r, σ', μ', e1, e2, hR'⟩ := H σ μ hR
  refine pp_aload_n hF dL_law_1084 rfl rfl ?_
  refine pl_K hF (c_X8_straps e1) mV_X8_straps lk_L_138 obK_0 rfl rfl ⟨by decide, by decide⟩ (Nat.le_of_ble_eq_true rfl) dL_law_1085 ?_
  refine pp_aload_n hF dL_law_1088 rfl rfl ?_
  refine pl_M hF (c_X9_straps e2) mV_X9_straps lk_L_141 obM_40 rfl rfl ⟨by decide, by decide⟩ (Nat.le_of_ble_eq_true rfl) dL_law_1089 ?_
  refine pp_icmp_eq (tgt := 1382) hF dL_law_1092 rfl (fun _ => ?_) (fun c => absurd rfl c)
  exact kk σ' μ' hR'
set_option maxRecDepth 20000 in
theorem law_30 {Γ : pp_G} {Rel : pp_M → pp_M → Prop} {LL : Nat} {xs : Nat → Int32} {i : Int32} {σ μ : pp_M} (hF : pp_Fx Γ dsA cL_law 4 RL 43 1500) (hX : pp_Sx Γ LL xs) (h1 : vp_in (i + 1) LL) (h2 : vp_in (i + 2) LL) (h3 : vp_in (i + 3) LL) (h4 : vp_in (i + 4) LL) (h5 : vp_in (i + 5) LL) (H : (∀ (σ μ : pp_M) (a1 a2 a3 : Int32), Rel σ μ → ∃ (r : Int32) (σ' μ' : pp_M), f_X8_sheet σ a1 a2 a3 = some (r, σ') ∧ f_X9_sheet μ a1 a2 a3 = some (r, μ') ∧ Rel σ' μ')) (hR : Rel σ μ) (kk : ∀ σ' μ', Rel σ' μ' → pp_E Γ dsA cL_law 4 1382 [(0, ppR 99 0 0), (1, ppR 0 0 0), (2, ppR 40 0 0), (3, ppI i)] [] (pp_2 σ' μ')) : pp_E Γ dsA cL_law 4 1097 [(0, ppR 99 0 0), (1, ppR 0 0 0), (2, ppR 40 0 0), (3, ppI i)] [] (pp_2 σ μ) := by
  obtain ⟨r, σ', μ', e1, e2, hR'⟩ := H σ μ (xs (i + 1).toNatClampNeg) (xs (i + 2).toNatClampNeg) (xs (i + 3).toNatClampNeg) hR
  refine pp_aload_n hF dL_law_1097 rfl rfl ?_
  refine pp_aload_n hF dL_law_1098 rfl rfl ?_
  refine pp_iload_n hF dL_law_1099 rfl rfl ?_
  refine pp_iconst hF dL_law_1100 ic_1 ?_
  refine pp_iadd hF dL_law_1101 ?_
  refine pl_sld hF hX h1 dL_law_1102 ?_
  refine pp_aload_n hF dL_law_1103 rfl rfl ?_
  refine pp_iload_n hF dL_law_1104 rfl rfl ?_
  refine pp_iconst hF dL_law_1105 ic_2 ?_
  refine pp_iadd hF dL_law_1106 ?_
  refine pl_sld hF hX h2 dL_law_1107 ?_
  refine pp_aload_n hF dL_law_1108 rfl rfl ?_
  refine pp_iload_n hF dL_law_1109 rfl rfl ?_
  refine pp_iconst hF dL_law_1110 ic_3 ?_
  refine pp_iadd hF dL_law_1111 ?_
  refine pl_sld hF hX h3 dL_law_1112 ?_
  refine pl_K hF (c_X8_sheet e1) mV_X8_sheet lk_L_142 obK_0 rfl rfl ⟨by decide, by decide⟩ (Nat.le_of_ble_eq_true rfl) dL_law_1113 ?_
  refine pp_aload_n hF dL_law_1116 rfl rfl ?_
  refine pp_aload_n hF dL_law_1117 rfl rfl ?_
  refine pp_iload_n hF dL_law_1118 rfl rfl ?_
  refine pp_iconst hF dL_law_1119 ic_1 ?_
  refine pp_iadd hF dL_law_1120 ?_
  refine pl_sld hF hX h1 dL_law_1121 ?_
  refine pp_aload_n hF dL_law_1122 rfl rfl ?_
  refine pp_iload_n hF dL_law_1123 rfl rfl ?_
  refine pp_iconst hF dL_law_1124 ic_2 ?_
  refine pp_iadd hF dL_law_1125 ?_
  refine pl_sld hF hX h2 dL_law_1126 ?_
  refine pp_aload_n hF dL_law_1127 rfl rfl ?_
  refine pp_iload_n hF dL_law_1128 rfl rfl ?_
  refine pp_iconst hF dL_law_1129 ic_3 ?_
  refine pp_iadd hF dL_law_1130 ?_
  refine pl_sld hF hX h3 dL_law_1131 ?_
  refine pl_M hF (c_X9_sheet e2) mV_X9_sheet lk_L_145 obM_40 rfl rfl ⟨by decide, by decide⟩ (Nat.le_of_ble_eq_true rfl) dL_law_1132 ?_
  refine pp_icmp_eq (tgt := 1382) hF dL_law_1135 rfl (fun _ => ?_) (fun c => absurd rfl c)
  exact kk σ' μ' hR'
set_option maxRecDepth 20000 in
theorem law_31 {Γ : pp_G} {Rel : pp_M → pp_M → Prop} {LL : Nat} {xs : Nat → Int32} {i : Int32} {σ μ : pp_M} (hF : pp_Fx Γ dsA cL_law 4 RL 43 1500) (hX : pp_Sx Γ LL xs) (h1 : vp_in (i + 1) LL) (h2 : vp_in (i + 2) LL) (h3 : vp_in (i + 3) LL) (h4 : vp_in (i + 4) LL) (h5 : vp_in (i + 5) LL) (H : (∀ (σ μ : pp_M) (a1 : Int32), Rel σ μ → ∃ (r : Int32) (σ' μ' : pp_M), f_X8_lose σ a1 = some (r, σ') ∧ f_X9_lose μ a1 = some (r, μ') ∧ Rel σ' μ')) (hR : Rel σ μ) (kk : ∀ σ' μ', Rel σ' μ' → pp_E Γ dsA cL_law 4 1382 [(0, ppR 99 0 0), (1, ppR 0 0 0), (2, ppR 40 0 0), (3, ppI i)] [] (pp_2 σ' μ')) : pp_E Γ dsA cL_law 4 1140 [(0, ppR 99 0 0), (1, ppR 0 0 0), (2, ppR 40 0 0), (3, ppI i)] [] (pp_2 σ μ) := by
  obtain ⟨r, σ', μ', e1, e2, hR'⟩ := H σ μ (xs (i + 1).toNatClampNeg) hR
  refine pp_aload_n hF dL_law_1140 rfl rfl ?_
  refine pp_aload_n hF dL_law_1141 rfl rfl ?_
  refine pp_iload_n hF dL_law_1142 rfl rfl ?_
  refine pp_iconst hF dL_law_1143 ic_1 ?_
  refine pp_iadd hF dL_law_1144 ?_
  refine pl_sld hF hX h1 dL_law_1145 ?_
  refine pl_K hF (c_X8_lose e1) mV_X8_lose lk_L_146 obK_0 rfl rfl ⟨by decide, by decide⟩ (Nat.le_of_ble_eq_true rfl) dL_law_1146 ?_
  refine pp_aload_n hF dL_law_1149 rfl rfl ?_
  refine pp_aload_n hF dL_law_1150 rfl rfl ?_
  refine pp_iload_n hF dL_law_1151 rfl rfl ?_
  refine pp_iconst hF dL_law_1152 ic_1 ?_
  refine pp_iadd hF dL_law_1153 ?_
  refine pl_sld hF hX h1 dL_law_1154 ?_
  refine pl_M hF (c_X9_lose e2) mV_X9_lose lk_L_149 obM_40 rfl rfl ⟨by decide, by decide⟩ (Nat.le_of_ble_eq_true rfl) dL_law_1155 ?_
  refine pp_icmp_eq (tgt := 1382) hF dL_law_1158 rfl (fun _ => ?_) (fun c => absurd rfl c)
  exact kk σ' μ' hR'
set_option maxRecDepth 20000 in
theorem law_32 {Γ : pp_G} {Rel : pp_M → pp_M → Prop} {LL : Nat} {xs : Nat → Int32} {i : Int32} {σ μ : pp_M} (hF : pp_Fx Γ dsA cL_law 4 RL 43 1500) (hX : pp_Sx Γ LL xs) (h1 : vp_in (i + 1) LL) (h2 : vp_in (i + 2) LL) (h3 : vp_in (i + 3) LL) (h4 : vp_in (i + 4) LL) (h5 : vp_in (i + 5) LL) (H : (∀ (σ μ : pp_M) (a1 a2 a3 a4 : Int32), Rel σ μ → ∃ (r : Int32) (σ' μ' : pp_M), f_X8_put σ a1 a2 a3 a4 = some (r, σ') ∧ f_X9_put μ a1 a2 a3 a4 = some (r, μ') ∧ Rel σ' μ')) (hR : Rel σ μ) (kk : ∀ σ' μ', Rel σ' μ' → pp_E Γ dsA cL_law 4 1382 [(0, ppR 99 0 0), (1, ppR 0 0 0), (2, ppR 40 0 0), (3, ppI i)] [] (pp_2 σ' μ')) : pp_E Γ dsA cL_law 4 1163 [(0, ppR 99 0 0), (1, ppR 0 0 0), (2, ppR 40 0 0), (3, ppI i)] [] (pp_2 σ μ) := by
  obtain ⟨r, σ', μ', e1, e2, hR'⟩ := H σ μ (xs (i + 1).toNatClampNeg) (xs (i + 2).toNatClampNeg) (xs (i + 3).toNatClampNeg) (xs (i + 4).toNatClampNeg) hR
  refine pp_aload_n hF dL_law_1163 rfl rfl ?_
  refine pp_aload_n hF dL_law_1164 rfl rfl ?_
  refine pp_iload_n hF dL_law_1165 rfl rfl ?_
  refine pp_iconst hF dL_law_1166 ic_1 ?_
  refine pp_iadd hF dL_law_1167 ?_
  refine pl_sld hF hX h1 dL_law_1168 ?_
  refine pp_aload_n hF dL_law_1169 rfl rfl ?_
  refine pp_iload_n hF dL_law_1170 rfl rfl ?_
  refine pp_iconst hF dL_law_1171 ic_2 ?_
  refine pp_iadd hF dL_law_1172 ?_
  refine pl_sld hF hX h2 dL_law_1173 ?_
  refine pp_aload_n hF dL_law_1174 rfl rfl ?_
  refine pp_iload_n hF dL_law_1175 rfl rfl ?_
  refine pp_iconst hF dL_law_1176 ic_3 ?_
  refine pp_iadd hF dL_law_1177 ?_
  refine pl_sld hF hX h3 dL_law_1178 ?_
  refine pp_aload_n hF dL_law_1179 rfl rfl ?_
  refine pp_iload_n hF dL_law_1180 rfl rfl ?_
  refine pp_iconst hF dL_law_1181 ic_4 ?_
  refine pp_iadd hF dL_law_1182 ?_
  refine pl_sld hF hX h4 dL_law_1183 ?_
  refine pl_K hF (c_X8_put e1) mV_X8_put lk_L_150 obK_0 rfl rfl ⟨by decide, by decide⟩ (Nat.le_of_ble_eq_true rfl) dL_law_1184 ?_
  refine pp_aload_n hF dL_law_1187 rfl rfl ?_
  refine pp_aload_n hF dL_law_1188 rfl rfl ?_
  refine pp_iload_n hF dL_law_1189 rfl rfl ?_
  refine pp_iconst hF dL_law_1190 ic_1 ?_
  refine pp_iadd hF dL_law_1191 ?_
  refine pl_sld hF hX h1 dL_law_1192 ?_
  refine pp_aload_n hF dL_law_1193 rfl rfl ?_
  refine pp_iload_n hF dL_law_1194 rfl rfl ?_
  refine pp_iconst hF dL_law_1195 ic_2 ?_
  refine pp_iadd hF dL_law_1196 ?_
  refine pl_sld hF hX h2 dL_law_1197 ?_
  refine pp_aload_n hF dL_law_1198 rfl rfl ?_
  refine pp_iload_n hF dL_law_1199 rfl rfl ?_
  refine pp_iconst hF dL_law_1200 ic_3 ?_
  refine pp_iadd hF dL_law_1201 ?_
  refine pl_sld hF hX h3 dL_law_1202 ?_
  refine pp_aload_n hF dL_law_1203 rfl rfl ?_
  refine pp_iload_n hF dL_law_1204 rfl rfl ?_
  refine pp_iconst hF dL_law_1205 ic_4 ?_
  refine pp_iadd hF dL_law_1206 ?_
  refine pl_sld hF hX h4 dL_law_1207 ?_
  refine pl_M hF (c_X9_put e2) mV_X9_put lk_L_154 obM_40 rfl rfl ⟨by decide, by decide⟩ (Nat.le_of_ble_eq_true rfl) dL_law_1208 ?_
  refine pp_icmp_eq (tgt := 1382) hF dL_law_1211 rfl (fun _ => ?_) (fun c => absurd rfl c)
  exact kk σ' μ' hR'
set_option maxRecDepth 20000 in
theorem law_33 {Γ : pp_G} {Rel : pp_M → pp_M → Prop} {LL : Nat} {xs : Nat → Int32} {i : Int32} {σ μ : pp_M} (hF : pp_Fx Γ dsA cL_law 4 RL 43 1500) (hX : pp_Sx Γ LL xs) (h1 : vp_in (i + 1) LL) (h2 : vp_in (i + 2) LL) (h3 : vp_in (i + 3) LL) (h4 : vp_in (i + 4) LL) (h5 : vp_in (i + 5) LL) (H : (∀ (σ μ : pp_M) (a1 a2 a3 : Int32), Rel σ μ → ∃ (r : Int32) (σ' μ' : pp_M), f_X8_get σ a1 a2 a3 = some (r, σ') ∧ f_X9_get μ a1 a2 a3 = some (r, μ') ∧ Rel σ' μ')) (hR : Rel σ μ) (kk : ∀ σ' μ', Rel σ' μ' → pp_E Γ dsA cL_law 4 1382 [(0, ppR 99 0 0), (1, ppR 0 0 0), (2, ppR 40 0 0), (3, ppI i)] [] (pp_2 σ' μ')) : pp_E Γ dsA cL_law 4 1216 [(0, ppR 99 0 0), (1, ppR 0 0 0), (2, ppR 40 0 0), (3, ppI i)] [] (pp_2 σ μ) := by
  obtain ⟨r, σ', μ', e1, e2, hR'⟩ := H σ μ (xs (i + 1).toNatClampNeg) (xs (i + 2).toNatClampNeg) (xs (i + 3).toNatClampNeg) hR
  refine pp_aload_n hF dL_law_1216 rfl rfl ?_
  refine pp_aload_n hF dL_law_1217 rfl rfl ?_
  refine pp_iload_n hF dL_law_1218 rfl rfl ?_
  refine pp_iconst hF dL_law_1219 ic_1 ?_
  refine pp_iadd hF dL_law_1220 ?_
  refine pl_sld hF hX h1 dL_law_1221 ?_
  refine pp_aload_n hF dL_law_1222 rfl rfl ?_
  refine pp_iload_n hF dL_law_1223 rfl rfl ?_
  refine pp_iconst hF dL_law_1224 ic_2 ?_
  refine pp_iadd hF dL_law_1225 ?_
  refine pl_sld hF hX h2 dL_law_1226 ?_
  refine pp_aload_n hF dL_law_1227 rfl rfl ?_
  refine pp_iload_n hF dL_law_1228 rfl rfl ?_
  refine pp_iconst hF dL_law_1229 ic_3 ?_
  refine pp_iadd hF dL_law_1230 ?_
  refine pl_sld hF hX h3 dL_law_1231 ?_
  refine pl_K hF (c_X8_get e1) mV_X8_get lk_L_155 obK_0 rfl rfl ⟨by decide, by decide⟩ (Nat.le_of_ble_eq_true rfl) dL_law_1232 ?_
  refine pp_aload_n hF dL_law_1235 rfl rfl ?_
  refine pp_aload_n hF dL_law_1236 rfl rfl ?_
  refine pp_iload_n hF dL_law_1237 rfl rfl ?_
  refine pp_iconst hF dL_law_1238 ic_1 ?_
  refine pp_iadd hF dL_law_1239 ?_
  refine pl_sld hF hX h1 dL_law_1240 ?_
  refine pp_aload_n hF dL_law_1241 rfl rfl ?_
  refine pp_iload_n hF dL_law_1242 rfl rfl ?_
  refine pp_iconst hF dL_law_1243 ic_2 ?_
  refine pp_iadd hF dL_law_1244 ?_
  refine pl_sld hF hX h2 dL_law_1245 ?_
  refine pp_aload_n hF dL_law_1246 rfl rfl ?_
  refine pp_iload_n hF dL_law_1247 rfl rfl ?_
  refine pp_iconst hF dL_law_1248 ic_3 ?_
  refine pp_iadd hF dL_law_1249 ?_
  refine pl_sld hF hX h3 dL_law_1250 ?_
  refine pl_M hF (c_X9_get e2) mV_X9_get lk_L_158 obM_40 rfl rfl ⟨by decide, by decide⟩ (Nat.le_of_ble_eq_true rfl) dL_law_1251 ?_
  refine pp_icmp_eq (tgt := 1382) hF dL_law_1254 rfl (fun _ => ?_) (fun c => absurd rfl c)
  exact kk σ' μ' hR'
set_option maxRecDepth 20000 in
theorem law_34 {Γ : pp_G} {Rel : pp_M → pp_M → Prop} {LL : Nat} {xs : Nat → Int32} {i : Int32} {σ μ : pp_M} (hF : pp_Fx Γ dsA cL_law 4 RL 43 1500) (hX : pp_Sx Γ LL xs) (h1 : vp_in (i + 1) LL) (h2 : vp_in (i + 2) LL) (h3 : vp_in (i + 3) LL) (h4 : vp_in (i + 4) LL) (h5 : vp_in (i + 5) LL) (H : (∀ (σ μ : pp_M) (a1 a2 a3 a4 a5 : Int32), Rel σ μ → ∃ (r : Int32) (σ' μ' : pp_M), f_X8_copy σ a1 a2 a3 a4 a5 = some (r, σ') ∧ f_X9_copy μ a1 a2 a3 a4 a5 = some (r, μ') ∧ Rel σ' μ')) (hR : Rel σ μ) (kk : ∀ σ' μ', Rel σ' μ' → pp_E Γ dsA cL_law 4 1382 [(0, ppR 99 0 0), (1, ppR 0 0 0), (2, ppR 40 0 0), (3, ppI i)] [] (pp_2 σ' μ')) : pp_E Γ dsA cL_law 4 1259 [(0, ppR 99 0 0), (1, ppR 0 0 0), (2, ppR 40 0 0), (3, ppI i)] [] (pp_2 σ μ) := by
  obtain ⟨r, σ', μ', e1, e2, hR'⟩ := H σ μ (xs (i + 1).toNatClampNeg) (xs (i + 2).toNatClampNeg) (xs (i + 3).toNatClampNeg) (xs (i + 4).toNatClampNeg) (xs (i + 5).toNatClampNeg) hR
  refine pp_aload_n hF dL_law_1259 rfl rfl ?_
  refine pp_aload_n hF dL_law_1260 rfl rfl ?_
  refine pp_iload_n hF dL_law_1261 rfl rfl ?_
  refine pp_iconst hF dL_law_1262 ic_1 ?_
  refine pp_iadd hF dL_law_1263 ?_
  refine pl_sld hF hX h1 dL_law_1264 ?_
  refine pp_aload_n hF dL_law_1265 rfl rfl ?_
  refine pp_iload_n hF dL_law_1266 rfl rfl ?_
  refine pp_iconst hF dL_law_1267 ic_2 ?_
  refine pp_iadd hF dL_law_1268 ?_
  refine pl_sld hF hX h2 dL_law_1269 ?_
  refine pp_aload_n hF dL_law_1270 rfl rfl ?_
  refine pp_iload_n hF dL_law_1271 rfl rfl ?_
  refine pp_iconst hF dL_law_1272 ic_3 ?_
  refine pp_iadd hF dL_law_1273 ?_
  refine pl_sld hF hX h3 dL_law_1274 ?_
  refine pp_aload_n hF dL_law_1275 rfl rfl ?_
  refine pp_iload_n hF dL_law_1276 rfl rfl ?_
  refine pp_iconst hF dL_law_1277 ic_4 ?_
  refine pp_iadd hF dL_law_1278 ?_
  refine pl_sld hF hX h4 dL_law_1279 ?_
  refine pp_aload_n hF dL_law_1280 rfl rfl ?_
  refine pp_iload_n hF dL_law_1281 rfl rfl ?_
  refine pp_iconst hF dL_law_1282 ic_5 ?_
  refine pp_iadd hF dL_law_1283 ?_
  refine pl_sld hF hX h5 dL_law_1284 ?_
  refine pl_K hF (c_X8_copy e1) mV_X8_copy lk_L_159 obK_0 rfl rfl ⟨by decide, by decide⟩ (Nat.le_of_ble_eq_true rfl) dL_law_1285 ?_
  refine pp_aload_n hF dL_law_1288 rfl rfl ?_
  refine pp_aload_n hF dL_law_1289 rfl rfl ?_
  refine pp_iload_n hF dL_law_1290 rfl rfl ?_
  refine pp_iconst hF dL_law_1291 ic_1 ?_
  refine pp_iadd hF dL_law_1292 ?_
  refine pl_sld hF hX h1 dL_law_1293 ?_
  refine pp_aload_n hF dL_law_1294 rfl rfl ?_
  refine pp_iload_n hF dL_law_1295 rfl rfl ?_
  refine pp_iconst hF dL_law_1296 ic_2 ?_
  refine pp_iadd hF dL_law_1297 ?_
  refine pl_sld hF hX h2 dL_law_1298 ?_
  refine pp_aload_n hF dL_law_1299 rfl rfl ?_
  refine pp_iload_n hF dL_law_1300 rfl rfl ?_
  refine pp_iconst hF dL_law_1301 ic_3 ?_
  refine pp_iadd hF dL_law_1302 ?_
  refine pl_sld hF hX h3 dL_law_1303 ?_
  refine pp_aload_n hF dL_law_1304 rfl rfl ?_
  refine pp_iload_n hF dL_law_1305 rfl rfl ?_
  refine pp_iconst hF dL_law_1306 ic_4 ?_
  refine pp_iadd hF dL_law_1307 ?_
  refine pl_sld hF hX h4 dL_law_1308 ?_
  refine pp_aload_n hF dL_law_1309 rfl rfl ?_
  refine pp_iload_n hF dL_law_1310 rfl rfl ?_
  refine pp_iconst hF dL_law_1311 ic_5 ?_
  refine pp_iadd hF dL_law_1312 ?_
  refine pl_sld hF hX h5 dL_law_1313 ?_
  refine pl_M hF (c_X9_copy e2) mV_X9_copy lk_L_162 obM_40 rfl rfl ⟨by decide, by decide⟩ (Nat.le_of_ble_eq_true rfl) dL_law_1314 ?_
  refine pp_icmp_eq (tgt := 1382) hF dL_law_1317 rfl (fun _ => ?_) (fun c => absurd rfl c)
  exact kk σ' μ' hR'
set_option maxRecDepth 20000 in
theorem law_35 {Γ : pp_G} {Rel : pp_M → pp_M → Prop} {LL : Nat} {xs : Nat → Int32} {i : Int32} {σ μ : pp_M} (hF : pp_Fx Γ dsA cL_law 4 RL 43 1500) (hX : pp_Sx Γ LL xs) (h1 : vp_in (i + 1) LL) (h2 : vp_in (i + 2) LL) (h3 : vp_in (i + 3) LL) (h4 : vp_in (i + 4) LL) (h5 : vp_in (i + 5) LL) (H : (∀ (σ μ : pp_M) (a1 : Int32), Rel σ μ → ∃ (r : Int32) (σ' μ' : pp_M), f_X8_write σ a1 = some (r, σ') ∧ f_X9_write μ a1 = some (r, μ') ∧ Rel σ' μ')) (hR : Rel σ μ) (kk : ∀ σ' μ', Rel σ' μ' → pp_E Γ dsA cL_law 4 1382 [(0, ppR 99 0 0), (1, ppR 0 0 0), (2, ppR 40 0 0), (3, ppI i)] [] (pp_2 σ' μ')) : pp_E Γ dsA cL_law 4 1322 [(0, ppR 99 0 0), (1, ppR 0 0 0), (2, ppR 40 0 0), (3, ppI i)] [] (pp_2 σ μ) := by
  obtain ⟨r, σ', μ', e1, e2, hR'⟩ := H σ μ (xs (i + 1).toNatClampNeg) hR
  refine pp_aload_n hF dL_law_1322 rfl rfl ?_
  refine pp_aload_n hF dL_law_1323 rfl rfl ?_
  refine pp_iload_n hF dL_law_1324 rfl rfl ?_
  refine pp_iconst hF dL_law_1325 ic_1 ?_
  refine pp_iadd hF dL_law_1326 ?_
  refine pl_sld hF hX h1 dL_law_1327 ?_
  refine pl_K hF (c_X8_write e1) mV_X8_write lk_L_163 obK_0 rfl rfl ⟨by decide, by decide⟩ (Nat.le_of_ble_eq_true rfl) dL_law_1328 ?_
  refine pp_aload_n hF dL_law_1331 rfl rfl ?_
  refine pp_aload_n hF dL_law_1332 rfl rfl ?_
  refine pp_iload_n hF dL_law_1333 rfl rfl ?_
  refine pp_iconst hF dL_law_1334 ic_1 ?_
  refine pp_iadd hF dL_law_1335 ?_
  refine pl_sld hF hX h1 dL_law_1336 ?_
  refine pl_M hF (c_X9_write e2) mV_X9_write lk_L_166 obM_40 rfl rfl ⟨by decide, by decide⟩ (Nat.le_of_ble_eq_true rfl) dL_law_1337 ?_
  refine pp_icmp_eq (tgt := 1382) hF dL_law_1340 rfl (fun _ => ?_) (fun c => absurd rfl c)
  exact kk σ' μ' hR'
set_option maxRecDepth 20000 in
theorem law_36 {Γ : pp_G} {Rel : pp_M → pp_M → Prop} {LL : Nat} {xs : Nat → Int32} {i : Int32} {σ μ : pp_M} (hF : pp_Fx Γ dsA cL_law 4 RL 43 1500) (hX : pp_Sx Γ LL xs) (h1 : vp_in (i + 1) LL) (h2 : vp_in (i + 2) LL) (h3 : vp_in (i + 3) LL) (h4 : vp_in (i + 4) LL) (h5 : vp_in (i + 5) LL) (H : (∀ (σ μ : pp_M) (a1 : Int32), Rel σ μ → ∃ (r : Int32) (σ' μ' : pp_M), f_X8_count σ a1 = some (r, σ') ∧ f_X9_count μ a1 = some (r, μ') ∧ Rel σ' μ')) (hR : Rel σ μ) (kk : ∀ σ' μ', Rel σ' μ' → pp_E Γ dsA cL_law 4 1382 [(0, ppR 99 0 0), (1, ppR 0 0 0), (2, ppR 40 0 0), (3, ppI i)] [] (pp_2 σ' μ')) : pp_E Γ dsA cL_law 4 1345 [(0, ppR 99 0 0), (1, ppR 0 0 0), (2, ppR 40 0 0), (3, ppI i)] [] (pp_2 σ μ) := by
  obtain ⟨r, σ', μ', e1, e2, hR'⟩ := H σ μ (xs (i + 1).toNatClampNeg) hR
  refine pp_aload_n hF dL_law_1345 rfl rfl ?_
  refine pp_aload_n hF dL_law_1346 rfl rfl ?_
  refine pp_iload_n hF dL_law_1347 rfl rfl ?_
  refine pp_iconst hF dL_law_1348 ic_1 ?_
  refine pp_iadd hF dL_law_1349 ?_
  refine pl_sld hF hX h1 dL_law_1350 ?_
  refine pl_K hF (c_X8_count e1) mV_X8_count lk_L_167 obK_0 rfl rfl ⟨by decide, by decide⟩ (Nat.le_of_ble_eq_true rfl) dL_law_1351 ?_
  refine pp_aload_n hF dL_law_1354 rfl rfl ?_
  refine pp_aload_n hF dL_law_1355 rfl rfl ?_
  refine pp_iload_n hF dL_law_1356 rfl rfl ?_
  refine pp_iconst hF dL_law_1357 ic_1 ?_
  refine pp_iadd hF dL_law_1358 ?_
  refine pl_sld hF hX h1 dL_law_1359 ?_
  refine pl_M hF (c_X9_count e2) mV_X9_count lk_L_170 obM_40 rfl rfl ⟨by decide, by decide⟩ (Nat.le_of_ble_eq_true rfl) dL_law_1360 ?_
  refine pp_icmp_eq (tgt := 1382) hF dL_law_1363 rfl (fun _ => ?_) (fun c => absurd rfl c)
  exact kk σ' μ' hR'
set_option maxRecDepth 20000 in
theorem law_37 {Γ : pp_G} {Rel : pp_M → pp_M → Prop} {LL : Nat} {xs : Nat → Int32} {i : Int32} {σ μ : pp_M} (hF : pp_Fx Γ dsA cL_law 4 RL 43 1500) (hX : pp_Sx Γ LL xs) (h1 : vp_in (i + 1) LL) (h2 : vp_in (i + 2) LL) (h3 : vp_in (i + 3) LL) (h4 : vp_in (i + 4) LL) (h5 : vp_in (i + 5) LL) (H : (∀ (σ μ : pp_M), Rel σ μ → ∃ (r : Int64) (σ' μ' : pp_M), f_X8_digest σ  = some (r, σ') ∧ f_X9_digest μ  = some (r, μ') ∧ Rel σ' μ')) (hR : Rel σ μ) (kk : ∀ σ' μ', Rel σ' μ' → pp_E Γ dsA cL_law 4 1382 [(0, ppR 99 0 0), (1, ppR 0 0 0), (2, ppR 40 0 0), (3, ppI i)] [] (pp_2 σ' μ')) : pp_E Γ dsA cL_law 4 1368 [(0, ppR 99 0 0), (1, ppR 0 0 0), (2, ppR 40 0 0), (3, ppI i)] [] (pp_2 σ μ) := by
  obtain ⟨r, σ', μ', e1, e2, hR'⟩ := H σ μ hR
  refine pp_aload_n hF dL_law_1368 rfl rfl ?_
  refine pl_K hF (c_X8_digest e1) mV_X8_digest lk_L_171 obK_0 rfl rfl ⟨by decide, by decide⟩ (Nat.le_of_ble_eq_true rfl) dL_law_1369 ?_
  refine pp_aload_n hF dL_law_1372 rfl rfl ?_
  refine pl_M hF (c_X9_digest e2) mV_X9_digest lk_L_175 obM_40 rfl rfl ⟨by decide, by decide⟩ (Nat.le_of_ble_eq_true rfl) dL_law_1373 ?_
  refine pp_lcmp_eq (tgt := 1382) hF dL_law_1376 dL_law_1377 rfl (fun _ => ?_) (fun c => absurd rfl c)
  exact kk σ' μ' hR'
set_option maxRecDepth 20000 in
def law_tg (k : Nat) : Nat := [200, 243, 286, 319, 352, 375, 388, 401, 414, 447, 490, 523, 546, 569, 582, 595, 659, 702, 756, 780, 803, 837, 860, 883, 907, 940, 1003, 1026, 1050, 1084, 1097, 1140, 1163, 1216, 1259, 1322, 1345, 1368].getD k 0
set_option maxRecDepth 20000 in
theorem law_sw {Γ : pp_G} {Rel : pp_M → pp_M → Prop} {LL : Nat} {xs : Nat → Int32} {i : Int32} {σ μ : pp_M} (hF : pp_Fx Γ dsA cL_law 4 RL 43 1500) (hX : pp_Sx Γ LL xs) (h1 : vp_in (i + 1) LL) (h2 : vp_in (i + 2) LL) (h3 : vp_in (i + 3) LL) (h4 : vp_in (i + 4) LL) (h5 : vp_in (i + 5) LL) (H : pp_H Rel) (hR : Rel σ μ) (kk : ∀ σ' μ', Rel σ' μ' → pp_E Γ dsA cL_law 4 1382 [(0, ppR 99 0 0), (1, ppR 0 0 0), (2, ppR 40 0 0), (3, ppI i)] [] (pp_2 σ' μ')) : ∀ k, k < 38 → pp_E Γ dsA cL_law 4 (law_tg k) [(0, ppR 99 0 0), (1, ppR 0 0 0), (2, ppR 40 0 0), (3, ppI i)] [] (pp_2 σ μ) := by
  unfold pp_H at H
  intro k hk
  match k, hk with
  | 0, _ => exact law_0 hF hX h1 h2 h3 h4 h5 H.1 hR kk
  | 1, _ => exact law_1 hF hX h1 h2 h3 h4 h5 H.2.1 hR kk
  | 2, _ => exact law_2 hF hX h1 h2 h3 h4 h5 H.2.2.1 hR kk
  | 3, _ => exact law_3 hF hX h1 h2 h3 h4 h5 H.2.2.2.1 hR kk
  | 4, _ => exact law_4 hF hX h1 h2 h3 h4 h5 H.2.2.2.2.1 hR kk
  | 5, _ => exact law_5 hF hX h1 h2 h3 h4 h5 H.2.2.2.2.2.1 hR kk
  | 6, _ => exact law_6 hF hX h1 h2 h3 h4 h5 H.2.2.2.2.2.2.1 hR kk
  | 7, _ => exact law_7 hF hX h1 h2 h3 h4 h5 H.2.2.2.2.2.2.2.1 hR kk
  | 8, _ => exact law_8 hF hX h1 h2 h3 h4 h5 H.2.2.2.2.2.2.2.2.1 hR kk
  | 9, _ => exact law_9 hF hX h1 h2 h3 h4 h5 H.2.2.2.2.2.2.2.2.2.1 hR kk
  | 10, _ => exact law_10 hF hX h1 h2 h3 h4 h5 H.2.2.2.2.2.2.2.2.2.2.1 hR kk
  | 11, _ => exact law_11 hF hX h1 h2 h3 h4 h5 H.2.2.2.2.2.2.2.2.2.2.2.1 hR kk
  | 12, _ => exact law_12 hF hX h1 h2 h3 h4 h5 H.2.2.2.2.2.2.2.2.2.2.2.2.1 hR kk
  | 13, _ => exact law_13 hF hX h1 h2 h3 h4 h5 H.2.2.2.2.2.2.2.2.2.2.2.2.2.1 hR kk
  | 14, _ => exact law_14 hF hX h1 h2 h3 h4 h5 H.2.2.2.2.2.2.2.2.2.2.2.2.2.2.1 hR kk
  | 15, _ => exact law_15 hF hX h1 h2 h3 h4 h5 H.2.2.2.2.2.2.2.2.2.2.2.2.2.2.2.1 hR kk
  | 16, _ => exact law_16 hF hX h1 h2 h3 h4 h5 H.2.2.2.2.2.2.2.2.2.2.2.2.2.2.2.2.1 hR kk
  | 17, _ => exact law_17 hF hX h1 h2 h3 h4 h5 H.2.2.2.2.2.2.2.2.2.2.2.2.2.2.2.2.2.1 hR kk
  | 18, _ => exact law_18 hF hX h1 h2 h3 h4 h5 H.2.2.2.2.2.2.2.2.2.2.2.2.2.2.2.2.2.2.1 hR kk
  | 19, _ => exact law_19 hF hX h1 h2 h3 h4 h5 H.2.2.2.2.2.2.2.2.2.2.2.2.2.2.2.2.2.2.2.1 hR kk
  | 20, _ => exact law_20 hF hX h1 h2 h3 h4 h5 H.2.2.2.2.2.2.2.2.2.2.2.2.2.2.2.2.2.2.2.2.1 hR kk
  | 21, _ => exact law_21 hF hX h1 h2 h3 h4 h5 H.2.2.2.2.2.2.2.2.2.2.2.2.2.2.2.2.2.2.2.2.2.1 hR kk
  | 22, _ => exact law_22 hF hX h1 h2 h3 h4 h5 H.2.2.2.2.2.2.2.2.2.2.2.2.2.2.2.2.2.2.2.2.2.2.1 hR kk
  | 23, _ => exact law_23 hF hX h1 h2 h3 h4 h5 H.2.2.2.2.2.2.2.2.2.2.2.2.2.2.2.2.2.2.2.2.2.2.2.1 hR kk
  | 24, _ => exact law_24 hF hX h1 h2 h3 h4 h5 H.2.2.2.2.2.2.2.2.2.2.2.2.2.2.2.2.2.2.2.2.2.2.2.2.1 hR kk
  | 25, _ => exact law_25 hF hX h1 h2 h3 h4 h5 H.2.2.2.2.2.2.2.2.2.2.2.2.2.2.2.2.2.2.2.2.2.2.2.2.2.1 hR kk
  | 26, _ => exact law_26 hF hX h1 h2 h3 h4 h5 H.2.2.2.2.2.2.2.2.2.2.2.2.2.2.2.2.2.2.2.2.2.2.2.2.2.2.1 hR kk
  | 27, _ => exact law_27 hF hX h1 h2 h3 h4 h5 H.2.2.2.2.2.2.2.2.2.2.2.2.2.2.2.2.2.2.2.2.2.2.2.2.2.2.2.1 hR kk
  | 28, _ => exact law_28 hF hX h1 h2 h3 h4 h5 H.2.2.2.2.2.2.2.2.2.2.2.2.2.2.2.2.2.2.2.2.2.2.2.2.2.2.2.2.1 hR kk
  | 29, _ => exact law_29 hF hX h1 h2 h3 h4 h5 H.2.2.2.2.2.2.2.2.2.2.2.2.2.2.2.2.2.2.2.2.2.2.2.2.2.2.2.2.2.1 hR kk
  | 30, _ => exact law_30 hF hX h1 h2 h3 h4 h5 H.2.2.2.2.2.2.2.2.2.2.2.2.2.2.2.2.2.2.2.2.2.2.2.2.2.2.2.2.2.2.1 hR kk
  | 31, _ => exact law_31 hF hX h1 h2 h3 h4 h5 H.2.2.2.2.2.2.2.2.2.2.2.2.2.2.2.2.2.2.2.2.2.2.2.2.2.2.2.2.2.2.2.1 hR kk
  | 32, _ => exact law_32 hF hX h1 h2 h3 h4 h5 H.2.2.2.2.2.2.2.2.2.2.2.2.2.2.2.2.2.2.2.2.2.2.2.2.2.2.2.2.2.2.2.2.1 hR kk
  | 33, _ => exact law_33 hF hX h1 h2 h3 h4 h5 H.2.2.2.2.2.2.2.2.2.2.2.2.2.2.2.2.2.2.2.2.2.2.2.2.2.2.2.2.2.2.2.2.2.1 hR kk
  | 34, _ => exact law_34 hF hX h1 h2 h3 h4 h5 H.2.2.2.2.2.2.2.2.2.2.2.2.2.2.2.2.2.2.2.2.2.2.2.2.2.2.2.2.2.2.2.2.2.2.1 hR kk
  | 35, _ => exact law_35 hF hX h1 h2 h3 h4 h5 H.2.2.2.2.2.2.2.2.2.2.2.2.2.2.2.2.2.2.2.2.2.2.2.2.2.2.2.2.2.2.2.2.2.2.2.1 hR kk
  | 36, _ => exact law_36 hF hX h1 h2 h3 h4 h5 H.2.2.2.2.2.2.2.2.2.2.2.2.2.2.2.2.2.2.2.2.2.2.2.2.2.2.2.2.2.2.2.2.2.2.2.2.1 hR kk
  | 37, _ => exact law_37 hF hX h1 h2 h3 h4 h5 H.2.2.2.2.2.2.2.2.2.2.2.2.2.2.2.2.2.2.2.2.2.2.2.2.2.2.2.2.2.2.2.2.2.2.2.2.2 hR kk
  | k + 38, hk => exact absurd hk (by omega)
set_option maxRecDepth 20000 in
theorem law_end {p : Program} {l : Launch} {e : Env} {s : State} {m : MethodId} {below : List Frame} {meth : Method} {c : Code} {b cl sl : Nat} {X : pp_X} {lv : List (Nat × pp_V)} {σ : pp_M} (hx : p.tables.exec = Jvm.exec) (hb : c.code = cL_law) (hr : meth.sig.returnType = ret) (hlocks : meth.locks = false) (hcl : cl ≤ 600000) (hsl : sl ≤ 7302250) : pp_E ((p, l, e, room_1, s, m, #[Value.ref b], below, meth, c, lw_Z below #[Value.ref b] s, cl, sl, fun q => s.heap.size ≤ q), X) dsA cL_law 4 1389 lv [ppI 1] σ := by
  intro H locs ls hP hS hl
  refine va_forget (fun q hq => hS.2.2 q hq) ?_
  refine W.widen hcl hsl ?_
  exact lw_ret hx hb hr hlocks dL_law_1389
theorem law_ge {i LL : Nat} (hL : LL ≤ 3072) (hi : i ≤ LL + 6) (h : ¬ (nI LL - 6 < nI i)) : i + 6 ≤ LL := by
  rw [Int32.lt_iff_toInt_lt, show (6 : Int32) = nI 6 from rfl, pk_sub_toInt (by omega) (by omega), nI_toInt (by omega)] at h
  omega
theorem law_ix {i j LL : Nat} (hL : LL ≤ 3072) (h : i + j < LL) : vp_in (nI i + nI j) LL := by
  rw [nI_add]
  exact vp_in_nI h (by omega)
/-- the loop -/
theorem law_loop {p : Program} {l : Launch} {e : Env} {s : State} {m : MethodId} {below : List Frame} {meth : Method} {c : Code} {b cl sl LL : Nat} {xs : Nat → Int32} {X : pp_X} {Rel : pp_M → pp_M → Prop} (hL : LL ≤ 3072) (H : pp_H Rel) (hF : pp_Fx ((p, l, e, room_1, s, m, #[Value.ref b], below, meth, c, lw_Z below #[Value.ref b] s, cl, sl, fun q => s.heap.size ≤ q), X) dsA cL_law 4 RL 43 1500) (hX : pp_Sx ((p, l, e, room_1, s, m, #[Value.ref b], below, meth, c, lw_Z below #[Value.ref b] s, cl, sl, fun q => s.heap.size ≤ q), X) LL xs) (hr : meth.sig.returnType = ret) (hcl : cl ≤ 600000) (hsl : sl ≤ 7302250) :
    ∀ (n i : Nat) (σ μ : pp_M), LL + 6 < i + n → i ≤ LL + 6 → Rel σ μ → pp_E ((p, l, e, room_1, s, m, #[Value.ref b], below, meth, c, lw_Z below #[Value.ref b] s, cl, sl, fun q => s.heap.size ≤ q), X) dsA cL_law 4 18 [(0, ppR 99 0 0), (1, ppR 0 0 0), (2, ppR 40 0 0), (3, ppI (nI i))] [] (pp_2 σ μ)
  | 0, i, σ, μ, h1, h2, _ => absurd h1 (by omega)
  | n + 1, i, σ, μ, h1, h2, hR => by
    refine pp_iload_n hF dL_law_18 rfl rfl ?_
    refine pp_aload_n hF dL_law_19 rfl rfl ?_
    refine pl_slen hF hX dL_law_20 ?_
    refine pp_bipush hF dL_law_21 bc_6 ?_
    refine pp_isub hF dL_law_23 ?_
    refine pp_icmp_gt (tgt := 1388) hF dL_law_24 rfl (fun c1 => ?_) (fun c1 => ?_)
    · refine pp_iconst hF dL_law_1388 ic_1 ?_
      exact law_end hF.1 hF.2.1 hr hF.2.2.2.2.2.2.2.2.2.1 hcl hsl
    · have h6 := law_ge hL h2 c1
      have j0 : vp_in (nI i) LL := vp_in_nI (by omega) (by omega)
      have j1 : vp_in (nI i + 1) LL := law_ix (j := 1) hL (by omega)
      have j2 : vp_in (nI i + 2) LL := law_ix (j := 2) hL (by omega)
      have j3 : vp_in (nI i + 3) LL := law_ix (j := 3) hL (by omega)
      have j4 : vp_in (nI i + 4) LL := law_ix (j := 4) hL (by omega)
      have j5 : vp_in (nI i + 5) LL := law_ix (j := 5) hL (by omega)
      refine pp_aload_n hF dL_law_27 rfl rfl ?_
      refine pp_iload_n hF dL_law_28 rfl rfl ?_
      refine pl_sld hF hX j0 dL_law_29 ?_
      refine pp_bipush hF dL_law_30 bc_63 ?_
      refine pp_iand hF dL_law_32 ?_
      have kn : ∀ σ' μ', Rel σ' μ' → pp_E ((p, l, e, room_1, s, m, #[Value.ref b], below, meth, c, lw_Z below #[Value.ref b] s, cl, sl, fun q => s.heap.size ≤ q), X) dsA cL_law 4 1382 [(0, ppR 99 0 0), (1, ppR 0 0 0), (2, ppR 40 0 0), (3, ppI (nI i))] [] (pp_2 σ' μ') := fun σ' μ' hR' => by
        refine pp_iinc hF dL_law_1382 rfl (congrArg (HAdd.hAdd _) ic_6) (by decide) (lv' := [(0, ppR 99 0 0), (1, ppR 0 0 0), (2, ppR 40 0 0), (3, ppI (nI i + 6))]) rfl ?_
        refine pp_goto (tgt := 18) hF dL_law_1385 rfl ?_
        have k9 := law_loop hL H hF hX hr hcl hsl n (i + 6) σ' μ' (by omega) (by omega) hR'
        rw [← nI_add] at k9
        exact k9
      exact pl_tsw (n := 37) law_tg hF dL_law_33 (by decide +kernel) rfl (law_sw hF hX j1 j2 j3 j4 j5 H hR kn) (kn σ μ hR)
