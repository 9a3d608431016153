/-! the class's table of the most gains, and its best pack -/
section PACKER
variable {Ca : pp_M → pp_M → Prop} {σ μ ν : pp_M} {G : Nat → Nat → Int} {W pk tp : Nat → Nat}
/-- gains, peaks and weights as the packer has them -/
def GK (σ : pp_M) (G : Nat → Nat → Int) (W pk : Nat → Nat) : Prop :=
  (∀ t, t < 6 → ∀ k, k < 5 → σ.2 27 (t * 5 + k) = lI (G t k) ∧ -1000000000000 ≤ G t k ∧ G t k ≤ 1000000000000) ∧
  (∀ t, t < 6 → σ.1 28 t = nI (pk t) ∧ pk t ≤ 4 ∧ σ.1 3 (t * 6 + 1) = nI (W t) ∧ 1 ≤ W t ∧ W t ≤ 20)
/-- what the packer writes behind the gains -/
def PP (t i : Nat) : Prop := (t = 30 ∧ i < 606) ∨ t = 31 ∨ t = 32 ∨ t = 33 ∨ t = 25
theorem PP_sK {σ σ' : pp_M} (h : fr PP σ σ') : fr sK σ σ' := fr_mono h (fun t i q => by unfold PP at q; unfold sK; omega)
theorem GK_fr {σ σ' : pp_M} (h : GK σ G W pk) (hf : fr PP σ σ') : GK σ' G W pk := by
  refine ⟨fun t ht k hk => ?_, fun t ht => ?_⟩
  · rw [(hf 27 _ (by unfold PP; omega)).2]; exact h.1 t ht k hk
  · rw [(hf 28 _ (by unfold PP; omega)).1, (hf 3 _ (by unfold PP; omega)).1]; exact h.2 t ht
def P30 (a b : Nat) (t i : Nat) : Prop := t = 30 ∧ a ≤ i ∧ i < b
theorem P30_PP {a b : Nat} {σ σ' : pp_M} (h : fr (P30 a b) σ σ') (hb : b ≤ 606) : fr PP σ σ' := fr_mono h (fun t i q => by unfold P30 at q; unfold PP; omega)
theorem P30_mono {a b a' b' : Nat} {σ σ' : pp_M} (h : fr (P30 a b) σ σ') (ha : a' ≤ a) (hb : b ≤ b') : fr (P30 a' b') σ σ' := fr_mono h (fun x i q => ⟨q.1, Nat.le_trans ha q.2.1, Nat.lt_of_lt_of_le q.2.2 hb⟩)
theorem k_fm42 (k26 : pp_M → Int32 → Int32 → Int32 → Int32 → Nat → Int32 → Option pp_M) (hG : GK σ G W pk) {t r : Nat} {LL : Int32} {oth : Nat → Int} (ht : t < 6) (hr : r ≤ 100) (htp : tp t ≤ 4) (ho : ∀ s, s ≤ r → σ.2 30 ((t + 1) * 101 + s) = lI (oth s) ∧ -9000000000000 ≤ oth s ∧ oth s ≤ 9000000000000) : ∀ d k n, k + d = km W tp t r → d < n → f_X5_fillMost_42 k26 n σ (nI t) LL (nI (tp t)) (nI (W t)) ((t + 1) * 101) (nI r) (lI (dI G W oth t r k)) (nI (k + 1)) = f_X5_fillMost_92 k26 σ (nI t) LL (nI (tp t)) (nI (W t)) ((t + 1) * 101) (nI r) (lI (dI G W oth t r (km W tp t r))) := by
  obtain ⟨-, -, -, hW1, hW2⟩ := hG.2 t ht
  have hkm : ∀ k, k ≤ km W tp t r ↔ k ≤ tp t ∧ k * W t ≤ r := fun k => km_le (by omega)
  have bdI : ∀ k, k ≤ km W tp t r → -10000000000000 ≤ dI G W oth t r k ∧ dI G W oth t r k ≤ 10000000000000 := by
    intro k
    induction k with
    | zero => intro _; have := (ho r (Nat.le_refl _)).2; unfold dI; omega
    | succ k ih =>
      intro hk
      have := ih (by omega)
      have hk2 := (hkm _).mp hk
      have g := (hG.1 t ht (k + 1) (by omega)).2
      have o := (ho (r - (k + 1) * W t) (Nat.sub_le _ _)).2
      unfold dI
      split <;> omega
  intro d
  induction d with
  | zero =>
    intro k n hk hn
    obtain ⟨n, rfl⟩ : ∃ n', n = n' + 1 := ⟨n - 1, by omega⟩
    show f_X5_fillMost_42_B k26 (f_X5_fillMost_42 k26 n) _ _ _ _ _ _ _ _ _ = _
    unfold f_X5_fillMost_42_B
    have hx : ¬ k + 1 ≤ km W tp t r := by omega
    rw [hkm] at hx
    have hk2 := (hkm k).mp (by omega)
    have hmul : (k + 1) * W t ≤ 5 * 20 := Nat.mul_le_mul (by omega) hW2
    rw [show km W tp t r = k by omega]
    by_cases c : tp t < k + 1
    · rw [if_pos (nI_lt c (by omega))]
    · rw [if_neg (q_nl (by omega) (by omega)), pk_mul, if_pos (nI_lt (by omega) (by omega))]
  | succ d ih =>
    intro k n hk hn
    obtain ⟨n, rfl⟩ : ∃ n', n = n' + 1 := ⟨n - 1, by omega⟩
    show f_X5_fillMost_42_B k26 (f_X5_fillMost_42 k26 n) _ _ _ _ _ _ _ _ _ = _
    unfold f_X5_fillMost_42_B
    have hk2 := (hkm (k + 1)).mp (by omega)
    have g := (hG.1 t ht (k + 1) (by omega))
    have o := ho (r - (k + 1) * W t) (Nat.sub_le _ _)
    have b0 := bdI k (by omega)
    have i1 : pp_ix (nI t) 6 := q_ix (by omega) (by omega)
    have i2 : pp_ix (nI (k + 1)) 5 := q_ix (by omega) (by omega)
    have i3 : pp_ix (nI (r - (k + 1) * W t)) 101 := q_ix (by omega) (by omega)
    rw [if_neg (q_nl (by omega) (by omega)), pk_mul, if_neg (q_nl (by omega) (by omega)), pk_sub (by omega), if_pos i1, if_pos i2, if_pos i3, q_cl (k := t) (by omega), q_cl (k := k + 1) (by omega), q_cl (k := r - (k + 1) * W t) (by omega), g.1, o.1, lI_add, nI_1]
    have e : (if lI (G t (k + 1) + oth (r - (k + 1) * W t)) < lI (dI G W oth t r k) then lI (dI G W oth t r k) else lI (G t (k + 1) + oth (r - (k + 1) * W t))) = lI (dI G W oth t r (k + 1)) := by
      have g2 := g.2
      have o2 := o.2
      show _ = lI (if G t (k + 1) + oth (r - (k + 1) * W t) < dI G W oth t r k then dI G W oth t r k else G t (k + 1) + oth (r - (k + 1) * W t))
      generalize dI G W oth t r k = x at b0 ⊢
      generalize oth (r - (k + 1) * W t) = y at o2 ⊢
      generalize G t (k + 1) = z at g2 ⊢
      by_cases c : z + y < x
      · rw [if_pos c, if_pos ((lI_lt (by omega) (by omega) (by omega) (by omega)).mpr c)]
      · rw [if_neg c, if_neg (fun q => c ((lI_lt (by omega) (by omega) (by omega) (by omega)).mp q))]
    rw [e]
    exact ih (k + 1) n (by omega) (by omega)
theorem k_fm26 {t L : Nat} {oth : Nat → Int} (ht : t < 6) (hL : L ≤ 100) (htp : tp t ≤ 4) : ∀ d r n σ, r + d = L + 1 → d < n → GK σ G W pk → (∀ s, s ≤ L → σ.2 30 ((t + 1) * 101 + s) = lI (oth s) ∧ -9000000000000 ≤ oth s ∧ oth s ≤ 9000000000000) → ∃ σ', f_X5_fillMost_26 n σ (nI t) (nI L) (nI (tp t)) (nI (W t)) ((t + 1) * 101) (nI r) = some σ' ∧ fr (P30 (t * 101 + r) (t * 101 + (L + 1))) σ σ' ∧ ∀ s, r ≤ s → s ≤ L → σ'.2 30 (t * 101 + s) = lI (dI G W oth t s (km W tp t s)) := by
  intro d
  induction d with
  | zero =>
    intro r n σ hr hn hG ho
    obtain ⟨n, rfl⟩ : ∃ n', n = n' + 1 := ⟨n - 1, by omega⟩
    refine ⟨σ, ?_, fr_rf, fun s h1 h2 => by omega⟩
    show f_X5_fillMost_26_B (f_X5_fillMost_26 n) _ _ _ _ _ _ _ = _
    unfold f_X5_fillMost_26_B
    rw [if_pos (nI_lt (by omega) (by omega))]
  | succ d ih =>
    intro r n σ hr hn hG ho
    obtain ⟨n, rfl⟩ : ∃ n', n = n' + 1 := ⟨n - 1, by omega⟩
    have hfr : fr (P30 (t * 101 + r) (t * 101 + (L + 1))) σ (ppT σ 30 (t * 101 + r) (lI (dI G W oth t r (km W tp t r)))) := fr_T ⟨rfl, by omega, by omega⟩
    obtain ⟨σ', g1, g2, g3⟩ := ih (r + 1) n _ (by omega) (by omega) (GK_fr hG (P30_PP hfr (by omega))) (fun s hs => by rw [(hfr 30 _ (by unfold P30; omega)).2]; exact ho s hs)
    refine ⟨σ', ?_, fr_tr hfr (P30_mono g2 (by omega) (by omega)), fun s h1 h2 => ?_⟩
    · show f_X5_fillMost_26_B (f_X5_fillMost_26 n) _ _ _ _ _ _ _ = _
      unfold f_X5_fillMost_26_B
      have i1 : pp_ix (nI r) 101 := q_ix (by omega) (by omega)
      have i2 : pp_ix (nI t) 7 := q_ix (by omega) (by omega)
      rw [if_neg (q_nl (by omega) (by omega)), if_pos i1, q_cl (k := r) (by omega), (ho r (by omega)).1, c1I]
      rw [show lI (oth r) = lI (dI G W oth t r 0) from rfl, k_fm42 (f_X5_fillMost_26 n) hG ht (by omega) htp (fun s hs => ho s (by omega)) (km W tp t r) 0 100000 (by omega) (by unfold km; omega)]
      unfold f_X5_fillMost_92
      rw [if_pos i2, if_pos i1, q_cl (k := r) (by omega), q_cl (k := t) (by omega), nI_1]
      exact g1
    · by_cases e : s = r
      · subst e
        rw [(g2 30 _ (by unfold P30; omega)).2, qt_same]
      · exact g3 s (by omega) h2
theorem dM_bd (hG : GK σ G W pk) (hp : ∀ t, t < 6 → tp t ≤ 4 ∧ G t 0 = 0) : ∀ (n r : Nat), n ≤ 6 → -(1000000000000 * (n : Int)) ≤ dM G W tp n r ∧ dM G W tp n r ≤ 1000000000000 * (n : Int)
  | 0, r, _ => ⟨Int.le_refl _, Int.le_refl _⟩
  | n + 1, r, hn => by
    have h5 : 5 - n < 6 := by omega
    obtain ⟨k, hk, e⟩ := dI_ex (W := W) (oth := dM G W tp n) (r := r) (hp (5 - n) h5).2 (km W tp (5 - n) r)
    have hk4 : k ≤ 4 := by have := (hp (5 - n) h5).1; unfold km at hk; omega
    have ih := dM_bd hG hp n (r - k * W (5 - n)) (by omega)
    have g := (hG.1 (5 - n) h5 k (by omega)).2
    show -(1000000000000 * ((n + 1 : Nat) : Int)) ≤ dI G W (dM G W tp n) (5 - n) r (km W tp (5 - n) r) ∧ dI G W (dM G W tp n) (5 - n) r (km W tp (5 - n) r) ≤ _
    rw [e]
    generalize dM G W tp n (r - k * W (5 - n)) = x at ih ⊢
    generalize G (5 - n) k = y at g ⊢
    omega
/-- row t of the table -/
def RT (σ : pp_M) (G : Nat → Nat → Int) (W tp : Nat → Nat) (L t : Nat) : Prop := ∀ r, r ≤ L → σ.2 30 (t * 101 + r) = lI (dM G W tp (6 - t) r)
theorem k_fill (hG : GK σ G W pk) {t L : Nat} (hp : ∀ t, t < 6 → tp t ≤ 4 ∧ G t 0 = 0) (ht : t < 6) (hL : L ≤ 100) (hR : RT σ G W tp L (t + 1)) : ∃ σ', f_X5_fillMost σ (nI t) (nI L) (nI (tp t)) = some σ' ∧ fr (P30 (t * 101) (t * 101 + (L + 1))) σ σ' ∧ RT σ' G W tp L t := by
  have h5 : 6 - (t + 1) = 5 - t := by omega
  have h6 : 6 - t = 5 - t + 1 := by omega
  have h7 : 5 - (5 - t) = t := by omega
  have hb := dM_bd hG hp
  obtain ⟨σ', g1, g2, g3⟩ := k_fm26 (oth := dM G W tp (5 - t)) ht hL (hp t ht).1 (L + 1) 0 100000 σ (by omega) (by omega) hG (fun s hs => by
    have := hb (5 - t) s (by omega)
    have e := hR s hs
    rw [h5] at e
    refine ⟨e, ?_⟩
    generalize dM G W tp (5 - t) s = x at this ⊢
    omega)
  refine ⟨σ', ?_, g2, fun r hr => ?_⟩
  · unfold f_X5_fillMost
    have i1 : pp_ix (nI t) 6 := q_ix (by omega) (by omega)
    have i2 : pp_ix (nI (t + 1)) 7 := q_ix (by omega) (by omega)
    rw [nI_1, if_pos i1, if_pos i2, q_cl (k := t) (by omega), q_cl (k := t + 1) (by omega), (hG.2 t ht).2.2.1]
    exact g1
  · rw [g3 r (by omega) hr, h6]
    show _ = lI (dI G W (dM G W tp (5 - t)) (5 - (5 - t)) r (km W tp (5 - (5 - t)) r))
    rw [h7]
theorem k_mg2 {L bt : Nat} {wb : Int32} (hp : ∀ t, t < 6 → tp t ≤ 4 ∧ G t 0 = 0) (hL : L ≤ 100) (hwb : ∀ t, t < 6 → (nI t = wb ↔ t = bt)) (htp : ∀ t, t < 6 → tp t = if t = bt then 0 else pk t) : ∀ c n σ, c ≤ 6 → c < n → GK σ G W pk → (∀ t, c ≤ t → t ≤ 6 → RT σ G W tp L t) → ∃ σ', f_X5_mostGain_2 n σ (nI L) wb (nI c + (-1 : Int32)) = some (lI (dM G W tp 6 L), σ') ∧ fr (P30 0 606) σ σ' ∧ ∀ t, t ≤ 6 → RT σ' G W tp L t := by
  intro c
  induction c with
  | zero =>
    intro n σ hc hn hG hR
    obtain ⟨n, rfl⟩ : ∃ n', n = n' + 1 := ⟨n - 1, by omega⟩
    refine ⟨σ, ?_, fr_rf, fun t ht => hR t (by omega) ht⟩
    show f_X5_mostGain_2_B (f_X5_mostGain_2 n) _ _ _ _ = _
    unfold f_X5_mostGain_2_B
    have i1 : pp_ix (nI L) 101 := q_ix (by omega) (by omega)
    have e := hR 0 (by omega) (by omega) L (Nat.le_refl _)
    rw [Nat.zero_mul, Nat.zero_add] at e
    rw [if_pos (show nI 0 + (-1 : Int32) < 0 by decide), if_pos i1, q_cl (k := L) (by omega), e]
  | succ t ih =>
    intro n σ hc hn hG hR
    obtain ⟨n, rfl⟩ : ∃ n', n = n' + 1 := ⟨n - 1, by omega⟩
    obtain ⟨σ1, g1, g2, g3⟩ := k_fill hG hp (show t < 6 by omega) hL (hR (t + 1) (by omega) (by omega))
    have hf1 := P30_PP g2 (by omega)
    obtain ⟨σ', d1, d2, d3⟩ := ih n σ1 (by omega) (by omega) (GK_fr hG hf1) (fun u h1 h2 => by
      by_cases e : u = t
      · rw [e]; exact g3
      · intro r hr
        rw [(g2 30 _ (by unfold P30; omega)).2]
        exact hR u (by omega) h2 r hr)
    refine ⟨σ', ?_, fr_tr (P30_mono g2 (by omega) (by omega)) d2, d3⟩
    show f_X5_mostGain_2_B (f_X5_mostGain_2 n) _ _ _ _ = _
    unfold f_X5_mostGain_2_B f_X5_mostGain_24
    have i1 : pp_ix (nI t) 6 := q_ix (by omega) (by omega)
    rw [nI_m1, if_neg (nI_nneg (by omega))]
    by_cases e : t = bt
    · have ht0 : tp t = 0 := by rw [htp t (by omega), if_pos e]
      rw [if_pos ((hwb t (by omega)).mpr e), show (0 : Int32) = nI (tp t) by rw [ht0]; rfl, g1, Option.bind_some]
      exact d1
    · have ht0 : tp t = pk t := by rw [htp t (by omega), if_neg e]
      rw [if_neg (fun q => e ((hwb t (by omega)).mp q)), if_pos i1, q_cl (k := t) (by omega), (hG.2 t (by omega)).1, ← ht0, g1, Option.bind_some]
      exact d1
theorem k_mostGain (hG : GK σ G W pk) (hz : zK σ) {L bt : Nat} {wb : Int32} (hp : ∀ t, t < 6 → tp t ≤ 4 ∧ G t 0 = 0) (hL : L ≤ 100) (hwb : ∀ t, t < 6 → (nI t = wb ↔ t = bt)) (htp : ∀ t, t < 6 → tp t = if t = bt then 0 else pk t) : ∃ σ', f_X5_mostGain σ (nI L) wb = some (lI (dM G W tp 6 L), σ') ∧ fr (P30 0 606) σ σ' ∧ ∀ t, t ≤ 6 → RT σ' G W tp L t :=
  k_mg2 hp hL hwb htp 6 100000 σ (by omega) (by omega) hG (fun t h1 h2 r hr => by
    have : t = 6 := by omega
    subst this
    exact hz _ (by omega) (by omega))
end PACKER
